set_option maxHeartbeats 4000000 in
set_option maxRecDepth 100000 in
/-- the reference: correct -/
theorem d_correct {l : Launch} (D : zD) (m0 m1 m2 m3 m4 m5 m6 m7 m8 m9 m10 m11 m12 m13 m14 : Nat) (M : zM) (bt ln cl pn : Nat) (th : Int32) (qm : Nat → Int32) (p1 p2 p3 p4 p5 : Int32) (sz : Nat) (hM : M.1 ≤ 200) (hb9 : bt ≤ M.1) : Met l yX6_correct wsX6_correct ({ frames := 2, cells := 0, slots := 0, locals := 47 }) (va_Pc [.ref m0, .int p1, .int p2, .int p3, .int p4, .int p5] (zp D sz [(m0, .inr (6, [.int th, .int (nI M.1), .ref m1, .ref m2, .int (nI bt), .ref m3, .int (nI ln), .ref m4, .ref m5, .int (nI cl), .ref m6, .ref m7, .ref m8, .ref m9, .ref m10, .ref m11, .ref m12, .int (nI pn), .ref m13, .ref m14])), (m1, .inl (D.2 0, 800, .inl M.2.1)), (m2, .inl (D.2 0, 200, .inl M.2.2)), (m3, .inl (D.2 0, 200, .inl qm))])) (va_Qi (fun r (u : Option Int32) => (u = none ∧ ((zin p1 8 ∧ zin p3 8 ∧ zin p4 12) ∧ zin p2 8 ∧ ¬ p1 = p2) ∧ (¬ p4 < nI cl - 1) ∧ (¬ p5 < 1 ∧ p5 ≤ 1000000000) ∧ (nI (M.1 + 2) ≤ 200) ∧ r = nI bt) ∨ (u = some 1 ∧ ¬ ((zin p1 8 ∧ zin p3 8 ∧ zin p4 12) ∧ zin p2 8 ∧ ¬ p1 = p2)) ∨ (u = some 2 ∧ ((zin p1 8 ∧ zin p3 8 ∧ zin p4 12) ∧ zin p2 8 ∧ ¬ p1 = p2) ∧ ¬ (¬ p4 < nI cl - 1)) ∨ (u = some 3 ∧ ((zin p1 8 ∧ zin p3 8 ∧ zin p4 12) ∧ zin p2 8 ∧ ¬ p1 = p2) ∧ (¬ p4 < nI cl - 1) ∧ ¬ (¬ p5 < 1 ∧ p5 ≤ 1000000000)) ∨ (u = some 4 ∧ ((zin p1 8 ∧ zin p3 8 ∧ zin p4 12) ∧ zin p2 8 ∧ ¬ p1 = p2) ∧ (¬ p4 < nI cl - 1) ∧ (¬ p5 < 1 ∧ p5 ≤ 1000000000) ∧ ¬ (nI (M.1 + 2) ≤ 200))) (zq D (va_A [(m0, .inr (6, [.int th, .int (nI M.1), .ref m1, .ref m2, .int (nI bt), .ref m3, .int (nI ln), .ref m4, .ref m5, .int (nI cl), .ref m6, .ref m7, .ref m8, .ref m9, .ref m10, .ref m11, .ref m12, .int (nI pn), .ref m13, .ref m14])), (m1, .inl (D.2 0, 800, .inl M.2.1)), (m2, .inl (D.2 0, 200, .inl M.2.2)), (m3, .inl (D.2 0, 200, .inl qm))] sz) (fun (u : Option Int32) => (u.elim [(m0, .inr (6, [.int 0, .int (nI (zm_enter (zm_enter M (nI bt) p1 p3 p4 (-p5)) (nI bt) p2 p3 p4 p5).1), .ref m1, .ref m2, .int (nI (bt + 1)), .ref m3, .int (nI ln), .ref m4, .ref m5, .int (nI cl), .ref m6, .ref m7, .ref m8, .ref m9, .ref m10, .ref m11, .ref m12, .int (nI pn), .ref m13, .ref m14])), (m1, .inl (D.2 0, 800, .inl ((zm_enter (zm_enter M (nI bt) p1 p3 p4 (-p5)) (nI bt) p2 p3 p4 p5).2.1))), (m2, .inl (D.2 0, 200, .inl ((zm_enter (zm_enter M (nI bt) p1 p3 p4 (-p5)) (nI bt) p2 p3 p4 p5).2.2))), (m3, .inl (D.2 0, 200, .inl (upd qm bt 0)))] (fun t => [(m0, .inr (6, [.int t, .int (nI M.1), .ref m1, .ref m2, .int (nI bt), .ref m3, .int (nI ln), .ref m4, .ref m5, .int (nI cl), .ref m6, .ref m7, .ref m8, .ref m9, .ref m10, .ref m11, .ref m12, .int (nI pn), .ref m13, .ref m14])), (m1, .inl (D.2 0, 800, .inl M.2.1)), (m2, .inl (D.2 0, 200, .inl M.2.2)), (m3, .inl (D.2 0, 200, .inl qm))]) : va_W))) (va_A [(m0, .inr (6, [.int th, .int (nI M.1), .ref m1, .ref m2, .int (nI bt), .ref m3, .int (nI ln), .ref m4, .ref m5, .int (nI cl), .ref m6, .ref m7, .ref m8, .ref m9, .ref m10, .ref m11, .ref m12, .int (nI pn), .ref m13, .ref m14])), (m1, .inl (D.2 0, 800, .inl M.2.1)), (m2, .inl (D.2 0, 200, .inl M.2.2)), (m3, .inl (D.2 0, 200, .inl qm))] sz)) 0 0 (va_A [(m0, .inr (6, [.int th, .int (nI M.1), .ref m1, .ref m2, .int (nI bt), .ref m3, .int (nI ln), .ref m4, .ref m5, .int (nI cl), .ref m6, .ref m7, .ref m8, .ref m9, .ref m10, .ref m11, .ref m12, .int (nI pn), .ref m13, .ref m14])), (m1, .inl (D.2 0, 800, .inl M.2.1)), (m2, .inl (D.2 0, 200, .inl M.2.2)), (m3, .inl (D.2 0, 200, .inl qm))] sz) := by
  refine Met.ofW (cc := cX6_correct) (maxL := 7) (ret := (some .int)) (by decide) rfl ?_
  intro p e s m args below meth c s₁ B hml hv
  obtain ⟨rfl, hsz, hP, hK, hD0, hB⟩ := hv
  have hx := B.exec
  have hb := B.bytes
  have hr := B.returns
  have hts := atoms_spec (ws := wsX6_correct) B.pre
  have hown : s.vm.findClass "ShopLedgerModel" = some m.cls := findClass_of_methodNamed B.named
  have hlocks := B.notSynchronized
  subst hsz
  have hD := hD0.self (sz := s.heap.size)
  generalize hAe : va_A [(m0, .inr (6, [.int th, .int (nI M.1), .ref m1, .ref m2, .int (nI bt), .ref m3, .int (nI ln), .ref m4, .ref m5, .int (nI cl), .ref m6, .ref m7, .ref m8, .ref m9, .ref m10, .ref m11, .ref m12, .int (nI pn), .ref m13, .ref m14])), (m1, .inl (D.2 0, 800, .inl M.2.1)), (m2, .inl (D.2 0, 200, .inl M.2.2)), (m3, .inl (D.2 0, 200, .inl qm))] s.heap.size = A at hD hB ⊢
  have hA : ∀ q : Nat, s.heap.size ≤ q → A q := fun q h => by rw [← hAe]; exact Or.inr h
  have hS : va_S A s.heap s.heap [] := va_S.rf
  have hZ : ∀ w ∈ zALL, w.before _ s = true := fun w h => hts w (List.mem_cons_of_mem _ h)
  have hF : CallFix p m c cX6_correct 7 s _ zALL "ShopLedgerModel" := ⟨hx, hb, hml, hown, hZ⟩
  have hl := lv_entry ([.ref m0, .int p1, .int p2, .int p3, .int p4, .int p5]) (n := 7) (Nat.le_of_ble_eq_true rfl)
  rw [lg_entry_eq]
  generalize (lg_sl ([.ref m0, .int p1, .int p2, .int p3, .int p4, .int p5]) ++ List.replicate (7 - (lg_sl ([.ref m0, .int p1, .int p2, .int p3, .int p4, .int p5])).length) Slot.unset).toArray = ls at hl ⊢
  have hl : lv_has ls 7 [(0, .ref m0), (1, .int p1), (2, .int p2), (3, .int p3), (4, .int p4), (5, .int p5)] := hl
  refine lv_iload_n hx hb dX6_correct_0 rfl (lv_at hl 1 rfl) ?_
  refine lv_iload_n hx hb dX6_correct_1 rfl (lv_at hl 3 rfl) ?_
  refine lv_iload hx hb dX6_correct_2 (lv_at hl 4 rfl) ?_
  have J := zJ.mk (wc := []) (wr := [(m0, .inr (6, [.int th, .int (nI M.1), .ref m1, .ref m2, .int (nI bt), .ref m3, .int (nI ln), .ref m4, .ref m5, .int (nI cl), .ref m6, .ref m7, .ref m8, .ref m9, .ref m10, .ref m11, .ref m12, .int (nI pn), .ref m13, .ref m14])), (m1, .inl (D.2 0, 800, .inl M.2.1)), (m2, .inl (D.2 0, 200, .inl M.2.2)), (m3, .inl (D.2 0, 200, .inl qm))]) hA hB hK hP hD hS [] [0, 1, 2, 3] rfl rfl (by decide)
  refine z_goi (z_runS (As := [.int p1, .int p3, .int p4]) (rest := []) hF (d_there D p1 p3 p4 s.heap.size) (va_cwS 3 hZ (z_gS t_282 t_283 t_272 t_281) rfl rfl rfl (by decide +kernel) ⟨Nat.le_of_ble_eq_true rfl, Nat.le_of_ble_eq_true rfl⟩) J rfl hl.1 (Nat.le_of_ble_eq_true rfl) dX6_correct_4 ⟨Nat.le_of_ble_eq_true rfl, Nat.le_of_ble_eq_true rfl⟩) J (fun r1 _ H locs w1 hP hD hS => ?_)
  have hP : va_P D.1 vwCl [(m0, .inr (6, [.int th, .int (nI M.1), .ref m1, .ref m2, .int (nI bt), .ref m3, .int (nI ln), .ref m4, .ref m5, .int (nI cl), .ref m6, .ref m7, .ref m8, .ref m9, .ref m10, .ref m11, .ref m12, .int (nI pn), .ref m13, .ref m14])), (m1, .inl (D.2 0, 800, .inl M.2.1)), (m2, .inl (D.2 0, 200, .inl M.2.2)), (m3, .inl (D.2 0, 200, .inl qm))] H := hP
  have hD : va_D A [(m0, .inr (6, [.int th, .int (nI M.1), .ref m1, .ref m2, .int (nI bt), .ref m3, .int (nI ln), .ref m4, .ref m5, .int (nI cl), .ref m6, .ref m7, .ref m8, .ref m9, .ref m10, .ref m11, .ref m12, .int (nI pn), .ref m13, .ref m14])), (m1, .inl (D.2 0, 800, .inl M.2.1)), (m2, .inl (D.2 0, 200, .inl M.2.2)), (m3, .inl (D.2 0, 200, .inl qm))] := hD
  refine lv_if_eq (tgt := 27) hx hb dX6_correct_7 (by decide) (fun c1 => ?_) (fun c1 => ?_)
  · skip
    have g1 := z_b0 w1 c1
    have ix : ¬ ((zin p1 8 ∧ zin p3 8 ∧ zin p4 12) ∧ zin p2 8 ∧ ¬ p1 = p2) := fun h => g1 h.1
    refine lv_iconst (v := 1) hx hb dX6_correct_27 (by decide) ?_
    refine lv_goto (tgt := 32) hx hb dX6_correct_28 (by decide) ?_
    refine lv_istore (lv' := [(6, .int 1), (0, .ref m0), (1, .int p1), (2, .int p2), (3, .int p3), (4, .int p4), (5, .int p5)]) hx hb dX6_correct_32 hl (by decide) rfl (fun ls hl => ?_)
    refine lv_aload_n hx hb dX6_correct_34 rfl (lv_at hl 1 rfl) ?_
    refine lv_iload hx hb dX6_correct_35 (lv_at hl 0 rfl) ?_
    refine lv_iload hx hb dX6_correct_37 (lv_at hl 5 rfl) ?_
    refine lv_aload_n hx hb dX6_correct_39 rfl (lv_at hl 1 rfl) ?_
    refine va_get (D := D.1) (ci := 6) (v := .int (nI cl)) (C := "ShopLedgerModel") (T := TX6) (N := 20) hx hb hZ inX6 hown hK hP 0 rfl rfl 9 (by decide) (hZ _ t_293) (fun _ h9 => h9) rfl dX6_correct_40 ?_
    refine lv_iconst (v := 1) hx hb dX6_correct_43 (by decide) ?_
    refine lv_isub hx hb dX6_correct_44 ?_
    refine lv_icmp_ge (tgt := 52) hx hb dX6_correct_45 (by decide) (fun c4 => ?_) (fun c4 => ?_)
    · skip
      have tu : ¬ p4 < nI cl - 1 := Int32.not_lt.mpr c4
      refine lv_iconst (v := 0) hx hb dX6_correct_52 (by decide) ?_
      refine lv_iload hx hb dX6_correct_53 (lv_at hl 6 rfl) ?_
      refine lv_i2l (v := p5.toInt64) hx hb dX6_correct_55 rfl ?_
      refine lv_lconst (v := 1) hx hb dX6_correct_56 (by decide) ?_
      refine lv_ldc2 (v := 1000000000) hx hb hown (hZ _ t_290) dX6_correct_57 ?_
      have J := zJ.mk (wc := []) (wr := [(m0, .inr (6, [.int th, .int (nI M.1), .ref m1, .ref m2, .int (nI bt), .ref m3, .int (nI ln), .ref m4, .ref m5, .int (nI cl), .ref m6, .ref m7, .ref m8, .ref m9, .ref m10, .ref m11, .ref m12, .int (nI pn), .ref m13, .ref m14])), (m1, .inl (D.2 0, 800, .inl M.2.1)), (m2, .inl (D.2 0, 200, .inl M.2.2)), (m3, .inl (D.2 0, 200, .inl qm))]) hA hB hK hP hD hS [] [0, 1, 2, 3] rfl rfl (by decide)
      refine z_goi (z_runS (As := [.long p5.toInt64, .long 1, .long 1000000000]) (rest := [.int 0, .int 1, .ref m0]) hF (d_lies D p5.toInt64 1 1000000000 H.size) (va_cwS 3 hZ (z_gS t_273 t_274 t_272 t_271) rfl rfl rfl (by decide +kernel) ⟨Nat.le_of_ble_eq_true rfl, Nat.le_of_ble_eq_true rfl⟩) J rfl hl.1 (Nat.le_of_ble_eq_true rfl) dX6_correct_60 ⟨Nat.le_of_ble_eq_true rfl, Nat.le_of_ble_eq_true rfl⟩) J (fun r3 _ H locs w3 hP hD hS => ?_)
      have hP : va_P D.1 vwCl [(m0, .inr (6, [.int th, .int (nI M.1), .ref m1, .ref m2, .int (nI bt), .ref m3, .int (nI ln), .ref m4, .ref m5, .int (nI cl), .ref m6, .ref m7, .ref m8, .ref m9, .ref m10, .ref m11, .ref m12, .int (nI pn), .ref m13, .ref m14])), (m1, .inl (D.2 0, 800, .inl M.2.1)), (m2, .inl (D.2 0, 200, .inl M.2.2)), (m3, .inl (D.2 0, 200, .inl qm))] H := hP
      have hD : va_D A [(m0, .inr (6, [.int th, .int (nI M.1), .ref m1, .ref m2, .int (nI bt), .ref m3, .int (nI ln), .ref m4, .ref m5, .int (nI cl), .ref m6, .ref m7, .ref m8, .ref m9, .ref m10, .ref m11, .ref m12, .int (nI pn), .ref m13, .ref m14])), (m1, .inl (D.2 0, 800, .inl M.2.1)), (m2, .inl (D.2 0, 200, .inl M.2.2)), (m3, .inl (D.2 0, 200, .inl qm))] := hD
      have f3 : (r3 = 1 ∧ ¬ p5 < 1 ∧ p5 ≤ 1000000000) ∨ (r3 = 0 ∧ ¬ (¬ p5 < 1 ∧ p5 ≤ 1000000000)) := z_li (a := 1) (b := 1000000000) (by decide) (by decide) w3
      refine lv_if_ne (tgt := 70) hx hb dX6_correct_63 (by decide) (fun c5 => ?_) (fun c5 => ?_)
      · skip
        have rg := z_b1 f3 c5
        refine lv_iconst (v := 0) hx hb dX6_correct_70 (by decide) ?_
        refine lv_aload_n hx hb dX6_correct_71 rfl (lv_at hl 1 rfl) ?_
        refine va_get (D := D.1) (ci := 6) (v := .int (nI M.1)) (C := "ShopLedgerModel") (T := TX6) (N := 20) hx hb hZ inX6 hown hK hP 0 rfl rfl 1 (by decide) (hZ _ t_277) (fun _ h9 => h9) rfl dX6_correct_72 ?_
        refine lv_iconst (v := 2) hx hb dX6_correct_75 (by decide) ?_
        refine lv_iadd hx hb dX6_correct_76 ?_
        rw [show ((nI M.1) + 2) = nI (M.1 + 2) from nI_add M.1 2]
        refine lv_sipush (v := 200) hx hb dX6_correct_77 (by decide) ?_
        refine lv_icmp_le (tgt := 87) hx hb dX6_correct_80 (by decide) (fun c6 => ?_) (fun c6 => ?_)
        · skip
          have me : nI (M.1 + 2) ≤ 200 := c6
          refine lv_iconst (v := 0) hx hb dX6_correct_87 (by decide) ?_
          have J := zJ.mk (wc := [(m0, .inr (6, [.int th, .int (nI M.1), .ref m1, .ref m2, .int (nI bt), .ref m3, .int (nI ln), .ref m4, .ref m5, .int (nI cl), .ref m6, .ref m7, .ref m8, .ref m9, .ref m10, .ref m11, .ref m12, .int (nI pn), .ref m13, .ref m14]))]) (wr := [(m1, .inl (D.2 0, 800, .inl M.2.1)), (m2, .inl (D.2 0, 200, .inl M.2.2)), (m3, .inl (D.2 0, 200, .inl qm))]) hA hB hK hP hD hS [0] [1, 2, 3] rfl rfl (by decide)
          refine z_goi (z_runV (As := [.int 1, .int 0, .int 0, .int 0]) (rest := []) (b := m0) hF (d_throwing D m0 m1 m2 m3 m4 m5 m6 m7 m8 m9 m10 m11 m12 m13 m14 (M.1, fun _ => 0, fun _ => 0) bt ln cl pn th 1 0 0 0 H.size) (cwV 4 hZ (z_gV t_286 t_287 t_288 t_272 t_285) rfl rfl rfl (by decide +kernel) ⟨Nat.le_of_ble_eq_true rfl, Nat.le_of_ble_eq_true rfl⟩) J 0 6 rfl rfl rfl rfl hl.1 (Nat.le_of_ble_eq_true rfl) dX6_correct_88 ⟨Nat.le_of_ble_eq_true rfl, Nat.le_of_ble_eq_true rfl⟩) J (fun r4 _ H locs w4 hP hD hS => ?_)
          have hP : va_P D.1 vwCl [(m1, .inl (D.2 0, 800, .inl M.2.1)), (m2, .inl (D.2 0, 200, .inl M.2.2)), (m3, .inl (D.2 0, 200, .inl qm)), (m0, .inr (6, [.int 1, .int (nI M.1), .ref m1, .ref m2, .int (nI bt), .ref m3, .int (nI ln), .ref m4, .ref m5, .int (nI cl), .ref m6, .ref m7, .ref m8, .ref m9, .ref m10, .ref m11, .ref m12, .int (nI pn), .ref m13, .ref m14]))] H := hP
          have hD : va_D A [(m1, .inl (D.2 0, 800, .inl M.2.1)), (m2, .inl (D.2 0, 200, .inl M.2.2)), (m3, .inl (D.2 0, 200, .inl qm)), (m0, .inr (6, [.int 1, .int (nI M.1), .ref m1, .ref m2, .int (nI bt), .ref m3, .int (nI ln), .ref m4, .ref m5, .int (nI cl), .ref m6, .ref m7, .ref m8, .ref m9, .ref m10, .ref m11, .ref m12, .int (nI pn), .ref m13, .ref m14]))] := hD
          have w4 : r4 = 1 := w4
          subst w4
          refine lv_if_eq (tgt := 96) hx hb dX6_correct_91 (by decide) (fun c7 => ?_) (fun c7 => ?_)
          · skip
            exfalso; exact absurd c7 (by decide)
          refine lv_iconst (v := 0) hx hb dX6_correct_94 (by decide) ?_
          exact z_iret (v := 0) hx hb hr hlocks hP hD hS (some 1) (Or.inr (Or.inl ⟨rfl, ix⟩)) [3, 0, 1, 2] rfl (by decide) (Nat.le_of_ble_eq_true rfl) (Nat.le_of_ble_eq_true rfl) dX6_correct_95
        have me : ¬ (nI (M.1 + 2) ≤ 200) := c6
        refine lv_iconst (v := 1) hx hb dX6_correct_83 (by decide) ?_
        refine lv_goto (tgt := 88) hx hb dX6_correct_84 (by decide) ?_
        have J := zJ.mk (wc := [(m0, .inr (6, [.int th, .int (nI M.1), .ref m1, .ref m2, .int (nI bt), .ref m3, .int (nI ln), .ref m4, .ref m5, .int (nI cl), .ref m6, .ref m7, .ref m8, .ref m9, .ref m10, .ref m11, .ref m12, .int (nI pn), .ref m13, .ref m14]))]) (wr := [(m1, .inl (D.2 0, 800, .inl M.2.1)), (m2, .inl (D.2 0, 200, .inl M.2.2)), (m3, .inl (D.2 0, 200, .inl qm))]) hA hB hK hP hD hS [0] [1, 2, 3] rfl rfl (by decide)
        refine z_goi (z_runV (As := [.int 1, .int 0, .int 0, .int 1]) (rest := []) (b := m0) hF (d_throwing D m0 m1 m2 m3 m4 m5 m6 m7 m8 m9 m10 m11 m12 m13 m14 (M.1, fun _ => 0, fun _ => 0) bt ln cl pn th 1 0 0 1 H.size) (cwV 4 hZ (z_gV t_286 t_287 t_288 t_272 t_285) rfl rfl rfl (by decide +kernel) ⟨Nat.le_of_ble_eq_true rfl, Nat.le_of_ble_eq_true rfl⟩) J 0 6 rfl rfl rfl rfl hl.1 (Nat.le_of_ble_eq_true rfl) dX6_correct_88 ⟨Nat.le_of_ble_eq_true rfl, Nat.le_of_ble_eq_true rfl⟩) J (fun r4 _ H locs w4 hP hD hS => ?_)
        have hP : va_P D.1 vwCl [(m1, .inl (D.2 0, 800, .inl M.2.1)), (m2, .inl (D.2 0, 200, .inl M.2.2)), (m3, .inl (D.2 0, 200, .inl qm)), (m0, .inr (6, [.int 1, .int (nI M.1), .ref m1, .ref m2, .int (nI bt), .ref m3, .int (nI ln), .ref m4, .ref m5, .int (nI cl), .ref m6, .ref m7, .ref m8, .ref m9, .ref m10, .ref m11, .ref m12, .int (nI pn), .ref m13, .ref m14]))] H := hP
        have hD : va_D A [(m1, .inl (D.2 0, 800, .inl M.2.1)), (m2, .inl (D.2 0, 200, .inl M.2.2)), (m3, .inl (D.2 0, 200, .inl qm)), (m0, .inr (6, [.int 1, .int (nI M.1), .ref m1, .ref m2, .int (nI bt), .ref m3, .int (nI ln), .ref m4, .ref m5, .int (nI cl), .ref m6, .ref m7, .ref m8, .ref m9, .ref m10, .ref m11, .ref m12, .int (nI pn), .ref m13, .ref m14]))] := hD
        have w4 : r4 = 1 := w4
        subst w4
        refine lv_if_eq (tgt := 96) hx hb dX6_correct_91 (by decide) (fun c7 => ?_) (fun c7 => ?_)
        · skip
          exfalso; exact absurd c7 (by decide)
        refine lv_iconst (v := 0) hx hb dX6_correct_94 (by decide) ?_
        exact z_iret (v := 0) hx hb hr hlocks hP hD hS (some 1) (Or.inr (Or.inl ⟨rfl, ix⟩)) [3, 0, 1, 2] rfl (by decide) (Nat.le_of_ble_eq_true rfl) (Nat.le_of_ble_eq_true rfl) dX6_correct_95
      have rg := z_b0 f3 c5
      refine lv_iconst (v := 1) hx hb dX6_correct_66 (by decide) ?_
      refine lv_goto (tgt := 71) hx hb dX6_correct_67 (by decide) ?_
      refine lv_aload_n hx hb dX6_correct_71 rfl (lv_at hl 1 rfl) ?_
      refine va_get (D := D.1) (ci := 6) (v := .int (nI M.1)) (C := "ShopLedgerModel") (T := TX6) (N := 20) hx hb hZ inX6 hown hK hP 0 rfl rfl 1 (by decide) (hZ _ t_277) (fun _ h9 => h9) rfl dX6_correct_72 ?_
      refine lv_iconst (v := 2) hx hb dX6_correct_75 (by decide) ?_
      refine lv_iadd hx hb dX6_correct_76 ?_
      rw [show ((nI M.1) + 2) = nI (M.1 + 2) from nI_add M.1 2]
      refine lv_sipush (v := 200) hx hb dX6_correct_77 (by decide) ?_
      refine lv_icmp_le (tgt := 87) hx hb dX6_correct_80 (by decide) (fun c6 => ?_) (fun c6 => ?_)
      · skip
        have me : nI (M.1 + 2) ≤ 200 := c6
        refine lv_iconst (v := 0) hx hb dX6_correct_87 (by decide) ?_
        have J := zJ.mk (wc := [(m0, .inr (6, [.int th, .int (nI M.1), .ref m1, .ref m2, .int (nI bt), .ref m3, .int (nI ln), .ref m4, .ref m5, .int (nI cl), .ref m6, .ref m7, .ref m8, .ref m9, .ref m10, .ref m11, .ref m12, .int (nI pn), .ref m13, .ref m14]))]) (wr := [(m1, .inl (D.2 0, 800, .inl M.2.1)), (m2, .inl (D.2 0, 200, .inl M.2.2)), (m3, .inl (D.2 0, 200, .inl qm))]) hA hB hK hP hD hS [0] [1, 2, 3] rfl rfl (by decide)
        refine z_goi (z_runV (As := [.int 1, .int 0, .int 1, .int 0]) (rest := []) (b := m0) hF (d_throwing D m0 m1 m2 m3 m4 m5 m6 m7 m8 m9 m10 m11 m12 m13 m14 (M.1, fun _ => 0, fun _ => 0) bt ln cl pn th 1 0 1 0 H.size) (cwV 4 hZ (z_gV t_286 t_287 t_288 t_272 t_285) rfl rfl rfl (by decide +kernel) ⟨Nat.le_of_ble_eq_true rfl, Nat.le_of_ble_eq_true rfl⟩) J 0 6 rfl rfl rfl rfl hl.1 (Nat.le_of_ble_eq_true rfl) dX6_correct_88 ⟨Nat.le_of_ble_eq_true rfl, Nat.le_of_ble_eq_true rfl⟩) J (fun r4 _ H locs w4 hP hD hS => ?_)
        have hP : va_P D.1 vwCl [(m1, .inl (D.2 0, 800, .inl M.2.1)), (m2, .inl (D.2 0, 200, .inl M.2.2)), (m3, .inl (D.2 0, 200, .inl qm)), (m0, .inr (6, [.int 1, .int (nI M.1), .ref m1, .ref m2, .int (nI bt), .ref m3, .int (nI ln), .ref m4, .ref m5, .int (nI cl), .ref m6, .ref m7, .ref m8, .ref m9, .ref m10, .ref m11, .ref m12, .int (nI pn), .ref m13, .ref m14]))] H := hP
        have hD : va_D A [(m1, .inl (D.2 0, 800, .inl M.2.1)), (m2, .inl (D.2 0, 200, .inl M.2.2)), (m3, .inl (D.2 0, 200, .inl qm)), (m0, .inr (6, [.int 1, .int (nI M.1), .ref m1, .ref m2, .int (nI bt), .ref m3, .int (nI ln), .ref m4, .ref m5, .int (nI cl), .ref m6, .ref m7, .ref m8, .ref m9, .ref m10, .ref m11, .ref m12, .int (nI pn), .ref m13, .ref m14]))] := hD
        have w4 : r4 = 1 := w4
        subst w4
        refine lv_if_eq (tgt := 96) hx hb dX6_correct_91 (by decide) (fun c7 => ?_) (fun c7 => ?_)
        · skip
          exfalso; exact absurd c7 (by decide)
        refine lv_iconst (v := 0) hx hb dX6_correct_94 (by decide) ?_
        exact z_iret (v := 0) hx hb hr hlocks hP hD hS (some 1) (Or.inr (Or.inl ⟨rfl, ix⟩)) [3, 0, 1, 2] rfl (by decide) (Nat.le_of_ble_eq_true rfl) (Nat.le_of_ble_eq_true rfl) dX6_correct_95
      have me : ¬ (nI (M.1 + 2) ≤ 200) := c6
      refine lv_iconst (v := 1) hx hb dX6_correct_83 (by decide) ?_
      refine lv_goto (tgt := 88) hx hb dX6_correct_84 (by decide) ?_
      have J := zJ.mk (wc := [(m0, .inr (6, [.int th, .int (nI M.1), .ref m1, .ref m2, .int (nI bt), .ref m3, .int (nI ln), .ref m4, .ref m5, .int (nI cl), .ref m6, .ref m7, .ref m8, .ref m9, .ref m10, .ref m11, .ref m12, .int (nI pn), .ref m13, .ref m14]))]) (wr := [(m1, .inl (D.2 0, 800, .inl M.2.1)), (m2, .inl (D.2 0, 200, .inl M.2.2)), (m3, .inl (D.2 0, 200, .inl qm))]) hA hB hK hP hD hS [0] [1, 2, 3] rfl rfl (by decide)
      refine z_goi (z_runV (As := [.int 1, .int 0, .int 1, .int 1]) (rest := []) (b := m0) hF (d_throwing D m0 m1 m2 m3 m4 m5 m6 m7 m8 m9 m10 m11 m12 m13 m14 (M.1, fun _ => 0, fun _ => 0) bt ln cl pn th 1 0 1 1 H.size) (cwV 4 hZ (z_gV t_286 t_287 t_288 t_272 t_285) rfl rfl rfl (by decide +kernel) ⟨Nat.le_of_ble_eq_true rfl, Nat.le_of_ble_eq_true rfl⟩) J 0 6 rfl rfl rfl rfl hl.1 (Nat.le_of_ble_eq_true rfl) dX6_correct_88 ⟨Nat.le_of_ble_eq_true rfl, Nat.le_of_ble_eq_true rfl⟩) J (fun r4 _ H locs w4 hP hD hS => ?_)
      have hP : va_P D.1 vwCl [(m1, .inl (D.2 0, 800, .inl M.2.1)), (m2, .inl (D.2 0, 200, .inl M.2.2)), (m3, .inl (D.2 0, 200, .inl qm)), (m0, .inr (6, [.int 1, .int (nI M.1), .ref m1, .ref m2, .int (nI bt), .ref m3, .int (nI ln), .ref m4, .ref m5, .int (nI cl), .ref m6, .ref m7, .ref m8, .ref m9, .ref m10, .ref m11, .ref m12, .int (nI pn), .ref m13, .ref m14]))] H := hP
      have hD : va_D A [(m1, .inl (D.2 0, 800, .inl M.2.1)), (m2, .inl (D.2 0, 200, .inl M.2.2)), (m3, .inl (D.2 0, 200, .inl qm)), (m0, .inr (6, [.int 1, .int (nI M.1), .ref m1, .ref m2, .int (nI bt), .ref m3, .int (nI ln), .ref m4, .ref m5, .int (nI cl), .ref m6, .ref m7, .ref m8, .ref m9, .ref m10, .ref m11, .ref m12, .int (nI pn), .ref m13, .ref m14]))] := hD
      have w4 : r4 = 1 := w4
      subst w4
      refine lv_if_eq (tgt := 96) hx hb dX6_correct_91 (by decide) (fun c7 => ?_) (fun c7 => ?_)
      · skip
        exfalso; exact absurd c7 (by decide)
      refine lv_iconst (v := 0) hx hb dX6_correct_94 (by decide) ?_
      exact z_iret (v := 0) hx hb hr hlocks hP hD hS (some 1) (Or.inr (Or.inl ⟨rfl, ix⟩)) [3, 0, 1, 2] rfl (by decide) (Nat.le_of_ble_eq_true rfl) (Nat.le_of_ble_eq_true rfl) dX6_correct_95
    have tu : ¬ (¬ p4 < nI cl - 1) := fun h => h (Int32.not_le.mp c4)
    refine lv_iconst (v := 1) hx hb dX6_correct_48 (by decide) ?_
    refine lv_goto (tgt := 53) hx hb dX6_correct_49 (by decide) ?_
    refine lv_iload hx hb dX6_correct_53 (lv_at hl 6 rfl) ?_
    refine lv_i2l (v := p5.toInt64) hx hb dX6_correct_55 rfl ?_
    refine lv_lconst (v := 1) hx hb dX6_correct_56 (by decide) ?_
    refine lv_ldc2 (v := 1000000000) hx hb hown (hZ _ t_290) dX6_correct_57 ?_
    have J := zJ.mk (wc := []) (wr := [(m0, .inr (6, [.int th, .int (nI M.1), .ref m1, .ref m2, .int (nI bt), .ref m3, .int (nI ln), .ref m4, .ref m5, .int (nI cl), .ref m6, .ref m7, .ref m8, .ref m9, .ref m10, .ref m11, .ref m12, .int (nI pn), .ref m13, .ref m14])), (m1, .inl (D.2 0, 800, .inl M.2.1)), (m2, .inl (D.2 0, 200, .inl M.2.2)), (m3, .inl (D.2 0, 200, .inl qm))]) hA hB hK hP hD hS [] [0, 1, 2, 3] rfl rfl (by decide)
    refine z_goi (z_runS (As := [.long p5.toInt64, .long 1, .long 1000000000]) (rest := [.int 1, .int 1, .ref m0]) hF (d_lies D p5.toInt64 1 1000000000 H.size) (va_cwS 3 hZ (z_gS t_273 t_274 t_272 t_271) rfl rfl rfl (by decide +kernel) ⟨Nat.le_of_ble_eq_true rfl, Nat.le_of_ble_eq_true rfl⟩) J rfl hl.1 (Nat.le_of_ble_eq_true rfl) dX6_correct_60 ⟨Nat.le_of_ble_eq_true rfl, Nat.le_of_ble_eq_true rfl⟩) J (fun r3 _ H locs w3 hP hD hS => ?_)
    have hP : va_P D.1 vwCl [(m0, .inr (6, [.int th, .int (nI M.1), .ref m1, .ref m2, .int (nI bt), .ref m3, .int (nI ln), .ref m4, .ref m5, .int (nI cl), .ref m6, .ref m7, .ref m8, .ref m9, .ref m10, .ref m11, .ref m12, .int (nI pn), .ref m13, .ref m14])), (m1, .inl (D.2 0, 800, .inl M.2.1)), (m2, .inl (D.2 0, 200, .inl M.2.2)), (m3, .inl (D.2 0, 200, .inl qm))] H := hP
    have hD : va_D A [(m0, .inr (6, [.int th, .int (nI M.1), .ref m1, .ref m2, .int (nI bt), .ref m3, .int (nI ln), .ref m4, .ref m5, .int (nI cl), .ref m6, .ref m7, .ref m8, .ref m9, .ref m10, .ref m11, .ref m12, .int (nI pn), .ref m13, .ref m14])), (m1, .inl (D.2 0, 800, .inl M.2.1)), (m2, .inl (D.2 0, 200, .inl M.2.2)), (m3, .inl (D.2 0, 200, .inl qm))] := hD
    have f3 : (r3 = 1 ∧ ¬ p5 < 1 ∧ p5 ≤ 1000000000) ∨ (r3 = 0 ∧ ¬ (¬ p5 < 1 ∧ p5 ≤ 1000000000)) := z_li (a := 1) (b := 1000000000) (by decide) (by decide) w3
    refine lv_if_ne (tgt := 70) hx hb dX6_correct_63 (by decide) (fun c5 => ?_) (fun c5 => ?_)
    · skip
      have rg := z_b1 f3 c5
      refine lv_iconst (v := 0) hx hb dX6_correct_70 (by decide) ?_
      refine lv_aload_n hx hb dX6_correct_71 rfl (lv_at hl 1 rfl) ?_
      refine va_get (D := D.1) (ci := 6) (v := .int (nI M.1)) (C := "ShopLedgerModel") (T := TX6) (N := 20) hx hb hZ inX6 hown hK hP 0 rfl rfl 1 (by decide) (hZ _ t_277) (fun _ h9 => h9) rfl dX6_correct_72 ?_
      refine lv_iconst (v := 2) hx hb dX6_correct_75 (by decide) ?_
      refine lv_iadd hx hb dX6_correct_76 ?_
      rw [show ((nI M.1) + 2) = nI (M.1 + 2) from nI_add M.1 2]
      refine lv_sipush (v := 200) hx hb dX6_correct_77 (by decide) ?_
      refine lv_icmp_le (tgt := 87) hx hb dX6_correct_80 (by decide) (fun c6 => ?_) (fun c6 => ?_)
      · skip
        have me : nI (M.1 + 2) ≤ 200 := c6
        refine lv_iconst (v := 0) hx hb dX6_correct_87 (by decide) ?_
        have J := zJ.mk (wc := [(m0, .inr (6, [.int th, .int (nI M.1), .ref m1, .ref m2, .int (nI bt), .ref m3, .int (nI ln), .ref m4, .ref m5, .int (nI cl), .ref m6, .ref m7, .ref m8, .ref m9, .ref m10, .ref m11, .ref m12, .int (nI pn), .ref m13, .ref m14]))]) (wr := [(m1, .inl (D.2 0, 800, .inl M.2.1)), (m2, .inl (D.2 0, 200, .inl M.2.2)), (m3, .inl (D.2 0, 200, .inl qm))]) hA hB hK hP hD hS [0] [1, 2, 3] rfl rfl (by decide)
        refine z_goi (z_runV (As := [.int 1, .int 1, .int 0, .int 0]) (rest := []) (b := m0) hF (d_throwing D m0 m1 m2 m3 m4 m5 m6 m7 m8 m9 m10 m11 m12 m13 m14 (M.1, fun _ => 0, fun _ => 0) bt ln cl pn th 1 1 0 0 H.size) (cwV 4 hZ (z_gV t_286 t_287 t_288 t_272 t_285) rfl rfl rfl (by decide +kernel) ⟨Nat.le_of_ble_eq_true rfl, Nat.le_of_ble_eq_true rfl⟩) J 0 6 rfl rfl rfl rfl hl.1 (Nat.le_of_ble_eq_true rfl) dX6_correct_88 ⟨Nat.le_of_ble_eq_true rfl, Nat.le_of_ble_eq_true rfl⟩) J (fun r4 _ H locs w4 hP hD hS => ?_)
        have hP : va_P D.1 vwCl [(m1, .inl (D.2 0, 800, .inl M.2.1)), (m2, .inl (D.2 0, 200, .inl M.2.2)), (m3, .inl (D.2 0, 200, .inl qm)), (m0, .inr (6, [.int 1, .int (nI M.1), .ref m1, .ref m2, .int (nI bt), .ref m3, .int (nI ln), .ref m4, .ref m5, .int (nI cl), .ref m6, .ref m7, .ref m8, .ref m9, .ref m10, .ref m11, .ref m12, .int (nI pn), .ref m13, .ref m14]))] H := hP
        have hD : va_D A [(m1, .inl (D.2 0, 800, .inl M.2.1)), (m2, .inl (D.2 0, 200, .inl M.2.2)), (m3, .inl (D.2 0, 200, .inl qm)), (m0, .inr (6, [.int 1, .int (nI M.1), .ref m1, .ref m2, .int (nI bt), .ref m3, .int (nI ln), .ref m4, .ref m5, .int (nI cl), .ref m6, .ref m7, .ref m8, .ref m9, .ref m10, .ref m11, .ref m12, .int (nI pn), .ref m13, .ref m14]))] := hD
        have w4 : r4 = 1 := w4
        subst w4
        refine lv_if_eq (tgt := 96) hx hb dX6_correct_91 (by decide) (fun c7 => ?_) (fun c7 => ?_)
        · skip
          exfalso; exact absurd c7 (by decide)
        refine lv_iconst (v := 0) hx hb dX6_correct_94 (by decide) ?_
        exact z_iret (v := 0) hx hb hr hlocks hP hD hS (some 1) (Or.inr (Or.inl ⟨rfl, ix⟩)) [3, 0, 1, 2] rfl (by decide) (Nat.le_of_ble_eq_true rfl) (Nat.le_of_ble_eq_true rfl) dX6_correct_95
      have me : ¬ (nI (M.1 + 2) ≤ 200) := c6
      refine lv_iconst (v := 1) hx hb dX6_correct_83 (by decide) ?_
      refine lv_goto (tgt := 88) hx hb dX6_correct_84 (by decide) ?_
      have J := zJ.mk (wc := [(m0, .inr (6, [.int th, .int (nI M.1), .ref m1, .ref m2, .int (nI bt), .ref m3, .int (nI ln), .ref m4, .ref m5, .int (nI cl), .ref m6, .ref m7, .ref m8, .ref m9, .ref m10, .ref m11, .ref m12, .int (nI pn), .ref m13, .ref m14]))]) (wr := [(m1, .inl (D.2 0, 800, .inl M.2.1)), (m2, .inl (D.2 0, 200, .inl M.2.2)), (m3, .inl (D.2 0, 200, .inl qm))]) hA hB hK hP hD hS [0] [1, 2, 3] rfl rfl (by decide)
      refine z_goi (z_runV (As := [.int 1, .int 1, .int 0, .int 1]) (rest := []) (b := m0) hF (d_throwing D m0 m1 m2 m3 m4 m5 m6 m7 m8 m9 m10 m11 m12 m13 m14 (M.1, fun _ => 0, fun _ => 0) bt ln cl pn th 1 1 0 1 H.size) (cwV 4 hZ (z_gV t_286 t_287 t_288 t_272 t_285) rfl rfl rfl (by decide +kernel) ⟨Nat.le_of_ble_eq_true rfl, Nat.le_of_ble_eq_true rfl⟩) J 0 6 rfl rfl rfl rfl hl.1 (Nat.le_of_ble_eq_true rfl) dX6_correct_88 ⟨Nat.le_of_ble_eq_true rfl, Nat.le_of_ble_eq_true rfl⟩) J (fun r4 _ H locs w4 hP hD hS => ?_)
      have hP : va_P D.1 vwCl [(m1, .inl (D.2 0, 800, .inl M.2.1)), (m2, .inl (D.2 0, 200, .inl M.2.2)), (m3, .inl (D.2 0, 200, .inl qm)), (m0, .inr (6, [.int 1, .int (nI M.1), .ref m1, .ref m2, .int (nI bt), .ref m3, .int (nI ln), .ref m4, .ref m5, .int (nI cl), .ref m6, .ref m7, .ref m8, .ref m9, .ref m10, .ref m11, .ref m12, .int (nI pn), .ref m13, .ref m14]))] H := hP
      have hD : va_D A [(m1, .inl (D.2 0, 800, .inl M.2.1)), (m2, .inl (D.2 0, 200, .inl M.2.2)), (m3, .inl (D.2 0, 200, .inl qm)), (m0, .inr (6, [.int 1, .int (nI M.1), .ref m1, .ref m2, .int (nI bt), .ref m3, .int (nI ln), .ref m4, .ref m5, .int (nI cl), .ref m6, .ref m7, .ref m8, .ref m9, .ref m10, .ref m11, .ref m12, .int (nI pn), .ref m13, .ref m14]))] := hD
      have w4 : r4 = 1 := w4
      subst w4
      refine lv_if_eq (tgt := 96) hx hb dX6_correct_91 (by decide) (fun c7 => ?_) (fun c7 => ?_)
      · skip
        exfalso; exact absurd c7 (by decide)
      refine lv_iconst (v := 0) hx hb dX6_correct_94 (by decide) ?_
      exact z_iret (v := 0) hx hb hr hlocks hP hD hS (some 1) (Or.inr (Or.inl ⟨rfl, ix⟩)) [3, 0, 1, 2] rfl (by decide) (Nat.le_of_ble_eq_true rfl) (Nat.le_of_ble_eq_true rfl) dX6_correct_95
    have rg := z_b0 f3 c5
    refine lv_iconst (v := 1) hx hb dX6_correct_66 (by decide) ?_
    refine lv_goto (tgt := 71) hx hb dX6_correct_67 (by decide) ?_
    refine lv_aload_n hx hb dX6_correct_71 rfl (lv_at hl 1 rfl) ?_
    refine va_get (D := D.1) (ci := 6) (v := .int (nI M.1)) (C := "ShopLedgerModel") (T := TX6) (N := 20) hx hb hZ inX6 hown hK hP 0 rfl rfl 1 (by decide) (hZ _ t_277) (fun _ h9 => h9) rfl dX6_correct_72 ?_
    refine lv_iconst (v := 2) hx hb dX6_correct_75 (by decide) ?_
    refine lv_iadd hx hb dX6_correct_76 ?_
    rw [show ((nI M.1) + 2) = nI (M.1 + 2) from nI_add M.1 2]
    refine lv_sipush (v := 200) hx hb dX6_correct_77 (by decide) ?_
    refine lv_icmp_le (tgt := 87) hx hb dX6_correct_80 (by decide) (fun c6 => ?_) (fun c6 => ?_)
    · skip
      have me : nI (M.1 + 2) ≤ 200 := c6
      refine lv_iconst (v := 0) hx hb dX6_correct_87 (by decide) ?_
      have J := zJ.mk (wc := [(m0, .inr (6, [.int th, .int (nI M.1), .ref m1, .ref m2, .int (nI bt), .ref m3, .int (nI ln), .ref m4, .ref m5, .int (nI cl), .ref m6, .ref m7, .ref m8, .ref m9, .ref m10, .ref m11, .ref m12, .int (nI pn), .ref m13, .ref m14]))]) (wr := [(m1, .inl (D.2 0, 800, .inl M.2.1)), (m2, .inl (D.2 0, 200, .inl M.2.2)), (m3, .inl (D.2 0, 200, .inl qm))]) hA hB hK hP hD hS [0] [1, 2, 3] rfl rfl (by decide)
      refine z_goi (z_runV (As := [.int 1, .int 1, .int 1, .int 0]) (rest := []) (b := m0) hF (d_throwing D m0 m1 m2 m3 m4 m5 m6 m7 m8 m9 m10 m11 m12 m13 m14 (M.1, fun _ => 0, fun _ => 0) bt ln cl pn th 1 1 1 0 H.size) (cwV 4 hZ (z_gV t_286 t_287 t_288 t_272 t_285) rfl rfl rfl (by decide +kernel) ⟨Nat.le_of_ble_eq_true rfl, Nat.le_of_ble_eq_true rfl⟩) J 0 6 rfl rfl rfl rfl hl.1 (Nat.le_of_ble_eq_true rfl) dX6_correct_88 ⟨Nat.le_of_ble_eq_true rfl, Nat.le_of_ble_eq_true rfl⟩) J (fun r4 _ H locs w4 hP hD hS => ?_)
      have hP : va_P D.1 vwCl [(m1, .inl (D.2 0, 800, .inl M.2.1)), (m2, .inl (D.2 0, 200, .inl M.2.2)), (m3, .inl (D.2 0, 200, .inl qm)), (m0, .inr (6, [.int 1, .int (nI M.1), .ref m1, .ref m2, .int (nI bt), .ref m3, .int (nI ln), .ref m4, .ref m5, .int (nI cl), .ref m6, .ref m7, .ref m8, .ref m9, .ref m10, .ref m11, .ref m12, .int (nI pn), .ref m13, .ref m14]))] H := hP
      have hD : va_D A [(m1, .inl (D.2 0, 800, .inl M.2.1)), (m2, .inl (D.2 0, 200, .inl M.2.2)), (m3, .inl (D.2 0, 200, .inl qm)), (m0, .inr (6, [.int 1, .int (nI M.1), .ref m1, .ref m2, .int (nI bt), .ref m3, .int (nI ln), .ref m4, .ref m5, .int (nI cl), .ref m6, .ref m7, .ref m8, .ref m9, .ref m10, .ref m11, .ref m12, .int (nI pn), .ref m13, .ref m14]))] := hD
      have w4 : r4 = 1 := w4
      subst w4
      refine lv_if_eq (tgt := 96) hx hb dX6_correct_91 (by decide) (fun c7 => ?_) (fun c7 => ?_)
      · skip
        exfalso; exact absurd c7 (by decide)
      refine lv_iconst (v := 0) hx hb dX6_correct_94 (by decide) ?_
      exact z_iret (v := 0) hx hb hr hlocks hP hD hS (some 1) (Or.inr (Or.inl ⟨rfl, ix⟩)) [3, 0, 1, 2] rfl (by decide) (Nat.le_of_ble_eq_true rfl) (Nat.le_of_ble_eq_true rfl) dX6_correct_95
    have me : ¬ (nI (M.1 + 2) ≤ 200) := c6
    refine lv_iconst (v := 1) hx hb dX6_correct_83 (by decide) ?_
    refine lv_goto (tgt := 88) hx hb dX6_correct_84 (by decide) ?_
    have J := zJ.mk (wc := [(m0, .inr (6, [.int th, .int (nI M.1), .ref m1, .ref m2, .int (nI bt), .ref m3, .int (nI ln), .ref m4, .ref m5, .int (nI cl), .ref m6, .ref m7, .ref m8, .ref m9, .ref m10, .ref m11, .ref m12, .int (nI pn), .ref m13, .ref m14]))]) (wr := [(m1, .inl (D.2 0, 800, .inl M.2.1)), (m2, .inl (D.2 0, 200, .inl M.2.2)), (m3, .inl (D.2 0, 200, .inl qm))]) hA hB hK hP hD hS [0] [1, 2, 3] rfl rfl (by decide)
    refine z_goi (z_runV (As := [.int 1, .int 1, .int 1, .int 1]) (rest := []) (b := m0) hF (d_throwing D m0 m1 m2 m3 m4 m5 m6 m7 m8 m9 m10 m11 m12 m13 m14 (M.1, fun _ => 0, fun _ => 0) bt ln cl pn th 1 1 1 1 H.size) (cwV 4 hZ (z_gV t_286 t_287 t_288 t_272 t_285) rfl rfl rfl (by decide +kernel) ⟨Nat.le_of_ble_eq_true rfl, Nat.le_of_ble_eq_true rfl⟩) J 0 6 rfl rfl rfl rfl hl.1 (Nat.le_of_ble_eq_true rfl) dX6_correct_88 ⟨Nat.le_of_ble_eq_true rfl, Nat.le_of_ble_eq_true rfl⟩) J (fun r4 _ H locs w4 hP hD hS => ?_)
    have hP : va_P D.1 vwCl [(m1, .inl (D.2 0, 800, .inl M.2.1)), (m2, .inl (D.2 0, 200, .inl M.2.2)), (m3, .inl (D.2 0, 200, .inl qm)), (m0, .inr (6, [.int 1, .int (nI M.1), .ref m1, .ref m2, .int (nI bt), .ref m3, .int (nI ln), .ref m4, .ref m5, .int (nI cl), .ref m6, .ref m7, .ref m8, .ref m9, .ref m10, .ref m11, .ref m12, .int (nI pn), .ref m13, .ref m14]))] H := hP
    have hD : va_D A [(m1, .inl (D.2 0, 800, .inl M.2.1)), (m2, .inl (D.2 0, 200, .inl M.2.2)), (m3, .inl (D.2 0, 200, .inl qm)), (m0, .inr (6, [.int 1, .int (nI M.1), .ref m1, .ref m2, .int (nI bt), .ref m3, .int (nI ln), .ref m4, .ref m5, .int (nI cl), .ref m6, .ref m7, .ref m8, .ref m9, .ref m10, .ref m11, .ref m12, .int (nI pn), .ref m13, .ref m14]))] := hD
    have w4 : r4 = 1 := w4
    subst w4
    refine lv_if_eq (tgt := 96) hx hb dX6_correct_91 (by decide) (fun c7 => ?_) (fun c7 => ?_)
    · skip
      exfalso; exact absurd c7 (by decide)
    refine lv_iconst (v := 0) hx hb dX6_correct_94 (by decide) ?_
    exact z_iret (v := 0) hx hb hr hlocks hP hD hS (some 1) (Or.inr (Or.inl ⟨rfl, ix⟩)) [3, 0, 1, 2] rfl (by decide) (Nat.le_of_ble_eq_true rfl) (Nat.le_of_ble_eq_true rfl) dX6_correct_95
  have g1 := z_b1 w1 c1
  refine lv_iload_n hx hb dX6_correct_10 rfl (lv_at hl 2 rfl) ?_
  refine lv_i2l (v := p2.toInt64) hx hb dX6_correct_11 rfl ?_
  refine lv_lconst (v := 0) hx hb dX6_correct_12 (by decide) ?_
  refine lv_ldc2 (v := 7) hx hb hown (hZ _ t_270) dX6_correct_13 ?_
  have J := zJ.mk (wc := []) (wr := [(m0, .inr (6, [.int th, .int (nI M.1), .ref m1, .ref m2, .int (nI bt), .ref m3, .int (nI ln), .ref m4, .ref m5, .int (nI cl), .ref m6, .ref m7, .ref m8, .ref m9, .ref m10, .ref m11, .ref m12, .int (nI pn), .ref m13, .ref m14])), (m1, .inl (D.2 0, 800, .inl M.2.1)), (m2, .inl (D.2 0, 200, .inl M.2.2)), (m3, .inl (D.2 0, 200, .inl qm))]) hA hB hK hP hD hS [] [0, 1, 2, 3] rfl rfl (by decide)
  refine z_goi (z_runS (As := [.long p2.toInt64, .long 0, .long 7]) (rest := []) hF (d_lies D p2.toInt64 0 7 H.size) (va_cwS 3 hZ (z_gS t_273 t_274 t_272 t_271) rfl rfl rfl (by decide +kernel) ⟨Nat.le_of_ble_eq_true rfl, Nat.le_of_ble_eq_true rfl⟩) J rfl hl.1 (Nat.le_of_ble_eq_true rfl) dX6_correct_16 ⟨Nat.le_of_ble_eq_true rfl, Nat.le_of_ble_eq_true rfl⟩) J (fun r2 _ H locs w2 hP hD hS => ?_)
  have hP : va_P D.1 vwCl [(m0, .inr (6, [.int th, .int (nI M.1), .ref m1, .ref m2, .int (nI bt), .ref m3, .int (nI ln), .ref m4, .ref m5, .int (nI cl), .ref m6, .ref m7, .ref m8, .ref m9, .ref m10, .ref m11, .ref m12, .int (nI pn), .ref m13, .ref m14])), (m1, .inl (D.2 0, 800, .inl M.2.1)), (m2, .inl (D.2 0, 200, .inl M.2.2)), (m3, .inl (D.2 0, 200, .inl qm))] H := hP
  have hD : va_D A [(m0, .inr (6, [.int th, .int (nI M.1), .ref m1, .ref m2, .int (nI bt), .ref m3, .int (nI ln), .ref m4, .ref m5, .int (nI cl), .ref m6, .ref m7, .ref m8, .ref m9, .ref m10, .ref m11, .ref m12, .int (nI pn), .ref m13, .ref m14])), (m1, .inl (D.2 0, 800, .inl M.2.1)), (m2, .inl (D.2 0, 200, .inl M.2.2)), (m3, .inl (D.2 0, 200, .inl qm))] := hD
  have f2 : (r2 = 1 ∧ zin p2 8) ∨ (r2 = 0 ∧ ¬ zin p2 8) := z_lz 7 (by decide) (by decide) w2
  refine lv_if_eq (tgt := 27) hx hb dX6_correct_19 (by decide) (fun c2 => ?_) (fun c2 => ?_)
  · skip
    have g2 := z_b0 f2 c2
    have ix : ¬ ((zin p1 8 ∧ zin p3 8 ∧ zin p4 12) ∧ zin p2 8 ∧ ¬ p1 = p2) := fun h => g2 h.2.1
    refine lv_iconst (v := 1) hx hb dX6_correct_27 (by decide) ?_
    refine lv_goto (tgt := 32) hx hb dX6_correct_28 (by decide) ?_
    refine lv_istore (lv' := [(6, .int 1), (0, .ref m0), (1, .int p1), (2, .int p2), (3, .int p3), (4, .int p4), (5, .int p5)]) hx hb dX6_correct_32 hl (by decide) rfl (fun ls hl => ?_)
    refine lv_aload_n hx hb dX6_correct_34 rfl (lv_at hl 1 rfl) ?_
    refine lv_iload hx hb dX6_correct_35 (lv_at hl 0 rfl) ?_
    refine lv_iload hx hb dX6_correct_37 (lv_at hl 5 rfl) ?_
    refine lv_aload_n hx hb dX6_correct_39 rfl (lv_at hl 1 rfl) ?_
    refine va_get (D := D.1) (ci := 6) (v := .int (nI cl)) (C := "ShopLedgerModel") (T := TX6) (N := 20) hx hb hZ inX6 hown hK hP 0 rfl rfl 9 (by decide) (hZ _ t_293) (fun _ h9 => h9) rfl dX6_correct_40 ?_
    refine lv_iconst (v := 1) hx hb dX6_correct_43 (by decide) ?_
    refine lv_isub hx hb dX6_correct_44 ?_
    refine lv_icmp_ge (tgt := 52) hx hb dX6_correct_45 (by decide) (fun c4 => ?_) (fun c4 => ?_)
    · skip
      have tu : ¬ p4 < nI cl - 1 := Int32.not_lt.mpr c4
      refine lv_iconst (v := 0) hx hb dX6_correct_52 (by decide) ?_
      refine lv_iload hx hb dX6_correct_53 (lv_at hl 6 rfl) ?_
      refine lv_i2l (v := p5.toInt64) hx hb dX6_correct_55 rfl ?_
      refine lv_lconst (v := 1) hx hb dX6_correct_56 (by decide) ?_
      refine lv_ldc2 (v := 1000000000) hx hb hown (hZ _ t_290) dX6_correct_57 ?_
      have J := zJ.mk (wc := []) (wr := [(m0, .inr (6, [.int th, .int (nI M.1), .ref m1, .ref m2, .int (nI bt), .ref m3, .int (nI ln), .ref m4, .ref m5, .int (nI cl), .ref m6, .ref m7, .ref m8, .ref m9, .ref m10, .ref m11, .ref m12, .int (nI pn), .ref m13, .ref m14])), (m1, .inl (D.2 0, 800, .inl M.2.1)), (m2, .inl (D.2 0, 200, .inl M.2.2)), (m3, .inl (D.2 0, 200, .inl qm))]) hA hB hK hP hD hS [] [0, 1, 2, 3] rfl rfl (by decide)
      refine z_goi (z_runS (As := [.long p5.toInt64, .long 1, .long 1000000000]) (rest := [.int 0, .int 1, .ref m0]) hF (d_lies D p5.toInt64 1 1000000000 H.size) (va_cwS 3 hZ (z_gS t_273 t_274 t_272 t_271) rfl rfl rfl (by decide +kernel) ⟨Nat.le_of_ble_eq_true rfl, Nat.le_of_ble_eq_true rfl⟩) J rfl hl.1 (Nat.le_of_ble_eq_true rfl) dX6_correct_60 ⟨Nat.le_of_ble_eq_true rfl, Nat.le_of_ble_eq_true rfl⟩) J (fun r3 _ H locs w3 hP hD hS => ?_)
      have hP : va_P D.1 vwCl [(m0, .inr (6, [.int th, .int (nI M.1), .ref m1, .ref m2, .int (nI bt), .ref m3, .int (nI ln), .ref m4, .ref m5, .int (nI cl), .ref m6, .ref m7, .ref m8, .ref m9, .ref m10, .ref m11, .ref m12, .int (nI pn), .ref m13, .ref m14])), (m1, .inl (D.2 0, 800, .inl M.2.1)), (m2, .inl (D.2 0, 200, .inl M.2.2)), (m3, .inl (D.2 0, 200, .inl qm))] H := hP
      have hD : va_D A [(m0, .inr (6, [.int th, .int (nI M.1), .ref m1, .ref m2, .int (nI bt), .ref m3, .int (nI ln), .ref m4, .ref m5, .int (nI cl), .ref m6, .ref m7, .ref m8, .ref m9, .ref m10, .ref m11, .ref m12, .int (nI pn), .ref m13, .ref m14])), (m1, .inl (D.2 0, 800, .inl M.2.1)), (m2, .inl (D.2 0, 200, .inl M.2.2)), (m3, .inl (D.2 0, 200, .inl qm))] := hD
      have f3 : (r3 = 1 ∧ ¬ p5 < 1 ∧ p5 ≤ 1000000000) ∨ (r3 = 0 ∧ ¬ (¬ p5 < 1 ∧ p5 ≤ 1000000000)) := z_li (a := 1) (b := 1000000000) (by decide) (by decide) w3
      refine lv_if_ne (tgt := 70) hx hb dX6_correct_63 (by decide) (fun c5 => ?_) (fun c5 => ?_)
      · skip
        have rg := z_b1 f3 c5
        refine lv_iconst (v := 0) hx hb dX6_correct_70 (by decide) ?_
        refine lv_aload_n hx hb dX6_correct_71 rfl (lv_at hl 1 rfl) ?_
        refine va_get (D := D.1) (ci := 6) (v := .int (nI M.1)) (C := "ShopLedgerModel") (T := TX6) (N := 20) hx hb hZ inX6 hown hK hP 0 rfl rfl 1 (by decide) (hZ _ t_277) (fun _ h9 => h9) rfl dX6_correct_72 ?_
        refine lv_iconst (v := 2) hx hb dX6_correct_75 (by decide) ?_
        refine lv_iadd hx hb dX6_correct_76 ?_
        rw [show ((nI M.1) + 2) = nI (M.1 + 2) from nI_add M.1 2]
        refine lv_sipush (v := 200) hx hb dX6_correct_77 (by decide) ?_
        refine lv_icmp_le (tgt := 87) hx hb dX6_correct_80 (by decide) (fun c6 => ?_) (fun c6 => ?_)
        · skip
          have me : nI (M.1 + 2) ≤ 200 := c6
          refine lv_iconst (v := 0) hx hb dX6_correct_87 (by decide) ?_
          have J := zJ.mk (wc := [(m0, .inr (6, [.int th, .int (nI M.1), .ref m1, .ref m2, .int (nI bt), .ref m3, .int (nI ln), .ref m4, .ref m5, .int (nI cl), .ref m6, .ref m7, .ref m8, .ref m9, .ref m10, .ref m11, .ref m12, .int (nI pn), .ref m13, .ref m14]))]) (wr := [(m1, .inl (D.2 0, 800, .inl M.2.1)), (m2, .inl (D.2 0, 200, .inl M.2.2)), (m3, .inl (D.2 0, 200, .inl qm))]) hA hB hK hP hD hS [0] [1, 2, 3] rfl rfl (by decide)
          refine z_goi (z_runV (As := [.int 1, .int 0, .int 0, .int 0]) (rest := []) (b := m0) hF (d_throwing D m0 m1 m2 m3 m4 m5 m6 m7 m8 m9 m10 m11 m12 m13 m14 (M.1, fun _ => 0, fun _ => 0) bt ln cl pn th 1 0 0 0 H.size) (cwV 4 hZ (z_gV t_286 t_287 t_288 t_272 t_285) rfl rfl rfl (by decide +kernel) ⟨Nat.le_of_ble_eq_true rfl, Nat.le_of_ble_eq_true rfl⟩) J 0 6 rfl rfl rfl rfl hl.1 (Nat.le_of_ble_eq_true rfl) dX6_correct_88 ⟨Nat.le_of_ble_eq_true rfl, Nat.le_of_ble_eq_true rfl⟩) J (fun r4 _ H locs w4 hP hD hS => ?_)
          have hP : va_P D.1 vwCl [(m1, .inl (D.2 0, 800, .inl M.2.1)), (m2, .inl (D.2 0, 200, .inl M.2.2)), (m3, .inl (D.2 0, 200, .inl qm)), (m0, .inr (6, [.int 1, .int (nI M.1), .ref m1, .ref m2, .int (nI bt), .ref m3, .int (nI ln), .ref m4, .ref m5, .int (nI cl), .ref m6, .ref m7, .ref m8, .ref m9, .ref m10, .ref m11, .ref m12, .int (nI pn), .ref m13, .ref m14]))] H := hP
          have hD : va_D A [(m1, .inl (D.2 0, 800, .inl M.2.1)), (m2, .inl (D.2 0, 200, .inl M.2.2)), (m3, .inl (D.2 0, 200, .inl qm)), (m0, .inr (6, [.int 1, .int (nI M.1), .ref m1, .ref m2, .int (nI bt), .ref m3, .int (nI ln), .ref m4, .ref m5, .int (nI cl), .ref m6, .ref m7, .ref m8, .ref m9, .ref m10, .ref m11, .ref m12, .int (nI pn), .ref m13, .ref m14]))] := hD
          have w4 : r4 = 1 := w4
          subst w4
          refine lv_if_eq (tgt := 96) hx hb dX6_correct_91 (by decide) (fun c7 => ?_) (fun c7 => ?_)
          · skip
            exfalso; exact absurd c7 (by decide)
          refine lv_iconst (v := 0) hx hb dX6_correct_94 (by decide) ?_
          exact z_iret (v := 0) hx hb hr hlocks hP hD hS (some 1) (Or.inr (Or.inl ⟨rfl, ix⟩)) [3, 0, 1, 2] rfl (by decide) (Nat.le_of_ble_eq_true rfl) (Nat.le_of_ble_eq_true rfl) dX6_correct_95
        have me : ¬ (nI (M.1 + 2) ≤ 200) := c6
        refine lv_iconst (v := 1) hx hb dX6_correct_83 (by decide) ?_
        refine lv_goto (tgt := 88) hx hb dX6_correct_84 (by decide) ?_
        have J := zJ.mk (wc := [(m0, .inr (6, [.int th, .int (nI M.1), .ref m1, .ref m2, .int (nI bt), .ref m3, .int (nI ln), .ref m4, .ref m5, .int (nI cl), .ref m6, .ref m7, .ref m8, .ref m9, .ref m10, .ref m11, .ref m12, .int (nI pn), .ref m13, .ref m14]))]) (wr := [(m1, .inl (D.2 0, 800, .inl M.2.1)), (m2, .inl (D.2 0, 200, .inl M.2.2)), (m3, .inl (D.2 0, 200, .inl qm))]) hA hB hK hP hD hS [0] [1, 2, 3] rfl rfl (by decide)
        refine z_goi (z_runV (As := [.int 1, .int 0, .int 0, .int 1]) (rest := []) (b := m0) hF (d_throwing D m0 m1 m2 m3 m4 m5 m6 m7 m8 m9 m10 m11 m12 m13 m14 (M.1, fun _ => 0, fun _ => 0) bt ln cl pn th 1 0 0 1 H.size) (cwV 4 hZ (z_gV t_286 t_287 t_288 t_272 t_285) rfl rfl rfl (by decide +kernel) ⟨Nat.le_of_ble_eq_true rfl, Nat.le_of_ble_eq_true rfl⟩) J 0 6 rfl rfl rfl rfl hl.1 (Nat.le_of_ble_eq_true rfl) dX6_correct_88 ⟨Nat.le_of_ble_eq_true rfl, Nat.le_of_ble_eq_true rfl⟩) J (fun r4 _ H locs w4 hP hD hS => ?_)
        have hP : va_P D.1 vwCl [(m1, .inl (D.2 0, 800, .inl M.2.1)), (m2, .inl (D.2 0, 200, .inl M.2.2)), (m3, .inl (D.2 0, 200, .inl qm)), (m0, .inr (6, [.int 1, .int (nI M.1), .ref m1, .ref m2, .int (nI bt), .ref m3, .int (nI ln), .ref m4, .ref m5, .int (nI cl), .ref m6, .ref m7, .ref m8, .ref m9, .ref m10, .ref m11, .ref m12, .int (nI pn), .ref m13, .ref m14]))] H := hP
        have hD : va_D A [(m1, .inl (D.2 0, 800, .inl M.2.1)), (m2, .inl (D.2 0, 200, .inl M.2.2)), (m3, .inl (D.2 0, 200, .inl qm)), (m0, .inr (6, [.int 1, .int (nI M.1), .ref m1, .ref m2, .int (nI bt), .ref m3, .int (nI ln), .ref m4, .ref m5, .int (nI cl), .ref m6, .ref m7, .ref m8, .ref m9, .ref m10, .ref m11, .ref m12, .int (nI pn), .ref m13, .ref m14]))] := hD
        have w4 : r4 = 1 := w4
        subst w4
        refine lv_if_eq (tgt := 96) hx hb dX6_correct_91 (by decide) (fun c7 => ?_) (fun c7 => ?_)
        · skip
          exfalso; exact absurd c7 (by decide)
        refine lv_iconst (v := 0) hx hb dX6_correct_94 (by decide) ?_
        exact z_iret (v := 0) hx hb hr hlocks hP hD hS (some 1) (Or.inr (Or.inl ⟨rfl, ix⟩)) [3, 0, 1, 2] rfl (by decide) (Nat.le_of_ble_eq_true rfl) (Nat.le_of_ble_eq_true rfl) dX6_correct_95
      have rg := z_b0 f3 c5
      refine lv_iconst (v := 1) hx hb dX6_correct_66 (by decide) ?_
      refine lv_goto (tgt := 71) hx hb dX6_correct_67 (by decide) ?_
      refine lv_aload_n hx hb dX6_correct_71 rfl (lv_at hl 1 rfl) ?_
      refine va_get (D := D.1) (ci := 6) (v := .int (nI M.1)) (C := "ShopLedgerModel") (T := TX6) (N := 20) hx hb hZ inX6 hown hK hP 0 rfl rfl 1 (by decide) (hZ _ t_277) (fun _ h9 => h9) rfl dX6_correct_72 ?_
      refine lv_iconst (v := 2) hx hb dX6_correct_75 (by decide) ?_
      refine lv_iadd hx hb dX6_correct_76 ?_
      rw [show ((nI M.1) + 2) = nI (M.1 + 2) from nI_add M.1 2]
      refine lv_sipush (v := 200) hx hb dX6_correct_77 (by decide) ?_
      refine lv_icmp_le (tgt := 87) hx hb dX6_correct_80 (by decide) (fun c6 => ?_) (fun c6 => ?_)
      · skip
        have me : nI (M.1 + 2) ≤ 200 := c6
        refine lv_iconst (v := 0) hx hb dX6_correct_87 (by decide) ?_
        have J := zJ.mk (wc := [(m0, .inr (6, [.int th, .int (nI M.1), .ref m1, .ref m2, .int (nI bt), .ref m3, .int (nI ln), .ref m4, .ref m5, .int (nI cl), .ref m6, .ref m7, .ref m8, .ref m9, .ref m10, .ref m11, .ref m12, .int (nI pn), .ref m13, .ref m14]))]) (wr := [(m1, .inl (D.2 0, 800, .inl M.2.1)), (m2, .inl (D.2 0, 200, .inl M.2.2)), (m3, .inl (D.2 0, 200, .inl qm))]) hA hB hK hP hD hS [0] [1, 2, 3] rfl rfl (by decide)
        refine z_goi (z_runV (As := [.int 1, .int 0, .int 1, .int 0]) (rest := []) (b := m0) hF (d_throwing D m0 m1 m2 m3 m4 m5 m6 m7 m8 m9 m10 m11 m12 m13 m14 (M.1, fun _ => 0, fun _ => 0) bt ln cl pn th 1 0 1 0 H.size) (cwV 4 hZ (z_gV t_286 t_287 t_288 t_272 t_285) rfl rfl rfl (by decide +kernel) ⟨Nat.le_of_ble_eq_true rfl, Nat.le_of_ble_eq_true rfl⟩) J 0 6 rfl rfl rfl rfl hl.1 (Nat.le_of_ble_eq_true rfl) dX6_correct_88 ⟨Nat.le_of_ble_eq_true rfl, Nat.le_of_ble_eq_true rfl⟩) J (fun r4 _ H locs w4 hP hD hS => ?_)
        have hP : va_P D.1 vwCl [(m1, .inl (D.2 0, 800, .inl M.2.1)), (m2, .inl (D.2 0, 200, .inl M.2.2)), (m3, .inl (D.2 0, 200, .inl qm)), (m0, .inr (6, [.int 1, .int (nI M.1), .ref m1, .ref m2, .int (nI bt), .ref m3, .int (nI ln), .ref m4, .ref m5, .int (nI cl), .ref m6, .ref m7, .ref m8, .ref m9, .ref m10, .ref m11, .ref m12, .int (nI pn), .ref m13, .ref m14]))] H := hP
        have hD : va_D A [(m1, .inl (D.2 0, 800, .inl M.2.1)), (m2, .inl (D.2 0, 200, .inl M.2.2)), (m3, .inl (D.2 0, 200, .inl qm)), (m0, .inr (6, [.int 1, .int (nI M.1), .ref m1, .ref m2, .int (nI bt), .ref m3, .int (nI ln), .ref m4, .ref m5, .int (nI cl), .ref m6, .ref m7, .ref m8, .ref m9, .ref m10, .ref m11, .ref m12, .int (nI pn), .ref m13, .ref m14]))] := hD
        have w4 : r4 = 1 := w4
        subst w4
        refine lv_if_eq (tgt := 96) hx hb dX6_correct_91 (by decide) (fun c7 => ?_) (fun c7 => ?_)
        · skip
          exfalso; exact absurd c7 (by decide)
        refine lv_iconst (v := 0) hx hb dX6_correct_94 (by decide) ?_
        exact z_iret (v := 0) hx hb hr hlocks hP hD hS (some 1) (Or.inr (Or.inl ⟨rfl, ix⟩)) [3, 0, 1, 2] rfl (by decide) (Nat.le_of_ble_eq_true rfl) (Nat.le_of_ble_eq_true rfl) dX6_correct_95
      have me : ¬ (nI (M.1 + 2) ≤ 200) := c6
      refine lv_iconst (v := 1) hx hb dX6_correct_83 (by decide) ?_
      refine lv_goto (tgt := 88) hx hb dX6_correct_84 (by decide) ?_
      have J := zJ.mk (wc := [(m0, .inr (6, [.int th, .int (nI M.1), .ref m1, .ref m2, .int (nI bt), .ref m3, .int (nI ln), .ref m4, .ref m5, .int (nI cl), .ref m6, .ref m7, .ref m8, .ref m9, .ref m10, .ref m11, .ref m12, .int (nI pn), .ref m13, .ref m14]))]) (wr := [(m1, .inl (D.2 0, 800, .inl M.2.1)), (m2, .inl (D.2 0, 200, .inl M.2.2)), (m3, .inl (D.2 0, 200, .inl qm))]) hA hB hK hP hD hS [0] [1, 2, 3] rfl rfl (by decide)
      refine z_goi (z_runV (As := [.int 1, .int 0, .int 1, .int 1]) (rest := []) (b := m0) hF (d_throwing D m0 m1 m2 m3 m4 m5 m6 m7 m8 m9 m10 m11 m12 m13 m14 (M.1, fun _ => 0, fun _ => 0) bt ln cl pn th 1 0 1 1 H.size) (cwV 4 hZ (z_gV t_286 t_287 t_288 t_272 t_285) rfl rfl rfl (by decide +kernel) ⟨Nat.le_of_ble_eq_true rfl, Nat.le_of_ble_eq_true rfl⟩) J 0 6 rfl rfl rfl rfl hl.1 (Nat.le_of_ble_eq_true rfl) dX6_correct_88 ⟨Nat.le_of_ble_eq_true rfl, Nat.le_of_ble_eq_true rfl⟩) J (fun r4 _ H locs w4 hP hD hS => ?_)
      have hP : va_P D.1 vwCl [(m1, .inl (D.2 0, 800, .inl M.2.1)), (m2, .inl (D.2 0, 200, .inl M.2.2)), (m3, .inl (D.2 0, 200, .inl qm)), (m0, .inr (6, [.int 1, .int (nI M.1), .ref m1, .ref m2, .int (nI bt), .ref m3, .int (nI ln), .ref m4, .ref m5, .int (nI cl), .ref m6, .ref m7, .ref m8, .ref m9, .ref m10, .ref m11, .ref m12, .int (nI pn), .ref m13, .ref m14]))] H := hP
      have hD : va_D A [(m1, .inl (D.2 0, 800, .inl M.2.1)), (m2, .inl (D.2 0, 200, .inl M.2.2)), (m3, .inl (D.2 0, 200, .inl qm)), (m0, .inr (6, [.int 1, .int (nI M.1), .ref m1, .ref m2, .int (nI bt), .ref m3, .int (nI ln), .ref m4, .ref m5, .int (nI cl), .ref m6, .ref m7, .ref m8, .ref m9, .ref m10, .ref m11, .ref m12, .int (nI pn), .ref m13, .ref m14]))] := hD
      have w4 : r4 = 1 := w4
      subst w4
      refine lv_if_eq (tgt := 96) hx hb dX6_correct_91 (by decide) (fun c7 => ?_) (fun c7 => ?_)
      · skip
        exfalso; exact absurd c7 (by decide)
      refine lv_iconst (v := 0) hx hb dX6_correct_94 (by decide) ?_
      exact z_iret (v := 0) hx hb hr hlocks hP hD hS (some 1) (Or.inr (Or.inl ⟨rfl, ix⟩)) [3, 0, 1, 2] rfl (by decide) (Nat.le_of_ble_eq_true rfl) (Nat.le_of_ble_eq_true rfl) dX6_correct_95
    have tu : ¬ (¬ p4 < nI cl - 1) := fun h => h (Int32.not_le.mp c4)
    refine lv_iconst (v := 1) hx hb dX6_correct_48 (by decide) ?_
    refine lv_goto (tgt := 53) hx hb dX6_correct_49 (by decide) ?_
    refine lv_iload hx hb dX6_correct_53 (lv_at hl 6 rfl) ?_
    refine lv_i2l (v := p5.toInt64) hx hb dX6_correct_55 rfl ?_
    refine lv_lconst (v := 1) hx hb dX6_correct_56 (by decide) ?_
    refine lv_ldc2 (v := 1000000000) hx hb hown (hZ _ t_290) dX6_correct_57 ?_
    have J := zJ.mk (wc := []) (wr := [(m0, .inr (6, [.int th, .int (nI M.1), .ref m1, .ref m2, .int (nI bt), .ref m3, .int (nI ln), .ref m4, .ref m5, .int (nI cl), .ref m6, .ref m7, .ref m8, .ref m9, .ref m10, .ref m11, .ref m12, .int (nI pn), .ref m13, .ref m14])), (m1, .inl (D.2 0, 800, .inl M.2.1)), (m2, .inl (D.2 0, 200, .inl M.2.2)), (m3, .inl (D.2 0, 200, .inl qm))]) hA hB hK hP hD hS [] [0, 1, 2, 3] rfl rfl (by decide)
    refine z_goi (z_runS (As := [.long p5.toInt64, .long 1, .long 1000000000]) (rest := [.int 1, .int 1, .ref m0]) hF (d_lies D p5.toInt64 1 1000000000 H.size) (va_cwS 3 hZ (z_gS t_273 t_274 t_272 t_271) rfl rfl rfl (by decide +kernel) ⟨Nat.le_of_ble_eq_true rfl, Nat.le_of_ble_eq_true rfl⟩) J rfl hl.1 (Nat.le_of_ble_eq_true rfl) dX6_correct_60 ⟨Nat.le_of_ble_eq_true rfl, Nat.le_of_ble_eq_true rfl⟩) J (fun r3 _ H locs w3 hP hD hS => ?_)
    have hP : va_P D.1 vwCl [(m0, .inr (6, [.int th, .int (nI M.1), .ref m1, .ref m2, .int (nI bt), .ref m3, .int (nI ln), .ref m4, .ref m5, .int (nI cl), .ref m6, .ref m7, .ref m8, .ref m9, .ref m10, .ref m11, .ref m12, .int (nI pn), .ref m13, .ref m14])), (m1, .inl (D.2 0, 800, .inl M.2.1)), (m2, .inl (D.2 0, 200, .inl M.2.2)), (m3, .inl (D.2 0, 200, .inl qm))] H := hP
    have hD : va_D A [(m0, .inr (6, [.int th, .int (nI M.1), .ref m1, .ref m2, .int (nI bt), .ref m3, .int (nI ln), .ref m4, .ref m5, .int (nI cl), .ref m6, .ref m7, .ref m8, .ref m9, .ref m10, .ref m11, .ref m12, .int (nI pn), .ref m13, .ref m14])), (m1, .inl (D.2 0, 800, .inl M.2.1)), (m2, .inl (D.2 0, 200, .inl M.2.2)), (m3, .inl (D.2 0, 200, .inl qm))] := hD
    have f3 : (r3 = 1 ∧ ¬ p5 < 1 ∧ p5 ≤ 1000000000) ∨ (r3 = 0 ∧ ¬ (¬ p5 < 1 ∧ p5 ≤ 1000000000)) := z_li (a := 1) (b := 1000000000) (by decide) (by decide) w3
    refine lv_if_ne (tgt := 70) hx hb dX6_correct_63 (by decide) (fun c5 => ?_) (fun c5 => ?_)
    · skip
      have rg := z_b1 f3 c5
      refine lv_iconst (v := 0) hx hb dX6_correct_70 (by decide) ?_
      refine lv_aload_n hx hb dX6_correct_71 rfl (lv_at hl 1 rfl) ?_
      refine va_get (D := D.1) (ci := 6) (v := .int (nI M.1)) (C := "ShopLedgerModel") (T := TX6) (N := 20) hx hb hZ inX6 hown hK hP 0 rfl rfl 1 (by decide) (hZ _ t_277) (fun _ h9 => h9) rfl dX6_correct_72 ?_
      refine lv_iconst (v := 2) hx hb dX6_correct_75 (by decide) ?_
      refine lv_iadd hx hb dX6_correct_76 ?_
      rw [show ((nI M.1) + 2) = nI (M.1 + 2) from nI_add M.1 2]
      refine lv_sipush (v := 200) hx hb dX6_correct_77 (by decide) ?_
      refine lv_icmp_le (tgt := 87) hx hb dX6_correct_80 (by decide) (fun c6 => ?_) (fun c6 => ?_)
      · skip
        have me : nI (M.1 + 2) ≤ 200 := c6
        refine lv_iconst (v := 0) hx hb dX6_correct_87 (by decide) ?_
        have J := zJ.mk (wc := [(m0, .inr (6, [.int th, .int (nI M.1), .ref m1, .ref m2, .int (nI bt), .ref m3, .int (nI ln), .ref m4, .ref m5, .int (nI cl), .ref m6, .ref m7, .ref m8, .ref m9, .ref m10, .ref m11, .ref m12, .int (nI pn), .ref m13, .ref m14]))]) (wr := [(m1, .inl (D.2 0, 800, .inl M.2.1)), (m2, .inl (D.2 0, 200, .inl M.2.2)), (m3, .inl (D.2 0, 200, .inl qm))]) hA hB hK hP hD hS [0] [1, 2, 3] rfl rfl (by decide)
        refine z_goi (z_runV (As := [.int 1, .int 1, .int 0, .int 0]) (rest := []) (b := m0) hF (d_throwing D m0 m1 m2 m3 m4 m5 m6 m7 m8 m9 m10 m11 m12 m13 m14 (M.1, fun _ => 0, fun _ => 0) bt ln cl pn th 1 1 0 0 H.size) (cwV 4 hZ (z_gV t_286 t_287 t_288 t_272 t_285) rfl rfl rfl (by decide +kernel) ⟨Nat.le_of_ble_eq_true rfl, Nat.le_of_ble_eq_true rfl⟩) J 0 6 rfl rfl rfl rfl hl.1 (Nat.le_of_ble_eq_true rfl) dX6_correct_88 ⟨Nat.le_of_ble_eq_true rfl, Nat.le_of_ble_eq_true rfl⟩) J (fun r4 _ H locs w4 hP hD hS => ?_)
        have hP : va_P D.1 vwCl [(m1, .inl (D.2 0, 800, .inl M.2.1)), (m2, .inl (D.2 0, 200, .inl M.2.2)), (m3, .inl (D.2 0, 200, .inl qm)), (m0, .inr (6, [.int 1, .int (nI M.1), .ref m1, .ref m2, .int (nI bt), .ref m3, .int (nI ln), .ref m4, .ref m5, .int (nI cl), .ref m6, .ref m7, .ref m8, .ref m9, .ref m10, .ref m11, .ref m12, .int (nI pn), .ref m13, .ref m14]))] H := hP
        have hD : va_D A [(m1, .inl (D.2 0, 800, .inl M.2.1)), (m2, .inl (D.2 0, 200, .inl M.2.2)), (m3, .inl (D.2 0, 200, .inl qm)), (m0, .inr (6, [.int 1, .int (nI M.1), .ref m1, .ref m2, .int (nI bt), .ref m3, .int (nI ln), .ref m4, .ref m5, .int (nI cl), .ref m6, .ref m7, .ref m8, .ref m9, .ref m10, .ref m11, .ref m12, .int (nI pn), .ref m13, .ref m14]))] := hD
        have w4 : r4 = 1 := w4
        subst w4
        refine lv_if_eq (tgt := 96) hx hb dX6_correct_91 (by decide) (fun c7 => ?_) (fun c7 => ?_)
        · skip
          exfalso; exact absurd c7 (by decide)
        refine lv_iconst (v := 0) hx hb dX6_correct_94 (by decide) ?_
        exact z_iret (v := 0) hx hb hr hlocks hP hD hS (some 1) (Or.inr (Or.inl ⟨rfl, ix⟩)) [3, 0, 1, 2] rfl (by decide) (Nat.le_of_ble_eq_true rfl) (Nat.le_of_ble_eq_true rfl) dX6_correct_95
      have me : ¬ (nI (M.1 + 2) ≤ 200) := c6
      refine lv_iconst (v := 1) hx hb dX6_correct_83 (by decide) ?_
      refine lv_goto (tgt := 88) hx hb dX6_correct_84 (by decide) ?_
      have J := zJ.mk (wc := [(m0, .inr (6, [.int th, .int (nI M.1), .ref m1, .ref m2, .int (nI bt), .ref m3, .int (nI ln), .ref m4, .ref m5, .int (nI cl), .ref m6, .ref m7, .ref m8, .ref m9, .ref m10, .ref m11, .ref m12, .int (nI pn), .ref m13, .ref m14]))]) (wr := [(m1, .inl (D.2 0, 800, .inl M.2.1)), (m2, .inl (D.2 0, 200, .inl M.2.2)), (m3, .inl (D.2 0, 200, .inl qm))]) hA hB hK hP hD hS [0] [1, 2, 3] rfl rfl (by decide)
      refine z_goi (z_runV (As := [.int 1, .int 1, .int 0, .int 1]) (rest := []) (b := m0) hF (d_throwing D m0 m1 m2 m3 m4 m5 m6 m7 m8 m9 m10 m11 m12 m13 m14 (M.1, fun _ => 0, fun _ => 0) bt ln cl pn th 1 1 0 1 H.size) (cwV 4 hZ (z_gV t_286 t_287 t_288 t_272 t_285) rfl rfl rfl (by decide +kernel) ⟨Nat.le_of_ble_eq_true rfl, Nat.le_of_ble_eq_true rfl⟩) J 0 6 rfl rfl rfl rfl hl.1 (Nat.le_of_ble_eq_true rfl) dX6_correct_88 ⟨Nat.le_of_ble_eq_true rfl, Nat.le_of_ble_eq_true rfl⟩) J (fun r4 _ H locs w4 hP hD hS => ?_)
      have hP : va_P D.1 vwCl [(m1, .inl (D.2 0, 800, .inl M.2.1)), (m2, .inl (D.2 0, 200, .inl M.2.2)), (m3, .inl (D.2 0, 200, .inl qm)), (m0, .inr (6, [.int 1, .int (nI M.1), .ref m1, .ref m2, .int (nI bt), .ref m3, .int (nI ln), .ref m4, .ref m5, .int (nI cl), .ref m6, .ref m7, .ref m8, .ref m9, .ref m10, .ref m11, .ref m12, .int (nI pn), .ref m13, .ref m14]))] H := hP
      have hD : va_D A [(m1, .inl (D.2 0, 800, .inl M.2.1)), (m2, .inl (D.2 0, 200, .inl M.2.2)), (m3, .inl (D.2 0, 200, .inl qm)), (m0, .inr (6, [.int 1, .int (nI M.1), .ref m1, .ref m2, .int (nI bt), .ref m3, .int (nI ln), .ref m4, .ref m5, .int (nI cl), .ref m6, .ref m7, .ref m8, .ref m9, .ref m10, .ref m11, .ref m12, .int (nI pn), .ref m13, .ref m14]))] := hD
      have w4 : r4 = 1 := w4
      subst w4
      refine lv_if_eq (tgt := 96) hx hb dX6_correct_91 (by decide) (fun c7 => ?_) (fun c7 => ?_)
      · skip
        exfalso; exact absurd c7 (by decide)
      refine lv_iconst (v := 0) hx hb dX6_correct_94 (by decide) ?_
      exact z_iret (v := 0) hx hb hr hlocks hP hD hS (some 1) (Or.inr (Or.inl ⟨rfl, ix⟩)) [3, 0, 1, 2] rfl (by decide) (Nat.le_of_ble_eq_true rfl) (Nat.le_of_ble_eq_true rfl) dX6_correct_95
    have rg := z_b0 f3 c5
    refine lv_iconst (v := 1) hx hb dX6_correct_66 (by decide) ?_
    refine lv_goto (tgt := 71) hx hb dX6_correct_67 (by decide) ?_
    refine lv_aload_n hx hb dX6_correct_71 rfl (lv_at hl 1 rfl) ?_
    refine va_get (D := D.1) (ci := 6) (v := .int (nI M.1)) (C := "ShopLedgerModel") (T := TX6) (N := 20) hx hb hZ inX6 hown hK hP 0 rfl rfl 1 (by decide) (hZ _ t_277) (fun _ h9 => h9) rfl dX6_correct_72 ?_
    refine lv_iconst (v := 2) hx hb dX6_correct_75 (by decide) ?_
    refine lv_iadd hx hb dX6_correct_76 ?_
    rw [show ((nI M.1) + 2) = nI (M.1 + 2) from nI_add M.1 2]
    refine lv_sipush (v := 200) hx hb dX6_correct_77 (by decide) ?_
    refine lv_icmp_le (tgt := 87) hx hb dX6_correct_80 (by decide) (fun c6 => ?_) (fun c6 => ?_)
    · skip
      have me : nI (M.1 + 2) ≤ 200 := c6
      refine lv_iconst (v := 0) hx hb dX6_correct_87 (by decide) ?_
      have J := zJ.mk (wc := [(m0, .inr (6, [.int th, .int (nI M.1), .ref m1, .ref m2, .int (nI bt), .ref m3, .int (nI ln), .ref m4, .ref m5, .int (nI cl), .ref m6, .ref m7, .ref m8, .ref m9, .ref m10, .ref m11, .ref m12, .int (nI pn), .ref m13, .ref m14]))]) (wr := [(m1, .inl (D.2 0, 800, .inl M.2.1)), (m2, .inl (D.2 0, 200, .inl M.2.2)), (m3, .inl (D.2 0, 200, .inl qm))]) hA hB hK hP hD hS [0] [1, 2, 3] rfl rfl (by decide)
      refine z_goi (z_runV (As := [.int 1, .int 1, .int 1, .int 0]) (rest := []) (b := m0) hF (d_throwing D m0 m1 m2 m3 m4 m5 m6 m7 m8 m9 m10 m11 m12 m13 m14 (M.1, fun _ => 0, fun _ => 0) bt ln cl pn th 1 1 1 0 H.size) (cwV 4 hZ (z_gV t_286 t_287 t_288 t_272 t_285) rfl rfl rfl (by decide +kernel) ⟨Nat.le_of_ble_eq_true rfl, Nat.le_of_ble_eq_true rfl⟩) J 0 6 rfl rfl rfl rfl hl.1 (Nat.le_of_ble_eq_true rfl) dX6_correct_88 ⟨Nat.le_of_ble_eq_true rfl, Nat.le_of_ble_eq_true rfl⟩) J (fun r4 _ H locs w4 hP hD hS => ?_)
      have hP : va_P D.1 vwCl [(m1, .inl (D.2 0, 800, .inl M.2.1)), (m2, .inl (D.2 0, 200, .inl M.2.2)), (m3, .inl (D.2 0, 200, .inl qm)), (m0, .inr (6, [.int 1, .int (nI M.1), .ref m1, .ref m2, .int (nI bt), .ref m3, .int (nI ln), .ref m4, .ref m5, .int (nI cl), .ref m6, .ref m7, .ref m8, .ref m9, .ref m10, .ref m11, .ref m12, .int (nI pn), .ref m13, .ref m14]))] H := hP
      have hD : va_D A [(m1, .inl (D.2 0, 800, .inl M.2.1)), (m2, .inl (D.2 0, 200, .inl M.2.2)), (m3, .inl (D.2 0, 200, .inl qm)), (m0, .inr (6, [.int 1, .int (nI M.1), .ref m1, .ref m2, .int (nI bt), .ref m3, .int (nI ln), .ref m4, .ref m5, .int (nI cl), .ref m6, .ref m7, .ref m8, .ref m9, .ref m10, .ref m11, .ref m12, .int (nI pn), .ref m13, .ref m14]))] := hD
      have w4 : r4 = 1 := w4
      subst w4
      refine lv_if_eq (tgt := 96) hx hb dX6_correct_91 (by decide) (fun c7 => ?_) (fun c7 => ?_)
      · skip
        exfalso; exact absurd c7 (by decide)
      refine lv_iconst (v := 0) hx hb dX6_correct_94 (by decide) ?_
      exact z_iret (v := 0) hx hb hr hlocks hP hD hS (some 1) (Or.inr (Or.inl ⟨rfl, ix⟩)) [3, 0, 1, 2] rfl (by decide) (Nat.le_of_ble_eq_true rfl) (Nat.le_of_ble_eq_true rfl) dX6_correct_95
    have me : ¬ (nI (M.1 + 2) ≤ 200) := c6
    refine lv_iconst (v := 1) hx hb dX6_correct_83 (by decide) ?_
    refine lv_goto (tgt := 88) hx hb dX6_correct_84 (by decide) ?_
    have J := zJ.mk (wc := [(m0, .inr (6, [.int th, .int (nI M.1), .ref m1, .ref m2, .int (nI bt), .ref m3, .int (nI ln), .ref m4, .ref m5, .int (nI cl), .ref m6, .ref m7, .ref m8, .ref m9, .ref m10, .ref m11, .ref m12, .int (nI pn), .ref m13, .ref m14]))]) (wr := [(m1, .inl (D.2 0, 800, .inl M.2.1)), (m2, .inl (D.2 0, 200, .inl M.2.2)), (m3, .inl (D.2 0, 200, .inl qm))]) hA hB hK hP hD hS [0] [1, 2, 3] rfl rfl (by decide)
    refine z_goi (z_runV (As := [.int 1, .int 1, .int 1, .int 1]) (rest := []) (b := m0) hF (d_throwing D m0 m1 m2 m3 m4 m5 m6 m7 m8 m9 m10 m11 m12 m13 m14 (M.1, fun _ => 0, fun _ => 0) bt ln cl pn th 1 1 1 1 H.size) (cwV 4 hZ (z_gV t_286 t_287 t_288 t_272 t_285) rfl rfl rfl (by decide +kernel) ⟨Nat.le_of_ble_eq_true rfl, Nat.le_of_ble_eq_true rfl⟩) J 0 6 rfl rfl rfl rfl hl.1 (Nat.le_of_ble_eq_true rfl) dX6_correct_88 ⟨Nat.le_of_ble_eq_true rfl, Nat.le_of_ble_eq_true rfl⟩) J (fun r4 _ H locs w4 hP hD hS => ?_)
    have hP : va_P D.1 vwCl [(m1, .inl (D.2 0, 800, .inl M.2.1)), (m2, .inl (D.2 0, 200, .inl M.2.2)), (m3, .inl (D.2 0, 200, .inl qm)), (m0, .inr (6, [.int 1, .int (nI M.1), .ref m1, .ref m2, .int (nI bt), .ref m3, .int (nI ln), .ref m4, .ref m5, .int (nI cl), .ref m6, .ref m7, .ref m8, .ref m9, .ref m10, .ref m11, .ref m12, .int (nI pn), .ref m13, .ref m14]))] H := hP
    have hD : va_D A [(m1, .inl (D.2 0, 800, .inl M.2.1)), (m2, .inl (D.2 0, 200, .inl M.2.2)), (m3, .inl (D.2 0, 200, .inl qm)), (m0, .inr (6, [.int 1, .int (nI M.1), .ref m1, .ref m2, .int (nI bt), .ref m3, .int (nI ln), .ref m4, .ref m5, .int (nI cl), .ref m6, .ref m7, .ref m8, .ref m9, .ref m10, .ref m11, .ref m12, .int (nI pn), .ref m13, .ref m14]))] := hD
    have w4 : r4 = 1 := w4
    subst w4
    refine lv_if_eq (tgt := 96) hx hb dX6_correct_91 (by decide) (fun c7 => ?_) (fun c7 => ?_)
    · skip
      exfalso; exact absurd c7 (by decide)
    refine lv_iconst (v := 0) hx hb dX6_correct_94 (by decide) ?_
    exact z_iret (v := 0) hx hb hr hlocks hP hD hS (some 1) (Or.inr (Or.inl ⟨rfl, ix⟩)) [3, 0, 1, 2] rfl (by decide) (Nat.le_of_ble_eq_true rfl) (Nat.le_of_ble_eq_true rfl) dX6_correct_95
  have g2 := z_b1 f2 c2
  refine lv_iload_n hx hb dX6_correct_22 rfl (lv_at hl 1 rfl) ?_
  refine lv_iload_n hx hb dX6_correct_23 rfl (lv_at hl 2 rfl) ?_
  refine lv_icmp_ne (tgt := 31) hx hb dX6_correct_24 (by decide) (fun c3 => ?_) (fun c3 => ?_)
  · skip
    have ix : (zin p1 8 ∧ zin p3 8 ∧ zin p4 12) ∧ zin p2 8 ∧ ¬ p1 = p2 := ⟨g1, g2, c3⟩
    refine lv_iconst (v := 0) hx hb dX6_correct_31 (by decide) ?_
    refine lv_istore (lv' := [(6, .int 0), (0, .ref m0), (1, .int p1), (2, .int p2), (3, .int p3), (4, .int p4), (5, .int p5)]) hx hb dX6_correct_32 hl (by decide) rfl (fun ls hl => ?_)
    refine lv_aload_n hx hb dX6_correct_34 rfl (lv_at hl 1 rfl) ?_
    refine lv_iload hx hb dX6_correct_35 (lv_at hl 0 rfl) ?_
    refine lv_iload hx hb dX6_correct_37 (lv_at hl 5 rfl) ?_
    refine lv_aload_n hx hb dX6_correct_39 rfl (lv_at hl 1 rfl) ?_
    refine va_get (D := D.1) (ci := 6) (v := .int (nI cl)) (C := "ShopLedgerModel") (T := TX6) (N := 20) hx hb hZ inX6 hown hK hP 0 rfl rfl 9 (by decide) (hZ _ t_293) (fun _ h9 => h9) rfl dX6_correct_40 ?_
    refine lv_iconst (v := 1) hx hb dX6_correct_43 (by decide) ?_
    refine lv_isub hx hb dX6_correct_44 ?_
    refine lv_icmp_ge (tgt := 52) hx hb dX6_correct_45 (by decide) (fun c4 => ?_) (fun c4 => ?_)
    · skip
      have tu : ¬ p4 < nI cl - 1 := Int32.not_lt.mpr c4
      refine lv_iconst (v := 0) hx hb dX6_correct_52 (by decide) ?_
      refine lv_iload hx hb dX6_correct_53 (lv_at hl 6 rfl) ?_
      refine lv_i2l (v := p5.toInt64) hx hb dX6_correct_55 rfl ?_
      refine lv_lconst (v := 1) hx hb dX6_correct_56 (by decide) ?_
      refine lv_ldc2 (v := 1000000000) hx hb hown (hZ _ t_290) dX6_correct_57 ?_
      have J := zJ.mk (wc := []) (wr := [(m0, .inr (6, [.int th, .int (nI M.1), .ref m1, .ref m2, .int (nI bt), .ref m3, .int (nI ln), .ref m4, .ref m5, .int (nI cl), .ref m6, .ref m7, .ref m8, .ref m9, .ref m10, .ref m11, .ref m12, .int (nI pn), .ref m13, .ref m14])), (m1, .inl (D.2 0, 800, .inl M.2.1)), (m2, .inl (D.2 0, 200, .inl M.2.2)), (m3, .inl (D.2 0, 200, .inl qm))]) hA hB hK hP hD hS [] [0, 1, 2, 3] rfl rfl (by decide)
      refine z_goi (z_runS (As := [.long p5.toInt64, .long 1, .long 1000000000]) (rest := [.int 0, .int 0, .ref m0]) hF (d_lies D p5.toInt64 1 1000000000 H.size) (va_cwS 3 hZ (z_gS t_273 t_274 t_272 t_271) rfl rfl rfl (by decide +kernel) ⟨Nat.le_of_ble_eq_true rfl, Nat.le_of_ble_eq_true rfl⟩) J rfl hl.1 (Nat.le_of_ble_eq_true rfl) dX6_correct_60 ⟨Nat.le_of_ble_eq_true rfl, Nat.le_of_ble_eq_true rfl⟩) J (fun r3 _ H locs w3 hP hD hS => ?_)
      have hP : va_P D.1 vwCl [(m0, .inr (6, [.int th, .int (nI M.1), .ref m1, .ref m2, .int (nI bt), .ref m3, .int (nI ln), .ref m4, .ref m5, .int (nI cl), .ref m6, .ref m7, .ref m8, .ref m9, .ref m10, .ref m11, .ref m12, .int (nI pn), .ref m13, .ref m14])), (m1, .inl (D.2 0, 800, .inl M.2.1)), (m2, .inl (D.2 0, 200, .inl M.2.2)), (m3, .inl (D.2 0, 200, .inl qm))] H := hP
      have hD : va_D A [(m0, .inr (6, [.int th, .int (nI M.1), .ref m1, .ref m2, .int (nI bt), .ref m3, .int (nI ln), .ref m4, .ref m5, .int (nI cl), .ref m6, .ref m7, .ref m8, .ref m9, .ref m10, .ref m11, .ref m12, .int (nI pn), .ref m13, .ref m14])), (m1, .inl (D.2 0, 800, .inl M.2.1)), (m2, .inl (D.2 0, 200, .inl M.2.2)), (m3, .inl (D.2 0, 200, .inl qm))] := hD
      have f3 : (r3 = 1 ∧ ¬ p5 < 1 ∧ p5 ≤ 1000000000) ∨ (r3 = 0 ∧ ¬ (¬ p5 < 1 ∧ p5 ≤ 1000000000)) := z_li (a := 1) (b := 1000000000) (by decide) (by decide) w3
      refine lv_if_ne (tgt := 70) hx hb dX6_correct_63 (by decide) (fun c5 => ?_) (fun c5 => ?_)
      · skip
        have rg := z_b1 f3 c5
        refine lv_iconst (v := 0) hx hb dX6_correct_70 (by decide) ?_
        refine lv_aload_n hx hb dX6_correct_71 rfl (lv_at hl 1 rfl) ?_
        refine va_get (D := D.1) (ci := 6) (v := .int (nI M.1)) (C := "ShopLedgerModel") (T := TX6) (N := 20) hx hb hZ inX6 hown hK hP 0 rfl rfl 1 (by decide) (hZ _ t_277) (fun _ h9 => h9) rfl dX6_correct_72 ?_
        refine lv_iconst (v := 2) hx hb dX6_correct_75 (by decide) ?_
        refine lv_iadd hx hb dX6_correct_76 ?_
        rw [show ((nI M.1) + 2) = nI (M.1 + 2) from nI_add M.1 2]
        refine lv_sipush (v := 200) hx hb dX6_correct_77 (by decide) ?_
        refine lv_icmp_le (tgt := 87) hx hb dX6_correct_80 (by decide) (fun c6 => ?_) (fun c6 => ?_)
        · skip
          have me : nI (M.1 + 2) ≤ 200 := c6
          refine lv_iconst (v := 0) hx hb dX6_correct_87 (by decide) ?_
          have J := zJ.mk (wc := [(m0, .inr (6, [.int th, .int (nI M.1), .ref m1, .ref m2, .int (nI bt), .ref m3, .int (nI ln), .ref m4, .ref m5, .int (nI cl), .ref m6, .ref m7, .ref m8, .ref m9, .ref m10, .ref m11, .ref m12, .int (nI pn), .ref m13, .ref m14]))]) (wr := [(m1, .inl (D.2 0, 800, .inl M.2.1)), (m2, .inl (D.2 0, 200, .inl M.2.2)), (m3, .inl (D.2 0, 200, .inl qm))]) hA hB hK hP hD hS [0] [1, 2, 3] rfl rfl (by decide)
          refine z_goi (z_runV (As := [.int 0, .int 0, .int 0, .int 0]) (rest := []) (b := m0) hF (d_throwing D m0 m1 m2 m3 m4 m5 m6 m7 m8 m9 m10 m11 m12 m13 m14 (M.1, fun _ => 0, fun _ => 0) bt ln cl pn th 0 0 0 0 H.size) (cwV 4 hZ (z_gV t_286 t_287 t_288 t_272 t_285) rfl rfl rfl (by decide +kernel) ⟨Nat.le_of_ble_eq_true rfl, Nat.le_of_ble_eq_true rfl⟩) J 0 6 rfl rfl rfl rfl hl.1 (Nat.le_of_ble_eq_true rfl) dX6_correct_88 ⟨Nat.le_of_ble_eq_true rfl, Nat.le_of_ble_eq_true rfl⟩) J (fun r4 _ H locs w4 hP hD hS => ?_)
          have hP : va_P D.1 vwCl [(m1, .inl (D.2 0, 800, .inl M.2.1)), (m2, .inl (D.2 0, 200, .inl M.2.2)), (m3, .inl (D.2 0, 200, .inl qm)), (m0, .inr (6, [.int 0, .int (nI M.1), .ref m1, .ref m2, .int (nI bt), .ref m3, .int (nI ln), .ref m4, .ref m5, .int (nI cl), .ref m6, .ref m7, .ref m8, .ref m9, .ref m10, .ref m11, .ref m12, .int (nI pn), .ref m13, .ref m14]))] H := hP
          have hD : va_D A [(m1, .inl (D.2 0, 800, .inl M.2.1)), (m2, .inl (D.2 0, 200, .inl M.2.2)), (m3, .inl (D.2 0, 200, .inl qm)), (m0, .inr (6, [.int 0, .int (nI M.1), .ref m1, .ref m2, .int (nI bt), .ref m3, .int (nI ln), .ref m4, .ref m5, .int (nI cl), .ref m6, .ref m7, .ref m8, .ref m9, .ref m10, .ref m11, .ref m12, .int (nI pn), .ref m13, .ref m14]))] := hD
          have w4 : r4 = 0 := w4
          subst w4
          refine lv_if_eq (tgt := 96) hx hb dX6_correct_91 (by decide) (fun c7 => ?_) (fun c7 => ?_)
          · skip
            have hroom : M.1 + 2 ≤ 200 := (nI_leI (b := 200) (by omega) (by decide)).mp me
            refine lv_aload_n hx hb dX6_correct_96 rfl (lv_at hl 1 rfl) ?_
            refine lv_iload_n hx hb dX6_correct_97 rfl (lv_at hl 2 rfl) ?_
            refine lv_iload_n hx hb dX6_correct_98 rfl (lv_at hl 4 rfl) ?_
            refine lv_iload hx hb dX6_correct_99 (lv_at hl 5 rfl) ?_
            refine lv_iload hx hb dX6_correct_101 (lv_at hl 6 rfl) ?_
            refine lv_ineg hx hb dX6_correct_103 ?_
            have J := zJ.mk (wc := [(m0, .inr (6, [.int 0, .int (nI M.1), .ref m1, .ref m2, .int (nI bt), .ref m3, .int (nI ln), .ref m4, .ref m5, .int (nI cl), .ref m6, .ref m7, .ref m8, .ref m9, .ref m10, .ref m11, .ref m12, .int (nI pn), .ref m13, .ref m14])), (m1, .inl (D.2 0, 800, .inl M.2.1)), (m2, .inl (D.2 0, 200, .inl M.2.2))]) (wr := [(m3, .inl (D.2 0, 200, .inl qm))]) hA hB hK hP hD hS [3, 0, 1] [2] rfl rfl (by decide)
            refine z_gov (z_runV (As := [.int p1, .int p3, .int p4, .int (-p5)]) (rest := []) (b := m0) hF (d_enter D m0 m1 m2 m3 m4 m5 m6 m7 m8 m9 m10 m11 m12 m13 m14 M bt ln cl pn 0 p1 p3 p4 (-p5) H.size (by omega)) (cwV 4 hZ (z_gV t_305 t_306 t_307 t_272 t_304) rfl rfl rfl (by decide +kernel) ⟨Nat.le_of_ble_eq_true rfl, Nat.le_of_ble_eq_true rfl⟩) J 0 6 rfl rfl rfl rfl hl.1 (Nat.le_of_ble_eq_true rfl) dX6_correct_104 ⟨Nat.le_of_ble_eq_true rfl, Nat.le_of_ble_eq_true rfl⟩) J (fun _ H locs w5 hP hD hS => ?_)
            have hP : va_P D.1 vwCl [(m3, .inl (D.2 0, 200, .inl qm)), (m0, .inr (6, [.int 0, .int (nI (zm_enter M (nI bt) p1 p3 p4 (-p5)).1), .ref m1, .ref m2, .int (nI bt), .ref m3, .int (nI ln), .ref m4, .ref m5, .int (nI cl), .ref m6, .ref m7, .ref m8, .ref m9, .ref m10, .ref m11, .ref m12, .int (nI pn), .ref m13, .ref m14])), (m1, .inl (D.2 0, 800, .inl ((zm_enter M (nI bt) p1 p3 p4 (-p5)).2.1))), (m2, .inl (D.2 0, 200, .inl ((zm_enter M (nI bt) p1 p3 p4 (-p5)).2.2)))] H := hP
            have hD : va_D A [(m3, .inl (D.2 0, 200, .inl qm)), (m0, .inr (6, [.int 0, .int (nI (zm_enter M (nI bt) p1 p3 p4 (-p5)).1), .ref m1, .ref m2, .int (nI bt), .ref m3, .int (nI ln), .ref m4, .ref m5, .int (nI cl), .ref m6, .ref m7, .ref m8, .ref m9, .ref m10, .ref m11, .ref m12, .int (nI pn), .ref m13, .ref m14])), (m1, .inl (D.2 0, 800, .inl ((zm_enter M (nI bt) p1 p3 p4 (-p5)).2.1))), (m2, .inl (D.2 0, 200, .inl ((zm_enter M (nI bt) p1 p3 p4 (-p5)).2.2)))] := hD
            refine lv_aload_n hx hb dX6_correct_107 rfl (lv_at hl 1 rfl) ?_
            refine lv_iload_n hx hb dX6_correct_108 rfl (lv_at hl 3 rfl) ?_
            refine lv_iload_n hx hb dX6_correct_109 rfl (lv_at hl 4 rfl) ?_
            refine lv_iload hx hb dX6_correct_110 (lv_at hl 5 rfl) ?_
            refine lv_iload hx hb dX6_correct_112 (lv_at hl 6 rfl) ?_
            have J := zJ.mk (wc := [(m0, .inr (6, [.int 0, .int (nI (zm_enter M (nI bt) p1 p3 p4 (-p5)).1), .ref m1, .ref m2, .int (nI bt), .ref m3, .int (nI ln), .ref m4, .ref m5, .int (nI cl), .ref m6, .ref m7, .ref m8, .ref m9, .ref m10, .ref m11, .ref m12, .int (nI pn), .ref m13, .ref m14])), (m1, .inl (D.2 0, 800, .inl ((zm_enter M (nI bt) p1 p3 p4 (-p5)).2.1))), (m2, .inl (D.2 0, 200, .inl ((zm_enter M (nI bt) p1 p3 p4 (-p5)).2.2)))]) (wr := [(m3, .inl (D.2 0, 200, .inl qm))]) hA hB hK hP hD hS [1, 2, 3] [0] rfl rfl (by decide)
            refine z_gov (z_runV (As := [.int p2, .int p3, .int p4, .int p5]) (rest := []) (b := m0) hF (d_enter D m0 m1 m2 m3 m4 m5 m6 m7 m8 m9 m10 m11 m12 m13 m14 (zm_enter M (nI bt) p1 p3 p4 (-p5)) bt ln cl pn 0 p2 p3 p4 p5 H.size (by show M.1 + 1 < 200; omega)) (cwV 4 hZ (z_gV t_305 t_306 t_307 t_272 t_304) rfl rfl rfl (by decide +kernel) ⟨Nat.le_of_ble_eq_true rfl, Nat.le_of_ble_eq_true rfl⟩) J 0 6 rfl rfl rfl rfl hl.1 (Nat.le_of_ble_eq_true rfl) dX6_correct_114 ⟨Nat.le_of_ble_eq_true rfl, Nat.le_of_ble_eq_true rfl⟩) J (fun _ H locs w6 hP hD hS => ?_)
            have hP : va_P D.1 vwCl [(m3, .inl (D.2 0, 200, .inl qm)), (m0, .inr (6, [.int 0, .int (nI (zm_enter (zm_enter M (nI bt) p1 p3 p4 (-p5)) (nI bt) p2 p3 p4 p5).1), .ref m1, .ref m2, .int (nI bt), .ref m3, .int (nI ln), .ref m4, .ref m5, .int (nI cl), .ref m6, .ref m7, .ref m8, .ref m9, .ref m10, .ref m11, .ref m12, .int (nI pn), .ref m13, .ref m14])), (m1, .inl (D.2 0, 800, .inl ((zm_enter (zm_enter M (nI bt) p1 p3 p4 (-p5)) (nI bt) p2 p3 p4 p5).2.1))), (m2, .inl (D.2 0, 200, .inl ((zm_enter (zm_enter M (nI bt) p1 p3 p4 (-p5)) (nI bt) p2 p3 p4 p5).2.2)))] H := hP
            have hD : va_D A [(m3, .inl (D.2 0, 200, .inl qm)), (m0, .inr (6, [.int 0, .int (nI (zm_enter (zm_enter M (nI bt) p1 p3 p4 (-p5)) (nI bt) p2 p3 p4 p5).1), .ref m1, .ref m2, .int (nI bt), .ref m3, .int (nI ln), .ref m4, .ref m5, .int (nI cl), .ref m6, .ref m7, .ref m8, .ref m9, .ref m10, .ref m11, .ref m12, .int (nI pn), .ref m13, .ref m14])), (m1, .inl (D.2 0, 800, .inl ((zm_enter (zm_enter M (nI bt) p1 p3 p4 (-p5)) (nI bt) p2 p3 p4 p5).2.1))), (m2, .inl (D.2 0, 200, .inl ((zm_enter (zm_enter M (nI bt) p1 p3 p4 (-p5)) (nI bt) p2 p3 p4 p5).2.2)))] := hD
            refine lv_aload_n hx hb dX6_correct_117 rfl (lv_at hl 1 rfl) ?_
            refine lv_iconst (v := 0) hx hb dX6_correct_118 (by decide) ?_
            have J := zJ.mk (wc := [(m0, .inr (6, [.int 0, .int (nI (zm_enter (zm_enter M (nI bt) p1 p3 p4 (-p5)) (nI bt) p2 p3 p4 p5).1), .ref m1, .ref m2, .int (nI bt), .ref m3, .int (nI ln), .ref m4, .ref m5, .int (nI cl), .ref m6, .ref m7, .ref m8, .ref m9, .ref m10, .ref m11, .ref m12, .int (nI pn), .ref m13, .ref m14])), (m3, .inl (D.2 0, 200, .inl qm))]) (wr := [(m1, .inl (D.2 0, 800, .inl ((zm_enter (zm_enter M (nI bt) p1 p3 p4 (-p5)) (nI bt) p2 p3 p4 p5).2.1))), (m2, .inl (D.2 0, 200, .inl ((zm_enter (zm_enter M (nI bt) p1 p3 p4 (-p5)) (nI bt) p2 p3 p4 p5).2.2)))]) hA hB hK hP hD hS [1, 0] [2, 3] rfl rfl (by decide)
            refine z_goi (z_runV (As := [.int 0]) (rest := []) (b := m0) hF (d_end D m0 m1 m2 m3 m4 m5 m6 m7 m8 m9 m10 m11 m12 m13 m14 (zm_enter (zm_enter M (nI bt) p1 p3 p4 (-p5)) (nI bt) p2 p3 p4 p5) bt ln cl pn 0 qm 0 H.size (by omega)) (cwV 1 hZ (z_gV t_301 t_302 t_303 t_272 t_300) rfl rfl rfl (by decide +kernel) ⟨Nat.le_of_ble_eq_true rfl, Nat.le_of_ble_eq_true rfl⟩) J 0 6 rfl rfl rfl rfl hl.1 (Nat.le_of_ble_eq_true rfl) dX6_correct_119 ⟨Nat.le_of_ble_eq_true rfl, Nat.le_of_ble_eq_true rfl⟩) J (fun r7 _ H locs w7 hP hD hS => ?_)
            have hP : va_P D.1 vwCl [(m1, .inl (D.2 0, 800, .inl ((zm_enter (zm_enter M (nI bt) p1 p3 p4 (-p5)) (nI bt) p2 p3 p4 p5).2.1))), (m2, .inl (D.2 0, 200, .inl ((zm_enter (zm_enter M (nI bt) p1 p3 p4 (-p5)) (nI bt) p2 p3 p4 p5).2.2))), (m0, .inr (6, [.int 0, .int (nI (zm_enter (zm_enter M (nI bt) p1 p3 p4 (-p5)) (nI bt) p2 p3 p4 p5).1), .ref m1, .ref m2, .int (nI (bt + 1)), .ref m3, .int (nI ln), .ref m4, .ref m5, .int (nI cl), .ref m6, .ref m7, .ref m8, .ref m9, .ref m10, .ref m11, .ref m12, .int (nI pn), .ref m13, .ref m14])), (m3, .inl (D.2 0, 200, .inl (upd qm bt 0)))] H := hP
            have hD : va_D A [(m1, .inl (D.2 0, 800, .inl ((zm_enter (zm_enter M (nI bt) p1 p3 p4 (-p5)) (nI bt) p2 p3 p4 p5).2.1))), (m2, .inl (D.2 0, 200, .inl ((zm_enter (zm_enter M (nI bt) p1 p3 p4 (-p5)) (nI bt) p2 p3 p4 p5).2.2))), (m0, .inr (6, [.int 0, .int (nI (zm_enter (zm_enter M (nI bt) p1 p3 p4 (-p5)) (nI bt) p2 p3 p4 p5).1), .ref m1, .ref m2, .int (nI (bt + 1)), .ref m3, .int (nI ln), .ref m4, .ref m5, .int (nI cl), .ref m6, .ref m7, .ref m8, .ref m9, .ref m10, .ref m11, .ref m12, .int (nI pn), .ref m13, .ref m14])), (m3, .inl (D.2 0, 200, .inl (upd qm bt 0)))] := hD
            subst w7
            exact z_iret (v := nI bt) hx hb hr hlocks hP hD hS none (Or.inl ⟨rfl, ix, tu, rg, me, rfl⟩) [2, 0, 1, 3] rfl (by decide) (Nat.le_of_ble_eq_true rfl) (Nat.le_of_ble_eq_true rfl) dX6_correct_122
          exfalso; exact absurd c7 (by decide)
        have me : ¬ (nI (M.1 + 2) ≤ 200) := c6
        refine lv_iconst (v := 1) hx hb dX6_correct_83 (by decide) ?_
        refine lv_goto (tgt := 88) hx hb dX6_correct_84 (by decide) ?_
        have J := zJ.mk (wc := [(m0, .inr (6, [.int th, .int (nI M.1), .ref m1, .ref m2, .int (nI bt), .ref m3, .int (nI ln), .ref m4, .ref m5, .int (nI cl), .ref m6, .ref m7, .ref m8, .ref m9, .ref m10, .ref m11, .ref m12, .int (nI pn), .ref m13, .ref m14]))]) (wr := [(m1, .inl (D.2 0, 800, .inl M.2.1)), (m2, .inl (D.2 0, 200, .inl M.2.2)), (m3, .inl (D.2 0, 200, .inl qm))]) hA hB hK hP hD hS [0] [1, 2, 3] rfl rfl (by decide)
        refine z_goi (z_runV (As := [.int 0, .int 0, .int 0, .int 1]) (rest := []) (b := m0) hF (d_throwing D m0 m1 m2 m3 m4 m5 m6 m7 m8 m9 m10 m11 m12 m13 m14 (M.1, fun _ => 0, fun _ => 0) bt ln cl pn th 0 0 0 1 H.size) (cwV 4 hZ (z_gV t_286 t_287 t_288 t_272 t_285) rfl rfl rfl (by decide +kernel) ⟨Nat.le_of_ble_eq_true rfl, Nat.le_of_ble_eq_true rfl⟩) J 0 6 rfl rfl rfl rfl hl.1 (Nat.le_of_ble_eq_true rfl) dX6_correct_88 ⟨Nat.le_of_ble_eq_true rfl, Nat.le_of_ble_eq_true rfl⟩) J (fun r4 _ H locs w4 hP hD hS => ?_)
        have hP : va_P D.1 vwCl [(m1, .inl (D.2 0, 800, .inl M.2.1)), (m2, .inl (D.2 0, 200, .inl M.2.2)), (m3, .inl (D.2 0, 200, .inl qm)), (m0, .inr (6, [.int 4, .int (nI M.1), .ref m1, .ref m2, .int (nI bt), .ref m3, .int (nI ln), .ref m4, .ref m5, .int (nI cl), .ref m6, .ref m7, .ref m8, .ref m9, .ref m10, .ref m11, .ref m12, .int (nI pn), .ref m13, .ref m14]))] H := hP
        have hD : va_D A [(m1, .inl (D.2 0, 800, .inl M.2.1)), (m2, .inl (D.2 0, 200, .inl M.2.2)), (m3, .inl (D.2 0, 200, .inl qm)), (m0, .inr (6, [.int 4, .int (nI M.1), .ref m1, .ref m2, .int (nI bt), .ref m3, .int (nI ln), .ref m4, .ref m5, .int (nI cl), .ref m6, .ref m7, .ref m8, .ref m9, .ref m10, .ref m11, .ref m12, .int (nI pn), .ref m13, .ref m14]))] := hD
        have w4 : r4 = 1 := w4
        subst w4
        refine lv_if_eq (tgt := 96) hx hb dX6_correct_91 (by decide) (fun c7 => ?_) (fun c7 => ?_)
        · skip
          exfalso; exact absurd c7 (by decide)
        refine lv_iconst (v := 0) hx hb dX6_correct_94 (by decide) ?_
        exact z_iret (v := 0) hx hb hr hlocks hP hD hS (some 4) (Or.inr (Or.inr (Or.inr (Or.inr (⟨rfl, ix, tu, rg, me⟩))))) [3, 0, 1, 2] rfl (by decide) (Nat.le_of_ble_eq_true rfl) (Nat.le_of_ble_eq_true rfl) dX6_correct_95
      have rg := z_b0 f3 c5
      refine lv_iconst (v := 1) hx hb dX6_correct_66 (by decide) ?_
      refine lv_goto (tgt := 71) hx hb dX6_correct_67 (by decide) ?_
      refine lv_aload_n hx hb dX6_correct_71 rfl (lv_at hl 1 rfl) ?_
      refine va_get (D := D.1) (ci := 6) (v := .int (nI M.1)) (C := "ShopLedgerModel") (T := TX6) (N := 20) hx hb hZ inX6 hown hK hP 0 rfl rfl 1 (by decide) (hZ _ t_277) (fun _ h9 => h9) rfl dX6_correct_72 ?_
      refine lv_iconst (v := 2) hx hb dX6_correct_75 (by decide) ?_
      refine lv_iadd hx hb dX6_correct_76 ?_
      rw [show ((nI M.1) + 2) = nI (M.1 + 2) from nI_add M.1 2]
      refine lv_sipush (v := 200) hx hb dX6_correct_77 (by decide) ?_
      refine lv_icmp_le (tgt := 87) hx hb dX6_correct_80 (by decide) (fun c6 => ?_) (fun c6 => ?_)
      · skip
        have me : nI (M.1 + 2) ≤ 200 := c6
        refine lv_iconst (v := 0) hx hb dX6_correct_87 (by decide) ?_
        have J := zJ.mk (wc := [(m0, .inr (6, [.int th, .int (nI M.1), .ref m1, .ref m2, .int (nI bt), .ref m3, .int (nI ln), .ref m4, .ref m5, .int (nI cl), .ref m6, .ref m7, .ref m8, .ref m9, .ref m10, .ref m11, .ref m12, .int (nI pn), .ref m13, .ref m14]))]) (wr := [(m1, .inl (D.2 0, 800, .inl M.2.1)), (m2, .inl (D.2 0, 200, .inl M.2.2)), (m3, .inl (D.2 0, 200, .inl qm))]) hA hB hK hP hD hS [0] [1, 2, 3] rfl rfl (by decide)
        refine z_goi (z_runV (As := [.int 0, .int 0, .int 1, .int 0]) (rest := []) (b := m0) hF (d_throwing D m0 m1 m2 m3 m4 m5 m6 m7 m8 m9 m10 m11 m12 m13 m14 (M.1, fun _ => 0, fun _ => 0) bt ln cl pn th 0 0 1 0 H.size) (cwV 4 hZ (z_gV t_286 t_287 t_288 t_272 t_285) rfl rfl rfl (by decide +kernel) ⟨Nat.le_of_ble_eq_true rfl, Nat.le_of_ble_eq_true rfl⟩) J 0 6 rfl rfl rfl rfl hl.1 (Nat.le_of_ble_eq_true rfl) dX6_correct_88 ⟨Nat.le_of_ble_eq_true rfl, Nat.le_of_ble_eq_true rfl⟩) J (fun r4 _ H locs w4 hP hD hS => ?_)
        have hP : va_P D.1 vwCl [(m1, .inl (D.2 0, 800, .inl M.2.1)), (m2, .inl (D.2 0, 200, .inl M.2.2)), (m3, .inl (D.2 0, 200, .inl qm)), (m0, .inr (6, [.int 3, .int (nI M.1), .ref m1, .ref m2, .int (nI bt), .ref m3, .int (nI ln), .ref m4, .ref m5, .int (nI cl), .ref m6, .ref m7, .ref m8, .ref m9, .ref m10, .ref m11, .ref m12, .int (nI pn), .ref m13, .ref m14]))] H := hP
        have hD : va_D A [(m1, .inl (D.2 0, 800, .inl M.2.1)), (m2, .inl (D.2 0, 200, .inl M.2.2)), (m3, .inl (D.2 0, 200, .inl qm)), (m0, .inr (6, [.int 3, .int (nI M.1), .ref m1, .ref m2, .int (nI bt), .ref m3, .int (nI ln), .ref m4, .ref m5, .int (nI cl), .ref m6, .ref m7, .ref m8, .ref m9, .ref m10, .ref m11, .ref m12, .int (nI pn), .ref m13, .ref m14]))] := hD
        have w4 : r4 = 1 := w4
        subst w4
        refine lv_if_eq (tgt := 96) hx hb dX6_correct_91 (by decide) (fun c7 => ?_) (fun c7 => ?_)
        · skip
          exfalso; exact absurd c7 (by decide)
        refine lv_iconst (v := 0) hx hb dX6_correct_94 (by decide) ?_
        exact z_iret (v := 0) hx hb hr hlocks hP hD hS (some 3) (Or.inr (Or.inr (Or.inr (Or.inl ⟨rfl, ix, tu, rg⟩)))) [3, 0, 1, 2] rfl (by decide) (Nat.le_of_ble_eq_true rfl) (Nat.le_of_ble_eq_true rfl) dX6_correct_95
      have me : ¬ (nI (M.1 + 2) ≤ 200) := c6
      refine lv_iconst (v := 1) hx hb dX6_correct_83 (by decide) ?_
      refine lv_goto (tgt := 88) hx hb dX6_correct_84 (by decide) ?_
      have J := zJ.mk (wc := [(m0, .inr (6, [.int th, .int (nI M.1), .ref m1, .ref m2, .int (nI bt), .ref m3, .int (nI ln), .ref m4, .ref m5, .int (nI cl), .ref m6, .ref m7, .ref m8, .ref m9, .ref m10, .ref m11, .ref m12, .int (nI pn), .ref m13, .ref m14]))]) (wr := [(m1, .inl (D.2 0, 800, .inl M.2.1)), (m2, .inl (D.2 0, 200, .inl M.2.2)), (m3, .inl (D.2 0, 200, .inl qm))]) hA hB hK hP hD hS [0] [1, 2, 3] rfl rfl (by decide)
      refine z_goi (z_runV (As := [.int 0, .int 0, .int 1, .int 1]) (rest := []) (b := m0) hF (d_throwing D m0 m1 m2 m3 m4 m5 m6 m7 m8 m9 m10 m11 m12 m13 m14 (M.1, fun _ => 0, fun _ => 0) bt ln cl pn th 0 0 1 1 H.size) (cwV 4 hZ (z_gV t_286 t_287 t_288 t_272 t_285) rfl rfl rfl (by decide +kernel) ⟨Nat.le_of_ble_eq_true rfl, Nat.le_of_ble_eq_true rfl⟩) J 0 6 rfl rfl rfl rfl hl.1 (Nat.le_of_ble_eq_true rfl) dX6_correct_88 ⟨Nat.le_of_ble_eq_true rfl, Nat.le_of_ble_eq_true rfl⟩) J (fun r4 _ H locs w4 hP hD hS => ?_)
      have hP : va_P D.1 vwCl [(m1, .inl (D.2 0, 800, .inl M.2.1)), (m2, .inl (D.2 0, 200, .inl M.2.2)), (m3, .inl (D.2 0, 200, .inl qm)), (m0, .inr (6, [.int 3, .int (nI M.1), .ref m1, .ref m2, .int (nI bt), .ref m3, .int (nI ln), .ref m4, .ref m5, .int (nI cl), .ref m6, .ref m7, .ref m8, .ref m9, .ref m10, .ref m11, .ref m12, .int (nI pn), .ref m13, .ref m14]))] H := hP
      have hD : va_D A [(m1, .inl (D.2 0, 800, .inl M.2.1)), (m2, .inl (D.2 0, 200, .inl M.2.2)), (m3, .inl (D.2 0, 200, .inl qm)), (m0, .inr (6, [.int 3, .int (nI M.1), .ref m1, .ref m2, .int (nI bt), .ref m3, .int (nI ln), .ref m4, .ref m5, .int (nI cl), .ref m6, .ref m7, .ref m8, .ref m9, .ref m10, .ref m11, .ref m12, .int (nI pn), .ref m13, .ref m14]))] := hD
      have w4 : r4 = 1 := w4
      subst w4
      refine lv_if_eq (tgt := 96) hx hb dX6_correct_91 (by decide) (fun c7 => ?_) (fun c7 => ?_)
      · skip
        exfalso; exact absurd c7 (by decide)
      refine lv_iconst (v := 0) hx hb dX6_correct_94 (by decide) ?_
      exact z_iret (v := 0) hx hb hr hlocks hP hD hS (some 3) (Or.inr (Or.inr (Or.inr (Or.inl ⟨rfl, ix, tu, rg⟩)))) [3, 0, 1, 2] rfl (by decide) (Nat.le_of_ble_eq_true rfl) (Nat.le_of_ble_eq_true rfl) dX6_correct_95
    have tu : ¬ (¬ p4 < nI cl - 1) := fun h => h (Int32.not_le.mp c4)
    refine lv_iconst (v := 1) hx hb dX6_correct_48 (by decide) ?_
    refine lv_goto (tgt := 53) hx hb dX6_correct_49 (by decide) ?_
    refine lv_iload hx hb dX6_correct_53 (lv_at hl 6 rfl) ?_
    refine lv_i2l (v := p5.toInt64) hx hb dX6_correct_55 rfl ?_
    refine lv_lconst (v := 1) hx hb dX6_correct_56 (by decide) ?_
    refine lv_ldc2 (v := 1000000000) hx hb hown (hZ _ t_290) dX6_correct_57 ?_
    have J := zJ.mk (wc := []) (wr := [(m0, .inr (6, [.int th, .int (nI M.1), .ref m1, .ref m2, .int (nI bt), .ref m3, .int (nI ln), .ref m4, .ref m5, .int (nI cl), .ref m6, .ref m7, .ref m8, .ref m9, .ref m10, .ref m11, .ref m12, .int (nI pn), .ref m13, .ref m14])), (m1, .inl (D.2 0, 800, .inl M.2.1)), (m2, .inl (D.2 0, 200, .inl M.2.2)), (m3, .inl (D.2 0, 200, .inl qm))]) hA hB hK hP hD hS [] [0, 1, 2, 3] rfl rfl (by decide)
    refine z_goi (z_runS (As := [.long p5.toInt64, .long 1, .long 1000000000]) (rest := [.int 1, .int 0, .ref m0]) hF (d_lies D p5.toInt64 1 1000000000 H.size) (va_cwS 3 hZ (z_gS t_273 t_274 t_272 t_271) rfl rfl rfl (by decide +kernel) ⟨Nat.le_of_ble_eq_true rfl, Nat.le_of_ble_eq_true rfl⟩) J rfl hl.1 (Nat.le_of_ble_eq_true rfl) dX6_correct_60 ⟨Nat.le_of_ble_eq_true rfl, Nat.le_of_ble_eq_true rfl⟩) J (fun r3 _ H locs w3 hP hD hS => ?_)
    have hP : va_P D.1 vwCl [(m0, .inr (6, [.int th, .int (nI M.1), .ref m1, .ref m2, .int (nI bt), .ref m3, .int (nI ln), .ref m4, .ref m5, .int (nI cl), .ref m6, .ref m7, .ref m8, .ref m9, .ref m10, .ref m11, .ref m12, .int (nI pn), .ref m13, .ref m14])), (m1, .inl (D.2 0, 800, .inl M.2.1)), (m2, .inl (D.2 0, 200, .inl M.2.2)), (m3, .inl (D.2 0, 200, .inl qm))] H := hP
    have hD : va_D A [(m0, .inr (6, [.int th, .int (nI M.1), .ref m1, .ref m2, .int (nI bt), .ref m3, .int (nI ln), .ref m4, .ref m5, .int (nI cl), .ref m6, .ref m7, .ref m8, .ref m9, .ref m10, .ref m11, .ref m12, .int (nI pn), .ref m13, .ref m14])), (m1, .inl (D.2 0, 800, .inl M.2.1)), (m2, .inl (D.2 0, 200, .inl M.2.2)), (m3, .inl (D.2 0, 200, .inl qm))] := hD
    have f3 : (r3 = 1 ∧ ¬ p5 < 1 ∧ p5 ≤ 1000000000) ∨ (r3 = 0 ∧ ¬ (¬ p5 < 1 ∧ p5 ≤ 1000000000)) := z_li (a := 1) (b := 1000000000) (by decide) (by decide) w3
    refine lv_if_ne (tgt := 70) hx hb dX6_correct_63 (by decide) (fun c5 => ?_) (fun c5 => ?_)
    · skip
      have rg := z_b1 f3 c5
      refine lv_iconst (v := 0) hx hb dX6_correct_70 (by decide) ?_
      refine lv_aload_n hx hb dX6_correct_71 rfl (lv_at hl 1 rfl) ?_
      refine va_get (D := D.1) (ci := 6) (v := .int (nI M.1)) (C := "ShopLedgerModel") (T := TX6) (N := 20) hx hb hZ inX6 hown hK hP 0 rfl rfl 1 (by decide) (hZ _ t_277) (fun _ h9 => h9) rfl dX6_correct_72 ?_
      refine lv_iconst (v := 2) hx hb dX6_correct_75 (by decide) ?_
      refine lv_iadd hx hb dX6_correct_76 ?_
      rw [show ((nI M.1) + 2) = nI (M.1 + 2) from nI_add M.1 2]
      refine lv_sipush (v := 200) hx hb dX6_correct_77 (by decide) ?_
      refine lv_icmp_le (tgt := 87) hx hb dX6_correct_80 (by decide) (fun c6 => ?_) (fun c6 => ?_)
      · skip
        have me : nI (M.1 + 2) ≤ 200 := c6
        refine lv_iconst (v := 0) hx hb dX6_correct_87 (by decide) ?_
        have J := zJ.mk (wc := [(m0, .inr (6, [.int th, .int (nI M.1), .ref m1, .ref m2, .int (nI bt), .ref m3, .int (nI ln), .ref m4, .ref m5, .int (nI cl), .ref m6, .ref m7, .ref m8, .ref m9, .ref m10, .ref m11, .ref m12, .int (nI pn), .ref m13, .ref m14]))]) (wr := [(m1, .inl (D.2 0, 800, .inl M.2.1)), (m2, .inl (D.2 0, 200, .inl M.2.2)), (m3, .inl (D.2 0, 200, .inl qm))]) hA hB hK hP hD hS [0] [1, 2, 3] rfl rfl (by decide)
        refine z_goi (z_runV (As := [.int 0, .int 1, .int 0, .int 0]) (rest := []) (b := m0) hF (d_throwing D m0 m1 m2 m3 m4 m5 m6 m7 m8 m9 m10 m11 m12 m13 m14 (M.1, fun _ => 0, fun _ => 0) bt ln cl pn th 0 1 0 0 H.size) (cwV 4 hZ (z_gV t_286 t_287 t_288 t_272 t_285) rfl rfl rfl (by decide +kernel) ⟨Nat.le_of_ble_eq_true rfl, Nat.le_of_ble_eq_true rfl⟩) J 0 6 rfl rfl rfl rfl hl.1 (Nat.le_of_ble_eq_true rfl) dX6_correct_88 ⟨Nat.le_of_ble_eq_true rfl, Nat.le_of_ble_eq_true rfl⟩) J (fun r4 _ H locs w4 hP hD hS => ?_)
        have hP : va_P D.1 vwCl [(m1, .inl (D.2 0, 800, .inl M.2.1)), (m2, .inl (D.2 0, 200, .inl M.2.2)), (m3, .inl (D.2 0, 200, .inl qm)), (m0, .inr (6, [.int 2, .int (nI M.1), .ref m1, .ref m2, .int (nI bt), .ref m3, .int (nI ln), .ref m4, .ref m5, .int (nI cl), .ref m6, .ref m7, .ref m8, .ref m9, .ref m10, .ref m11, .ref m12, .int (nI pn), .ref m13, .ref m14]))] H := hP
        have hD : va_D A [(m1, .inl (D.2 0, 800, .inl M.2.1)), (m2, .inl (D.2 0, 200, .inl M.2.2)), (m3, .inl (D.2 0, 200, .inl qm)), (m0, .inr (6, [.int 2, .int (nI M.1), .ref m1, .ref m2, .int (nI bt), .ref m3, .int (nI ln), .ref m4, .ref m5, .int (nI cl), .ref m6, .ref m7, .ref m8, .ref m9, .ref m10, .ref m11, .ref m12, .int (nI pn), .ref m13, .ref m14]))] := hD
        have w4 : r4 = 1 := w4
        subst w4
        refine lv_if_eq (tgt := 96) hx hb dX6_correct_91 (by decide) (fun c7 => ?_) (fun c7 => ?_)
        · skip
          exfalso; exact absurd c7 (by decide)
        refine lv_iconst (v := 0) hx hb dX6_correct_94 (by decide) ?_
        exact z_iret (v := 0) hx hb hr hlocks hP hD hS (some 2) (Or.inr (Or.inr (Or.inl ⟨rfl, ix, tu⟩))) [3, 0, 1, 2] rfl (by decide) (Nat.le_of_ble_eq_true rfl) (Nat.le_of_ble_eq_true rfl) dX6_correct_95
      have me : ¬ (nI (M.1 + 2) ≤ 200) := c6
      refine lv_iconst (v := 1) hx hb dX6_correct_83 (by decide) ?_
      refine lv_goto (tgt := 88) hx hb dX6_correct_84 (by decide) ?_
      have J := zJ.mk (wc := [(m0, .inr (6, [.int th, .int (nI M.1), .ref m1, .ref m2, .int (nI bt), .ref m3, .int (nI ln), .ref m4, .ref m5, .int (nI cl), .ref m6, .ref m7, .ref m8, .ref m9, .ref m10, .ref m11, .ref m12, .int (nI pn), .ref m13, .ref m14]))]) (wr := [(m1, .inl (D.2 0, 800, .inl M.2.1)), (m2, .inl (D.2 0, 200, .inl M.2.2)), (m3, .inl (D.2 0, 200, .inl qm))]) hA hB hK hP hD hS [0] [1, 2, 3] rfl rfl (by decide)
      refine z_goi (z_runV (As := [.int 0, .int 1, .int 0, .int 1]) (rest := []) (b := m0) hF (d_throwing D m0 m1 m2 m3 m4 m5 m6 m7 m8 m9 m10 m11 m12 m13 m14 (M.1, fun _ => 0, fun _ => 0) bt ln cl pn th 0 1 0 1 H.size) (cwV 4 hZ (z_gV t_286 t_287 t_288 t_272 t_285) rfl rfl rfl (by decide +kernel) ⟨Nat.le_of_ble_eq_true rfl, Nat.le_of_ble_eq_true rfl⟩) J 0 6 rfl rfl rfl rfl hl.1 (Nat.le_of_ble_eq_true rfl) dX6_correct_88 ⟨Nat.le_of_ble_eq_true rfl, Nat.le_of_ble_eq_true rfl⟩) J (fun r4 _ H locs w4 hP hD hS => ?_)
      have hP : va_P D.1 vwCl [(m1, .inl (D.2 0, 800, .inl M.2.1)), (m2, .inl (D.2 0, 200, .inl M.2.2)), (m3, .inl (D.2 0, 200, .inl qm)), (m0, .inr (6, [.int 2, .int (nI M.1), .ref m1, .ref m2, .int (nI bt), .ref m3, .int (nI ln), .ref m4, .ref m5, .int (nI cl), .ref m6, .ref m7, .ref m8, .ref m9, .ref m10, .ref m11, .ref m12, .int (nI pn), .ref m13, .ref m14]))] H := hP
      have hD : va_D A [(m1, .inl (D.2 0, 800, .inl M.2.1)), (m2, .inl (D.2 0, 200, .inl M.2.2)), (m3, .inl (D.2 0, 200, .inl qm)), (m0, .inr (6, [.int 2, .int (nI M.1), .ref m1, .ref m2, .int (nI bt), .ref m3, .int (nI ln), .ref m4, .ref m5, .int (nI cl), .ref m6, .ref m7, .ref m8, .ref m9, .ref m10, .ref m11, .ref m12, .int (nI pn), .ref m13, .ref m14]))] := hD
      have w4 : r4 = 1 := w4
      subst w4
      refine lv_if_eq (tgt := 96) hx hb dX6_correct_91 (by decide) (fun c7 => ?_) (fun c7 => ?_)
      · skip
        exfalso; exact absurd c7 (by decide)
      refine lv_iconst (v := 0) hx hb dX6_correct_94 (by decide) ?_
      exact z_iret (v := 0) hx hb hr hlocks hP hD hS (some 2) (Or.inr (Or.inr (Or.inl ⟨rfl, ix, tu⟩))) [3, 0, 1, 2] rfl (by decide) (Nat.le_of_ble_eq_true rfl) (Nat.le_of_ble_eq_true rfl) dX6_correct_95
    have rg := z_b0 f3 c5
    refine lv_iconst (v := 1) hx hb dX6_correct_66 (by decide) ?_
    refine lv_goto (tgt := 71) hx hb dX6_correct_67 (by decide) ?_
    refine lv_aload_n hx hb dX6_correct_71 rfl (lv_at hl 1 rfl) ?_
    refine va_get (D := D.1) (ci := 6) (v := .int (nI M.1)) (C := "ShopLedgerModel") (T := TX6) (N := 20) hx hb hZ inX6 hown hK hP 0 rfl rfl 1 (by decide) (hZ _ t_277) (fun _ h9 => h9) rfl dX6_correct_72 ?_
    refine lv_iconst (v := 2) hx hb dX6_correct_75 (by decide) ?_
    refine lv_iadd hx hb dX6_correct_76 ?_
    rw [show ((nI M.1) + 2) = nI (M.1 + 2) from nI_add M.1 2]
    refine lv_sipush (v := 200) hx hb dX6_correct_77 (by decide) ?_
    refine lv_icmp_le (tgt := 87) hx hb dX6_correct_80 (by decide) (fun c6 => ?_) (fun c6 => ?_)
    · skip
      have me : nI (M.1 + 2) ≤ 200 := c6
      refine lv_iconst (v := 0) hx hb dX6_correct_87 (by decide) ?_
      have J := zJ.mk (wc := [(m0, .inr (6, [.int th, .int (nI M.1), .ref m1, .ref m2, .int (nI bt), .ref m3, .int (nI ln), .ref m4, .ref m5, .int (nI cl), .ref m6, .ref m7, .ref m8, .ref m9, .ref m10, .ref m11, .ref m12, .int (nI pn), .ref m13, .ref m14]))]) (wr := [(m1, .inl (D.2 0, 800, .inl M.2.1)), (m2, .inl (D.2 0, 200, .inl M.2.2)), (m3, .inl (D.2 0, 200, .inl qm))]) hA hB hK hP hD hS [0] [1, 2, 3] rfl rfl (by decide)
      refine z_goi (z_runV (As := [.int 0, .int 1, .int 1, .int 0]) (rest := []) (b := m0) hF (d_throwing D m0 m1 m2 m3 m4 m5 m6 m7 m8 m9 m10 m11 m12 m13 m14 (M.1, fun _ => 0, fun _ => 0) bt ln cl pn th 0 1 1 0 H.size) (cwV 4 hZ (z_gV t_286 t_287 t_288 t_272 t_285) rfl rfl rfl (by decide +kernel) ⟨Nat.le_of_ble_eq_true rfl, Nat.le_of_ble_eq_true rfl⟩) J 0 6 rfl rfl rfl rfl hl.1 (Nat.le_of_ble_eq_true rfl) dX6_correct_88 ⟨Nat.le_of_ble_eq_true rfl, Nat.le_of_ble_eq_true rfl⟩) J (fun r4 _ H locs w4 hP hD hS => ?_)
      have hP : va_P D.1 vwCl [(m1, .inl (D.2 0, 800, .inl M.2.1)), (m2, .inl (D.2 0, 200, .inl M.2.2)), (m3, .inl (D.2 0, 200, .inl qm)), (m0, .inr (6, [.int 2, .int (nI M.1), .ref m1, .ref m2, .int (nI bt), .ref m3, .int (nI ln), .ref m4, .ref m5, .int (nI cl), .ref m6, .ref m7, .ref m8, .ref m9, .ref m10, .ref m11, .ref m12, .int (nI pn), .ref m13, .ref m14]))] H := hP
      have hD : va_D A [(m1, .inl (D.2 0, 800, .inl M.2.1)), (m2, .inl (D.2 0, 200, .inl M.2.2)), (m3, .inl (D.2 0, 200, .inl qm)), (m0, .inr (6, [.int 2, .int (nI M.1), .ref m1, .ref m2, .int (nI bt), .ref m3, .int (nI ln), .ref m4, .ref m5, .int (nI cl), .ref m6, .ref m7, .ref m8, .ref m9, .ref m10, .ref m11, .ref m12, .int (nI pn), .ref m13, .ref m14]))] := hD
      have w4 : r4 = 1 := w4
      subst w4
      refine lv_if_eq (tgt := 96) hx hb dX6_correct_91 (by decide) (fun c7 => ?_) (fun c7 => ?_)
      · skip
        exfalso; exact absurd c7 (by decide)
      refine lv_iconst (v := 0) hx hb dX6_correct_94 (by decide) ?_
      exact z_iret (v := 0) hx hb hr hlocks hP hD hS (some 2) (Or.inr (Or.inr (Or.inl ⟨rfl, ix, tu⟩))) [3, 0, 1, 2] rfl (by decide) (Nat.le_of_ble_eq_true rfl) (Nat.le_of_ble_eq_true rfl) dX6_correct_95
    have me : ¬ (nI (M.1 + 2) ≤ 200) := c6
    refine lv_iconst (v := 1) hx hb dX6_correct_83 (by decide) ?_
    refine lv_goto (tgt := 88) hx hb dX6_correct_84 (by decide) ?_
    have J := zJ.mk (wc := [(m0, .inr (6, [.int th, .int (nI M.1), .ref m1, .ref m2, .int (nI bt), .ref m3, .int (nI ln), .ref m4, .ref m5, .int (nI cl), .ref m6, .ref m7, .ref m8, .ref m9, .ref m10, .ref m11, .ref m12, .int (nI pn), .ref m13, .ref m14]))]) (wr := [(m1, .inl (D.2 0, 800, .inl M.2.1)), (m2, .inl (D.2 0, 200, .inl M.2.2)), (m3, .inl (D.2 0, 200, .inl qm))]) hA hB hK hP hD hS [0] [1, 2, 3] rfl rfl (by decide)
    refine z_goi (z_runV (As := [.int 0, .int 1, .int 1, .int 1]) (rest := []) (b := m0) hF (d_throwing D m0 m1 m2 m3 m4 m5 m6 m7 m8 m9 m10 m11 m12 m13 m14 (M.1, fun _ => 0, fun _ => 0) bt ln cl pn th 0 1 1 1 H.size) (cwV 4 hZ (z_gV t_286 t_287 t_288 t_272 t_285) rfl rfl rfl (by decide +kernel) ⟨Nat.le_of_ble_eq_true rfl, Nat.le_of_ble_eq_true rfl⟩) J 0 6 rfl rfl rfl rfl hl.1 (Nat.le_of_ble_eq_true rfl) dX6_correct_88 ⟨Nat.le_of_ble_eq_true rfl, Nat.le_of_ble_eq_true rfl⟩) J (fun r4 _ H locs w4 hP hD hS => ?_)
    have hP : va_P D.1 vwCl [(m1, .inl (D.2 0, 800, .inl M.2.1)), (m2, .inl (D.2 0, 200, .inl M.2.2)), (m3, .inl (D.2 0, 200, .inl qm)), (m0, .inr (6, [.int 2, .int (nI M.1), .ref m1, .ref m2, .int (nI bt), .ref m3, .int (nI ln), .ref m4, .ref m5, .int (nI cl), .ref m6, .ref m7, .ref m8, .ref m9, .ref m10, .ref m11, .ref m12, .int (nI pn), .ref m13, .ref m14]))] H := hP
    have hD : va_D A [(m1, .inl (D.2 0, 800, .inl M.2.1)), (m2, .inl (D.2 0, 200, .inl M.2.2)), (m3, .inl (D.2 0, 200, .inl qm)), (m0, .inr (6, [.int 2, .int (nI M.1), .ref m1, .ref m2, .int (nI bt), .ref m3, .int (nI ln), .ref m4, .ref m5, .int (nI cl), .ref m6, .ref m7, .ref m8, .ref m9, .ref m10, .ref m11, .ref m12, .int (nI pn), .ref m13, .ref m14]))] := hD
    have w4 : r4 = 1 := w4
    subst w4
    refine lv_if_eq (tgt := 96) hx hb dX6_correct_91 (by decide) (fun c7 => ?_) (fun c7 => ?_)
    · skip
      exfalso; exact absurd c7 (by decide)
    refine lv_iconst (v := 0) hx hb dX6_correct_94 (by decide) ?_
    exact z_iret (v := 0) hx hb hr hlocks hP hD hS (some 2) (Or.inr (Or.inr (Or.inl ⟨rfl, ix, tu⟩))) [3, 0, 1, 2] rfl (by decide) (Nat.le_of_ble_eq_true rfl) (Nat.le_of_ble_eq_true rfl) dX6_correct_95
  have ix : ¬ ((zin p1 8 ∧ zin p3 8 ∧ zin p4 12) ∧ zin p2 8 ∧ ¬ p1 = p2) := fun h => h.2.2 c3
  refine lv_iconst (v := 1) hx hb dX6_correct_27 (by decide) ?_
  refine lv_goto (tgt := 32) hx hb dX6_correct_28 (by decide) ?_
  refine lv_istore (lv' := [(6, .int 1), (0, .ref m0), (1, .int p1), (2, .int p2), (3, .int p3), (4, .int p4), (5, .int p5)]) hx hb dX6_correct_32 hl (by decide) rfl (fun ls hl => ?_)
  refine lv_aload_n hx hb dX6_correct_34 rfl (lv_at hl 1 rfl) ?_
  refine lv_iload hx hb dX6_correct_35 (lv_at hl 0 rfl) ?_
  refine lv_iload hx hb dX6_correct_37 (lv_at hl 5 rfl) ?_
  refine lv_aload_n hx hb dX6_correct_39 rfl (lv_at hl 1 rfl) ?_
  refine va_get (D := D.1) (ci := 6) (v := .int (nI cl)) (C := "ShopLedgerModel") (T := TX6) (N := 20) hx hb hZ inX6 hown hK hP 0 rfl rfl 9 (by decide) (hZ _ t_293) (fun _ h9 => h9) rfl dX6_correct_40 ?_
  refine lv_iconst (v := 1) hx hb dX6_correct_43 (by decide) ?_
  refine lv_isub hx hb dX6_correct_44 ?_
  refine lv_icmp_ge (tgt := 52) hx hb dX6_correct_45 (by decide) (fun c4 => ?_) (fun c4 => ?_)
  · skip
    have tu : ¬ p4 < nI cl - 1 := Int32.not_lt.mpr c4
    refine lv_iconst (v := 0) hx hb dX6_correct_52 (by decide) ?_
    refine lv_iload hx hb dX6_correct_53 (lv_at hl 6 rfl) ?_
    refine lv_i2l (v := p5.toInt64) hx hb dX6_correct_55 rfl ?_
    refine lv_lconst (v := 1) hx hb dX6_correct_56 (by decide) ?_
    refine lv_ldc2 (v := 1000000000) hx hb hown (hZ _ t_290) dX6_correct_57 ?_
    have J := zJ.mk (wc := []) (wr := [(m0, .inr (6, [.int th, .int (nI M.1), .ref m1, .ref m2, .int (nI bt), .ref m3, .int (nI ln), .ref m4, .ref m5, .int (nI cl), .ref m6, .ref m7, .ref m8, .ref m9, .ref m10, .ref m11, .ref m12, .int (nI pn), .ref m13, .ref m14])), (m1, .inl (D.2 0, 800, .inl M.2.1)), (m2, .inl (D.2 0, 200, .inl M.2.2)), (m3, .inl (D.2 0, 200, .inl qm))]) hA hB hK hP hD hS [] [0, 1, 2, 3] rfl rfl (by decide)
    refine z_goi (z_runS (As := [.long p5.toInt64, .long 1, .long 1000000000]) (rest := [.int 0, .int 1, .ref m0]) hF (d_lies D p5.toInt64 1 1000000000 H.size) (va_cwS 3 hZ (z_gS t_273 t_274 t_272 t_271) rfl rfl rfl (by decide +kernel) ⟨Nat.le_of_ble_eq_true rfl, Nat.le_of_ble_eq_true rfl⟩) J rfl hl.1 (Nat.le_of_ble_eq_true rfl) dX6_correct_60 ⟨Nat.le_of_ble_eq_true rfl, Nat.le_of_ble_eq_true rfl⟩) J (fun r3 _ H locs w3 hP hD hS => ?_)
    have hP : va_P D.1 vwCl [(m0, .inr (6, [.int th, .int (nI M.1), .ref m1, .ref m2, .int (nI bt), .ref m3, .int (nI ln), .ref m4, .ref m5, .int (nI cl), .ref m6, .ref m7, .ref m8, .ref m9, .ref m10, .ref m11, .ref m12, .int (nI pn), .ref m13, .ref m14])), (m1, .inl (D.2 0, 800, .inl M.2.1)), (m2, .inl (D.2 0, 200, .inl M.2.2)), (m3, .inl (D.2 0, 200, .inl qm))] H := hP
    have hD : va_D A [(m0, .inr (6, [.int th, .int (nI M.1), .ref m1, .ref m2, .int (nI bt), .ref m3, .int (nI ln), .ref m4, .ref m5, .int (nI cl), .ref m6, .ref m7, .ref m8, .ref m9, .ref m10, .ref m11, .ref m12, .int (nI pn), .ref m13, .ref m14])), (m1, .inl (D.2 0, 800, .inl M.2.1)), (m2, .inl (D.2 0, 200, .inl M.2.2)), (m3, .inl (D.2 0, 200, .inl qm))] := hD
    have f3 : (r3 = 1 ∧ ¬ p5 < 1 ∧ p5 ≤ 1000000000) ∨ (r3 = 0 ∧ ¬ (¬ p5 < 1 ∧ p5 ≤ 1000000000)) := z_li (a := 1) (b := 1000000000) (by decide) (by decide) w3
    refine lv_if_ne (tgt := 70) hx hb dX6_correct_63 (by decide) (fun c5 => ?_) (fun c5 => ?_)
    · skip
      have rg := z_b1 f3 c5
      refine lv_iconst (v := 0) hx hb dX6_correct_70 (by decide) ?_
      refine lv_aload_n hx hb dX6_correct_71 rfl (lv_at hl 1 rfl) ?_
      refine va_get (D := D.1) (ci := 6) (v := .int (nI M.1)) (C := "ShopLedgerModel") (T := TX6) (N := 20) hx hb hZ inX6 hown hK hP 0 rfl rfl 1 (by decide) (hZ _ t_277) (fun _ h9 => h9) rfl dX6_correct_72 ?_
      refine lv_iconst (v := 2) hx hb dX6_correct_75 (by decide) ?_
      refine lv_iadd hx hb dX6_correct_76 ?_
      rw [show ((nI M.1) + 2) = nI (M.1 + 2) from nI_add M.1 2]
      refine lv_sipush (v := 200) hx hb dX6_correct_77 (by decide) ?_
      refine lv_icmp_le (tgt := 87) hx hb dX6_correct_80 (by decide) (fun c6 => ?_) (fun c6 => ?_)
      · skip
        have me : nI (M.1 + 2) ≤ 200 := c6
        refine lv_iconst (v := 0) hx hb dX6_correct_87 (by decide) ?_
        have J := zJ.mk (wc := [(m0, .inr (6, [.int th, .int (nI M.1), .ref m1, .ref m2, .int (nI bt), .ref m3, .int (nI ln), .ref m4, .ref m5, .int (nI cl), .ref m6, .ref m7, .ref m8, .ref m9, .ref m10, .ref m11, .ref m12, .int (nI pn), .ref m13, .ref m14]))]) (wr := [(m1, .inl (D.2 0, 800, .inl M.2.1)), (m2, .inl (D.2 0, 200, .inl M.2.2)), (m3, .inl (D.2 0, 200, .inl qm))]) hA hB hK hP hD hS [0] [1, 2, 3] rfl rfl (by decide)
        refine z_goi (z_runV (As := [.int 1, .int 0, .int 0, .int 0]) (rest := []) (b := m0) hF (d_throwing D m0 m1 m2 m3 m4 m5 m6 m7 m8 m9 m10 m11 m12 m13 m14 (M.1, fun _ => 0, fun _ => 0) bt ln cl pn th 1 0 0 0 H.size) (cwV 4 hZ (z_gV t_286 t_287 t_288 t_272 t_285) rfl rfl rfl (by decide +kernel) ⟨Nat.le_of_ble_eq_true rfl, Nat.le_of_ble_eq_true rfl⟩) J 0 6 rfl rfl rfl rfl hl.1 (Nat.le_of_ble_eq_true rfl) dX6_correct_88 ⟨Nat.le_of_ble_eq_true rfl, Nat.le_of_ble_eq_true rfl⟩) J (fun r4 _ H locs w4 hP hD hS => ?_)
        have hP : va_P D.1 vwCl [(m1, .inl (D.2 0, 800, .inl M.2.1)), (m2, .inl (D.2 0, 200, .inl M.2.2)), (m3, .inl (D.2 0, 200, .inl qm)), (m0, .inr (6, [.int 1, .int (nI M.1), .ref m1, .ref m2, .int (nI bt), .ref m3, .int (nI ln), .ref m4, .ref m5, .int (nI cl), .ref m6, .ref m7, .ref m8, .ref m9, .ref m10, .ref m11, .ref m12, .int (nI pn), .ref m13, .ref m14]))] H := hP
        have hD : va_D A [(m1, .inl (D.2 0, 800, .inl M.2.1)), (m2, .inl (D.2 0, 200, .inl M.2.2)), (m3, .inl (D.2 0, 200, .inl qm)), (m0, .inr (6, [.int 1, .int (nI M.1), .ref m1, .ref m2, .int (nI bt), .ref m3, .int (nI ln), .ref m4, .ref m5, .int (nI cl), .ref m6, .ref m7, .ref m8, .ref m9, .ref m10, .ref m11, .ref m12, .int (nI pn), .ref m13, .ref m14]))] := hD
        have w4 : r4 = 1 := w4
        subst w4
        refine lv_if_eq (tgt := 96) hx hb dX6_correct_91 (by decide) (fun c7 => ?_) (fun c7 => ?_)
        · skip
          exfalso; exact absurd c7 (by decide)
        refine lv_iconst (v := 0) hx hb dX6_correct_94 (by decide) ?_
        exact z_iret (v := 0) hx hb hr hlocks hP hD hS (some 1) (Or.inr (Or.inl ⟨rfl, ix⟩)) [3, 0, 1, 2] rfl (by decide) (Nat.le_of_ble_eq_true rfl) (Nat.le_of_ble_eq_true rfl) dX6_correct_95
      have me : ¬ (nI (M.1 + 2) ≤ 200) := c6
      refine lv_iconst (v := 1) hx hb dX6_correct_83 (by decide) ?_
      refine lv_goto (tgt := 88) hx hb dX6_correct_84 (by decide) ?_
      have J := zJ.mk (wc := [(m0, .inr (6, [.int th, .int (nI M.1), .ref m1, .ref m2, .int (nI bt), .ref m3, .int (nI ln), .ref m4, .ref m5, .int (nI cl), .ref m6, .ref m7, .ref m8, .ref m9, .ref m10, .ref m11, .ref m12, .int (nI pn), .ref m13, .ref m14]))]) (wr := [(m1, .inl (D.2 0, 800, .inl M.2.1)), (m2, .inl (D.2 0, 200, .inl M.2.2)), (m3, .inl (D.2 0, 200, .inl qm))]) hA hB hK hP hD hS [0] [1, 2, 3] rfl rfl (by decide)
      refine z_goi (z_runV (As := [.int 1, .int 0, .int 0, .int 1]) (rest := []) (b := m0) hF (d_throwing D m0 m1 m2 m3 m4 m5 m6 m7 m8 m9 m10 m11 m12 m13 m14 (M.1, fun _ => 0, fun _ => 0) bt ln cl pn th 1 0 0 1 H.size) (cwV 4 hZ (z_gV t_286 t_287 t_288 t_272 t_285) rfl rfl rfl (by decide +kernel) ⟨Nat.le_of_ble_eq_true rfl, Nat.le_of_ble_eq_true rfl⟩) J 0 6 rfl rfl rfl rfl hl.1 (Nat.le_of_ble_eq_true rfl) dX6_correct_88 ⟨Nat.le_of_ble_eq_true rfl, Nat.le_of_ble_eq_true rfl⟩) J (fun r4 _ H locs w4 hP hD hS => ?_)
      have hP : va_P D.1 vwCl [(m1, .inl (D.2 0, 800, .inl M.2.1)), (m2, .inl (D.2 0, 200, .inl M.2.2)), (m3, .inl (D.2 0, 200, .inl qm)), (m0, .inr (6, [.int 1, .int (nI M.1), .ref m1, .ref m2, .int (nI bt), .ref m3, .int (nI ln), .ref m4, .ref m5, .int (nI cl), .ref m6, .ref m7, .ref m8, .ref m9, .ref m10, .ref m11, .ref m12, .int (nI pn), .ref m13, .ref m14]))] H := hP
      have hD : va_D A [(m1, .inl (D.2 0, 800, .inl M.2.1)), (m2, .inl (D.2 0, 200, .inl M.2.2)), (m3, .inl (D.2 0, 200, .inl qm)), (m0, .inr (6, [.int 1, .int (nI M.1), .ref m1, .ref m2, .int (nI bt), .ref m3, .int (nI ln), .ref m4, .ref m5, .int (nI cl), .ref m6, .ref m7, .ref m8, .ref m9, .ref m10, .ref m11, .ref m12, .int (nI pn), .ref m13, .ref m14]))] := hD
      have w4 : r4 = 1 := w4
      subst w4
      refine lv_if_eq (tgt := 96) hx hb dX6_correct_91 (by decide) (fun c7 => ?_) (fun c7 => ?_)
      · skip
        exfalso; exact absurd c7 (by decide)
      refine lv_iconst (v := 0) hx hb dX6_correct_94 (by decide) ?_
      exact z_iret (v := 0) hx hb hr hlocks hP hD hS (some 1) (Or.inr (Or.inl ⟨rfl, ix⟩)) [3, 0, 1, 2] rfl (by decide) (Nat.le_of_ble_eq_true rfl) (Nat.le_of_ble_eq_true rfl) dX6_correct_95
    have rg := z_b0 f3 c5
    refine lv_iconst (v := 1) hx hb dX6_correct_66 (by decide) ?_
    refine lv_goto (tgt := 71) hx hb dX6_correct_67 (by decide) ?_
    refine lv_aload_n hx hb dX6_correct_71 rfl (lv_at hl 1 rfl) ?_
    refine va_get (D := D.1) (ci := 6) (v := .int (nI M.1)) (C := "ShopLedgerModel") (T := TX6) (N := 20) hx hb hZ inX6 hown hK hP 0 rfl rfl 1 (by decide) (hZ _ t_277) (fun _ h9 => h9) rfl dX6_correct_72 ?_
    refine lv_iconst (v := 2) hx hb dX6_correct_75 (by decide) ?_
    refine lv_iadd hx hb dX6_correct_76 ?_
    rw [show ((nI M.1) + 2) = nI (M.1 + 2) from nI_add M.1 2]
    refine lv_sipush (v := 200) hx hb dX6_correct_77 (by decide) ?_
    refine lv_icmp_le (tgt := 87) hx hb dX6_correct_80 (by decide) (fun c6 => ?_) (fun c6 => ?_)
    · skip
      have me : nI (M.1 + 2) ≤ 200 := c6
      refine lv_iconst (v := 0) hx hb dX6_correct_87 (by decide) ?_
      have J := zJ.mk (wc := [(m0, .inr (6, [.int th, .int (nI M.1), .ref m1, .ref m2, .int (nI bt), .ref m3, .int (nI ln), .ref m4, .ref m5, .int (nI cl), .ref m6, .ref m7, .ref m8, .ref m9, .ref m10, .ref m11, .ref m12, .int (nI pn), .ref m13, .ref m14]))]) (wr := [(m1, .inl (D.2 0, 800, .inl M.2.1)), (m2, .inl (D.2 0, 200, .inl M.2.2)), (m3, .inl (D.2 0, 200, .inl qm))]) hA hB hK hP hD hS [0] [1, 2, 3] rfl rfl (by decide)
      refine z_goi (z_runV (As := [.int 1, .int 0, .int 1, .int 0]) (rest := []) (b := m0) hF (d_throwing D m0 m1 m2 m3 m4 m5 m6 m7 m8 m9 m10 m11 m12 m13 m14 (M.1, fun _ => 0, fun _ => 0) bt ln cl pn th 1 0 1 0 H.size) (cwV 4 hZ (z_gV t_286 t_287 t_288 t_272 t_285) rfl rfl rfl (by decide +kernel) ⟨Nat.le_of_ble_eq_true rfl, Nat.le_of_ble_eq_true rfl⟩) J 0 6 rfl rfl rfl rfl hl.1 (Nat.le_of_ble_eq_true rfl) dX6_correct_88 ⟨Nat.le_of_ble_eq_true rfl, Nat.le_of_ble_eq_true rfl⟩) J (fun r4 _ H locs w4 hP hD hS => ?_)
      have hP : va_P D.1 vwCl [(m1, .inl (D.2 0, 800, .inl M.2.1)), (m2, .inl (D.2 0, 200, .inl M.2.2)), (m3, .inl (D.2 0, 200, .inl qm)), (m0, .inr (6, [.int 1, .int (nI M.1), .ref m1, .ref m2, .int (nI bt), .ref m3, .int (nI ln), .ref m4, .ref m5, .int (nI cl), .ref m6, .ref m7, .ref m8, .ref m9, .ref m10, .ref m11, .ref m12, .int (nI pn), .ref m13, .ref m14]))] H := hP
      have hD : va_D A [(m1, .inl (D.2 0, 800, .inl M.2.1)), (m2, .inl (D.2 0, 200, .inl M.2.2)), (m3, .inl (D.2 0, 200, .inl qm)), (m0, .inr (6, [.int 1, .int (nI M.1), .ref m1, .ref m2, .int (nI bt), .ref m3, .int (nI ln), .ref m4, .ref m5, .int (nI cl), .ref m6, .ref m7, .ref m8, .ref m9, .ref m10, .ref m11, .ref m12, .int (nI pn), .ref m13, .ref m14]))] := hD
      have w4 : r4 = 1 := w4
      subst w4
      refine lv_if_eq (tgt := 96) hx hb dX6_correct_91 (by decide) (fun c7 => ?_) (fun c7 => ?_)
      · skip
        exfalso; exact absurd c7 (by decide)
      refine lv_iconst (v := 0) hx hb dX6_correct_94 (by decide) ?_
      exact z_iret (v := 0) hx hb hr hlocks hP hD hS (some 1) (Or.inr (Or.inl ⟨rfl, ix⟩)) [3, 0, 1, 2] rfl (by decide) (Nat.le_of_ble_eq_true rfl) (Nat.le_of_ble_eq_true rfl) dX6_correct_95
    have me : ¬ (nI (M.1 + 2) ≤ 200) := c6
    refine lv_iconst (v := 1) hx hb dX6_correct_83 (by decide) ?_
    refine lv_goto (tgt := 88) hx hb dX6_correct_84 (by decide) ?_
    have J := zJ.mk (wc := [(m0, .inr (6, [.int th, .int (nI M.1), .ref m1, .ref m2, .int (nI bt), .ref m3, .int (nI ln), .ref m4, .ref m5, .int (nI cl), .ref m6, .ref m7, .ref m8, .ref m9, .ref m10, .ref m11, .ref m12, .int (nI pn), .ref m13, .ref m14]))]) (wr := [(m1, .inl (D.2 0, 800, .inl M.2.1)), (m2, .inl (D.2 0, 200, .inl M.2.2)), (m3, .inl (D.2 0, 200, .inl qm))]) hA hB hK hP hD hS [0] [1, 2, 3] rfl rfl (by decide)
    refine z_goi (z_runV (As := [.int 1, .int 0, .int 1, .int 1]) (rest := []) (b := m0) hF (d_throwing D m0 m1 m2 m3 m4 m5 m6 m7 m8 m9 m10 m11 m12 m13 m14 (M.1, fun _ => 0, fun _ => 0) bt ln cl pn th 1 0 1 1 H.size) (cwV 4 hZ (z_gV t_286 t_287 t_288 t_272 t_285) rfl rfl rfl (by decide +kernel) ⟨Nat.le_of_ble_eq_true rfl, Nat.le_of_ble_eq_true rfl⟩) J 0 6 rfl rfl rfl rfl hl.1 (Nat.le_of_ble_eq_true rfl) dX6_correct_88 ⟨Nat.le_of_ble_eq_true rfl, Nat.le_of_ble_eq_true rfl⟩) J (fun r4 _ H locs w4 hP hD hS => ?_)
    have hP : va_P D.1 vwCl [(m1, .inl (D.2 0, 800, .inl M.2.1)), (m2, .inl (D.2 0, 200, .inl M.2.2)), (m3, .inl (D.2 0, 200, .inl qm)), (m0, .inr (6, [.int 1, .int (nI M.1), .ref m1, .ref m2, .int (nI bt), .ref m3, .int (nI ln), .ref m4, .ref m5, .int (nI cl), .ref m6, .ref m7, .ref m8, .ref m9, .ref m10, .ref m11, .ref m12, .int (nI pn), .ref m13, .ref m14]))] H := hP
    have hD : va_D A [(m1, .inl (D.2 0, 800, .inl M.2.1)), (m2, .inl (D.2 0, 200, .inl M.2.2)), (m3, .inl (D.2 0, 200, .inl qm)), (m0, .inr (6, [.int 1, .int (nI M.1), .ref m1, .ref m2, .int (nI bt), .ref m3, .int (nI ln), .ref m4, .ref m5, .int (nI cl), .ref m6, .ref m7, .ref m8, .ref m9, .ref m10, .ref m11, .ref m12, .int (nI pn), .ref m13, .ref m14]))] := hD
    have w4 : r4 = 1 := w4
    subst w4
    refine lv_if_eq (tgt := 96) hx hb dX6_correct_91 (by decide) (fun c7 => ?_) (fun c7 => ?_)
    · skip
      exfalso; exact absurd c7 (by decide)
    refine lv_iconst (v := 0) hx hb dX6_correct_94 (by decide) ?_
    exact z_iret (v := 0) hx hb hr hlocks hP hD hS (some 1) (Or.inr (Or.inl ⟨rfl, ix⟩)) [3, 0, 1, 2] rfl (by decide) (Nat.le_of_ble_eq_true rfl) (Nat.le_of_ble_eq_true rfl) dX6_correct_95
  have tu : ¬ (¬ p4 < nI cl - 1) := fun h => h (Int32.not_le.mp c4)
  refine lv_iconst (v := 1) hx hb dX6_correct_48 (by decide) ?_
  refine lv_goto (tgt := 53) hx hb dX6_correct_49 (by decide) ?_
  refine lv_iload hx hb dX6_correct_53 (lv_at hl 6 rfl) ?_
  refine lv_i2l (v := p5.toInt64) hx hb dX6_correct_55 rfl ?_
  refine lv_lconst (v := 1) hx hb dX6_correct_56 (by decide) ?_
  refine lv_ldc2 (v := 1000000000) hx hb hown (hZ _ t_290) dX6_correct_57 ?_
  have J := zJ.mk (wc := []) (wr := [(m0, .inr (6, [.int th, .int (nI M.1), .ref m1, .ref m2, .int (nI bt), .ref m3, .int (nI ln), .ref m4, .ref m5, .int (nI cl), .ref m6, .ref m7, .ref m8, .ref m9, .ref m10, .ref m11, .ref m12, .int (nI pn), .ref m13, .ref m14])), (m1, .inl (D.2 0, 800, .inl M.2.1)), (m2, .inl (D.2 0, 200, .inl M.2.2)), (m3, .inl (D.2 0, 200, .inl qm))]) hA hB hK hP hD hS [] [0, 1, 2, 3] rfl rfl (by decide)
  refine z_goi (z_runS (As := [.long p5.toInt64, .long 1, .long 1000000000]) (rest := [.int 1, .int 1, .ref m0]) hF (d_lies D p5.toInt64 1 1000000000 H.size) (va_cwS 3 hZ (z_gS t_273 t_274 t_272 t_271) rfl rfl rfl (by decide +kernel) ⟨Nat.le_of_ble_eq_true rfl, Nat.le_of_ble_eq_true rfl⟩) J rfl hl.1 (Nat.le_of_ble_eq_true rfl) dX6_correct_60 ⟨Nat.le_of_ble_eq_true rfl, Nat.le_of_ble_eq_true rfl⟩) J (fun r3 _ H locs w3 hP hD hS => ?_)
  have hP : va_P D.1 vwCl [(m0, .inr (6, [.int th, .int (nI M.1), .ref m1, .ref m2, .int (nI bt), .ref m3, .int (nI ln), .ref m4, .ref m5, .int (nI cl), .ref m6, .ref m7, .ref m8, .ref m9, .ref m10, .ref m11, .ref m12, .int (nI pn), .ref m13, .ref m14])), (m1, .inl (D.2 0, 800, .inl M.2.1)), (m2, .inl (D.2 0, 200, .inl M.2.2)), (m3, .inl (D.2 0, 200, .inl qm))] H := hP
  have hD : va_D A [(m0, .inr (6, [.int th, .int (nI M.1), .ref m1, .ref m2, .int (nI bt), .ref m3, .int (nI ln), .ref m4, .ref m5, .int (nI cl), .ref m6, .ref m7, .ref m8, .ref m9, .ref m10, .ref m11, .ref m12, .int (nI pn), .ref m13, .ref m14])), (m1, .inl (D.2 0, 800, .inl M.2.1)), (m2, .inl (D.2 0, 200, .inl M.2.2)), (m3, .inl (D.2 0, 200, .inl qm))] := hD
  have f3 : (r3 = 1 ∧ ¬ p5 < 1 ∧ p5 ≤ 1000000000) ∨ (r3 = 0 ∧ ¬ (¬ p5 < 1 ∧ p5 ≤ 1000000000)) := z_li (a := 1) (b := 1000000000) (by decide) (by decide) w3
  refine lv_if_ne (tgt := 70) hx hb dX6_correct_63 (by decide) (fun c5 => ?_) (fun c5 => ?_)
  · skip
    have rg := z_b1 f3 c5
    refine lv_iconst (v := 0) hx hb dX6_correct_70 (by decide) ?_
    refine lv_aload_n hx hb dX6_correct_71 rfl (lv_at hl 1 rfl) ?_
    refine va_get (D := D.1) (ci := 6) (v := .int (nI M.1)) (C := "ShopLedgerModel") (T := TX6) (N := 20) hx hb hZ inX6 hown hK hP 0 rfl rfl 1 (by decide) (hZ _ t_277) (fun _ h9 => h9) rfl dX6_correct_72 ?_
    refine lv_iconst (v := 2) hx hb dX6_correct_75 (by decide) ?_
    refine lv_iadd hx hb dX6_correct_76 ?_
    rw [show ((nI M.1) + 2) = nI (M.1 + 2) from nI_add M.1 2]
    refine lv_sipush (v := 200) hx hb dX6_correct_77 (by decide) ?_
    refine lv_icmp_le (tgt := 87) hx hb dX6_correct_80 (by decide) (fun c6 => ?_) (fun c6 => ?_)
    · skip
      have me : nI (M.1 + 2) ≤ 200 := c6
      refine lv_iconst (v := 0) hx hb dX6_correct_87 (by decide) ?_
      have J := zJ.mk (wc := [(m0, .inr (6, [.int th, .int (nI M.1), .ref m1, .ref m2, .int (nI bt), .ref m3, .int (nI ln), .ref m4, .ref m5, .int (nI cl), .ref m6, .ref m7, .ref m8, .ref m9, .ref m10, .ref m11, .ref m12, .int (nI pn), .ref m13, .ref m14]))]) (wr := [(m1, .inl (D.2 0, 800, .inl M.2.1)), (m2, .inl (D.2 0, 200, .inl M.2.2)), (m3, .inl (D.2 0, 200, .inl qm))]) hA hB hK hP hD hS [0] [1, 2, 3] rfl rfl (by decide)
      refine z_goi (z_runV (As := [.int 1, .int 1, .int 0, .int 0]) (rest := []) (b := m0) hF (d_throwing D m0 m1 m2 m3 m4 m5 m6 m7 m8 m9 m10 m11 m12 m13 m14 (M.1, fun _ => 0, fun _ => 0) bt ln cl pn th 1 1 0 0 H.size) (cwV 4 hZ (z_gV t_286 t_287 t_288 t_272 t_285) rfl rfl rfl (by decide +kernel) ⟨Nat.le_of_ble_eq_true rfl, Nat.le_of_ble_eq_true rfl⟩) J 0 6 rfl rfl rfl rfl hl.1 (Nat.le_of_ble_eq_true rfl) dX6_correct_88 ⟨Nat.le_of_ble_eq_true rfl, Nat.le_of_ble_eq_true rfl⟩) J (fun r4 _ H locs w4 hP hD hS => ?_)
      have hP : va_P D.1 vwCl [(m1, .inl (D.2 0, 800, .inl M.2.1)), (m2, .inl (D.2 0, 200, .inl M.2.2)), (m3, .inl (D.2 0, 200, .inl qm)), (m0, .inr (6, [.int 1, .int (nI M.1), .ref m1, .ref m2, .int (nI bt), .ref m3, .int (nI ln), .ref m4, .ref m5, .int (nI cl), .ref m6, .ref m7, .ref m8, .ref m9, .ref m10, .ref m11, .ref m12, .int (nI pn), .ref m13, .ref m14]))] H := hP
      have hD : va_D A [(m1, .inl (D.2 0, 800, .inl M.2.1)), (m2, .inl (D.2 0, 200, .inl M.2.2)), (m3, .inl (D.2 0, 200, .inl qm)), (m0, .inr (6, [.int 1, .int (nI M.1), .ref m1, .ref m2, .int (nI bt), .ref m3, .int (nI ln), .ref m4, .ref m5, .int (nI cl), .ref m6, .ref m7, .ref m8, .ref m9, .ref m10, .ref m11, .ref m12, .int (nI pn), .ref m13, .ref m14]))] := hD
      have w4 : r4 = 1 := w4
      subst w4
      refine lv_if_eq (tgt := 96) hx hb dX6_correct_91 (by decide) (fun c7 => ?_) (fun c7 => ?_)
      · skip
        exfalso; exact absurd c7 (by decide)
      refine lv_iconst (v := 0) hx hb dX6_correct_94 (by decide) ?_
      exact z_iret (v := 0) hx hb hr hlocks hP hD hS (some 1) (Or.inr (Or.inl ⟨rfl, ix⟩)) [3, 0, 1, 2] rfl (by decide) (Nat.le_of_ble_eq_true rfl) (Nat.le_of_ble_eq_true rfl) dX6_correct_95
    have me : ¬ (nI (M.1 + 2) ≤ 200) := c6
    refine lv_iconst (v := 1) hx hb dX6_correct_83 (by decide) ?_
    refine lv_goto (tgt := 88) hx hb dX6_correct_84 (by decide) ?_
    have J := zJ.mk (wc := [(m0, .inr (6, [.int th, .int (nI M.1), .ref m1, .ref m2, .int (nI bt), .ref m3, .int (nI ln), .ref m4, .ref m5, .int (nI cl), .ref m6, .ref m7, .ref m8, .ref m9, .ref m10, .ref m11, .ref m12, .int (nI pn), .ref m13, .ref m14]))]) (wr := [(m1, .inl (D.2 0, 800, .inl M.2.1)), (m2, .inl (D.2 0, 200, .inl M.2.2)), (m3, .inl (D.2 0, 200, .inl qm))]) hA hB hK hP hD hS [0] [1, 2, 3] rfl rfl (by decide)
    refine z_goi (z_runV (As := [.int 1, .int 1, .int 0, .int 1]) (rest := []) (b := m0) hF (d_throwing D m0 m1 m2 m3 m4 m5 m6 m7 m8 m9 m10 m11 m12 m13 m14 (M.1, fun _ => 0, fun _ => 0) bt ln cl pn th 1 1 0 1 H.size) (cwV 4 hZ (z_gV t_286 t_287 t_288 t_272 t_285) rfl rfl rfl (by decide +kernel) ⟨Nat.le_of_ble_eq_true rfl, Nat.le_of_ble_eq_true rfl⟩) J 0 6 rfl rfl rfl rfl hl.1 (Nat.le_of_ble_eq_true rfl) dX6_correct_88 ⟨Nat.le_of_ble_eq_true rfl, Nat.le_of_ble_eq_true rfl⟩) J (fun r4 _ H locs w4 hP hD hS => ?_)
    have hP : va_P D.1 vwCl [(m1, .inl (D.2 0, 800, .inl M.2.1)), (m2, .inl (D.2 0, 200, .inl M.2.2)), (m3, .inl (D.2 0, 200, .inl qm)), (m0, .inr (6, [.int 1, .int (nI M.1), .ref m1, .ref m2, .int (nI bt), .ref m3, .int (nI ln), .ref m4, .ref m5, .int (nI cl), .ref m6, .ref m7, .ref m8, .ref m9, .ref m10, .ref m11, .ref m12, .int (nI pn), .ref m13, .ref m14]))] H := hP
    have hD : va_D A [(m1, .inl (D.2 0, 800, .inl M.2.1)), (m2, .inl (D.2 0, 200, .inl M.2.2)), (m3, .inl (D.2 0, 200, .inl qm)), (m0, .inr (6, [.int 1, .int (nI M.1), .ref m1, .ref m2, .int (nI bt), .ref m3, .int (nI ln), .ref m4, .ref m5, .int (nI cl), .ref m6, .ref m7, .ref m8, .ref m9, .ref m10, .ref m11, .ref m12, .int (nI pn), .ref m13, .ref m14]))] := hD
    have w4 : r4 = 1 := w4
    subst w4
    refine lv_if_eq (tgt := 96) hx hb dX6_correct_91 (by decide) (fun c7 => ?_) (fun c7 => ?_)
    · skip
      exfalso; exact absurd c7 (by decide)
    refine lv_iconst (v := 0) hx hb dX6_correct_94 (by decide) ?_
    exact z_iret (v := 0) hx hb hr hlocks hP hD hS (some 1) (Or.inr (Or.inl ⟨rfl, ix⟩)) [3, 0, 1, 2] rfl (by decide) (Nat.le_of_ble_eq_true rfl) (Nat.le_of_ble_eq_true rfl) dX6_correct_95
  have rg := z_b0 f3 c5
  refine lv_iconst (v := 1) hx hb dX6_correct_66 (by decide) ?_
  refine lv_goto (tgt := 71) hx hb dX6_correct_67 (by decide) ?_
  refine lv_aload_n hx hb dX6_correct_71 rfl (lv_at hl 1 rfl) ?_
  refine va_get (D := D.1) (ci := 6) (v := .int (nI M.1)) (C := "ShopLedgerModel") (T := TX6) (N := 20) hx hb hZ inX6 hown hK hP 0 rfl rfl 1 (by decide) (hZ _ t_277) (fun _ h9 => h9) rfl dX6_correct_72 ?_
  refine lv_iconst (v := 2) hx hb dX6_correct_75 (by decide) ?_
  refine lv_iadd hx hb dX6_correct_76 ?_
  rw [show ((nI M.1) + 2) = nI (M.1 + 2) from nI_add M.1 2]
  refine lv_sipush (v := 200) hx hb dX6_correct_77 (by decide) ?_
  refine lv_icmp_le (tgt := 87) hx hb dX6_correct_80 (by decide) (fun c6 => ?_) (fun c6 => ?_)
  · skip
    have me : nI (M.1 + 2) ≤ 200 := c6
    refine lv_iconst (v := 0) hx hb dX6_correct_87 (by decide) ?_
    have J := zJ.mk (wc := [(m0, .inr (6, [.int th, .int (nI M.1), .ref m1, .ref m2, .int (nI bt), .ref m3, .int (nI ln), .ref m4, .ref m5, .int (nI cl), .ref m6, .ref m7, .ref m8, .ref m9, .ref m10, .ref m11, .ref m12, .int (nI pn), .ref m13, .ref m14]))]) (wr := [(m1, .inl (D.2 0, 800, .inl M.2.1)), (m2, .inl (D.2 0, 200, .inl M.2.2)), (m3, .inl (D.2 0, 200, .inl qm))]) hA hB hK hP hD hS [0] [1, 2, 3] rfl rfl (by decide)
    refine z_goi (z_runV (As := [.int 1, .int 1, .int 1, .int 0]) (rest := []) (b := m0) hF (d_throwing D m0 m1 m2 m3 m4 m5 m6 m7 m8 m9 m10 m11 m12 m13 m14 (M.1, fun _ => 0, fun _ => 0) bt ln cl pn th 1 1 1 0 H.size) (cwV 4 hZ (z_gV t_286 t_287 t_288 t_272 t_285) rfl rfl rfl (by decide +kernel) ⟨Nat.le_of_ble_eq_true rfl, Nat.le_of_ble_eq_true rfl⟩) J 0 6 rfl rfl rfl rfl hl.1 (Nat.le_of_ble_eq_true rfl) dX6_correct_88 ⟨Nat.le_of_ble_eq_true rfl, Nat.le_of_ble_eq_true rfl⟩) J (fun r4 _ H locs w4 hP hD hS => ?_)
    have hP : va_P D.1 vwCl [(m1, .inl (D.2 0, 800, .inl M.2.1)), (m2, .inl (D.2 0, 200, .inl M.2.2)), (m3, .inl (D.2 0, 200, .inl qm)), (m0, .inr (6, [.int 1, .int (nI M.1), .ref m1, .ref m2, .int (nI bt), .ref m3, .int (nI ln), .ref m4, .ref m5, .int (nI cl), .ref m6, .ref m7, .ref m8, .ref m9, .ref m10, .ref m11, .ref m12, .int (nI pn), .ref m13, .ref m14]))] H := hP
    have hD : va_D A [(m1, .inl (D.2 0, 800, .inl M.2.1)), (m2, .inl (D.2 0, 200, .inl M.2.2)), (m3, .inl (D.2 0, 200, .inl qm)), (m0, .inr (6, [.int 1, .int (nI M.1), .ref m1, .ref m2, .int (nI bt), .ref m3, .int (nI ln), .ref m4, .ref m5, .int (nI cl), .ref m6, .ref m7, .ref m8, .ref m9, .ref m10, .ref m11, .ref m12, .int (nI pn), .ref m13, .ref m14]))] := hD
    have w4 : r4 = 1 := w4
    subst w4
    refine lv_if_eq (tgt := 96) hx hb dX6_correct_91 (by decide) (fun c7 => ?_) (fun c7 => ?_)
    · skip
      exfalso; exact absurd c7 (by decide)
    refine lv_iconst (v := 0) hx hb dX6_correct_94 (by decide) ?_
    exact z_iret (v := 0) hx hb hr hlocks hP hD hS (some 1) (Or.inr (Or.inl ⟨rfl, ix⟩)) [3, 0, 1, 2] rfl (by decide) (Nat.le_of_ble_eq_true rfl) (Nat.le_of_ble_eq_true rfl) dX6_correct_95
  have me : ¬ (nI (M.1 + 2) ≤ 200) := c6
  refine lv_iconst (v := 1) hx hb dX6_correct_83 (by decide) ?_
  refine lv_goto (tgt := 88) hx hb dX6_correct_84 (by decide) ?_
  have J := zJ.mk (wc := [(m0, .inr (6, [.int th, .int (nI M.1), .ref m1, .ref m2, .int (nI bt), .ref m3, .int (nI ln), .ref m4, .ref m5, .int (nI cl), .ref m6, .ref m7, .ref m8, .ref m9, .ref m10, .ref m11, .ref m12, .int (nI pn), .ref m13, .ref m14]))]) (wr := [(m1, .inl (D.2 0, 800, .inl M.2.1)), (m2, .inl (D.2 0, 200, .inl M.2.2)), (m3, .inl (D.2 0, 200, .inl qm))]) hA hB hK hP hD hS [0] [1, 2, 3] rfl rfl (by decide)
  refine z_goi (z_runV (As := [.int 1, .int 1, .int 1, .int 1]) (rest := []) (b := m0) hF (d_throwing D m0 m1 m2 m3 m4 m5 m6 m7 m8 m9 m10 m11 m12 m13 m14 (M.1, fun _ => 0, fun _ => 0) bt ln cl pn th 1 1 1 1 H.size) (cwV 4 hZ (z_gV t_286 t_287 t_288 t_272 t_285) rfl rfl rfl (by decide +kernel) ⟨Nat.le_of_ble_eq_true rfl, Nat.le_of_ble_eq_true rfl⟩) J 0 6 rfl rfl rfl rfl hl.1 (Nat.le_of_ble_eq_true rfl) dX6_correct_88 ⟨Nat.le_of_ble_eq_true rfl, Nat.le_of_ble_eq_true rfl⟩) J (fun r4 _ H locs w4 hP hD hS => ?_)
  have hP : va_P D.1 vwCl [(m1, .inl (D.2 0, 800, .inl M.2.1)), (m2, .inl (D.2 0, 200, .inl M.2.2)), (m3, .inl (D.2 0, 200, .inl qm)), (m0, .inr (6, [.int 1, .int (nI M.1), .ref m1, .ref m2, .int (nI bt), .ref m3, .int (nI ln), .ref m4, .ref m5, .int (nI cl), .ref m6, .ref m7, .ref m8, .ref m9, .ref m10, .ref m11, .ref m12, .int (nI pn), .ref m13, .ref m14]))] H := hP
  have hD : va_D A [(m1, .inl (D.2 0, 800, .inl M.2.1)), (m2, .inl (D.2 0, 200, .inl M.2.2)), (m3, .inl (D.2 0, 200, .inl qm)), (m0, .inr (6, [.int 1, .int (nI M.1), .ref m1, .ref m2, .int (nI bt), .ref m3, .int (nI ln), .ref m4, .ref m5, .int (nI cl), .ref m6, .ref m7, .ref m8, .ref m9, .ref m10, .ref m11, .ref m12, .int (nI pn), .ref m13, .ref m14]))] := hD
  have w4 : r4 = 1 := w4
  subst w4
  refine lv_if_eq (tgt := 96) hx hb dX6_correct_91 (by decide) (fun c7 => ?_) (fun c7 => ?_)
  · skip
    exfalso; exact absurd c7 (by decide)
  refine lv_iconst (v := 0) hx hb dX6_correct_94 (by decide) ?_
  exact z_iret (v := 0) hx hb hr hlocks hP hD hS (some 1) (Or.inr (Or.inl ⟨rfl, ix⟩)) [3, 0, 1, 2] rfl (by decide) (Nat.le_of_ble_eq_true rfl) (Nat.le_of_ble_eq_true rfl) dX6_correct_95
set_option maxHeartbeats 4000000 in
set_option maxRecDepth 100000 in
/-- the reference: reverse -/
theorem d_reverse {l : Launch} (D : zD) (m0 m1 m2 m3 m4 m5 m6 m7 m8 m9 m10 m11 m12 m13 m14 : Nat) (M : zM) (bt ln cl pn : Nat) (th : Int32) (qm : Nat → Int32) (j : Nat) (p2 : Int32) (sz : Nat) (hM : M.1 ≤ 200) (hb9 : bt ≤ M.1) (hj : j < bt) (hcnt : 0 < zm_cnt M.2.1 (nI j) M.1) : Met l yX6_reverse wsX6_reverse ({ frames := 1, cells := 0, slots := 0, locals := 25 }) (va_Pc [.ref m0, .int (nI j), .int p2] (zp D sz [(m0, .inr (6, [.int th, .int (nI M.1), .ref m1, .ref m2, .int (nI bt), .ref m3, .int (nI ln), .ref m4, .ref m5, .int (nI cl), .ref m6, .ref m7, .ref m8, .ref m9, .ref m10, .ref m11, .ref m12, .int (nI pn), .ref m13, .ref m14])), (m1, .inl (D.2 0, 800, .inl M.2.1)), (m2, .inl (D.2 0, 200, .inl M.2.2)), (m3, .inl (D.2 0, 200, .inl qm))])) (va_Qi (fun r (u : Option Int32) => (u = none ∧ (zin p2 12) ∧ (¬ p2 < nI cl) ∧ (¬ 0 < qm j ∧ nI (M.1 + zm_cnt M.2.1 (nI j) M.1) ≤ 200) ∧ r = nI bt) ∨ (u = some 1 ∧ ¬ (zin p2 12)) ∨ (u = some 2 ∧ (zin p2 12) ∧ ¬ (¬ p2 < nI cl)) ∨ (u = some 3 ∧ (zin p2 12) ∧ (¬ p2 < nI cl) ∧ ¬ (¬ 0 < qm j ∧ nI (M.1 + zm_cnt M.2.1 (nI j) M.1) ≤ 200))) (zq D (va_A [(m0, .inr (6, [.int th, .int (nI M.1), .ref m1, .ref m2, .int (nI bt), .ref m3, .int (nI ln), .ref m4, .ref m5, .int (nI cl), .ref m6, .ref m7, .ref m8, .ref m9, .ref m10, .ref m11, .ref m12, .int (nI pn), .ref m13, .ref m14])), (m1, .inl (D.2 0, 800, .inl M.2.1)), (m2, .inl (D.2 0, 200, .inl M.2.2)), (m3, .inl (D.2 0, 200, .inl qm))] sz) (fun (u : Option Int32) => (u.elim [(m0, .inr (6, [.int 0, .int (nI (zm_turn M (nI bt) (nI j) p2 M.1).1), .ref m1, .ref m2, .int (nI (bt + 1)), .ref m3, .int (nI ln), .ref m4, .ref m5, .int (nI cl), .ref m6, .ref m7, .ref m8, .ref m9, .ref m10, .ref m11, .ref m12, .int (nI pn), .ref m13, .ref m14])), (m1, .inl (D.2 0, 800, .inl ((zm_turn M (nI bt) (nI j) p2 M.1).2.1))), (m2, .inl (D.2 0, 200, .inl ((zm_turn M (nI bt) (nI j) p2 M.1).2.2))), (m3, .inl (D.2 0, 200, .inl (upd (upd qm j 1) bt 2)))] (fun t => [(m0, .inr (6, [.int t, .int (nI M.1), .ref m1, .ref m2, .int (nI bt), .ref m3, .int (nI ln), .ref m4, .ref m5, .int (nI cl), .ref m6, .ref m7, .ref m8, .ref m9, .ref m10, .ref m11, .ref m12, .int (nI pn), .ref m13, .ref m14])), (m1, .inl (D.2 0, 800, .inl M.2.1)), (m2, .inl (D.2 0, 200, .inl M.2.2)), (m3, .inl (D.2 0, 200, .inl qm))]) : va_W))) (va_A [(m0, .inr (6, [.int th, .int (nI M.1), .ref m1, .ref m2, .int (nI bt), .ref m3, .int (nI ln), .ref m4, .ref m5, .int (nI cl), .ref m6, .ref m7, .ref m8, .ref m9, .ref m10, .ref m11, .ref m12, .int (nI pn), .ref m13, .ref m14])), (m1, .inl (D.2 0, 800, .inl M.2.1)), (m2, .inl (D.2 0, 200, .inl M.2.2)), (m3, .inl (D.2 0, 200, .inl qm))] sz)) 0 0 (va_A [(m0, .inr (6, [.int th, .int (nI M.1), .ref m1, .ref m2, .int (nI bt), .ref m3, .int (nI ln), .ref m4, .ref m5, .int (nI cl), .ref m6, .ref m7, .ref m8, .ref m9, .ref m10, .ref m11, .ref m12, .int (nI pn), .ref m13, .ref m14])), (m1, .inl (D.2 0, 800, .inl M.2.1)), (m2, .inl (D.2 0, 200, .inl M.2.2)), (m3, .inl (D.2 0, 200, .inl qm))] sz) := by
  refine Met.ofW (cc := cX6_reverse) (maxL := 8) (ret := (some .int)) (by decide) rfl ?_
  intro p e s m args below meth c s₁ B hml hv
  obtain ⟨rfl, hsz, hP, hK, hD0, hB⟩ := hv
  have hx := B.exec
  have hb := B.bytes
  have hr := B.returns
  have hts := atoms_spec (ws := wsX6_reverse) B.pre
  have hown : s.vm.findClass "ShopLedgerModel" = some m.cls := findClass_of_methodNamed B.named
  have hlocks := B.notSynchronized
  subst hsz
  have hD := hD0.self (sz := s.heap.size)
  generalize hAe : va_A [(m0, .inr (6, [.int th, .int (nI M.1), .ref m1, .ref m2, .int (nI bt), .ref m3, .int (nI ln), .ref m4, .ref m5, .int (nI cl), .ref m6, .ref m7, .ref m8, .ref m9, .ref m10, .ref m11, .ref m12, .int (nI pn), .ref m13, .ref m14])), (m1, .inl (D.2 0, 800, .inl M.2.1)), (m2, .inl (D.2 0, 200, .inl M.2.2)), (m3, .inl (D.2 0, 200, .inl qm))] s.heap.size = A at hD hB ⊢
  have hA : ∀ q : Nat, s.heap.size ≤ q → A q := fun q h => by rw [← hAe]; exact Or.inr h
  have hS : va_S A s.heap s.heap [] := va_S.rf
  have hZ : ∀ w ∈ zALL, w.before _ s = true := fun w h => hts w (List.mem_cons_of_mem _ h)
  have hF : CallFix p m c cX6_reverse 8 s _ zALL "ShopLedgerModel" := ⟨hx, hb, hml, hown, hZ⟩
  have hl := lv_entry ([.ref m0, .int (nI j), .int p2]) (n := 8) (Nat.le_of_ble_eq_true rfl)
  rw [lg_entry_eq]
  generalize (lg_sl ([.ref m0, .int (nI j), .int p2]) ++ List.replicate (8 - (lg_sl ([.ref m0, .int (nI j), .int p2])).length) Slot.unset).toArray = ls at hl ⊢
  have hl : lv_has ls 8 [(0, .ref m0), (1, .int (nI j)), (2, .int p2)] := hl
  refine lv_iload_n hx hb dX6_reverse_0 rfl (lv_at hl 1 rfl) ?_
  refine lv_i2l (v := (nI j).toInt64) hx hb dX6_reverse_1 rfl ?_
  refine lv_lconst (v := 0) hx hb dX6_reverse_2 (by decide) ?_
  refine lv_aload_n hx hb dX6_reverse_3 rfl (lv_at hl 0 rfl) ?_
  refine va_get (D := D.1) (ci := 6) (v := .int (nI bt)) (C := "ShopLedgerModel") (T := TX6) (N := 20) hx hb hZ inX6 hown hK hP 0 rfl rfl 4 (by decide) (hZ _ t_278) (fun _ h9 => h9) rfl dX6_reverse_4 ?_
  refine lv_iconst (v := 1) hx hb dX6_reverse_7 (by decide) ?_
  refine lv_isub hx hb dX6_reverse_8 ?_
  refine lv_i2l (v := ((nI bt) - 1).toInt64) hx hb dX6_reverse_9 rfl ?_
  have J := zJ.mk (wc := []) (wr := [(m0, .inr (6, [.int th, .int (nI M.1), .ref m1, .ref m2, .int (nI bt), .ref m3, .int (nI ln), .ref m4, .ref m5, .int (nI cl), .ref m6, .ref m7, .ref m8, .ref m9, .ref m10, .ref m11, .ref m12, .int (nI pn), .ref m13, .ref m14])), (m1, .inl (D.2 0, 800, .inl M.2.1)), (m2, .inl (D.2 0, 200, .inl M.2.2)), (m3, .inl (D.2 0, 200, .inl qm))]) hA hB hK hP hD hS [] [0, 1, 2, 3] rfl rfl (by decide)
  refine z_goi (z_runS (As := [.long ((nI j).toInt64), .long 0, .long (((nI bt) - 1).toInt64)]) (rest := []) hF (d_lies D (nI j).toInt64 0 (nI bt - 1).toInt64 s.heap.size) (va_cwS 3 hZ (z_gS t_273 t_274 t_272 t_271) rfl rfl rfl (by decide +kernel) ⟨Nat.le_of_ble_eq_true rfl, Nat.le_of_ble_eq_true rfl⟩) J rfl hl.1 (Nat.le_of_ble_eq_true rfl) dX6_reverse_10 ⟨Nat.le_of_ble_eq_true rfl, Nat.le_of_ble_eq_true rfl⟩) J (fun r1 _ H locs w1 hP hD hS => ?_)
  have hP : va_P D.1 vwCl [(m0, .inr (6, [.int th, .int (nI M.1), .ref m1, .ref m2, .int (nI bt), .ref m3, .int (nI ln), .ref m4, .ref m5, .int (nI cl), .ref m6, .ref m7, .ref m8, .ref m9, .ref m10, .ref m11, .ref m12, .int (nI pn), .ref m13, .ref m14])), (m1, .inl (D.2 0, 800, .inl M.2.1)), (m2, .inl (D.2 0, 200, .inl M.2.2)), (m3, .inl (D.2 0, 200, .inl qm))] H := hP
  have hD : va_D A [(m0, .inr (6, [.int th, .int (nI M.1), .ref m1, .ref m2, .int (nI bt), .ref m3, .int (nI ln), .ref m4, .ref m5, .int (nI cl), .ref m6, .ref m7, .ref m8, .ref m9, .ref m10, .ref m11, .ref m12, .int (nI pn), .ref m13, .ref m14])), (m1, .inl (D.2 0, 800, .inl M.2.1)), (m2, .inl (D.2 0, 200, .inl M.2.2)), (m3, .inl (D.2 0, 200, .inl qm))] := hD
  have f1 := z_lzn bt (by omega) w1
  refine lv_if_eq (tgt := 28) hx hb dX6_reverse_13 (by decide) (fun c1 => ?_) (fun c1 => ?_)
  · skip
    exfalso; exact z_b0 f1 c1 ⟨nI_pos (by omega), nI_ge hj (by omega)⟩
  refine lv_iload_n hx hb dX6_reverse_16 rfl (lv_at hl 2 rfl) ?_
  refine lv_i2l (v := p2.toInt64) hx hb dX6_reverse_17 rfl ?_
  refine lv_lconst (v := 0) hx hb dX6_reverse_18 (by decide) ?_
  refine lv_ldc2 (v := 11) hx hb hown (hZ _ t_275) dX6_reverse_19 ?_
  have J := zJ.mk (wc := []) (wr := [(m0, .inr (6, [.int th, .int (nI M.1), .ref m1, .ref m2, .int (nI bt), .ref m3, .int (nI ln), .ref m4, .ref m5, .int (nI cl), .ref m6, .ref m7, .ref m8, .ref m9, .ref m10, .ref m11, .ref m12, .int (nI pn), .ref m13, .ref m14])), (m1, .inl (D.2 0, 800, .inl M.2.1)), (m2, .inl (D.2 0, 200, .inl M.2.2)), (m3, .inl (D.2 0, 200, .inl qm))]) hA hB hK hP hD hS [] [0, 1, 2, 3] rfl rfl (by decide)
  refine z_goi (z_runS (As := [.long p2.toInt64, .long 0, .long 11]) (rest := []) hF (d_lies D p2.toInt64 0 11 H.size) (va_cwS 3 hZ (z_gS t_273 t_274 t_272 t_271) rfl rfl rfl (by decide +kernel) ⟨Nat.le_of_ble_eq_true rfl, Nat.le_of_ble_eq_true rfl⟩) J rfl hl.1 (Nat.le_of_ble_eq_true rfl) dX6_reverse_22 ⟨Nat.le_of_ble_eq_true rfl, Nat.le_of_ble_eq_true rfl⟩) J (fun r2 _ H locs w2 hP hD hS => ?_)
  have hP : va_P D.1 vwCl [(m0, .inr (6, [.int th, .int (nI M.1), .ref m1, .ref m2, .int (nI bt), .ref m3, .int (nI ln), .ref m4, .ref m5, .int (nI cl), .ref m6, .ref m7, .ref m8, .ref m9, .ref m10, .ref m11, .ref m12, .int (nI pn), .ref m13, .ref m14])), (m1, .inl (D.2 0, 800, .inl M.2.1)), (m2, .inl (D.2 0, 200, .inl M.2.2)), (m3, .inl (D.2 0, 200, .inl qm))] H := hP
  have hD : va_D A [(m0, .inr (6, [.int th, .int (nI M.1), .ref m1, .ref m2, .int (nI bt), .ref m3, .int (nI ln), .ref m4, .ref m5, .int (nI cl), .ref m6, .ref m7, .ref m8, .ref m9, .ref m10, .ref m11, .ref m12, .int (nI pn), .ref m13, .ref m14])), (m1, .inl (D.2 0, 800, .inl M.2.1)), (m2, .inl (D.2 0, 200, .inl M.2.2)), (m3, .inl (D.2 0, 200, .inl qm))] := hD
  have f2 : (r2 = 1 ∧ zin p2 12) ∨ (r2 = 0 ∧ ¬ zin p2 12) := z_lz 11 (by decide) (by decide) w2
  refine lv_if_ne (tgt := 32) hx hb dX6_reverse_25 (by decide) (fun c2 => ?_) (fun c2 => ?_)
  · skip
    have ix := z_b1 f2 c2
    refine lv_iconst (v := 0) hx hb dX6_reverse_32 (by decide) ?_
    refine lv_istore_n (lv' := [(3, .int 0), (0, .ref m0), (1, .int (nI j)), (2, .int p2)]) hx hb dX6_reverse_33 rfl hl (by decide) rfl (fun ls hl => ?_)
    refine lv_iconst (v := 0) hx hb dX6_reverse_34 (by decide) ?_
    refine lv_istore (lv' := [(4, .int 0), (3, .int 0), (0, .ref m0), (1, .int (nI j)), (2, .int p2)]) hx hb dX6_reverse_35 hl (by decide) rfl (fun ls hl => ?_)
    refine lv_iconst (v := 0) hx hb dX6_reverse_37 (by decide) ?_
    refine lv_istore (lv' := [(5, .int 0), (4, .int 0), (3, .int 0), (0, .ref m0), (1, .int (nI j)), (2, .int p2)]) hx hb dX6_reverse_38 hl (by decide) rfl (fun ls hl => ?_)
    have lo1 : ∀ (nn : Nat) (k : Nat), k ≤ M.1 → M.1 + 1 ≤ k + nn → ∀ (H : Heap) (locs : List Loc), va_P D.1 vwCl [(m0, .inr (6, [.int th, .int (nI M.1), .ref m1, .ref m2, .int (nI bt), .ref m3, .int (nI ln), .ref m4, .ref m5, .int (nI cl), .ref m6, .ref m7, .ref m8, .ref m9, .ref m10, .ref m11, .ref m12, .int (nI pn), .ref m13, .ref m14])), (m1, .inl (D.2 0, 800, .inl M.2.1)), (m2, .inl (D.2 0, 200, .inl M.2.2)), (m3, .inl (D.2 0, 200, .inl qm))] H → va_D A [(m0, .inr (6, [.int th, .int (nI M.1), .ref m1, .ref m2, .int (nI bt), .ref m3, .int (nI ln), .ref m4, .ref m5, .int (nI cl), .ref m6, .ref m7, .ref m8, .ref m9, .ref m10, .ref m11, .ref m12, .int (nI pn), .ref m13, .ref m14])), (m1, .inl (D.2 0, 800, .inl M.2.1)), (m2, .inl (D.2 0, 200, .inl M.2.2)), (m3, .inl (D.2 0, 200, .inl qm))] → va_S A s.heap H locs → ∀ (ls : Array Slot), lv_has ls 8 [(0, .ref m0), (1, .int (nI j)), (2, .int p2), (3, .int 0), (4, .int (nI (zm_cnt M.2.1 (nI j) k))), (5, .int (nI k))] → W p l e (headSpec wsX6_reverse ({ frames := 1, cells := 0, slots := 0, locals := 25 })).room s m [.ref m0, .int (nI j), .int p2].toArray below meth c H locs 0 0 (MQ below (va_Qi (fun r (u : Option Int32) => (u = none ∧ (zin p2 12) ∧ (¬ p2 < nI cl) ∧ (¬ 0 < qm j ∧ nI (M.1 + zm_cnt M.2.1 (nI j) M.1) ≤ 200) ∧ r = nI bt) ∨ (u = some 1 ∧ ¬ (zin p2 12)) ∨ (u = some 2 ∧ (zin p2 12) ∧ ¬ (¬ p2 < nI cl)) ∨ (u = some 3 ∧ (zin p2 12) ∧ (¬ p2 < nI cl) ∧ ¬ (¬ 0 < qm j ∧ nI (M.1 + zm_cnt M.2.1 (nI j) M.1) ≤ 200))) (zq D A (fun (u : Option Int32) => (u.elim [(m0, .inr (6, [.int 0, .int (nI (zm_turn M (nI bt) (nI j) p2 M.1).1), .ref m1, .ref m2, .int (nI (bt + 1)), .ref m3, .int (nI ln), .ref m4, .ref m5, .int (nI cl), .ref m6, .ref m7, .ref m8, .ref m9, .ref m10, .ref m11, .ref m12, .int (nI pn), .ref m13, .ref m14])), (m1, .inl (D.2 0, 800, .inl ((zm_turn M (nI bt) (nI j) p2 M.1).2.1))), (m2, .inl (D.2 0, 200, .inl ((zm_turn M (nI bt) (nI j) p2 M.1).2.2))), (m3, .inl (D.2 0, 200, .inl (upd (upd qm j 1) bt 2)))] (fun t => [(m0, .inr (6, [.int t, .int (nI M.1), .ref m1, .ref m2, .int (nI bt), .ref m3, .int (nI ln), .ref m4, .ref m5, .int (nI cl), .ref m6, .ref m7, .ref m8, .ref m9, .ref m10, .ref m11, .ref m12, .int (nI pn), .ref m13, .ref m14])), (m1, .inl (D.2 0, 800, .inl M.2.1)), (m2, .inl (D.2 0, 200, .inl M.2.2)), (m3, .inl (D.2 0, 200, .inl qm))]) : va_W))) A) [.ref m0, .int (nI j), .int p2].toArray s 0 0 A) (F0 m 40 ls []) := by
      intro nn
      induction nn with
      | zero =>
        intro k q1 q2
        exfalso
        omega
      | succ nn ih_lo1 =>
        intro k q1 q2 H locs hP hD hS ls hl
        refine lv_iload hx hb dX6_reverse_40 (lv_at hl 5 rfl) ?_
        refine lv_aload_n hx hb dX6_reverse_42 rfl (lv_at hl 0 rfl) ?_
        refine va_get (D := D.1) (ci := 6) (v := .int (nI M.1)) (C := "ShopLedgerModel") (T := TX6) (N := 20) hx hb hZ inX6 hown hK hP 0 rfl rfl 1 (by decide) (hZ _ t_277) (fun _ h9 => h9) rfl dX6_reverse_43 ?_
        refine lv_icmp_ge (tgt := 80) hx hb dX6_reverse_46 (by decide) (fun c3 => ?_) (fun c3 => ?_)
        · skip
          have e9 : M.1 = k := (z_ge q1 (by omega) c3).symm
          subst e9
          refine lv_iload_n hx hb dX6_reverse_80 rfl (lv_at hl 3 rfl) ?_
          refine lv_if_ne (tgt := 101) hx hb dX6_reverse_81 (by decide) (fun c5 => ?_) (fun c5 => ?_)
          · skip
            exfalso; exact absurd c5 (by decide)
          refine lv_aload_n hx hb dX6_reverse_84 rfl (lv_at hl 0 rfl) ?_
          refine va_get (D := D.1) (ci := 6) (v := .ref m3) (C := "ShopLedgerModel") (T := TX6) (N := 20) hx hb hZ inX6 hown hK hP 0 rfl rfl 5 (by decide) (hZ _ t_280) (fun _ h9 => h9) rfl dX6_reverse_85 ?_
          refine lv_iload_n hx hb dX6_reverse_88 rfl (lv_at hl 3 rfl) ?_
          refine lv_if_eq (tgt := 96) hx hb dX6_reverse_89 (by decide) (fun c6 => ?_) (fun c6 => ?_)
          · skip
            refine lv_iload_n hx hb dX6_reverse_96 rfl (lv_at hl 1 rfl) ?_
            refine z_iald (k := j) hx hb hK hP 3 rfl (by omega) (by decide) dX6_reverse_97 ?_
            refine lv_if_gt (tgt := 114) hx hb dX6_reverse_98 (by decide) (fun c7 => ?_) (fun c7 => ?_)
            · skip
              have nv : ¬ (¬ 0 < qm j ∧ nI (M.1 + zm_cnt M.2.1 (nI j) M.1) ≤ 200) := fun h => h.1 c7
              refine lv_iconst (v := 1) hx hb dX6_reverse_114 (by decide) ?_
              refine lv_goto (tgt := 119) hx hb dX6_reverse_115 (by decide) ?_
              refine lv_istore (lv' := [(5, .int 1), (0, .ref m0), (1, .int (nI j)), (2, .int p2), (3, .int 0), (4, .int (nI (zm_cnt M.2.1 (nI j) M.1)))]) hx hb dX6_reverse_119 hl (by decide) rfl (fun ls hl => ?_)
              refine lv_aload_n hx hb dX6_reverse_121 rfl (lv_at hl 1 rfl) ?_
              refine lv_iload_n hx hb dX6_reverse_122 rfl (lv_at hl 4 rfl) ?_
              refine lv_iload_n hx hb dX6_reverse_123 rfl (lv_at hl 3 rfl) ?_
              refine lv_aload_n hx hb dX6_reverse_124 rfl (lv_at hl 1 rfl) ?_
              refine va_get (D := D.1) (ci := 6) (v := .int (nI cl)) (C := "ShopLedgerModel") (T := TX6) (N := 20) hx hb hZ inX6 hown hK hP 0 rfl rfl 9 (by decide) (hZ _ t_293) (fun _ h9 => h9) rfl dX6_reverse_125 ?_
              refine lv_icmp_ge (tgt := 135) hx hb dX6_reverse_128 (by decide) (fun c9 => ?_) (fun c9 => ?_)
              · skip
                have tu : ¬ p2 < nI cl := Int32.not_lt.mpr c9
                refine lv_iconst (v := 0) hx hb dX6_reverse_135 (by decide) ?_
                refine lv_iload hx hb dX6_reverse_136 (lv_at hl 0 rfl) ?_
                refine lv_iconst (v := 0) hx hb dX6_reverse_138 (by decide) ?_
                have J := zJ.mk (wc := [(m0, .inr (6, [.int th, .int (nI M.1), .ref m1, .ref m2, .int (nI bt), .ref m3, .int (nI ln), .ref m4, .ref m5, .int (nI cl), .ref m6, .ref m7, .ref m8, .ref m9, .ref m10, .ref m11, .ref m12, .int (nI pn), .ref m13, .ref m14]))]) (wr := [(m1, .inl (D.2 0, 800, .inl M.2.1)), (m2, .inl (D.2 0, 200, .inl M.2.2)), (m3, .inl (D.2 0, 200, .inl qm))]) hA hB hK hP hD hS [0] [1, 2, 3] rfl rfl (by decide)
                refine z_goi (z_runV (As := [.int 0, .int 0, .int 1, .int 0]) (rest := []) (b := m0) hF (d_throwing D m0 m1 m2 m3 m4 m5 m6 m7 m8 m9 m10 m11 m12 m13 m14 (M.1, fun _ => 0, fun _ => 0) bt ln cl pn th 0 0 1 0 H.size) (cwV 4 hZ (z_gV t_286 t_287 t_288 t_272 t_285) rfl rfl rfl (by decide +kernel) ⟨Nat.le_of_ble_eq_true rfl, Nat.le_of_ble_eq_true rfl⟩) J 0 6 rfl rfl rfl rfl hl.1 (Nat.le_of_ble_eq_true rfl) dX6_reverse_139 ⟨Nat.le_of_ble_eq_true rfl, Nat.le_of_ble_eq_true rfl⟩) J (fun r3 _ H locs w3 hP hD hS => ?_)
                have hP : va_P D.1 vwCl [(m1, .inl (D.2 0, 800, .inl M.2.1)), (m2, .inl (D.2 0, 200, .inl M.2.2)), (m3, .inl (D.2 0, 200, .inl qm)), (m0, .inr (6, [.int 3, .int (nI M.1), .ref m1, .ref m2, .int (nI bt), .ref m3, .int (nI ln), .ref m4, .ref m5, .int (nI cl), .ref m6, .ref m7, .ref m8, .ref m9, .ref m10, .ref m11, .ref m12, .int (nI pn), .ref m13, .ref m14]))] H := hP
                have hD : va_D A [(m1, .inl (D.2 0, 800, .inl M.2.1)), (m2, .inl (D.2 0, 200, .inl M.2.2)), (m3, .inl (D.2 0, 200, .inl qm)), (m0, .inr (6, [.int 3, .int (nI M.1), .ref m1, .ref m2, .int (nI bt), .ref m3, .int (nI ln), .ref m4, .ref m5, .int (nI cl), .ref m6, .ref m7, .ref m8, .ref m9, .ref m10, .ref m11, .ref m12, .int (nI pn), .ref m13, .ref m14]))] := hD
                have w3 : r3 = 1 := w3
                subst w3
                refine lv_if_eq (tgt := 147) hx hb dX6_reverse_142 (by decide) (fun c10 => ?_) (fun c10 => ?_)
                · skip
                  exfalso; exact absurd c10 (by decide)
                refine lv_iconst (v := 0) hx hb dX6_reverse_145 (by decide) ?_
                exact z_iret (v := 0) hx hb hr hlocks hP hD hS (some 3) (Or.inr (Or.inr (Or.inr (⟨rfl, ix, tu, nv⟩)))) [3, 0, 1, 2] rfl (by decide) (Nat.le_of_ble_eq_true rfl) (Nat.le_of_ble_eq_true rfl) dX6_reverse_146
              have tu : ¬ (¬ p2 < nI cl) := fun h => h (Int32.not_le.mp c9)
              refine lv_iconst (v := 1) hx hb dX6_reverse_131 (by decide) ?_
              refine lv_goto (tgt := 136) hx hb dX6_reverse_132 (by decide) ?_
              refine lv_iload hx hb dX6_reverse_136 (lv_at hl 0 rfl) ?_
              refine lv_iconst (v := 0) hx hb dX6_reverse_138 (by decide) ?_
              have J := zJ.mk (wc := [(m0, .inr (6, [.int th, .int (nI M.1), .ref m1, .ref m2, .int (nI bt), .ref m3, .int (nI ln), .ref m4, .ref m5, .int (nI cl), .ref m6, .ref m7, .ref m8, .ref m9, .ref m10, .ref m11, .ref m12, .int (nI pn), .ref m13, .ref m14]))]) (wr := [(m1, .inl (D.2 0, 800, .inl M.2.1)), (m2, .inl (D.2 0, 200, .inl M.2.2)), (m3, .inl (D.2 0, 200, .inl qm))]) hA hB hK hP hD hS [0] [1, 2, 3] rfl rfl (by decide)
              refine z_goi (z_runV (As := [.int 0, .int 1, .int 1, .int 0]) (rest := []) (b := m0) hF (d_throwing D m0 m1 m2 m3 m4 m5 m6 m7 m8 m9 m10 m11 m12 m13 m14 (M.1, fun _ => 0, fun _ => 0) bt ln cl pn th 0 1 1 0 H.size) (cwV 4 hZ (z_gV t_286 t_287 t_288 t_272 t_285) rfl rfl rfl (by decide +kernel) ⟨Nat.le_of_ble_eq_true rfl, Nat.le_of_ble_eq_true rfl⟩) J 0 6 rfl rfl rfl rfl hl.1 (Nat.le_of_ble_eq_true rfl) dX6_reverse_139 ⟨Nat.le_of_ble_eq_true rfl, Nat.le_of_ble_eq_true rfl⟩) J (fun r3 _ H locs w3 hP hD hS => ?_)
              have hP : va_P D.1 vwCl [(m1, .inl (D.2 0, 800, .inl M.2.1)), (m2, .inl (D.2 0, 200, .inl M.2.2)), (m3, .inl (D.2 0, 200, .inl qm)), (m0, .inr (6, [.int 2, .int (nI M.1), .ref m1, .ref m2, .int (nI bt), .ref m3, .int (nI ln), .ref m4, .ref m5, .int (nI cl), .ref m6, .ref m7, .ref m8, .ref m9, .ref m10, .ref m11, .ref m12, .int (nI pn), .ref m13, .ref m14]))] H := hP
              have hD : va_D A [(m1, .inl (D.2 0, 800, .inl M.2.1)), (m2, .inl (D.2 0, 200, .inl M.2.2)), (m3, .inl (D.2 0, 200, .inl qm)), (m0, .inr (6, [.int 2, .int (nI M.1), .ref m1, .ref m2, .int (nI bt), .ref m3, .int (nI ln), .ref m4, .ref m5, .int (nI cl), .ref m6, .ref m7, .ref m8, .ref m9, .ref m10, .ref m11, .ref m12, .int (nI pn), .ref m13, .ref m14]))] := hD
              have w3 : r3 = 1 := w3
              subst w3
              refine lv_if_eq (tgt := 147) hx hb dX6_reverse_142 (by decide) (fun c10 => ?_) (fun c10 => ?_)
              · skip
                exfalso; exact absurd c10 (by decide)
              refine lv_iconst (v := 0) hx hb dX6_reverse_145 (by decide) ?_
              exact z_iret (v := 0) hx hb hr hlocks hP hD hS (some 2) (Or.inr (Or.inr (Or.inl ⟨rfl, ix, tu⟩))) [3, 0, 1, 2] rfl (by decide) (Nat.le_of_ble_eq_true rfl) (Nat.le_of_ble_eq_true rfl) dX6_reverse_146
            refine lv_aload_n hx hb dX6_reverse_101 rfl (lv_at hl 0 rfl) ?_
            refine va_get (D := D.1) (ci := 6) (v := .int (nI M.1)) (C := "ShopLedgerModel") (T := TX6) (N := 20) hx hb hZ inX6 hown hK hP 0 rfl rfl 1 (by decide) (hZ _ t_277) (fun _ h9 => h9) rfl dX6_reverse_102 ?_
            refine lv_iload hx hb dX6_reverse_105 (lv_at hl 4 rfl) ?_
            refine lv_iadd hx hb dX6_reverse_107 ?_
            rw [show ((nI M.1) + (nI (zm_cnt M.2.1 (nI j) M.1))) = nI (M.1 + zm_cnt M.2.1 (nI j) M.1) from nI_add _ _]
            refine lv_sipush (v := 200) hx hb dX6_reverse_108 (by decide) ?_
            refine lv_icmp_le (tgt := 118) hx hb dX6_reverse_111 (by decide) (fun c8 => ?_) (fun c8 => ?_)
            · skip
              try (have nv : ¬ 0 < qm j ∧ nI (M.1 + zm_cnt M.2.1 (nI j) M.1) ≤ 200 := ⟨c7, c8⟩)
              refine lv_iconst (v := 0) hx hb dX6_reverse_118 (by decide) ?_
              refine lv_istore (lv' := [(5, .int 0), (0, .ref m0), (1, .int (nI j)), (2, .int p2), (3, .int 0), (4, .int (nI (zm_cnt M.2.1 (nI j) M.1)))]) hx hb dX6_reverse_119 hl (by decide) rfl (fun ls hl => ?_)
              refine lv_aload_n hx hb dX6_reverse_121 rfl (lv_at hl 1 rfl) ?_
              refine lv_iload_n hx hb dX6_reverse_122 rfl (lv_at hl 4 rfl) ?_
              refine lv_iload_n hx hb dX6_reverse_123 rfl (lv_at hl 3 rfl) ?_
              refine lv_aload_n hx hb dX6_reverse_124 rfl (lv_at hl 1 rfl) ?_
              refine va_get (D := D.1) (ci := 6) (v := .int (nI cl)) (C := "ShopLedgerModel") (T := TX6) (N := 20) hx hb hZ inX6 hown hK hP 0 rfl rfl 9 (by decide) (hZ _ t_293) (fun _ h9 => h9) rfl dX6_reverse_125 ?_
              refine lv_icmp_ge (tgt := 135) hx hb dX6_reverse_128 (by decide) (fun c9 => ?_) (fun c9 => ?_)
              · skip
                have tu : ¬ p2 < nI cl := Int32.not_lt.mpr c9
                refine lv_iconst (v := 0) hx hb dX6_reverse_135 (by decide) ?_
                refine lv_iload hx hb dX6_reverse_136 (lv_at hl 0 rfl) ?_
                refine lv_iconst (v := 0) hx hb dX6_reverse_138 (by decide) ?_
                have J := zJ.mk (wc := [(m0, .inr (6, [.int th, .int (nI M.1), .ref m1, .ref m2, .int (nI bt), .ref m3, .int (nI ln), .ref m4, .ref m5, .int (nI cl), .ref m6, .ref m7, .ref m8, .ref m9, .ref m10, .ref m11, .ref m12, .int (nI pn), .ref m13, .ref m14]))]) (wr := [(m1, .inl (D.2 0, 800, .inl M.2.1)), (m2, .inl (D.2 0, 200, .inl M.2.2)), (m3, .inl (D.2 0, 200, .inl qm))]) hA hB hK hP hD hS [0] [1, 2, 3] rfl rfl (by decide)
                refine z_goi (z_runV (As := [.int 0, .int 0, .int 0, .int 0]) (rest := []) (b := m0) hF (d_throwing D m0 m1 m2 m3 m4 m5 m6 m7 m8 m9 m10 m11 m12 m13 m14 (M.1, fun _ => 0, fun _ => 0) bt ln cl pn th 0 0 0 0 H.size) (cwV 4 hZ (z_gV t_286 t_287 t_288 t_272 t_285) rfl rfl rfl (by decide +kernel) ⟨Nat.le_of_ble_eq_true rfl, Nat.le_of_ble_eq_true rfl⟩) J 0 6 rfl rfl rfl rfl hl.1 (Nat.le_of_ble_eq_true rfl) dX6_reverse_139 ⟨Nat.le_of_ble_eq_true rfl, Nat.le_of_ble_eq_true rfl⟩) J (fun r3 _ H locs w3 hP hD hS => ?_)
                have hP : va_P D.1 vwCl [(m1, .inl (D.2 0, 800, .inl M.2.1)), (m2, .inl (D.2 0, 200, .inl M.2.2)), (m3, .inl (D.2 0, 200, .inl qm)), (m0, .inr (6, [.int 0, .int (nI M.1), .ref m1, .ref m2, .int (nI bt), .ref m3, .int (nI ln), .ref m4, .ref m5, .int (nI cl), .ref m6, .ref m7, .ref m8, .ref m9, .ref m10, .ref m11, .ref m12, .int (nI pn), .ref m13, .ref m14]))] H := hP
                have hD : va_D A [(m1, .inl (D.2 0, 800, .inl M.2.1)), (m2, .inl (D.2 0, 200, .inl M.2.2)), (m3, .inl (D.2 0, 200, .inl qm)), (m0, .inr (6, [.int 0, .int (nI M.1), .ref m1, .ref m2, .int (nI bt), .ref m3, .int (nI ln), .ref m4, .ref m5, .int (nI cl), .ref m6, .ref m7, .ref m8, .ref m9, .ref m10, .ref m11, .ref m12, .int (nI pn), .ref m13, .ref m14]))] := hD
                have w3 : r3 = 0 := w3
                subst w3
                refine lv_if_eq (tgt := 147) hx hb dX6_reverse_142 (by decide) (fun c10 => ?_) (fun c10 => ?_)
                · skip
                  have hroom : M.1 + zm_cnt M.2.1 (nI j) M.1 ≤ 200 := (nI_leI (b := 200) (by have := zm_cnt_le M.2.1 (nI j) M.1; omega) (by decide)).mp nv.2
                  refine lv_aload_n hx hb dX6_reverse_147 rfl (lv_at hl 1 rfl) ?_
                  refine va_get (D := D.1) (ci := 6) (v := .ref m3) (C := "ShopLedgerModel") (T := TX6) (N := 20) hx hb hZ inX6 hown hK hP 3 rfl rfl 5 (by decide) (hZ _ t_280) (fun _ h9 => h9) rfl dX6_reverse_148 ?_
                  refine lv_iload_n hx hb dX6_reverse_151 rfl (lv_at hl 2 rfl) ?_
                  refine lv_iconst (v := 1) hx hb dX6_reverse_152 (by decide) ?_
                  refine z_iast (k := j) hx hb hK hP hD hS 2 rfl (by omega) (by decide) dX6_reverse_153 (fun H locs hP hD hS => ?_)
                  have hP : va_P D.1 vwCl [(m1, .inl (D.2 0, 800, .inl M.2.1)), (m2, .inl (D.2 0, 200, .inl M.2.2)), (m3, .inl (D.2 0, 200, .inl (upd qm j 1))), (m0, .inr (6, [.int 0, .int (nI M.1), .ref m1, .ref m2, .int (nI bt), .ref m3, .int (nI ln), .ref m4, .ref m5, .int (nI cl), .ref m6, .ref m7, .ref m8, .ref m9, .ref m10, .ref m11, .ref m12, .int (nI pn), .ref m13, .ref m14]))] H := hP
                  have hD : va_D A [(m1, .inl (D.2 0, 800, .inl M.2.1)), (m2, .inl (D.2 0, 200, .inl M.2.2)), (m3, .inl (D.2 0, 200, .inl (upd qm j 1))), (m0, .inr (6, [.int 0, .int (nI M.1), .ref m1, .ref m2, .int (nI bt), .ref m3, .int (nI ln), .ref m4, .ref m5, .int (nI cl), .ref m6, .ref m7, .ref m8, .ref m9, .ref m10, .ref m11, .ref m12, .int (nI pn), .ref m13, .ref m14]))] := hD
                  refine lv_aload_n hx hb dX6_reverse_154 rfl (lv_at hl 1 rfl) ?_
                  refine va_get (D := D.1) (ci := 6) (v := .int (nI M.1)) (C := "ShopLedgerModel") (T := TX6) (N := 20) hx hb hZ inX6 hown hK hP 3 rfl rfl 1 (by decide) (hZ _ t_277) (fun _ h9 => h9) rfl dX6_reverse_155 ?_
                  refine lv_istore (lv' := [(6, .int (nI M.1)), (5, .int 0), (0, .ref m0), (1, .int (nI j)), (2, .int p2), (3, .int 0), (4, .int (nI (zm_cnt M.2.1 (nI j) M.1)))]) hx hb dX6_reverse_158 hl (by decide) rfl (fun ls hl => ?_)
                  refine lv_iconst (v := 0) hx hb dX6_reverse_160 (by decide) ?_
                  refine lv_istore (lv' := [(7, .int 0), (6, .int (nI M.1)), (5, .int 0), (0, .ref m0), (1, .int (nI j)), (2, .int p2), (3, .int 0), (4, .int (nI (zm_cnt M.2.1 (nI j) M.1)))]) hx hb dX6_reverse_161 hl (by decide) rfl (fun ls hl => ?_)
                  have lo2 : ∀ (nn : Nat) (k : Nat), k ≤ M.1 → M.1 + 1 ≤ k + nn → ∀ (H : Heap) (locs : List Loc), va_P D.1 vwCl [(m1, .inl (D.2 0, 800, .inl ((zm_turn M (nI bt) (nI j) p2 k).2.1))), (m2, .inl (D.2 0, 200, .inl ((zm_turn M (nI bt) (nI j) p2 k).2.2))), (m3, .inl (D.2 0, 200, .inl (upd qm j 1))), (m0, .inr (6, [.int 0, .int (nI (zm_turn M (nI bt) (nI j) p2 k).1), .ref m1, .ref m2, .int (nI bt), .ref m3, .int (nI ln), .ref m4, .ref m5, .int (nI cl), .ref m6, .ref m7, .ref m8, .ref m9, .ref m10, .ref m11, .ref m12, .int (nI pn), .ref m13, .ref m14]))] H → va_D A [(m1, .inl (D.2 0, 800, .inl ((zm_turn M (nI bt) (nI j) p2 k).2.1))), (m2, .inl (D.2 0, 200, .inl ((zm_turn M (nI bt) (nI j) p2 k).2.2))), (m3, .inl (D.2 0, 200, .inl (upd qm j 1))), (m0, .inr (6, [.int 0, .int (nI (zm_turn M (nI bt) (nI j) p2 k).1), .ref m1, .ref m2, .int (nI bt), .ref m3, .int (nI ln), .ref m4, .ref m5, .int (nI cl), .ref m6, .ref m7, .ref m8, .ref m9, .ref m10, .ref m11, .ref m12, .int (nI pn), .ref m13, .ref m14]))] → va_S A s.heap H locs → ∀ (ls : Array Slot), lv_has ls 8 [(0, .ref m0), (1, .int (nI j)), (2, .int p2), (6, .int (nI M.1)), (7, .int (nI k))] → W p l e (headSpec wsX6_reverse ({ frames := 1, cells := 0, slots := 0, locals := 25 })).room s m [.ref m0, .int (nI j), .int p2].toArray below meth c H locs 0 0 (MQ below (va_Qi (fun r (u : Option Int32) => (u = none ∧ (zin p2 12) ∧ (¬ p2 < nI cl) ∧ (¬ 0 < qm j ∧ nI (M.1 + zm_cnt M.2.1 (nI j) M.1) ≤ 200) ∧ r = nI bt) ∨ (u = some 1 ∧ ¬ (zin p2 12)) ∨ (u = some 2 ∧ (zin p2 12) ∧ ¬ (¬ p2 < nI cl)) ∨ (u = some 3 ∧ (zin p2 12) ∧ (¬ p2 < nI cl) ∧ ¬ (¬ 0 < qm j ∧ nI (M.1 + zm_cnt M.2.1 (nI j) M.1) ≤ 200))) (zq D A (fun (u : Option Int32) => (u.elim [(m0, .inr (6, [.int 0, .int (nI (zm_turn M (nI bt) (nI j) p2 M.1).1), .ref m1, .ref m2, .int (nI (bt + 1)), .ref m3, .int (nI ln), .ref m4, .ref m5, .int (nI cl), .ref m6, .ref m7, .ref m8, .ref m9, .ref m10, .ref m11, .ref m12, .int (nI pn), .ref m13, .ref m14])), (m1, .inl (D.2 0, 800, .inl ((zm_turn M (nI bt) (nI j) p2 M.1).2.1))), (m2, .inl (D.2 0, 200, .inl ((zm_turn M (nI bt) (nI j) p2 M.1).2.2))), (m3, .inl (D.2 0, 200, .inl (upd (upd qm j 1) bt 2)))] (fun t => [(m0, .inr (6, [.int t, .int (nI M.1), .ref m1, .ref m2, .int (nI bt), .ref m3, .int (nI ln), .ref m4, .ref m5, .int (nI cl), .ref m6, .ref m7, .ref m8, .ref m9, .ref m10, .ref m11, .ref m12, .int (nI pn), .ref m13, .ref m14])), (m1, .inl (D.2 0, 800, .inl M.2.1)), (m2, .inl (D.2 0, 200, .inl M.2.2)), (m3, .inl (D.2 0, 200, .inl qm))]) : va_W))) A) [.ref m0, .int (nI j), .int p2].toArray s 0 0 A) (F0 m 163 ls []) := by
                    intro nn
                    induction nn with
                    | zero =>
                      intro k q1 q2
                      exfalso
                      omega
                    | succ nn ih_lo2 =>
                      intro k q1 q2 H locs hP hD hS ls hl
                      refine lv_iload hx hb dX6_reverse_163 (lv_at hl 4 rfl) ?_
                      refine lv_iload hx hb dX6_reverse_165 (lv_at hl 3 rfl) ?_
                      refine lv_icmp_ge (tgt := 224) hx hb dX6_reverse_167 (by decide) (fun c11 => ?_) (fun c11 => ?_)
                      · skip
                        have e9 : M.1 = k := (z_ge q1 (by omega) c11).symm
                        subst e9
                        refine lv_aload_n hx hb dX6_reverse_224 rfl (lv_at hl 0 rfl) ?_
                        refine lv_iconst (v := 2) hx hb dX6_reverse_225 (by decide) ?_
                        have J := zJ.mk (wc := [(m0, .inr (6, [.int 0, .int (nI (zm_turn M (nI bt) (nI j) p2 M.1).1), .ref m1, .ref m2, .int (nI bt), .ref m3, .int (nI ln), .ref m4, .ref m5, .int (nI cl), .ref m6, .ref m7, .ref m8, .ref m9, .ref m10, .ref m11, .ref m12, .int (nI pn), .ref m13, .ref m14])), (m3, .inl (D.2 0, 200, .inl (upd qm j 1)))]) (wr := [(m1, .inl (D.2 0, 800, .inl ((zm_turn M (nI bt) (nI j) p2 M.1).2.1))), (m2, .inl (D.2 0, 200, .inl ((zm_turn M (nI bt) (nI j) p2 M.1).2.2)))]) hA hB hK hP hD hS [3, 2] [0, 1] rfl rfl (by decide)
                        refine z_goi (z_runV (As := [.int 2]) (rest := []) (b := m0) hF (d_end D m0 m1 m2 m3 m4 m5 m6 m7 m8 m9 m10 m11 m12 m13 m14 (zm_turn M (nI bt) (nI j) p2 M.1) bt ln cl pn 0 (upd qm j 1) 2 H.size (by omega)) (cwV 1 hZ (z_gV t_301 t_302 t_303 t_272 t_300) rfl rfl rfl (by decide +kernel) ⟨Nat.le_of_ble_eq_true rfl, Nat.le_of_ble_eq_true rfl⟩) J 0 6 rfl rfl rfl rfl hl.1 (Nat.le_of_ble_eq_true rfl) dX6_reverse_226 ⟨Nat.le_of_ble_eq_true rfl, Nat.le_of_ble_eq_true rfl⟩) J (fun r5 _ H locs w5 hP hD hS => ?_)
                        have hP : va_P D.1 vwCl [(m1, .inl (D.2 0, 800, .inl ((zm_turn M (nI bt) (nI j) p2 M.1).2.1))), (m2, .inl (D.2 0, 200, .inl ((zm_turn M (nI bt) (nI j) p2 M.1).2.2))), (m0, .inr (6, [.int 0, .int (nI (zm_turn M (nI bt) (nI j) p2 M.1).1), .ref m1, .ref m2, .int (nI (bt + 1)), .ref m3, .int (nI ln), .ref m4, .ref m5, .int (nI cl), .ref m6, .ref m7, .ref m8, .ref m9, .ref m10, .ref m11, .ref m12, .int (nI pn), .ref m13, .ref m14])), (m3, .inl (D.2 0, 200, .inl (upd (upd qm j 1) bt 2)))] H := hP
                        have hD : va_D A [(m1, .inl (D.2 0, 800, .inl ((zm_turn M (nI bt) (nI j) p2 M.1).2.1))), (m2, .inl (D.2 0, 200, .inl ((zm_turn M (nI bt) (nI j) p2 M.1).2.2))), (m0, .inr (6, [.int 0, .int (nI (zm_turn M (nI bt) (nI j) p2 M.1).1), .ref m1, .ref m2, .int (nI (bt + 1)), .ref m3, .int (nI ln), .ref m4, .ref m5, .int (nI cl), .ref m6, .ref m7, .ref m8, .ref m9, .ref m10, .ref m11, .ref m12, .int (nI pn), .ref m13, .ref m14])), (m3, .inl (D.2 0, 200, .inl (upd (upd qm j 1) bt 2)))] := hD
                        subst w5
                        exact z_iret (v := nI bt) hx hb hr hlocks hP hD hS none (Or.inl ⟨rfl, ix, tu, nv, rfl⟩) [2, 0, 1, 3] rfl (by decide) (Nat.le_of_ble_eq_true rfl) (Nat.le_of_ble_eq_true rfl) dX6_reverse_229
                      have hk : k < M.1 := z_lt q1 (by omega) c11
                      refine lv_aload_n hx hb dX6_reverse_170 rfl (lv_at hl 0 rfl) ?_
                      refine va_get (D := D.1) (ci := 6) (v := .ref m1) (C := "ShopLedgerModel") (T := TX6) (N := 20) hx hb hZ inX6 hown hK hP 3 rfl rfl 2 (by decide) (hZ _ t_276) (fun _ h9 => h9) rfl dX6_reverse_171 ?_
                      refine lv_iconst (v := 4) hx hb dX6_reverse_174 (by decide) ?_
                      refine lv_iload hx hb dX6_reverse_175 (lv_at hl 4 rfl) ?_
                      refine lv_imul hx hb dX6_reverse_177 ?_
                      rw [show (4 * (nI k)) = nI (4 * k) from pk_mul 4 k]
                      refine lv_iconst (v := 3) hx hb dX6_reverse_178 (by decide) ?_
                      refine lv_iadd hx hb dX6_reverse_179 ?_
                      rw [show ((nI (4 * k)) + 3) = nI (4 * k + 3) from nI_add _ 3]
                      refine z_iald (k := 4 * k + 3) hx hb hK hP 0 rfl (by omega) (by decide) dX6_reverse_180 ?_
                      refine lv_iload_n hx hb dX6_reverse_181 rfl (lv_at hl 1 rfl) ?_
                      refine lv_icmp_ne (tgt := 218) hx hb dX6_reverse_182 (by decide) (fun c12 => ?_) (fun c12 => ?_)
                      · skip
                        have e8 : (zm_turn M (nI bt) (nI j) p2 (k + 1)) = (zm_turn M (nI bt) (nI j) p2 k) := by simp only [zm_turn]; rw [if_neg c12]
                        rw [← e8] at hP hD
                        refine lv_iinc (v := nI (k + 1)) (lv' := [(7, .int (nI (k + 1))), (0, .ref m0), (1, .int (nI j)), (2, .int p2), (6, .int (nI M.1))]) hx hb dX6_reverse_218 hl (k := 4) rfl (nI_1 k) (by decide) rfl (fun ls hl => ?_)
                        refine lv_goto (tgt := 163) hx hb dX6_reverse_221 (by decide) ?_
                        exact ih_lo2 (k + 1) (Nat.succ_le_of_lt hk) (by omega)  _ _ (hP.sub [0, 1, 2, 3] rfl) (hD.sub [0, 1, 2, 3] (by decide) rfl) hS ls (lv_sub hl [1, 2, 3, 4, 0] rfl)
                      have e8 : (zm_turn M (nI bt) (nI j) p2 (k + 1)) = zm_enter (zm_turn M (nI bt) (nI j) p2 k) (nI bt) ((zm_turn M (nI bt) (nI j) p2 k).2.1 (4 * k)) ((zm_turn M (nI bt) (nI j) p2 k).2.1 (4 * k + 1)) p2 (-((zm_turn M (nI bt) (nI j) p2 k).2.2 k)) := by simp only [zm_turn]; rw [if_pos c12]
                      obtain ⟨g0, g2, g3⟩ := zm_turn_ok M (nI bt) (nI j) p2 k q1
                      have g4 : zm_cnt M.2.1 (nI j) (k + 1) ≤ zm_cnt M.2.1 (nI j) M.1 := zm_cnt_mono _ _ hk
                      have g5 : zm_cnt M.2.1 (nI j) (k + 1) = zm_cnt M.2.1 (nI j) k + 1 := by simp only [zm_cnt]; rw [if_pos (by rw [← g2 (4 * k + 3) (by omega)]; exact c12)]
                      refine lv_aload_n hx hb dX6_reverse_185 rfl (lv_at hl 0 rfl) ?_
                      refine lv_aload_n hx hb dX6_reverse_186 rfl (lv_at hl 0 rfl) ?_
                      refine va_get (D := D.1) (ci := 6) (v := .ref m1) (C := "ShopLedgerModel") (T := TX6) (N := 20) hx hb hZ inX6 hown hK hP 3 rfl rfl 2 (by decide) (hZ _ t_276) (fun _ h9 => h9) rfl dX6_reverse_187 ?_
                      refine lv_iconst (v := 4) hx hb dX6_reverse_190 (by decide) ?_
                      refine lv_iload hx hb dX6_reverse_191 (lv_at hl 4 rfl) ?_
                      refine lv_imul hx hb dX6_reverse_193 ?_
                      rw [show (4 * (nI k)) = nI (4 * k) from pk_mul 4 k]
                      refine z_iald (k := 4 * k) hx hb hK hP 0 rfl (by omega) (by decide) dX6_reverse_194 ?_
                      refine lv_aload_n hx hb dX6_reverse_195 rfl (lv_at hl 0 rfl) ?_
                      refine va_get (D := D.1) (ci := 6) (v := .ref m1) (C := "ShopLedgerModel") (T := TX6) (N := 20) hx hb hZ inX6 hown hK hP 3 rfl rfl 2 (by decide) (hZ _ t_276) (fun _ h9 => h9) rfl dX6_reverse_196 ?_
                      refine lv_iconst (v := 4) hx hb dX6_reverse_199 (by decide) ?_
                      refine lv_iload hx hb dX6_reverse_200 (lv_at hl 4 rfl) ?_
                      refine lv_imul hx hb dX6_reverse_202 ?_
                      rw [show (4 * (nI k)) = nI (4 * k) from pk_mul 4 k]
                      refine lv_iconst (v := 1) hx hb dX6_reverse_203 (by decide) ?_
                      refine lv_iadd hx hb dX6_reverse_204 ?_
                      rw [show ((nI (4 * k)) + 1) = nI (4 * k + 1) from nI_add _ 1]
                      refine z_iald (k := 4 * k + 1) hx hb hK hP 0 rfl (by omega) (by decide) dX6_reverse_205 ?_
                      refine lv_iload_n hx hb dX6_reverse_206 rfl (lv_at hl 2 rfl) ?_
                      refine lv_aload_n hx hb dX6_reverse_207 rfl (lv_at hl 0 rfl) ?_
                      refine va_get (D := D.1) (ci := 6) (v := .ref m2) (C := "ShopLedgerModel") (T := TX6) (N := 20) hx hb hZ inX6 hown hK hP 3 rfl rfl 3 (by decide) (hZ _ t_279) (fun _ h9 => h9) rfl dX6_reverse_208 ?_
                      refine lv_iload hx hb dX6_reverse_211 (lv_at hl 4 rfl) ?_
                      refine z_iald (k := k) hx hb hK hP 1 rfl (by omega) (by decide) dX6_reverse_213 ?_
                      refine lv_ineg hx hb dX6_reverse_214 ?_
                      have J := zJ.mk (wc := [(m0, .inr (6, [.int 0, .int (nI (zm_turn M (nI bt) (nI j) p2 k).1), .ref m1, .ref m2, .int (nI bt), .ref m3, .int (nI ln), .ref m4, .ref m5, .int (nI cl), .ref m6, .ref m7, .ref m8, .ref m9, .ref m10, .ref m11, .ref m12, .int (nI pn), .ref m13, .ref m14])), (m1, .inl (D.2 0, 800, .inl ((zm_turn M (nI bt) (nI j) p2 k).2.1))), (m2, .inl (D.2 0, 200, .inl ((zm_turn M (nI bt) (nI j) p2 k).2.2)))]) (wr := [(m3, .inl (D.2 0, 200, .inl (upd qm j 1)))]) hA hB hK hP hD hS [3, 0, 1] [2] rfl rfl (by decide)
                      refine z_gov (z_runV (As := [.int (((zm_turn M (nI bt) (nI j) p2 k).2.1) (4 * k)), .int (((zm_turn M (nI bt) (nI j) p2 k).2.1) (4 * k + 1)), .int p2, .int (-(((zm_turn M (nI bt) (nI j) p2 k).2.2) k))]) (rest := []) (b := m0) hF (d_enter D m0 m1 m2 m3 m4 m5 m6 m7 m8 m9 m10 m11 m12 m13 m14 (zm_turn M (nI bt) (nI j) p2 k) bt ln cl pn 0 ((zm_turn M (nI bt) (nI j) p2 k).2.1 (4 * k)) ((zm_turn M (nI bt) (nI j) p2 k).2.1 (4 * k + 1)) p2 (-((zm_turn M (nI bt) (nI j) p2 k).2.2 k)) H.size (by rw [g0]; omega)) (cwV 4 hZ (z_gV t_305 t_306 t_307 t_272 t_304) rfl rfl rfl (by decide +kernel) ⟨Nat.le_of_ble_eq_true rfl, Nat.le_of_ble_eq_true rfl⟩) J 0 6 rfl rfl rfl rfl hl.1 (Nat.le_of_ble_eq_true rfl) dX6_reverse_215 ⟨Nat.le_of_ble_eq_true rfl, Nat.le_of_ble_eq_true rfl⟩) J (fun _ H locs w4 hP hD hS => ?_)
                      have hP : va_P D.1 vwCl [(m3, .inl (D.2 0, 200, .inl (upd qm j 1))), (m0, .inr (6, [.int 0, .int (nI (zm_enter (zm_turn M (nI bt) (nI j) p2 k) (nI bt) ((zm_turn M (nI bt) (nI j) p2 k).2.1 (4 * k)) ((zm_turn M (nI bt) (nI j) p2 k).2.1 (4 * k + 1)) p2 (-((zm_turn M (nI bt) (nI j) p2 k).2.2 k))).1), .ref m1, .ref m2, .int (nI bt), .ref m3, .int (nI ln), .ref m4, .ref m5, .int (nI cl), .ref m6, .ref m7, .ref m8, .ref m9, .ref m10, .ref m11, .ref m12, .int (nI pn), .ref m13, .ref m14])), (m1, .inl (D.2 0, 800, .inl ((zm_enter (zm_turn M (nI bt) (nI j) p2 k) (nI bt) ((zm_turn M (nI bt) (nI j) p2 k).2.1 (4 * k)) ((zm_turn M (nI bt) (nI j) p2 k).2.1 (4 * k + 1)) p2 (-((zm_turn M (nI bt) (nI j) p2 k).2.2 k))).2.1))), (m2, .inl (D.2 0, 200, .inl ((zm_enter (zm_turn M (nI bt) (nI j) p2 k) (nI bt) ((zm_turn M (nI bt) (nI j) p2 k).2.1 (4 * k)) ((zm_turn M (nI bt) (nI j) p2 k).2.1 (4 * k + 1)) p2 (-((zm_turn M (nI bt) (nI j) p2 k).2.2 k))).2.2)))] H := hP
                      have hD : va_D A [(m3, .inl (D.2 0, 200, .inl (upd qm j 1))), (m0, .inr (6, [.int 0, .int (nI (zm_enter (zm_turn M (nI bt) (nI j) p2 k) (nI bt) ((zm_turn M (nI bt) (nI j) p2 k).2.1 (4 * k)) ((zm_turn M (nI bt) (nI j) p2 k).2.1 (4 * k + 1)) p2 (-((zm_turn M (nI bt) (nI j) p2 k).2.2 k))).1), .ref m1, .ref m2, .int (nI bt), .ref m3, .int (nI ln), .ref m4, .ref m5, .int (nI cl), .ref m6, .ref m7, .ref m8, .ref m9, .ref m10, .ref m11, .ref m12, .int (nI pn), .ref m13, .ref m14])), (m1, .inl (D.2 0, 800, .inl ((zm_enter (zm_turn M (nI bt) (nI j) p2 k) (nI bt) ((zm_turn M (nI bt) (nI j) p2 k).2.1 (4 * k)) ((zm_turn M (nI bt) (nI j) p2 k).2.1 (4 * k + 1)) p2 (-((zm_turn M (nI bt) (nI j) p2 k).2.2 k))).2.1))), (m2, .inl (D.2 0, 200, .inl ((zm_enter (zm_turn M (nI bt) (nI j) p2 k) (nI bt) ((zm_turn M (nI bt) (nI j) p2 k).2.1 (4 * k)) ((zm_turn M (nI bt) (nI j) p2 k).2.1 (4 * k + 1)) p2 (-((zm_turn M (nI bt) (nI j) p2 k).2.2 k))).2.2)))] := hD
                      rw [← e8] at hP hD
                      have hP : va_P D.1 vwCl [(m3, .inl (D.2 0, 200, .inl (upd qm j 1))), (m0, .inr (6, [.int 0, .int (nI (zm_turn M (nI bt) (nI j) p2 (k + 1)).1), .ref m1, .ref m2, .int (nI bt), .ref m3, .int (nI ln), .ref m4, .ref m5, .int (nI cl), .ref m6, .ref m7, .ref m8, .ref m9, .ref m10, .ref m11, .ref m12, .int (nI pn), .ref m13, .ref m14])), (m1, .inl (D.2 0, 800, .inl ((zm_turn M (nI bt) (nI j) p2 (k + 1)).2.1))), (m2, .inl (D.2 0, 200, .inl ((zm_turn M (nI bt) (nI j) p2 (k + 1)).2.2)))] H := hP
                      have hD : va_D A [(m3, .inl (D.2 0, 200, .inl (upd qm j 1))), (m0, .inr (6, [.int 0, .int (nI (zm_turn M (nI bt) (nI j) p2 (k + 1)).1), .ref m1, .ref m2, .int (nI bt), .ref m3, .int (nI ln), .ref m4, .ref m5, .int (nI cl), .ref m6, .ref m7, .ref m8, .ref m9, .ref m10, .ref m11, .ref m12, .int (nI pn), .ref m13, .ref m14])), (m1, .inl (D.2 0, 800, .inl ((zm_turn M (nI bt) (nI j) p2 (k + 1)).2.1))), (m2, .inl (D.2 0, 200, .inl ((zm_turn M (nI bt) (nI j) p2 (k + 1)).2.2)))] := hD
                      refine lv_iinc (v := nI (k + 1)) (lv' := [(7, .int (nI (k + 1))), (0, .ref m0), (1, .int (nI j)), (2, .int p2), (6, .int (nI M.1))]) hx hb dX6_reverse_218 hl (k := 4) rfl (nI_1 k) (by decide) rfl (fun ls hl => ?_)
                      refine lv_goto (tgt := 163) hx hb dX6_reverse_221 (by decide) ?_
                      exact ih_lo2 (k + 1) (Nat.succ_le_of_lt hk) (by omega)  _ _ (hP.sub [2, 3, 0, 1] rfl) (hD.sub [2, 3, 0, 1] (by decide) rfl) hS ls (lv_sub hl [1, 2, 3, 4, 0] rfl)
                  exact lo2 (M.1 + 1) 0 (Nat.zero_le _) (by omega)  _ _ (hP.sub [0, 1, 2, 3] rfl) (hD.sub [0, 1, 2, 3] (by decide) rfl) hS ls (lv_sub hl [3, 4, 5, 1, 0] rfl)
                exfalso; exact absurd c10 (by decide)
              have tu : ¬ (¬ p2 < nI cl) := fun h => h (Int32.not_le.mp c9)
              refine lv_iconst (v := 1) hx hb dX6_reverse_131 (by decide) ?_
              refine lv_goto (tgt := 136) hx hb dX6_reverse_132 (by decide) ?_
              refine lv_iload hx hb dX6_reverse_136 (lv_at hl 0 rfl) ?_
              refine lv_iconst (v := 0) hx hb dX6_reverse_138 (by decide) ?_
              have J := zJ.mk (wc := [(m0, .inr (6, [.int th, .int (nI M.1), .ref m1, .ref m2, .int (nI bt), .ref m3, .int (nI ln), .ref m4, .ref m5, .int (nI cl), .ref m6, .ref m7, .ref m8, .ref m9, .ref m10, .ref m11, .ref m12, .int (nI pn), .ref m13, .ref m14]))]) (wr := [(m1, .inl (D.2 0, 800, .inl M.2.1)), (m2, .inl (D.2 0, 200, .inl M.2.2)), (m3, .inl (D.2 0, 200, .inl qm))]) hA hB hK hP hD hS [0] [1, 2, 3] rfl rfl (by decide)
              refine z_goi (z_runV (As := [.int 0, .int 1, .int 0, .int 0]) (rest := []) (b := m0) hF (d_throwing D m0 m1 m2 m3 m4 m5 m6 m7 m8 m9 m10 m11 m12 m13 m14 (M.1, fun _ => 0, fun _ => 0) bt ln cl pn th 0 1 0 0 H.size) (cwV 4 hZ (z_gV t_286 t_287 t_288 t_272 t_285) rfl rfl rfl (by decide +kernel) ⟨Nat.le_of_ble_eq_true rfl, Nat.le_of_ble_eq_true rfl⟩) J 0 6 rfl rfl rfl rfl hl.1 (Nat.le_of_ble_eq_true rfl) dX6_reverse_139 ⟨Nat.le_of_ble_eq_true rfl, Nat.le_of_ble_eq_true rfl⟩) J (fun r3 _ H locs w3 hP hD hS => ?_)
              have hP : va_P D.1 vwCl [(m1, .inl (D.2 0, 800, .inl M.2.1)), (m2, .inl (D.2 0, 200, .inl M.2.2)), (m3, .inl (D.2 0, 200, .inl qm)), (m0, .inr (6, [.int 2, .int (nI M.1), .ref m1, .ref m2, .int (nI bt), .ref m3, .int (nI ln), .ref m4, .ref m5, .int (nI cl), .ref m6, .ref m7, .ref m8, .ref m9, .ref m10, .ref m11, .ref m12, .int (nI pn), .ref m13, .ref m14]))] H := hP
              have hD : va_D A [(m1, .inl (D.2 0, 800, .inl M.2.1)), (m2, .inl (D.2 0, 200, .inl M.2.2)), (m3, .inl (D.2 0, 200, .inl qm)), (m0, .inr (6, [.int 2, .int (nI M.1), .ref m1, .ref m2, .int (nI bt), .ref m3, .int (nI ln), .ref m4, .ref m5, .int (nI cl), .ref m6, .ref m7, .ref m8, .ref m9, .ref m10, .ref m11, .ref m12, .int (nI pn), .ref m13, .ref m14]))] := hD
              have w3 : r3 = 1 := w3
              subst w3
              refine lv_if_eq (tgt := 147) hx hb dX6_reverse_142 (by decide) (fun c10 => ?_) (fun c10 => ?_)
              · skip
                exfalso; exact absurd c10 (by decide)
              refine lv_iconst (v := 0) hx hb dX6_reverse_145 (by decide) ?_
              exact z_iret (v := 0) hx hb hr hlocks hP hD hS (some 2) (Or.inr (Or.inr (Or.inl ⟨rfl, ix, tu⟩))) [3, 0, 1, 2] rfl (by decide) (Nat.le_of_ble_eq_true rfl) (Nat.le_of_ble_eq_true rfl) dX6_reverse_146
            have nv : ¬ (¬ 0 < qm j ∧ nI (M.1 + zm_cnt M.2.1 (nI j) M.1) ≤ 200) := fun h => c8 h.2
            refine lv_iconst (v := 1) hx hb dX6_reverse_114 (by decide) ?_
            refine lv_goto (tgt := 119) hx hb dX6_reverse_115 (by decide) ?_
            refine lv_istore (lv' := [(5, .int 1), (0, .ref m0), (1, .int (nI j)), (2, .int p2), (3, .int 0), (4, .int (nI (zm_cnt M.2.1 (nI j) M.1)))]) hx hb dX6_reverse_119 hl (by decide) rfl (fun ls hl => ?_)
            refine lv_aload_n hx hb dX6_reverse_121 rfl (lv_at hl 1 rfl) ?_
            refine lv_iload_n hx hb dX6_reverse_122 rfl (lv_at hl 4 rfl) ?_
            refine lv_iload_n hx hb dX6_reverse_123 rfl (lv_at hl 3 rfl) ?_
            refine lv_aload_n hx hb dX6_reverse_124 rfl (lv_at hl 1 rfl) ?_
            refine va_get (D := D.1) (ci := 6) (v := .int (nI cl)) (C := "ShopLedgerModel") (T := TX6) (N := 20) hx hb hZ inX6 hown hK hP 0 rfl rfl 9 (by decide) (hZ _ t_293) (fun _ h9 => h9) rfl dX6_reverse_125 ?_
            refine lv_icmp_ge (tgt := 135) hx hb dX6_reverse_128 (by decide) (fun c9 => ?_) (fun c9 => ?_)
            · skip
              have tu : ¬ p2 < nI cl := Int32.not_lt.mpr c9
              refine lv_iconst (v := 0) hx hb dX6_reverse_135 (by decide) ?_
              refine lv_iload hx hb dX6_reverse_136 (lv_at hl 0 rfl) ?_
              refine lv_iconst (v := 0) hx hb dX6_reverse_138 (by decide) ?_
              have J := zJ.mk (wc := [(m0, .inr (6, [.int th, .int (nI M.1), .ref m1, .ref m2, .int (nI bt), .ref m3, .int (nI ln), .ref m4, .ref m5, .int (nI cl), .ref m6, .ref m7, .ref m8, .ref m9, .ref m10, .ref m11, .ref m12, .int (nI pn), .ref m13, .ref m14]))]) (wr := [(m1, .inl (D.2 0, 800, .inl M.2.1)), (m2, .inl (D.2 0, 200, .inl M.2.2)), (m3, .inl (D.2 0, 200, .inl qm))]) hA hB hK hP hD hS [0] [1, 2, 3] rfl rfl (by decide)
              refine z_goi (z_runV (As := [.int 0, .int 0, .int 1, .int 0]) (rest := []) (b := m0) hF (d_throwing D m0 m1 m2 m3 m4 m5 m6 m7 m8 m9 m10 m11 m12 m13 m14 (M.1, fun _ => 0, fun _ => 0) bt ln cl pn th 0 0 1 0 H.size) (cwV 4 hZ (z_gV t_286 t_287 t_288 t_272 t_285) rfl rfl rfl (by decide +kernel) ⟨Nat.le_of_ble_eq_true rfl, Nat.le_of_ble_eq_true rfl⟩) J 0 6 rfl rfl rfl rfl hl.1 (Nat.le_of_ble_eq_true rfl) dX6_reverse_139 ⟨Nat.le_of_ble_eq_true rfl, Nat.le_of_ble_eq_true rfl⟩) J (fun r3 _ H locs w3 hP hD hS => ?_)
              have hP : va_P D.1 vwCl [(m1, .inl (D.2 0, 800, .inl M.2.1)), (m2, .inl (D.2 0, 200, .inl M.2.2)), (m3, .inl (D.2 0, 200, .inl qm)), (m0, .inr (6, [.int 3, .int (nI M.1), .ref m1, .ref m2, .int (nI bt), .ref m3, .int (nI ln), .ref m4, .ref m5, .int (nI cl), .ref m6, .ref m7, .ref m8, .ref m9, .ref m10, .ref m11, .ref m12, .int (nI pn), .ref m13, .ref m14]))] H := hP
              have hD : va_D A [(m1, .inl (D.2 0, 800, .inl M.2.1)), (m2, .inl (D.2 0, 200, .inl M.2.2)), (m3, .inl (D.2 0, 200, .inl qm)), (m0, .inr (6, [.int 3, .int (nI M.1), .ref m1, .ref m2, .int (nI bt), .ref m3, .int (nI ln), .ref m4, .ref m5, .int (nI cl), .ref m6, .ref m7, .ref m8, .ref m9, .ref m10, .ref m11, .ref m12, .int (nI pn), .ref m13, .ref m14]))] := hD
              have w3 : r3 = 1 := w3
              subst w3
              refine lv_if_eq (tgt := 147) hx hb dX6_reverse_142 (by decide) (fun c10 => ?_) (fun c10 => ?_)
              · skip
                exfalso; exact absurd c10 (by decide)
              refine lv_iconst (v := 0) hx hb dX6_reverse_145 (by decide) ?_
              exact z_iret (v := 0) hx hb hr hlocks hP hD hS (some 3) (Or.inr (Or.inr (Or.inr (⟨rfl, ix, tu, nv⟩)))) [3, 0, 1, 2] rfl (by decide) (Nat.le_of_ble_eq_true rfl) (Nat.le_of_ble_eq_true rfl) dX6_reverse_146
            have tu : ¬ (¬ p2 < nI cl) := fun h => h (Int32.not_le.mp c9)
            refine lv_iconst (v := 1) hx hb dX6_reverse_131 (by decide) ?_
            refine lv_goto (tgt := 136) hx hb dX6_reverse_132 (by decide) ?_
            refine lv_iload hx hb dX6_reverse_136 (lv_at hl 0 rfl) ?_
            refine lv_iconst (v := 0) hx hb dX6_reverse_138 (by decide) ?_
            have J := zJ.mk (wc := [(m0, .inr (6, [.int th, .int (nI M.1), .ref m1, .ref m2, .int (nI bt), .ref m3, .int (nI ln), .ref m4, .ref m5, .int (nI cl), .ref m6, .ref m7, .ref m8, .ref m9, .ref m10, .ref m11, .ref m12, .int (nI pn), .ref m13, .ref m14]))]) (wr := [(m1, .inl (D.2 0, 800, .inl M.2.1)), (m2, .inl (D.2 0, 200, .inl M.2.2)), (m3, .inl (D.2 0, 200, .inl qm))]) hA hB hK hP hD hS [0] [1, 2, 3] rfl rfl (by decide)
            refine z_goi (z_runV (As := [.int 0, .int 1, .int 1, .int 0]) (rest := []) (b := m0) hF (d_throwing D m0 m1 m2 m3 m4 m5 m6 m7 m8 m9 m10 m11 m12 m13 m14 (M.1, fun _ => 0, fun _ => 0) bt ln cl pn th 0 1 1 0 H.size) (cwV 4 hZ (z_gV t_286 t_287 t_288 t_272 t_285) rfl rfl rfl (by decide +kernel) ⟨Nat.le_of_ble_eq_true rfl, Nat.le_of_ble_eq_true rfl⟩) J 0 6 rfl rfl rfl rfl hl.1 (Nat.le_of_ble_eq_true rfl) dX6_reverse_139 ⟨Nat.le_of_ble_eq_true rfl, Nat.le_of_ble_eq_true rfl⟩) J (fun r3 _ H locs w3 hP hD hS => ?_)
            have hP : va_P D.1 vwCl [(m1, .inl (D.2 0, 800, .inl M.2.1)), (m2, .inl (D.2 0, 200, .inl M.2.2)), (m3, .inl (D.2 0, 200, .inl qm)), (m0, .inr (6, [.int 2, .int (nI M.1), .ref m1, .ref m2, .int (nI bt), .ref m3, .int (nI ln), .ref m4, .ref m5, .int (nI cl), .ref m6, .ref m7, .ref m8, .ref m9, .ref m10, .ref m11, .ref m12, .int (nI pn), .ref m13, .ref m14]))] H := hP
            have hD : va_D A [(m1, .inl (D.2 0, 800, .inl M.2.1)), (m2, .inl (D.2 0, 200, .inl M.2.2)), (m3, .inl (D.2 0, 200, .inl qm)), (m0, .inr (6, [.int 2, .int (nI M.1), .ref m1, .ref m2, .int (nI bt), .ref m3, .int (nI ln), .ref m4, .ref m5, .int (nI cl), .ref m6, .ref m7, .ref m8, .ref m9, .ref m10, .ref m11, .ref m12, .int (nI pn), .ref m13, .ref m14]))] := hD
            have w3 : r3 = 1 := w3
            subst w3
            refine lv_if_eq (tgt := 147) hx hb dX6_reverse_142 (by decide) (fun c10 => ?_) (fun c10 => ?_)
            · skip
              exfalso; exact absurd c10 (by decide)
            refine lv_iconst (v := 0) hx hb dX6_reverse_145 (by decide) ?_
            exact z_iret (v := 0) hx hb hr hlocks hP hD hS (some 2) (Or.inr (Or.inr (Or.inl ⟨rfl, ix, tu⟩))) [3, 0, 1, 2] rfl (by decide) (Nat.le_of_ble_eq_true rfl) (Nat.le_of_ble_eq_true rfl) dX6_reverse_146
          exfalso; exact absurd c6 (by decide)
        have hk : k < M.1 := z_lt q1 (by omega) c3
        refine lv_iload hx hb dX6_reverse_49 (lv_at hl 4 rfl) ?_
        refine lv_aload_n hx hb dX6_reverse_51 rfl (lv_at hl 0 rfl) ?_
        refine va_get (D := D.1) (ci := 6) (v := .ref m1) (C := "ShopLedgerModel") (T := TX6) (N := 20) hx hb hZ inX6 hown hK hP 0 rfl rfl 2 (by decide) (hZ _ t_276) (fun _ h9 => h9) rfl dX6_reverse_52 ?_
        refine lv_iconst (v := 4) hx hb dX6_reverse_55 (by decide) ?_
        refine lv_iload hx hb dX6_reverse_56 (lv_at hl 5 rfl) ?_
        refine lv_imul hx hb dX6_reverse_58 ?_
        rw [show (4 * (nI k)) = nI (4 * k) from pk_mul 4 k]
        refine lv_iconst (v := 3) hx hb dX6_reverse_59 (by decide) ?_
        refine lv_iadd hx hb dX6_reverse_60 ?_
        rw [show ((nI (4 * k)) + 3) = nI (4 * k + 3) from nI_add _ 3]
        refine z_iald (k := 4 * k + 3) hx hb hK hP 1 rfl (by omega) (by decide) dX6_reverse_61 ?_
        refine lv_iload_n hx hb dX6_reverse_62 rfl (lv_at hl 1 rfl) ?_
        refine lv_icmp_ne (tgt := 70) hx hb dX6_reverse_63 (by decide) (fun c4 => ?_) (fun c4 => ?_)
        · skip
          have e8 : zm_cnt M.2.1 (nI j) (k + 1) = zm_cnt M.2.1 (nI j) k := by simp only [zm_cnt]; rw [if_neg c4]
          refine lv_iconst (v := 0) hx hb dX6_reverse_70 (by decide) ?_
          refine lv_iadd hx hb dX6_reverse_71 ?_
          rw [show ((nI (zm_cnt M.2.1 (nI j) k)) + 0) = nI (zm_cnt M.2.1 (nI j) (k + 1)) from by rw [e8]; exact Int32.add_zero _]
          refine lv_istore (lv' := [(4, .int (nI (zm_cnt M.2.1 (nI j) (k + 1)))), (0, .ref m0), (1, .int (nI j)), (2, .int p2), (3, .int 0), (5, .int (nI k))]) hx hb dX6_reverse_72 hl (by decide) rfl (fun ls hl => ?_)
          refine lv_iinc (v := nI (k + 1)) (lv' := [(5, .int (nI (k + 1))), (4, .int (nI (zm_cnt M.2.1 (nI j) (k + 1)))), (0, .ref m0), (1, .int (nI j)), (2, .int p2), (3, .int 0)]) hx hb dX6_reverse_74 hl (k := 5) rfl (nI_1 k) (by decide) rfl (fun ls hl => ?_)
          refine lv_goto (tgt := 40) hx hb dX6_reverse_77 (by decide) ?_
          exact ih_lo1 (k + 1) (Nat.succ_le_of_lt hk) (by omega)  _ _ (hP.sub [0, 1, 2, 3] rfl) (hD.sub [0, 1, 2, 3] (by decide) rfl) hS ls (lv_sub hl [2, 3, 4, 5, 1, 0] rfl)
        have e8 : zm_cnt M.2.1 (nI j) (k + 1) = zm_cnt M.2.1 (nI j) k + 1 := by simp only [zm_cnt]; rw [if_pos c4]
        refine lv_iconst (v := 1) hx hb dX6_reverse_66 (by decide) ?_
        refine lv_goto (tgt := 71) hx hb dX6_reverse_67 (by decide) ?_
        refine lv_iadd hx hb dX6_reverse_71 ?_
        rw [show ((nI (zm_cnt M.2.1 (nI j) k)) + 1) = nI (zm_cnt M.2.1 (nI j) (k + 1)) from by rw [e8]; exact nI_1 _]
        refine lv_istore (lv' := [(4, .int (nI (zm_cnt M.2.1 (nI j) (k + 1)))), (0, .ref m0), (1, .int (nI j)), (2, .int p2), (3, .int 0), (5, .int (nI k))]) hx hb dX6_reverse_72 hl (by decide) rfl (fun ls hl => ?_)
        refine lv_iinc (v := nI (k + 1)) (lv' := [(5, .int (nI (k + 1))), (4, .int (nI (zm_cnt M.2.1 (nI j) (k + 1)))), (0, .ref m0), (1, .int (nI j)), (2, .int p2), (3, .int 0)]) hx hb dX6_reverse_74 hl (k := 5) rfl (nI_1 k) (by decide) rfl (fun ls hl => ?_)
        refine lv_goto (tgt := 40) hx hb dX6_reverse_77 (by decide) ?_
        exact ih_lo1 (k + 1) (Nat.succ_le_of_lt hk) (by omega)  _ _ (hP.sub [0, 1, 2, 3] rfl) (hD.sub [0, 1, 2, 3] (by decide) rfl) hS ls (lv_sub hl [2, 3, 4, 5, 1, 0] rfl)
    exact lo1 (M.1 + 1) 0 (Nat.zero_le _) (by omega)  _ _ (hP.sub [0, 1, 2, 3] rfl) (hD.sub [0, 1, 2, 3] (by decide) rfl) hS ls (lv_sub hl [3, 4, 5, 2, 1, 0] rfl)
  have ix := z_b0 f2 c2
  refine lv_iconst (v := 1) hx hb dX6_reverse_28 (by decide) ?_
  refine lv_goto (tgt := 33) hx hb dX6_reverse_29 (by decide) ?_
  refine lv_istore_n (lv' := [(3, .int 1), (0, .ref m0), (1, .int (nI j)), (2, .int p2)]) hx hb dX6_reverse_33 rfl hl (by decide) rfl (fun ls hl => ?_)
  refine lv_iconst (v := 0) hx hb dX6_reverse_34 (by decide) ?_
  refine lv_istore (lv' := [(4, .int 0), (3, .int 1), (0, .ref m0), (1, .int (nI j)), (2, .int p2)]) hx hb dX6_reverse_35 hl (by decide) rfl (fun ls hl => ?_)
  refine lv_iconst (v := 0) hx hb dX6_reverse_37 (by decide) ?_
  refine lv_istore (lv' := [(5, .int 0), (4, .int 0), (3, .int 1), (0, .ref m0), (1, .int (nI j)), (2, .int p2)]) hx hb dX6_reverse_38 hl (by decide) rfl (fun ls hl => ?_)
  have lo1 : ∀ (nn : Nat) (k : Nat), k ≤ M.1 → M.1 + 1 ≤ k + nn → ∀ (H : Heap) (locs : List Loc), va_P D.1 vwCl [(m0, .inr (6, [.int th, .int (nI M.1), .ref m1, .ref m2, .int (nI bt), .ref m3, .int (nI ln), .ref m4, .ref m5, .int (nI cl), .ref m6, .ref m7, .ref m8, .ref m9, .ref m10, .ref m11, .ref m12, .int (nI pn), .ref m13, .ref m14])), (m1, .inl (D.2 0, 800, .inl M.2.1)), (m2, .inl (D.2 0, 200, .inl M.2.2)), (m3, .inl (D.2 0, 200, .inl qm))] H → va_D A [(m0, .inr (6, [.int th, .int (nI M.1), .ref m1, .ref m2, .int (nI bt), .ref m3, .int (nI ln), .ref m4, .ref m5, .int (nI cl), .ref m6, .ref m7, .ref m8, .ref m9, .ref m10, .ref m11, .ref m12, .int (nI pn), .ref m13, .ref m14])), (m1, .inl (D.2 0, 800, .inl M.2.1)), (m2, .inl (D.2 0, 200, .inl M.2.2)), (m3, .inl (D.2 0, 200, .inl qm))] → va_S A s.heap H locs → ∀ (ls : Array Slot), lv_has ls 8 [(0, .ref m0), (1, .int (nI j)), (2, .int p2), (3, .int 1), (4, .int (nI (zm_cnt M.2.1 (nI j) k))), (5, .int (nI k))] → W p l e (headSpec wsX6_reverse ({ frames := 1, cells := 0, slots := 0, locals := 25 })).room s m [.ref m0, .int (nI j), .int p2].toArray below meth c H locs 0 0 (MQ below (va_Qi (fun r (u : Option Int32) => (u = none ∧ (zin p2 12) ∧ (¬ p2 < nI cl) ∧ (¬ 0 < qm j ∧ nI (M.1 + zm_cnt M.2.1 (nI j) M.1) ≤ 200) ∧ r = nI bt) ∨ (u = some 1 ∧ ¬ (zin p2 12)) ∨ (u = some 2 ∧ (zin p2 12) ∧ ¬ (¬ p2 < nI cl)) ∨ (u = some 3 ∧ (zin p2 12) ∧ (¬ p2 < nI cl) ∧ ¬ (¬ 0 < qm j ∧ nI (M.1 + zm_cnt M.2.1 (nI j) M.1) ≤ 200))) (zq D A (fun (u : Option Int32) => (u.elim [(m0, .inr (6, [.int 0, .int (nI (zm_turn M (nI bt) (nI j) p2 M.1).1), .ref m1, .ref m2, .int (nI (bt + 1)), .ref m3, .int (nI ln), .ref m4, .ref m5, .int (nI cl), .ref m6, .ref m7, .ref m8, .ref m9, .ref m10, .ref m11, .ref m12, .int (nI pn), .ref m13, .ref m14])), (m1, .inl (D.2 0, 800, .inl ((zm_turn M (nI bt) (nI j) p2 M.1).2.1))), (m2, .inl (D.2 0, 200, .inl ((zm_turn M (nI bt) (nI j) p2 M.1).2.2))), (m3, .inl (D.2 0, 200, .inl (upd (upd qm j 1) bt 2)))] (fun t => [(m0, .inr (6, [.int t, .int (nI M.1), .ref m1, .ref m2, .int (nI bt), .ref m3, .int (nI ln), .ref m4, .ref m5, .int (nI cl), .ref m6, .ref m7, .ref m8, .ref m9, .ref m10, .ref m11, .ref m12, .int (nI pn), .ref m13, .ref m14])), (m1, .inl (D.2 0, 800, .inl M.2.1)), (m2, .inl (D.2 0, 200, .inl M.2.2)), (m3, .inl (D.2 0, 200, .inl qm))]) : va_W))) A) [.ref m0, .int (nI j), .int p2].toArray s 0 0 A) (F0 m 40 ls []) := by
    intro nn
    induction nn with
    | zero =>
      intro k q1 q2
      exfalso
      omega
    | succ nn ih_lo1 =>
      intro k q1 q2 H locs hP hD hS ls hl
      refine lv_iload hx hb dX6_reverse_40 (lv_at hl 5 rfl) ?_
      refine lv_aload_n hx hb dX6_reverse_42 rfl (lv_at hl 0 rfl) ?_
      refine va_get (D := D.1) (ci := 6) (v := .int (nI M.1)) (C := "ShopLedgerModel") (T := TX6) (N := 20) hx hb hZ inX6 hown hK hP 0 rfl rfl 1 (by decide) (hZ _ t_277) (fun _ h9 => h9) rfl dX6_reverse_43 ?_
      refine lv_icmp_ge (tgt := 80) hx hb dX6_reverse_46 (by decide) (fun c3 => ?_) (fun c3 => ?_)
      · skip
        have e9 : M.1 = k := (z_ge q1 (by omega) c3).symm
        subst e9
        refine lv_iload_n hx hb dX6_reverse_80 rfl (lv_at hl 3 rfl) ?_
        refine lv_if_ne (tgt := 101) hx hb dX6_reverse_81 (by decide) (fun c5 => ?_) (fun c5 => ?_)
        · skip
          refine lv_aload_n hx hb dX6_reverse_101 rfl (lv_at hl 0 rfl) ?_
          refine va_get (D := D.1) (ci := 6) (v := .int (nI M.1)) (C := "ShopLedgerModel") (T := TX6) (N := 20) hx hb hZ inX6 hown hK hP 0 rfl rfl 1 (by decide) (hZ _ t_277) (fun _ h9 => h9) rfl dX6_reverse_102 ?_
          refine lv_iload hx hb dX6_reverse_105 (lv_at hl 4 rfl) ?_
          refine lv_iadd hx hb dX6_reverse_107 ?_
          rw [show ((nI M.1) + (nI (zm_cnt M.2.1 (nI j) M.1))) = nI (M.1 + zm_cnt M.2.1 (nI j) M.1) from nI_add _ _]
          refine lv_sipush (v := 200) hx hb dX6_reverse_108 (by decide) ?_
          refine lv_icmp_le (tgt := 118) hx hb dX6_reverse_111 (by decide) (fun c8 => ?_) (fun c8 => ?_)
          · skip
            try (have nv : ¬ 0 < qm j ∧ nI (M.1 + zm_cnt M.2.1 (nI j) M.1) ≤ 200 := ⟨c7, c8⟩)
            refine lv_iconst (v := 0) hx hb dX6_reverse_118 (by decide) ?_
            refine lv_istore (lv' := [(5, .int 0), (0, .ref m0), (1, .int (nI j)), (2, .int p2), (3, .int 1), (4, .int (nI (zm_cnt M.2.1 (nI j) M.1)))]) hx hb dX6_reverse_119 hl (by decide) rfl (fun ls hl => ?_)
            refine lv_aload_n hx hb dX6_reverse_121 rfl (lv_at hl 1 rfl) ?_
            refine lv_iload_n hx hb dX6_reverse_122 rfl (lv_at hl 4 rfl) ?_
            refine lv_iload_n hx hb dX6_reverse_123 rfl (lv_at hl 3 rfl) ?_
            refine lv_aload_n hx hb dX6_reverse_124 rfl (lv_at hl 1 rfl) ?_
            refine va_get (D := D.1) (ci := 6) (v := .int (nI cl)) (C := "ShopLedgerModel") (T := TX6) (N := 20) hx hb hZ inX6 hown hK hP 0 rfl rfl 9 (by decide) (hZ _ t_293) (fun _ h9 => h9) rfl dX6_reverse_125 ?_
            refine lv_icmp_ge (tgt := 135) hx hb dX6_reverse_128 (by decide) (fun c9 => ?_) (fun c9 => ?_)
            · skip
              have tu : ¬ p2 < nI cl := Int32.not_lt.mpr c9
              refine lv_iconst (v := 0) hx hb dX6_reverse_135 (by decide) ?_
              refine lv_iload hx hb dX6_reverse_136 (lv_at hl 0 rfl) ?_
              refine lv_iconst (v := 0) hx hb dX6_reverse_138 (by decide) ?_
              have J := zJ.mk (wc := [(m0, .inr (6, [.int th, .int (nI M.1), .ref m1, .ref m2, .int (nI bt), .ref m3, .int (nI ln), .ref m4, .ref m5, .int (nI cl), .ref m6, .ref m7, .ref m8, .ref m9, .ref m10, .ref m11, .ref m12, .int (nI pn), .ref m13, .ref m14]))]) (wr := [(m1, .inl (D.2 0, 800, .inl M.2.1)), (m2, .inl (D.2 0, 200, .inl M.2.2)), (m3, .inl (D.2 0, 200, .inl qm))]) hA hB hK hP hD hS [0] [1, 2, 3] rfl rfl (by decide)
              refine z_goi (z_runV (As := [.int 1, .int 0, .int 0, .int 0]) (rest := []) (b := m0) hF (d_throwing D m0 m1 m2 m3 m4 m5 m6 m7 m8 m9 m10 m11 m12 m13 m14 (M.1, fun _ => 0, fun _ => 0) bt ln cl pn th 1 0 0 0 H.size) (cwV 4 hZ (z_gV t_286 t_287 t_288 t_272 t_285) rfl rfl rfl (by decide +kernel) ⟨Nat.le_of_ble_eq_true rfl, Nat.le_of_ble_eq_true rfl⟩) J 0 6 rfl rfl rfl rfl hl.1 (Nat.le_of_ble_eq_true rfl) dX6_reverse_139 ⟨Nat.le_of_ble_eq_true rfl, Nat.le_of_ble_eq_true rfl⟩) J (fun r3 _ H locs w3 hP hD hS => ?_)
              have hP : va_P D.1 vwCl [(m1, .inl (D.2 0, 800, .inl M.2.1)), (m2, .inl (D.2 0, 200, .inl M.2.2)), (m3, .inl (D.2 0, 200, .inl qm)), (m0, .inr (6, [.int 1, .int (nI M.1), .ref m1, .ref m2, .int (nI bt), .ref m3, .int (nI ln), .ref m4, .ref m5, .int (nI cl), .ref m6, .ref m7, .ref m8, .ref m9, .ref m10, .ref m11, .ref m12, .int (nI pn), .ref m13, .ref m14]))] H := hP
              have hD : va_D A [(m1, .inl (D.2 0, 800, .inl M.2.1)), (m2, .inl (D.2 0, 200, .inl M.2.2)), (m3, .inl (D.2 0, 200, .inl qm)), (m0, .inr (6, [.int 1, .int (nI M.1), .ref m1, .ref m2, .int (nI bt), .ref m3, .int (nI ln), .ref m4, .ref m5, .int (nI cl), .ref m6, .ref m7, .ref m8, .ref m9, .ref m10, .ref m11, .ref m12, .int (nI pn), .ref m13, .ref m14]))] := hD
              have w3 : r3 = 1 := w3
              subst w3
              refine lv_if_eq (tgt := 147) hx hb dX6_reverse_142 (by decide) (fun c10 => ?_) (fun c10 => ?_)
              · skip
                exfalso; exact absurd c10 (by decide)
              refine lv_iconst (v := 0) hx hb dX6_reverse_145 (by decide) ?_
              exact z_iret (v := 0) hx hb hr hlocks hP hD hS (some 1) (Or.inr (Or.inl ⟨rfl, ix⟩)) [3, 0, 1, 2] rfl (by decide) (Nat.le_of_ble_eq_true rfl) (Nat.le_of_ble_eq_true rfl) dX6_reverse_146
            have tu : ¬ (¬ p2 < nI cl) := fun h => h (Int32.not_le.mp c9)
            refine lv_iconst (v := 1) hx hb dX6_reverse_131 (by decide) ?_
            refine lv_goto (tgt := 136) hx hb dX6_reverse_132 (by decide) ?_
            refine lv_iload hx hb dX6_reverse_136 (lv_at hl 0 rfl) ?_
            refine lv_iconst (v := 0) hx hb dX6_reverse_138 (by decide) ?_
            have J := zJ.mk (wc := [(m0, .inr (6, [.int th, .int (nI M.1), .ref m1, .ref m2, .int (nI bt), .ref m3, .int (nI ln), .ref m4, .ref m5, .int (nI cl), .ref m6, .ref m7, .ref m8, .ref m9, .ref m10, .ref m11, .ref m12, .int (nI pn), .ref m13, .ref m14]))]) (wr := [(m1, .inl (D.2 0, 800, .inl M.2.1)), (m2, .inl (D.2 0, 200, .inl M.2.2)), (m3, .inl (D.2 0, 200, .inl qm))]) hA hB hK hP hD hS [0] [1, 2, 3] rfl rfl (by decide)
            refine z_goi (z_runV (As := [.int 1, .int 1, .int 0, .int 0]) (rest := []) (b := m0) hF (d_throwing D m0 m1 m2 m3 m4 m5 m6 m7 m8 m9 m10 m11 m12 m13 m14 (M.1, fun _ => 0, fun _ => 0) bt ln cl pn th 1 1 0 0 H.size) (cwV 4 hZ (z_gV t_286 t_287 t_288 t_272 t_285) rfl rfl rfl (by decide +kernel) ⟨Nat.le_of_ble_eq_true rfl, Nat.le_of_ble_eq_true rfl⟩) J 0 6 rfl rfl rfl rfl hl.1 (Nat.le_of_ble_eq_true rfl) dX6_reverse_139 ⟨Nat.le_of_ble_eq_true rfl, Nat.le_of_ble_eq_true rfl⟩) J (fun r3 _ H locs w3 hP hD hS => ?_)
            have hP : va_P D.1 vwCl [(m1, .inl (D.2 0, 800, .inl M.2.1)), (m2, .inl (D.2 0, 200, .inl M.2.2)), (m3, .inl (D.2 0, 200, .inl qm)), (m0, .inr (6, [.int 1, .int (nI M.1), .ref m1, .ref m2, .int (nI bt), .ref m3, .int (nI ln), .ref m4, .ref m5, .int (nI cl), .ref m6, .ref m7, .ref m8, .ref m9, .ref m10, .ref m11, .ref m12, .int (nI pn), .ref m13, .ref m14]))] H := hP
            have hD : va_D A [(m1, .inl (D.2 0, 800, .inl M.2.1)), (m2, .inl (D.2 0, 200, .inl M.2.2)), (m3, .inl (D.2 0, 200, .inl qm)), (m0, .inr (6, [.int 1, .int (nI M.1), .ref m1, .ref m2, .int (nI bt), .ref m3, .int (nI ln), .ref m4, .ref m5, .int (nI cl), .ref m6, .ref m7, .ref m8, .ref m9, .ref m10, .ref m11, .ref m12, .int (nI pn), .ref m13, .ref m14]))] := hD
            have w3 : r3 = 1 := w3
            subst w3
            refine lv_if_eq (tgt := 147) hx hb dX6_reverse_142 (by decide) (fun c10 => ?_) (fun c10 => ?_)
            · skip
              exfalso; exact absurd c10 (by decide)
            refine lv_iconst (v := 0) hx hb dX6_reverse_145 (by decide) ?_
            exact z_iret (v := 0) hx hb hr hlocks hP hD hS (some 1) (Or.inr (Or.inl ⟨rfl, ix⟩)) [3, 0, 1, 2] rfl (by decide) (Nat.le_of_ble_eq_true rfl) (Nat.le_of_ble_eq_true rfl) dX6_reverse_146
          have nv : ¬ (¬ 0 < qm j ∧ nI (M.1 + zm_cnt M.2.1 (nI j) M.1) ≤ 200) := fun h => c8 h.2
          refine lv_iconst (v := 1) hx hb dX6_reverse_114 (by decide) ?_
          refine lv_goto (tgt := 119) hx hb dX6_reverse_115 (by decide) ?_
          refine lv_istore (lv' := [(5, .int 1), (0, .ref m0), (1, .int (nI j)), (2, .int p2), (3, .int 1), (4, .int (nI (zm_cnt M.2.1 (nI j) M.1)))]) hx hb dX6_reverse_119 hl (by decide) rfl (fun ls hl => ?_)
          refine lv_aload_n hx hb dX6_reverse_121 rfl (lv_at hl 1 rfl) ?_
          refine lv_iload_n hx hb dX6_reverse_122 rfl (lv_at hl 4 rfl) ?_
          refine lv_iload_n hx hb dX6_reverse_123 rfl (lv_at hl 3 rfl) ?_
          refine lv_aload_n hx hb dX6_reverse_124 rfl (lv_at hl 1 rfl) ?_
          refine va_get (D := D.1) (ci := 6) (v := .int (nI cl)) (C := "ShopLedgerModel") (T := TX6) (N := 20) hx hb hZ inX6 hown hK hP 0 rfl rfl 9 (by decide) (hZ _ t_293) (fun _ h9 => h9) rfl dX6_reverse_125 ?_
          refine lv_icmp_ge (tgt := 135) hx hb dX6_reverse_128 (by decide) (fun c9 => ?_) (fun c9 => ?_)
          · skip
            have tu : ¬ p2 < nI cl := Int32.not_lt.mpr c9
            refine lv_iconst (v := 0) hx hb dX6_reverse_135 (by decide) ?_
            refine lv_iload hx hb dX6_reverse_136 (lv_at hl 0 rfl) ?_
            refine lv_iconst (v := 0) hx hb dX6_reverse_138 (by decide) ?_
            have J := zJ.mk (wc := [(m0, .inr (6, [.int th, .int (nI M.1), .ref m1, .ref m2, .int (nI bt), .ref m3, .int (nI ln), .ref m4, .ref m5, .int (nI cl), .ref m6, .ref m7, .ref m8, .ref m9, .ref m10, .ref m11, .ref m12, .int (nI pn), .ref m13, .ref m14]))]) (wr := [(m1, .inl (D.2 0, 800, .inl M.2.1)), (m2, .inl (D.2 0, 200, .inl M.2.2)), (m3, .inl (D.2 0, 200, .inl qm))]) hA hB hK hP hD hS [0] [1, 2, 3] rfl rfl (by decide)
            refine z_goi (z_runV (As := [.int 1, .int 0, .int 1, .int 0]) (rest := []) (b := m0) hF (d_throwing D m0 m1 m2 m3 m4 m5 m6 m7 m8 m9 m10 m11 m12 m13 m14 (M.1, fun _ => 0, fun _ => 0) bt ln cl pn th 1 0 1 0 H.size) (cwV 4 hZ (z_gV t_286 t_287 t_288 t_272 t_285) rfl rfl rfl (by decide +kernel) ⟨Nat.le_of_ble_eq_true rfl, Nat.le_of_ble_eq_true rfl⟩) J 0 6 rfl rfl rfl rfl hl.1 (Nat.le_of_ble_eq_true rfl) dX6_reverse_139 ⟨Nat.le_of_ble_eq_true rfl, Nat.le_of_ble_eq_true rfl⟩) J (fun r3 _ H locs w3 hP hD hS => ?_)
            have hP : va_P D.1 vwCl [(m1, .inl (D.2 0, 800, .inl M.2.1)), (m2, .inl (D.2 0, 200, .inl M.2.2)), (m3, .inl (D.2 0, 200, .inl qm)), (m0, .inr (6, [.int 1, .int (nI M.1), .ref m1, .ref m2, .int (nI bt), .ref m3, .int (nI ln), .ref m4, .ref m5, .int (nI cl), .ref m6, .ref m7, .ref m8, .ref m9, .ref m10, .ref m11, .ref m12, .int (nI pn), .ref m13, .ref m14]))] H := hP
            have hD : va_D A [(m1, .inl (D.2 0, 800, .inl M.2.1)), (m2, .inl (D.2 0, 200, .inl M.2.2)), (m3, .inl (D.2 0, 200, .inl qm)), (m0, .inr (6, [.int 1, .int (nI M.1), .ref m1, .ref m2, .int (nI bt), .ref m3, .int (nI ln), .ref m4, .ref m5, .int (nI cl), .ref m6, .ref m7, .ref m8, .ref m9, .ref m10, .ref m11, .ref m12, .int (nI pn), .ref m13, .ref m14]))] := hD
            have w3 : r3 = 1 := w3
            subst w3
            refine lv_if_eq (tgt := 147) hx hb dX6_reverse_142 (by decide) (fun c10 => ?_) (fun c10 => ?_)
            · skip
              exfalso; exact absurd c10 (by decide)
            refine lv_iconst (v := 0) hx hb dX6_reverse_145 (by decide) ?_
            exact z_iret (v := 0) hx hb hr hlocks hP hD hS (some 1) (Or.inr (Or.inl ⟨rfl, ix⟩)) [3, 0, 1, 2] rfl (by decide) (Nat.le_of_ble_eq_true rfl) (Nat.le_of_ble_eq_true rfl) dX6_reverse_146
          have tu : ¬ (¬ p2 < nI cl) := fun h => h (Int32.not_le.mp c9)
          refine lv_iconst (v := 1) hx hb dX6_reverse_131 (by decide) ?_
          refine lv_goto (tgt := 136) hx hb dX6_reverse_132 (by decide) ?_
          refine lv_iload hx hb dX6_reverse_136 (lv_at hl 0 rfl) ?_
          refine lv_iconst (v := 0) hx hb dX6_reverse_138 (by decide) ?_
          have J := zJ.mk (wc := [(m0, .inr (6, [.int th, .int (nI M.1), .ref m1, .ref m2, .int (nI bt), .ref m3, .int (nI ln), .ref m4, .ref m5, .int (nI cl), .ref m6, .ref m7, .ref m8, .ref m9, .ref m10, .ref m11, .ref m12, .int (nI pn), .ref m13, .ref m14]))]) (wr := [(m1, .inl (D.2 0, 800, .inl M.2.1)), (m2, .inl (D.2 0, 200, .inl M.2.2)), (m3, .inl (D.2 0, 200, .inl qm))]) hA hB hK hP hD hS [0] [1, 2, 3] rfl rfl (by decide)
          refine z_goi (z_runV (As := [.int 1, .int 1, .int 1, .int 0]) (rest := []) (b := m0) hF (d_throwing D m0 m1 m2 m3 m4 m5 m6 m7 m8 m9 m10 m11 m12 m13 m14 (M.1, fun _ => 0, fun _ => 0) bt ln cl pn th 1 1 1 0 H.size) (cwV 4 hZ (z_gV t_286 t_287 t_288 t_272 t_285) rfl rfl rfl (by decide +kernel) ⟨Nat.le_of_ble_eq_true rfl, Nat.le_of_ble_eq_true rfl⟩) J 0 6 rfl rfl rfl rfl hl.1 (Nat.le_of_ble_eq_true rfl) dX6_reverse_139 ⟨Nat.le_of_ble_eq_true rfl, Nat.le_of_ble_eq_true rfl⟩) J (fun r3 _ H locs w3 hP hD hS => ?_)
          have hP : va_P D.1 vwCl [(m1, .inl (D.2 0, 800, .inl M.2.1)), (m2, .inl (D.2 0, 200, .inl M.2.2)), (m3, .inl (D.2 0, 200, .inl qm)), (m0, .inr (6, [.int 1, .int (nI M.1), .ref m1, .ref m2, .int (nI bt), .ref m3, .int (nI ln), .ref m4, .ref m5, .int (nI cl), .ref m6, .ref m7, .ref m8, .ref m9, .ref m10, .ref m11, .ref m12, .int (nI pn), .ref m13, .ref m14]))] H := hP
          have hD : va_D A [(m1, .inl (D.2 0, 800, .inl M.2.1)), (m2, .inl (D.2 0, 200, .inl M.2.2)), (m3, .inl (D.2 0, 200, .inl qm)), (m0, .inr (6, [.int 1, .int (nI M.1), .ref m1, .ref m2, .int (nI bt), .ref m3, .int (nI ln), .ref m4, .ref m5, .int (nI cl), .ref m6, .ref m7, .ref m8, .ref m9, .ref m10, .ref m11, .ref m12, .int (nI pn), .ref m13, .ref m14]))] := hD
          have w3 : r3 = 1 := w3
          subst w3
          refine lv_if_eq (tgt := 147) hx hb dX6_reverse_142 (by decide) (fun c10 => ?_) (fun c10 => ?_)
          · skip
            exfalso; exact absurd c10 (by decide)
          refine lv_iconst (v := 0) hx hb dX6_reverse_145 (by decide) ?_
          exact z_iret (v := 0) hx hb hr hlocks hP hD hS (some 1) (Or.inr (Or.inl ⟨rfl, ix⟩)) [3, 0, 1, 2] rfl (by decide) (Nat.le_of_ble_eq_true rfl) (Nat.le_of_ble_eq_true rfl) dX6_reverse_146
        exfalso; exact absurd c5 (by decide)
      have hk : k < M.1 := z_lt q1 (by omega) c3
      refine lv_iload hx hb dX6_reverse_49 (lv_at hl 4 rfl) ?_
      refine lv_aload_n hx hb dX6_reverse_51 rfl (lv_at hl 0 rfl) ?_
      refine va_get (D := D.1) (ci := 6) (v := .ref m1) (C := "ShopLedgerModel") (T := TX6) (N := 20) hx hb hZ inX6 hown hK hP 0 rfl rfl 2 (by decide) (hZ _ t_276) (fun _ h9 => h9) rfl dX6_reverse_52 ?_
      refine lv_iconst (v := 4) hx hb dX6_reverse_55 (by decide) ?_
      refine lv_iload hx hb dX6_reverse_56 (lv_at hl 5 rfl) ?_
      refine lv_imul hx hb dX6_reverse_58 ?_
      rw [show (4 * (nI k)) = nI (4 * k) from pk_mul 4 k]
      refine lv_iconst (v := 3) hx hb dX6_reverse_59 (by decide) ?_
      refine lv_iadd hx hb dX6_reverse_60 ?_
      rw [show ((nI (4 * k)) + 3) = nI (4 * k + 3) from nI_add _ 3]
      refine z_iald (k := 4 * k + 3) hx hb hK hP 1 rfl (by omega) (by decide) dX6_reverse_61 ?_
      refine lv_iload_n hx hb dX6_reverse_62 rfl (lv_at hl 1 rfl) ?_
      refine lv_icmp_ne (tgt := 70) hx hb dX6_reverse_63 (by decide) (fun c4 => ?_) (fun c4 => ?_)
      · skip
        have e8 : zm_cnt M.2.1 (nI j) (k + 1) = zm_cnt M.2.1 (nI j) k := by simp only [zm_cnt]; rw [if_neg c4]
        refine lv_iconst (v := 0) hx hb dX6_reverse_70 (by decide) ?_
        refine lv_iadd hx hb dX6_reverse_71 ?_
        rw [show ((nI (zm_cnt M.2.1 (nI j) k)) + 0) = nI (zm_cnt M.2.1 (nI j) (k + 1)) from by rw [e8]; exact Int32.add_zero _]
        refine lv_istore (lv' := [(4, .int (nI (zm_cnt M.2.1 (nI j) (k + 1)))), (0, .ref m0), (1, .int (nI j)), (2, .int p2), (3, .int 1), (5, .int (nI k))]) hx hb dX6_reverse_72 hl (by decide) rfl (fun ls hl => ?_)
        refine lv_iinc (v := nI (k + 1)) (lv' := [(5, .int (nI (k + 1))), (4, .int (nI (zm_cnt M.2.1 (nI j) (k + 1)))), (0, .ref m0), (1, .int (nI j)), (2, .int p2), (3, .int 1)]) hx hb dX6_reverse_74 hl (k := 5) rfl (nI_1 k) (by decide) rfl (fun ls hl => ?_)
        refine lv_goto (tgt := 40) hx hb dX6_reverse_77 (by decide) ?_
        exact ih_lo1 (k + 1) (Nat.succ_le_of_lt hk) (by omega)  _ _ (hP.sub [0, 1, 2, 3] rfl) (hD.sub [0, 1, 2, 3] (by decide) rfl) hS ls (lv_sub hl [2, 3, 4, 5, 1, 0] rfl)
      have e8 : zm_cnt M.2.1 (nI j) (k + 1) = zm_cnt M.2.1 (nI j) k + 1 := by simp only [zm_cnt]; rw [if_pos c4]
      refine lv_iconst (v := 1) hx hb dX6_reverse_66 (by decide) ?_
      refine lv_goto (tgt := 71) hx hb dX6_reverse_67 (by decide) ?_
      refine lv_iadd hx hb dX6_reverse_71 ?_
      rw [show ((nI (zm_cnt M.2.1 (nI j) k)) + 1) = nI (zm_cnt M.2.1 (nI j) (k + 1)) from by rw [e8]; exact nI_1 _]
      refine lv_istore (lv' := [(4, .int (nI (zm_cnt M.2.1 (nI j) (k + 1)))), (0, .ref m0), (1, .int (nI j)), (2, .int p2), (3, .int 1), (5, .int (nI k))]) hx hb dX6_reverse_72 hl (by decide) rfl (fun ls hl => ?_)
      refine lv_iinc (v := nI (k + 1)) (lv' := [(5, .int (nI (k + 1))), (4, .int (nI (zm_cnt M.2.1 (nI j) (k + 1)))), (0, .ref m0), (1, .int (nI j)), (2, .int p2), (3, .int 1)]) hx hb dX6_reverse_74 hl (k := 5) rfl (nI_1 k) (by decide) rfl (fun ls hl => ?_)
      refine lv_goto (tgt := 40) hx hb dX6_reverse_77 (by decide) ?_
      exact ih_lo1 (k + 1) (Nat.succ_le_of_lt hk) (by omega)  _ _ (hP.sub [0, 1, 2, 3] rfl) (hD.sub [0, 1, 2, 3] (by decide) rfl) hS ls (lv_sub hl [2, 3, 4, 5, 1, 0] rfl)
  exact lo1 (M.1 + 1) 0 (Nat.zero_le _) (by omega)  _ _ (hP.sub [0, 1, 2, 3] rfl) (hD.sub [0, 1, 2, 3] (by decide) rfl) hS ls (lv_sub hl [3, 4, 5, 2, 1, 0] rfl)
set_option maxHeartbeats 4000000 in
set_option maxRecDepth 100000 in
/-- the reference: reverse -/
theorem d_reverseX {l : Launch} (D : zD) (m0 m1 m2 m3 m4 m5 m6 m7 m8 m9 m10 m11 m12 m13 m14 : Nat) (M : zM) (bt ln cl pn : Nat) (th : Int32) (qm : Nat → Int32) (p1 p2 : Int32) (sz : Nat) (hM : M.1 ≤ 200) (hb9 : bt ≤ M.1) (hp : ¬ zin p1 (nI bt)) : Met l yX6_reverse wsX6_reverse ({ frames := 1, cells := 0, slots := 0, locals := 25 }) (va_Pc [.ref m0, .int p1, .int p2] (zp D sz [(m0, .inr (6, [.int th, .int (nI M.1), .ref m1, .ref m2, .int (nI bt), .ref m3, .int (nI ln), .ref m4, .ref m5, .int (nI cl), .ref m6, .ref m7, .ref m8, .ref m9, .ref m10, .ref m11, .ref m12, .int (nI pn), .ref m13, .ref m14])), (m1, .inl (D.2 0, 800, .inl M.2.1)), (m2, .inl (D.2 0, 200, .inl M.2.2)), (m3, .inl (D.2 0, 200, .inl qm))])) (va_Qi (fun r (u : Option Int32) => (u = none ∧ (zin p1 (nI bt)) ∧ r = 0) ∨ (u = some 1 ∧ ¬ (zin p1 (nI bt)))) (zq D (va_A [(m0, .inr (6, [.int th, .int (nI M.1), .ref m1, .ref m2, .int (nI bt), .ref m3, .int (nI ln), .ref m4, .ref m5, .int (nI cl), .ref m6, .ref m7, .ref m8, .ref m9, .ref m10, .ref m11, .ref m12, .int (nI pn), .ref m13, .ref m14])), (m1, .inl (D.2 0, 800, .inl M.2.1)), (m2, .inl (D.2 0, 200, .inl M.2.2)), (m3, .inl (D.2 0, 200, .inl qm))] sz) (fun (u : Option Int32) => (u.elim [(m0, .inr (6, [.int 0, .int (nI M.1), .ref m1, .ref m2, .int (nI bt), .ref m3, .int (nI ln), .ref m4, .ref m5, .int (nI cl), .ref m6, .ref m7, .ref m8, .ref m9, .ref m10, .ref m11, .ref m12, .int (nI pn), .ref m13, .ref m14])), (m1, .inl (D.2 0, 800, .inl M.2.1)), (m2, .inl (D.2 0, 200, .inl M.2.2)), (m3, .inl (D.2 0, 200, .inl qm))] (fun t => [(m0, .inr (6, [.int t, .int (nI M.1), .ref m1, .ref m2, .int (nI bt), .ref m3, .int (nI ln), .ref m4, .ref m5, .int (nI cl), .ref m6, .ref m7, .ref m8, .ref m9, .ref m10, .ref m11, .ref m12, .int (nI pn), .ref m13, .ref m14])), (m1, .inl (D.2 0, 800, .inl M.2.1)), (m2, .inl (D.2 0, 200, .inl M.2.2)), (m3, .inl (D.2 0, 200, .inl qm))]) : va_W))) (va_A [(m0, .inr (6, [.int th, .int (nI M.1), .ref m1, .ref m2, .int (nI bt), .ref m3, .int (nI ln), .ref m4, .ref m5, .int (nI cl), .ref m6, .ref m7, .ref m8, .ref m9, .ref m10, .ref m11, .ref m12, .int (nI pn), .ref m13, .ref m14])), (m1, .inl (D.2 0, 800, .inl M.2.1)), (m2, .inl (D.2 0, 200, .inl M.2.2)), (m3, .inl (D.2 0, 200, .inl qm))] sz)) 0 0 (va_A [(m0, .inr (6, [.int th, .int (nI M.1), .ref m1, .ref m2, .int (nI bt), .ref m3, .int (nI ln), .ref m4, .ref m5, .int (nI cl), .ref m6, .ref m7, .ref m8, .ref m9, .ref m10, .ref m11, .ref m12, .int (nI pn), .ref m13, .ref m14])), (m1, .inl (D.2 0, 800, .inl M.2.1)), (m2, .inl (D.2 0, 200, .inl M.2.2)), (m3, .inl (D.2 0, 200, .inl qm))] sz) := by
  refine Met.ofW (cc := cX6_reverse) (maxL := 8) (ret := (some .int)) (by decide) rfl ?_
  intro p e s m args below meth c s₁ B hml hv
  obtain ⟨rfl, hsz, hP, hK, hD0, hB⟩ := hv
  have hx := B.exec
  have hb := B.bytes
  have hr := B.returns
  have hts := atoms_spec (ws := wsX6_reverse) B.pre
  have hown : s.vm.findClass "ShopLedgerModel" = some m.cls := findClass_of_methodNamed B.named
  have hlocks := B.notSynchronized
  subst hsz
  have hD := hD0.self (sz := s.heap.size)
  generalize hAe : va_A [(m0, .inr (6, [.int th, .int (nI M.1), .ref m1, .ref m2, .int (nI bt), .ref m3, .int (nI ln), .ref m4, .ref m5, .int (nI cl), .ref m6, .ref m7, .ref m8, .ref m9, .ref m10, .ref m11, .ref m12, .int (nI pn), .ref m13, .ref m14])), (m1, .inl (D.2 0, 800, .inl M.2.1)), (m2, .inl (D.2 0, 200, .inl M.2.2)), (m3, .inl (D.2 0, 200, .inl qm))] s.heap.size = A at hD hB ⊢
  have hA : ∀ q : Nat, s.heap.size ≤ q → A q := fun q h => by rw [← hAe]; exact Or.inr h
  have hS : va_S A s.heap s.heap [] := va_S.rf
  have hZ : ∀ w ∈ zALL, w.before _ s = true := fun w h => hts w (List.mem_cons_of_mem _ h)
  have hF : CallFix p m c cX6_reverse 8 s _ zALL "ShopLedgerModel" := ⟨hx, hb, hml, hown, hZ⟩
  have hl := lv_entry ([.ref m0, .int p1, .int p2]) (n := 8) (Nat.le_of_ble_eq_true rfl)
  rw [lg_entry_eq]
  generalize (lg_sl ([.ref m0, .int p1, .int p2]) ++ List.replicate (8 - (lg_sl ([.ref m0, .int p1, .int p2])).length) Slot.unset).toArray = ls at hl ⊢
  have hl : lv_has ls 8 [(0, .ref m0), (1, .int p1), (2, .int p2)] := hl
  refine lv_iload_n hx hb dX6_reverse_0 rfl (lv_at hl 1 rfl) ?_
  refine lv_i2l (v := p1.toInt64) hx hb dX6_reverse_1 rfl ?_
  refine lv_lconst (v := 0) hx hb dX6_reverse_2 (by decide) ?_
  refine lv_aload_n hx hb dX6_reverse_3 rfl (lv_at hl 0 rfl) ?_
  refine va_get (D := D.1) (ci := 6) (v := .int (nI bt)) (C := "ShopLedgerModel") (T := TX6) (N := 20) hx hb hZ inX6 hown hK hP 0 rfl rfl 4 (by decide) (hZ _ t_278) (fun _ h9 => h9) rfl dX6_reverse_4 ?_
  refine lv_iconst (v := 1) hx hb dX6_reverse_7 (by decide) ?_
  refine lv_isub hx hb dX6_reverse_8 ?_
  refine lv_i2l (v := ((nI bt) - 1).toInt64) hx hb dX6_reverse_9 rfl ?_
  have J := zJ.mk (wc := []) (wr := [(m0, .inr (6, [.int th, .int (nI M.1), .ref m1, .ref m2, .int (nI bt), .ref m3, .int (nI ln), .ref m4, .ref m5, .int (nI cl), .ref m6, .ref m7, .ref m8, .ref m9, .ref m10, .ref m11, .ref m12, .int (nI pn), .ref m13, .ref m14])), (m1, .inl (D.2 0, 800, .inl M.2.1)), (m2, .inl (D.2 0, 200, .inl M.2.2)), (m3, .inl (D.2 0, 200, .inl qm))]) hA hB hK hP hD hS [] [0, 1, 2, 3] rfl rfl (by decide)
  refine z_goi (z_runS (As := [.long p1.toInt64, .long 0, .long (((nI bt) - 1).toInt64)]) (rest := []) hF (d_lies D p1.toInt64 0 (nI bt - 1).toInt64 s.heap.size) (va_cwS 3 hZ (z_gS t_273 t_274 t_272 t_271) rfl rfl rfl (by decide +kernel) ⟨Nat.le_of_ble_eq_true rfl, Nat.le_of_ble_eq_true rfl⟩) J rfl hl.1 (Nat.le_of_ble_eq_true rfl) dX6_reverse_10 ⟨Nat.le_of_ble_eq_true rfl, Nat.le_of_ble_eq_true rfl⟩) J (fun r1 _ H locs w1 hP hD hS => ?_)
  have hP : va_P D.1 vwCl [(m0, .inr (6, [.int th, .int (nI M.1), .ref m1, .ref m2, .int (nI bt), .ref m3, .int (nI ln), .ref m4, .ref m5, .int (nI cl), .ref m6, .ref m7, .ref m8, .ref m9, .ref m10, .ref m11, .ref m12, .int (nI pn), .ref m13, .ref m14])), (m1, .inl (D.2 0, 800, .inl M.2.1)), (m2, .inl (D.2 0, 200, .inl M.2.2)), (m3, .inl (D.2 0, 200, .inl qm))] H := hP
  have hD : va_D A [(m0, .inr (6, [.int th, .int (nI M.1), .ref m1, .ref m2, .int (nI bt), .ref m3, .int (nI ln), .ref m4, .ref m5, .int (nI cl), .ref m6, .ref m7, .ref m8, .ref m9, .ref m10, .ref m11, .ref m12, .int (nI pn), .ref m13, .ref m14])), (m1, .inl (D.2 0, 800, .inl M.2.1)), (m2, .inl (D.2 0, 200, .inl M.2.2)), (m3, .inl (D.2 0, 200, .inl qm))] := hD
  have f1 := z_lzn bt (by omega) w1
  refine lv_if_eq (tgt := 28) hx hb dX6_reverse_13 (by decide) (fun c1 => ?_) (fun c1 => ?_)
  · skip
    refine lv_iconst (v := 1) hx hb dX6_reverse_28 (by decide) ?_
    refine lv_goto (tgt := 33) hx hb dX6_reverse_29 (by decide) ?_
    refine lv_istore_n (lv' := [(3, .int 1), (0, .ref m0), (1, .int p1), (2, .int p2)]) hx hb dX6_reverse_33 rfl hl (by decide) rfl (fun ls hl => ?_)
    refine lv_iconst (v := 0) hx hb dX6_reverse_34 (by decide) ?_
    refine lv_istore (lv' := [(4, .int 0), (3, .int 1), (0, .ref m0), (1, .int p1), (2, .int p2)]) hx hb dX6_reverse_35 hl (by decide) rfl (fun ls hl => ?_)
    refine lv_iconst (v := 0) hx hb dX6_reverse_37 (by decide) ?_
    refine lv_istore (lv' := [(5, .int 0), (4, .int 0), (3, .int 1), (0, .ref m0), (1, .int p1), (2, .int p2)]) hx hb dX6_reverse_38 hl (by decide) rfl (fun ls hl => ?_)
    have lo1 : ∀ (nn : Nat) (k : Nat), k ≤ M.1 → M.1 + 1 ≤ k + nn → ∀ (H : Heap) (locs : List Loc), va_P D.1 vwCl [(m0, .inr (6, [.int th, .int (nI M.1), .ref m1, .ref m2, .int (nI bt), .ref m3, .int (nI ln), .ref m4, .ref m5, .int (nI cl), .ref m6, .ref m7, .ref m8, .ref m9, .ref m10, .ref m11, .ref m12, .int (nI pn), .ref m13, .ref m14])), (m1, .inl (D.2 0, 800, .inl M.2.1)), (m2, .inl (D.2 0, 200, .inl M.2.2)), (m3, .inl (D.2 0, 200, .inl qm))] H → va_D A [(m0, .inr (6, [.int th, .int (nI M.1), .ref m1, .ref m2, .int (nI bt), .ref m3, .int (nI ln), .ref m4, .ref m5, .int (nI cl), .ref m6, .ref m7, .ref m8, .ref m9, .ref m10, .ref m11, .ref m12, .int (nI pn), .ref m13, .ref m14])), (m1, .inl (D.2 0, 800, .inl M.2.1)), (m2, .inl (D.2 0, 200, .inl M.2.2)), (m3, .inl (D.2 0, 200, .inl qm))] → va_S A s.heap H locs → ∀ (ls : Array Slot), lv_has ls 8 [(0, .ref m0), (1, .int p1), (2, .int p2), (3, .int 1), (4, .int (nI (zm_cnt M.2.1 p1 k))), (5, .int (nI k))] → W p l e (headSpec wsX6_reverse ({ frames := 1, cells := 0, slots := 0, locals := 25 })).room s m [.ref m0, .int p1, .int p2].toArray below meth c H locs 0 0 (MQ below (va_Qi (fun r (u : Option Int32) => (u = none ∧ (zin p1 (nI bt)) ∧ r = 0) ∨ (u = some 1 ∧ ¬ (zin p1 (nI bt)))) (zq D A (fun (u : Option Int32) => (u.elim [(m0, .inr (6, [.int 0, .int (nI M.1), .ref m1, .ref m2, .int (nI bt), .ref m3, .int (nI ln), .ref m4, .ref m5, .int (nI cl), .ref m6, .ref m7, .ref m8, .ref m9, .ref m10, .ref m11, .ref m12, .int (nI pn), .ref m13, .ref m14])), (m1, .inl (D.2 0, 800, .inl M.2.1)), (m2, .inl (D.2 0, 200, .inl M.2.2)), (m3, .inl (D.2 0, 200, .inl qm))] (fun t => [(m0, .inr (6, [.int t, .int (nI M.1), .ref m1, .ref m2, .int (nI bt), .ref m3, .int (nI ln), .ref m4, .ref m5, .int (nI cl), .ref m6, .ref m7, .ref m8, .ref m9, .ref m10, .ref m11, .ref m12, .int (nI pn), .ref m13, .ref m14])), (m1, .inl (D.2 0, 800, .inl M.2.1)), (m2, .inl (D.2 0, 200, .inl M.2.2)), (m3, .inl (D.2 0, 200, .inl qm))]) : va_W))) A) [.ref m0, .int p1, .int p2].toArray s 0 0 A) (F0 m 40 ls []) := by
      intro nn
      induction nn with
      | zero =>
        intro k q1 q2
        exfalso
        omega
      | succ nn ih_lo1 =>
        intro k q1 q2 H locs hP hD hS ls hl
        refine lv_iload hx hb dX6_reverse_40 (lv_at hl 5 rfl) ?_
        refine lv_aload_n hx hb dX6_reverse_42 rfl (lv_at hl 0 rfl) ?_
        refine va_get (D := D.1) (ci := 6) (v := .int (nI M.1)) (C := "ShopLedgerModel") (T := TX6) (N := 20) hx hb hZ inX6 hown hK hP 0 rfl rfl 1 (by decide) (hZ _ t_277) (fun _ h9 => h9) rfl dX6_reverse_43 ?_
        refine lv_icmp_ge (tgt := 80) hx hb dX6_reverse_46 (by decide) (fun c3 => ?_) (fun c3 => ?_)
        · skip
          have e9 : M.1 = k := (z_ge q1 (by omega) c3).symm
          subst e9
          refine lv_iload_n hx hb dX6_reverse_80 rfl (lv_at hl 3 rfl) ?_
          refine lv_if_ne (tgt := 101) hx hb dX6_reverse_81 (by decide) (fun c5 => ?_) (fun c5 => ?_)
          · skip
            refine lv_aload_n hx hb dX6_reverse_101 rfl (lv_at hl 0 rfl) ?_
            refine va_get (D := D.1) (ci := 6) (v := .int (nI M.1)) (C := "ShopLedgerModel") (T := TX6) (N := 20) hx hb hZ inX6 hown hK hP 0 rfl rfl 1 (by decide) (hZ _ t_277) (fun _ h9 => h9) rfl dX6_reverse_102 ?_
            refine lv_iload hx hb dX6_reverse_105 (lv_at hl 4 rfl) ?_
            refine lv_iadd hx hb dX6_reverse_107 ?_
            refine lv_sipush (v := 200) hx hb dX6_reverse_108 (by decide) ?_
            refine lv_icmp_le (tgt := 118) hx hb dX6_reverse_111 (by decide) (fun c8 => ?_) (fun c8 => ?_)
            · skip
              refine lv_iconst (v := 0) hx hb dX6_reverse_118 (by decide) ?_
              refine lv_istore (lv' := [(5, .int 0), (0, .ref m0), (1, .int p1), (2, .int p2), (3, .int 1), (4, .int (nI (zm_cnt M.2.1 p1 M.1)))]) hx hb dX6_reverse_119 hl (by decide) rfl (fun ls hl => ?_)
              refine lv_aload_n hx hb dX6_reverse_121 rfl (lv_at hl 1 rfl) ?_
              refine lv_iload_n hx hb dX6_reverse_122 rfl (lv_at hl 4 rfl) ?_
              refine lv_iload_n hx hb dX6_reverse_123 rfl (lv_at hl 3 rfl) ?_
              refine lv_aload_n hx hb dX6_reverse_124 rfl (lv_at hl 1 rfl) ?_
              refine va_get (D := D.1) (ci := 6) (v := .int (nI cl)) (C := "ShopLedgerModel") (T := TX6) (N := 20) hx hb hZ inX6 hown hK hP 0 rfl rfl 9 (by decide) (hZ _ t_293) (fun _ h9 => h9) rfl dX6_reverse_125 ?_
              refine lv_icmp_ge (tgt := 135) hx hb dX6_reverse_128 (by decide) (fun c9 => ?_) (fun c9 => ?_)
              · skip
                refine lv_iconst (v := 0) hx hb dX6_reverse_135 (by decide) ?_
                refine lv_iload hx hb dX6_reverse_136 (lv_at hl 0 rfl) ?_
                refine lv_iconst (v := 0) hx hb dX6_reverse_138 (by decide) ?_
                have J := zJ.mk (wc := [(m0, .inr (6, [.int th, .int (nI M.1), .ref m1, .ref m2, .int (nI bt), .ref m3, .int (nI ln), .ref m4, .ref m5, .int (nI cl), .ref m6, .ref m7, .ref m8, .ref m9, .ref m10, .ref m11, .ref m12, .int (nI pn), .ref m13, .ref m14]))]) (wr := [(m1, .inl (D.2 0, 800, .inl M.2.1)), (m2, .inl (D.2 0, 200, .inl M.2.2)), (m3, .inl (D.2 0, 200, .inl qm))]) hA hB hK hP hD hS [0] [1, 2, 3] rfl rfl (by decide)
                refine z_goi (z_runV (As := [.int 1, .int 0, .int 0, .int 0]) (rest := []) (b := m0) hF (d_throwing D m0 m1 m2 m3 m4 m5 m6 m7 m8 m9 m10 m11 m12 m13 m14 (M.1, fun _ => 0, fun _ => 0) bt ln cl pn th 1 0 0 0 H.size) (cwV 4 hZ (z_gV t_286 t_287 t_288 t_272 t_285) rfl rfl rfl (by decide +kernel) ⟨Nat.le_of_ble_eq_true rfl, Nat.le_of_ble_eq_true rfl⟩) J 0 6 rfl rfl rfl rfl hl.1 (Nat.le_of_ble_eq_true rfl) dX6_reverse_139 ⟨Nat.le_of_ble_eq_true rfl, Nat.le_of_ble_eq_true rfl⟩) J (fun r3 _ H locs w3 hP hD hS => ?_)
                have hP : va_P D.1 vwCl [(m1, .inl (D.2 0, 800, .inl M.2.1)), (m2, .inl (D.2 0, 200, .inl M.2.2)), (m3, .inl (D.2 0, 200, .inl qm)), (m0, .inr (6, [.int 1, .int (nI M.1), .ref m1, .ref m2, .int (nI bt), .ref m3, .int (nI ln), .ref m4, .ref m5, .int (nI cl), .ref m6, .ref m7, .ref m8, .ref m9, .ref m10, .ref m11, .ref m12, .int (nI pn), .ref m13, .ref m14]))] H := hP
                have hD : va_D A [(m1, .inl (D.2 0, 800, .inl M.2.1)), (m2, .inl (D.2 0, 200, .inl M.2.2)), (m3, .inl (D.2 0, 200, .inl qm)), (m0, .inr (6, [.int 1, .int (nI M.1), .ref m1, .ref m2, .int (nI bt), .ref m3, .int (nI ln), .ref m4, .ref m5, .int (nI cl), .ref m6, .ref m7, .ref m8, .ref m9, .ref m10, .ref m11, .ref m12, .int (nI pn), .ref m13, .ref m14]))] := hD
                have w3 : r3 = 1 := w3
                subst w3
                refine lv_if_eq (tgt := 147) hx hb dX6_reverse_142 (by decide) (fun c10 => ?_) (fun c10 => ?_)
                · skip
                  exfalso; exact absurd c10 (by decide)
                refine lv_iconst (v := 0) hx hb dX6_reverse_145 (by decide) ?_
                exact z_iret (v := 0) hx hb hr hlocks hP hD hS (some 1) (Or.inr (⟨rfl, hp⟩)) [3, 0, 1, 2] rfl (by decide) (Nat.le_of_ble_eq_true rfl) (Nat.le_of_ble_eq_true rfl) dX6_reverse_146
              refine lv_iconst (v := 1) hx hb dX6_reverse_131 (by decide) ?_
              refine lv_goto (tgt := 136) hx hb dX6_reverse_132 (by decide) ?_
              refine lv_iload hx hb dX6_reverse_136 (lv_at hl 0 rfl) ?_
              refine lv_iconst (v := 0) hx hb dX6_reverse_138 (by decide) ?_
              have J := zJ.mk (wc := [(m0, .inr (6, [.int th, .int (nI M.1), .ref m1, .ref m2, .int (nI bt), .ref m3, .int (nI ln), .ref m4, .ref m5, .int (nI cl), .ref m6, .ref m7, .ref m8, .ref m9, .ref m10, .ref m11, .ref m12, .int (nI pn), .ref m13, .ref m14]))]) (wr := [(m1, .inl (D.2 0, 800, .inl M.2.1)), (m2, .inl (D.2 0, 200, .inl M.2.2)), (m3, .inl (D.2 0, 200, .inl qm))]) hA hB hK hP hD hS [0] [1, 2, 3] rfl rfl (by decide)
              refine z_goi (z_runV (As := [.int 1, .int 1, .int 0, .int 0]) (rest := []) (b := m0) hF (d_throwing D m0 m1 m2 m3 m4 m5 m6 m7 m8 m9 m10 m11 m12 m13 m14 (M.1, fun _ => 0, fun _ => 0) bt ln cl pn th 1 1 0 0 H.size) (cwV 4 hZ (z_gV t_286 t_287 t_288 t_272 t_285) rfl rfl rfl (by decide +kernel) ⟨Nat.le_of_ble_eq_true rfl, Nat.le_of_ble_eq_true rfl⟩) J 0 6 rfl rfl rfl rfl hl.1 (Nat.le_of_ble_eq_true rfl) dX6_reverse_139 ⟨Nat.le_of_ble_eq_true rfl, Nat.le_of_ble_eq_true rfl⟩) J (fun r3 _ H locs w3 hP hD hS => ?_)
              have hP : va_P D.1 vwCl [(m1, .inl (D.2 0, 800, .inl M.2.1)), (m2, .inl (D.2 0, 200, .inl M.2.2)), (m3, .inl (D.2 0, 200, .inl qm)), (m0, .inr (6, [.int 1, .int (nI M.1), .ref m1, .ref m2, .int (nI bt), .ref m3, .int (nI ln), .ref m4, .ref m5, .int (nI cl), .ref m6, .ref m7, .ref m8, .ref m9, .ref m10, .ref m11, .ref m12, .int (nI pn), .ref m13, .ref m14]))] H := hP
              have hD : va_D A [(m1, .inl (D.2 0, 800, .inl M.2.1)), (m2, .inl (D.2 0, 200, .inl M.2.2)), (m3, .inl (D.2 0, 200, .inl qm)), (m0, .inr (6, [.int 1, .int (nI M.1), .ref m1, .ref m2, .int (nI bt), .ref m3, .int (nI ln), .ref m4, .ref m5, .int (nI cl), .ref m6, .ref m7, .ref m8, .ref m9, .ref m10, .ref m11, .ref m12, .int (nI pn), .ref m13, .ref m14]))] := hD
              have w3 : r3 = 1 := w3
              subst w3
              refine lv_if_eq (tgt := 147) hx hb dX6_reverse_142 (by decide) (fun c10 => ?_) (fun c10 => ?_)
              · skip
                exfalso; exact absurd c10 (by decide)
              refine lv_iconst (v := 0) hx hb dX6_reverse_145 (by decide) ?_
              exact z_iret (v := 0) hx hb hr hlocks hP hD hS (some 1) (Or.inr (⟨rfl, hp⟩)) [3, 0, 1, 2] rfl (by decide) (Nat.le_of_ble_eq_true rfl) (Nat.le_of_ble_eq_true rfl) dX6_reverse_146
            refine lv_iconst (v := 1) hx hb dX6_reverse_114 (by decide) ?_
            refine lv_goto (tgt := 119) hx hb dX6_reverse_115 (by decide) ?_
            refine lv_istore (lv' := [(5, .int 1), (0, .ref m0), (1, .int p1), (2, .int p2), (3, .int 1), (4, .int (nI (zm_cnt M.2.1 p1 M.1)))]) hx hb dX6_reverse_119 hl (by decide) rfl (fun ls hl => ?_)
            refine lv_aload_n hx hb dX6_reverse_121 rfl (lv_at hl 1 rfl) ?_
            refine lv_iload_n hx hb dX6_reverse_122 rfl (lv_at hl 4 rfl) ?_
            refine lv_iload_n hx hb dX6_reverse_123 rfl (lv_at hl 3 rfl) ?_
            refine lv_aload_n hx hb dX6_reverse_124 rfl (lv_at hl 1 rfl) ?_
            refine va_get (D := D.1) (ci := 6) (v := .int (nI cl)) (C := "ShopLedgerModel") (T := TX6) (N := 20) hx hb hZ inX6 hown hK hP 0 rfl rfl 9 (by decide) (hZ _ t_293) (fun _ h9 => h9) rfl dX6_reverse_125 ?_
            refine lv_icmp_ge (tgt := 135) hx hb dX6_reverse_128 (by decide) (fun c9 => ?_) (fun c9 => ?_)
            · skip
              refine lv_iconst (v := 0) hx hb dX6_reverse_135 (by decide) ?_
              refine lv_iload hx hb dX6_reverse_136 (lv_at hl 0 rfl) ?_
              refine lv_iconst (v := 0) hx hb dX6_reverse_138 (by decide) ?_
              have J := zJ.mk (wc := [(m0, .inr (6, [.int th, .int (nI M.1), .ref m1, .ref m2, .int (nI bt), .ref m3, .int (nI ln), .ref m4, .ref m5, .int (nI cl), .ref m6, .ref m7, .ref m8, .ref m9, .ref m10, .ref m11, .ref m12, .int (nI pn), .ref m13, .ref m14]))]) (wr := [(m1, .inl (D.2 0, 800, .inl M.2.1)), (m2, .inl (D.2 0, 200, .inl M.2.2)), (m3, .inl (D.2 0, 200, .inl qm))]) hA hB hK hP hD hS [0] [1, 2, 3] rfl rfl (by decide)
              refine z_goi (z_runV (As := [.int 1, .int 0, .int 1, .int 0]) (rest := []) (b := m0) hF (d_throwing D m0 m1 m2 m3 m4 m5 m6 m7 m8 m9 m10 m11 m12 m13 m14 (M.1, fun _ => 0, fun _ => 0) bt ln cl pn th 1 0 1 0 H.size) (cwV 4 hZ (z_gV t_286 t_287 t_288 t_272 t_285) rfl rfl rfl (by decide +kernel) ⟨Nat.le_of_ble_eq_true rfl, Nat.le_of_ble_eq_true rfl⟩) J 0 6 rfl rfl rfl rfl hl.1 (Nat.le_of_ble_eq_true rfl) dX6_reverse_139 ⟨Nat.le_of_ble_eq_true rfl, Nat.le_of_ble_eq_true rfl⟩) J (fun r3 _ H locs w3 hP hD hS => ?_)
              have hP : va_P D.1 vwCl [(m1, .inl (D.2 0, 800, .inl M.2.1)), (m2, .inl (D.2 0, 200, .inl M.2.2)), (m3, .inl (D.2 0, 200, .inl qm)), (m0, .inr (6, [.int 1, .int (nI M.1), .ref m1, .ref m2, .int (nI bt), .ref m3, .int (nI ln), .ref m4, .ref m5, .int (nI cl), .ref m6, .ref m7, .ref m8, .ref m9, .ref m10, .ref m11, .ref m12, .int (nI pn), .ref m13, .ref m14]))] H := hP
              have hD : va_D A [(m1, .inl (D.2 0, 800, .inl M.2.1)), (m2, .inl (D.2 0, 200, .inl M.2.2)), (m3, .inl (D.2 0, 200, .inl qm)), (m0, .inr (6, [.int 1, .int (nI M.1), .ref m1, .ref m2, .int (nI bt), .ref m3, .int (nI ln), .ref m4, .ref m5, .int (nI cl), .ref m6, .ref m7, .ref m8, .ref m9, .ref m10, .ref m11, .ref m12, .int (nI pn), .ref m13, .ref m14]))] := hD
              have w3 : r3 = 1 := w3
              subst w3
              refine lv_if_eq (tgt := 147) hx hb dX6_reverse_142 (by decide) (fun c10 => ?_) (fun c10 => ?_)
              · skip
                exfalso; exact absurd c10 (by decide)
              refine lv_iconst (v := 0) hx hb dX6_reverse_145 (by decide) ?_
              exact z_iret (v := 0) hx hb hr hlocks hP hD hS (some 1) (Or.inr (⟨rfl, hp⟩)) [3, 0, 1, 2] rfl (by decide) (Nat.le_of_ble_eq_true rfl) (Nat.le_of_ble_eq_true rfl) dX6_reverse_146
            refine lv_iconst (v := 1) hx hb dX6_reverse_131 (by decide) ?_
            refine lv_goto (tgt := 136) hx hb dX6_reverse_132 (by decide) ?_
            refine lv_iload hx hb dX6_reverse_136 (lv_at hl 0 rfl) ?_
            refine lv_iconst (v := 0) hx hb dX6_reverse_138 (by decide) ?_
            have J := zJ.mk (wc := [(m0, .inr (6, [.int th, .int (nI M.1), .ref m1, .ref m2, .int (nI bt), .ref m3, .int (nI ln), .ref m4, .ref m5, .int (nI cl), .ref m6, .ref m7, .ref m8, .ref m9, .ref m10, .ref m11, .ref m12, .int (nI pn), .ref m13, .ref m14]))]) (wr := [(m1, .inl (D.2 0, 800, .inl M.2.1)), (m2, .inl (D.2 0, 200, .inl M.2.2)), (m3, .inl (D.2 0, 200, .inl qm))]) hA hB hK hP hD hS [0] [1, 2, 3] rfl rfl (by decide)
            refine z_goi (z_runV (As := [.int 1, .int 1, .int 1, .int 0]) (rest := []) (b := m0) hF (d_throwing D m0 m1 m2 m3 m4 m5 m6 m7 m8 m9 m10 m11 m12 m13 m14 (M.1, fun _ => 0, fun _ => 0) bt ln cl pn th 1 1 1 0 H.size) (cwV 4 hZ (z_gV t_286 t_287 t_288 t_272 t_285) rfl rfl rfl (by decide +kernel) ⟨Nat.le_of_ble_eq_true rfl, Nat.le_of_ble_eq_true rfl⟩) J 0 6 rfl rfl rfl rfl hl.1 (Nat.le_of_ble_eq_true rfl) dX6_reverse_139 ⟨Nat.le_of_ble_eq_true rfl, Nat.le_of_ble_eq_true rfl⟩) J (fun r3 _ H locs w3 hP hD hS => ?_)
            have hP : va_P D.1 vwCl [(m1, .inl (D.2 0, 800, .inl M.2.1)), (m2, .inl (D.2 0, 200, .inl M.2.2)), (m3, .inl (D.2 0, 200, .inl qm)), (m0, .inr (6, [.int 1, .int (nI M.1), .ref m1, .ref m2, .int (nI bt), .ref m3, .int (nI ln), .ref m4, .ref m5, .int (nI cl), .ref m6, .ref m7, .ref m8, .ref m9, .ref m10, .ref m11, .ref m12, .int (nI pn), .ref m13, .ref m14]))] H := hP
            have hD : va_D A [(m1, .inl (D.2 0, 800, .inl M.2.1)), (m2, .inl (D.2 0, 200, .inl M.2.2)), (m3, .inl (D.2 0, 200, .inl qm)), (m0, .inr (6, [.int 1, .int (nI M.1), .ref m1, .ref m2, .int (nI bt), .ref m3, .int (nI ln), .ref m4, .ref m5, .int (nI cl), .ref m6, .ref m7, .ref m8, .ref m9, .ref m10, .ref m11, .ref m12, .int (nI pn), .ref m13, .ref m14]))] := hD
            have w3 : r3 = 1 := w3
            subst w3
            refine lv_if_eq (tgt := 147) hx hb dX6_reverse_142 (by decide) (fun c10 => ?_) (fun c10 => ?_)
            · skip
              exfalso; exact absurd c10 (by decide)
            refine lv_iconst (v := 0) hx hb dX6_reverse_145 (by decide) ?_
            exact z_iret (v := 0) hx hb hr hlocks hP hD hS (some 1) (Or.inr (⟨rfl, hp⟩)) [3, 0, 1, 2] rfl (by decide) (Nat.le_of_ble_eq_true rfl) (Nat.le_of_ble_eq_true rfl) dX6_reverse_146
          exfalso; exact absurd c5 (by decide)
        have hk : k < M.1 := z_lt q1 (by omega) c3
        refine lv_iload hx hb dX6_reverse_49 (lv_at hl 4 rfl) ?_
        refine lv_aload_n hx hb dX6_reverse_51 rfl (lv_at hl 0 rfl) ?_
        refine va_get (D := D.1) (ci := 6) (v := .ref m1) (C := "ShopLedgerModel") (T := TX6) (N := 20) hx hb hZ inX6 hown hK hP 0 rfl rfl 2 (by decide) (hZ _ t_276) (fun _ h9 => h9) rfl dX6_reverse_52 ?_
        refine lv_iconst (v := 4) hx hb dX6_reverse_55 (by decide) ?_
        refine lv_iload hx hb dX6_reverse_56 (lv_at hl 5 rfl) ?_
        refine lv_imul hx hb dX6_reverse_58 ?_
        rw [show (4 * (nI k)) = nI (4 * k) from pk_mul 4 k]
        refine lv_iconst (v := 3) hx hb dX6_reverse_59 (by decide) ?_
        refine lv_iadd hx hb dX6_reverse_60 ?_
        rw [show ((nI (4 * k)) + 3) = nI (4 * k + 3) from nI_add _ 3]
        refine z_iald (k := 4 * k + 3) hx hb hK hP 1 rfl (by omega) (by decide) dX6_reverse_61 ?_
        refine lv_iload_n hx hb dX6_reverse_62 rfl (lv_at hl 1 rfl) ?_
        refine lv_icmp_ne (tgt := 70) hx hb dX6_reverse_63 (by decide) (fun c4 => ?_) (fun c4 => ?_)
        · skip
          have e8 : zm_cnt M.2.1 p1 (k + 1) = zm_cnt M.2.1 p1 k := by simp only [zm_cnt]; rw [if_neg c4]
          refine lv_iconst (v := 0) hx hb dX6_reverse_70 (by decide) ?_
          refine lv_iadd hx hb dX6_reverse_71 ?_
          rw [show ((nI (zm_cnt M.2.1 p1 k)) + 0) = nI (zm_cnt M.2.1 p1 (k + 1)) from by rw [e8]; exact Int32.add_zero _]
          refine lv_istore (lv' := [(4, .int (nI (zm_cnt M.2.1 p1 (k + 1)))), (0, .ref m0), (1, .int p1), (2, .int p2), (3, .int 1), (5, .int (nI k))]) hx hb dX6_reverse_72 hl (by decide) rfl (fun ls hl => ?_)
          refine lv_iinc (v := nI (k + 1)) (lv' := [(5, .int (nI (k + 1))), (4, .int (nI (zm_cnt M.2.1 p1 (k + 1)))), (0, .ref m0), (1, .int p1), (2, .int p2), (3, .int 1)]) hx hb dX6_reverse_74 hl (k := 5) rfl (nI_1 k) (by decide) rfl (fun ls hl => ?_)
          refine lv_goto (tgt := 40) hx hb dX6_reverse_77 (by decide) ?_
          exact ih_lo1 (k + 1) (Nat.succ_le_of_lt hk) (by omega)  _ _ (hP.sub [0, 1, 2, 3] rfl) (hD.sub [0, 1, 2, 3] (by decide) rfl) hS ls (lv_sub hl [2, 3, 4, 5, 1, 0] rfl)
        have e8 : zm_cnt M.2.1 p1 (k + 1) = zm_cnt M.2.1 p1 k + 1 := by simp only [zm_cnt]; rw [if_pos c4]
        refine lv_iconst (v := 1) hx hb dX6_reverse_66 (by decide) ?_
        refine lv_goto (tgt := 71) hx hb dX6_reverse_67 (by decide) ?_
        refine lv_iadd hx hb dX6_reverse_71 ?_
        rw [show ((nI (zm_cnt M.2.1 p1 k)) + 1) = nI (zm_cnt M.2.1 p1 (k + 1)) from by rw [e8]; exact nI_1 _]
        refine lv_istore (lv' := [(4, .int (nI (zm_cnt M.2.1 p1 (k + 1)))), (0, .ref m0), (1, .int p1), (2, .int p2), (3, .int 1), (5, .int (nI k))]) hx hb dX6_reverse_72 hl (by decide) rfl (fun ls hl => ?_)
        refine lv_iinc (v := nI (k + 1)) (lv' := [(5, .int (nI (k + 1))), (4, .int (nI (zm_cnt M.2.1 p1 (k + 1)))), (0, .ref m0), (1, .int p1), (2, .int p2), (3, .int 1)]) hx hb dX6_reverse_74 hl (k := 5) rfl (nI_1 k) (by decide) rfl (fun ls hl => ?_)
        refine lv_goto (tgt := 40) hx hb dX6_reverse_77 (by decide) ?_
        exact ih_lo1 (k + 1) (Nat.succ_le_of_lt hk) (by omega)  _ _ (hP.sub [0, 1, 2, 3] rfl) (hD.sub [0, 1, 2, 3] (by decide) rfl) hS ls (lv_sub hl [2, 3, 4, 5, 1, 0] rfl)
    exact lo1 (M.1 + 1) 0 (Nat.zero_le _) (by omega)  _ _ (hP.sub [0, 1, 2, 3] rfl) (hD.sub [0, 1, 2, 3] (by decide) rfl) hS ls (lv_sub hl [3, 4, 5, 2, 1, 0] rfl)
  exfalso; exact hp (z_b1 f1 c1)
set_option maxHeartbeats 4000000 in
set_option maxRecDepth 100000 in
/-- the reference: balance -/
theorem d_balance {l : Launch} (D : zD) (m0 m1 m2 m3 m4 m5 m6 m7 m8 m9 m10 m11 m12 m13 m14 : Nat) (M : zM) (bt ln cl pn : Nat) (th : Int32) (j : Nat) (p2 : Int32) (sz : Nat) (hM : M.1 ≤ 200) (hj : j < 4) : Met l yX6_balance wsX6_balance ({ frames := 0, cells := 0, slots := 0, locals := 0 }) (va_Pc [.ref m0, .int (nI j), .int p2] (zp D sz [(m0, .inr (6, [.int th, .int (nI M.1), .ref m1, .ref m2, .int (nI bt), .ref m3, .int (nI ln), .ref m4, .ref m5, .int (nI cl), .ref m6, .ref m7, .ref m8, .ref m9, .ref m10, .ref m11, .ref m12, .int (nI pn), .ref m13, .ref m14])), (m1, .inl (D.2 0, 800, .inl M.2.1)), (m2, .inl (D.2 0, 200, .inl M.2.2))])) (va_Ql (fun r (_ : Unit) => r = zm_bal M.2.1 M.2.2 j p2 M.1) (zq D (va_A [(m0, .inr (6, [.int th, .int (nI M.1), .ref m1, .ref m2, .int (nI bt), .ref m3, .int (nI ln), .ref m4, .ref m5, .int (nI cl), .ref m6, .ref m7, .ref m8, .ref m9, .ref m10, .ref m11, .ref m12, .int (nI pn), .ref m13, .ref m14])), (m1, .inl (D.2 0, 800, .inl M.2.1)), (m2, .inl (D.2 0, 200, .inl M.2.2))] sz) (fun (_ : Unit) => ([(m0, .inr (6, [.int th, .int (nI M.1), .ref m1, .ref m2, .int (nI bt), .ref m3, .int (nI ln), .ref m4, .ref m5, .int (nI cl), .ref m6, .ref m7, .ref m8, .ref m9, .ref m10, .ref m11, .ref m12, .int (nI pn), .ref m13, .ref m14])), (m1, .inl (D.2 0, 800, .inl M.2.1)), (m2, .inl (D.2 0, 200, .inl M.2.2))] : va_W))) (va_A [(m0, .inr (6, [.int th, .int (nI M.1), .ref m1, .ref m2, .int (nI bt), .ref m3, .int (nI ln), .ref m4, .ref m5, .int (nI cl), .ref m6, .ref m7, .ref m8, .ref m9, .ref m10, .ref m11, .ref m12, .int (nI pn), .ref m13, .ref m14])), (m1, .inl (D.2 0, 800, .inl M.2.1)), (m2, .inl (D.2 0, 200, .inl M.2.2))] sz)) 0 0 (va_A [(m0, .inr (6, [.int th, .int (nI M.1), .ref m1, .ref m2, .int (nI bt), .ref m3, .int (nI ln), .ref m4, .ref m5, .int (nI cl), .ref m6, .ref m7, .ref m8, .ref m9, .ref m10, .ref m11, .ref m12, .int (nI pn), .ref m13, .ref m14])), (m1, .inl (D.2 0, 800, .inl M.2.1)), (m2, .inl (D.2 0, 200, .inl M.2.2))] sz) := by
  refine Met.ofW (cc := cX6_balance) (maxL := 6) (ret := (some .long)) (by decide) rfl ?_
  intro p e s m args below meth c s₁ B hml hv
  obtain ⟨rfl, hsz, hP, hK, hD0, hB⟩ := hv
  have hx := B.exec
  have hb := B.bytes
  have hr := B.returns
  have hts := atoms_spec (ws := wsX6_balance) B.pre
  have hown : s.vm.findClass "ShopLedgerModel" = some m.cls := findClass_of_methodNamed B.named
  have hlocks := B.notSynchronized
  subst hsz
  have hD := hD0.self (sz := s.heap.size)
  generalize hAe : va_A [(m0, .inr (6, [.int th, .int (nI M.1), .ref m1, .ref m2, .int (nI bt), .ref m3, .int (nI ln), .ref m4, .ref m5, .int (nI cl), .ref m6, .ref m7, .ref m8, .ref m9, .ref m10, .ref m11, .ref m12, .int (nI pn), .ref m13, .ref m14])), (m1, .inl (D.2 0, 800, .inl M.2.1)), (m2, .inl (D.2 0, 200, .inl M.2.2))] s.heap.size = A at hD hB ⊢
  have hA : ∀ q : Nat, s.heap.size ≤ q → A q := fun q h => by rw [← hAe]; exact Or.inr h
  have hS : va_S A s.heap s.heap [] := va_S.rf
  have hZ : ∀ w ∈ zALL, w.before _ s = true := fun w h => hts w (List.mem_cons_of_mem _ h)
  have hF : CallFix p m c cX6_balance 6 s _ zALL "ShopLedgerModel" := ⟨hx, hb, hml, hown, hZ⟩
  have hl := lv_entry ([.ref m0, .int (nI j), .int p2]) (n := 6) (Nat.le_of_ble_eq_true rfl)
  rw [lg_entry_eq]
  generalize (lg_sl ([.ref m0, .int (nI j), .int p2]) ++ List.replicate (6 - (lg_sl ([.ref m0, .int (nI j), .int p2])).length) Slot.unset).toArray = ls at hl ⊢
  have hl : lv_has ls 6 [(0, .ref m0), (1, .int (nI j)), (2, .int p2)] := hl
  refine lv_lconst (v := 0) hx hb dX6_balance_0 (by decide) ?_
  refine lv_lstore_n (lv' := [(3, .long 0), (0, .ref m0), (1, .int (nI j)), (2, .int p2)]) hx hb dX6_balance_1 rfl hl (by decide) rfl (fun ls hl => ?_)
  refine lv_iconst (v := 0) hx hb dX6_balance_2 (by decide) ?_
  refine lv_istore (lv' := [(5, .int 0), (3, .long 0), (0, .ref m0), (1, .int (nI j)), (2, .int p2)]) hx hb dX6_balance_3 hl (by decide) rfl (fun ls hl => ?_)
  have lo1 : ∀ (nn : Nat) (k : Nat), k ≤ M.1 → M.1 + 1 ≤ k + nn → ∀ (H : Heap) (locs : List Loc), va_P D.1 vwCl [(m0, .inr (6, [.int th, .int (nI M.1), .ref m1, .ref m2, .int (nI bt), .ref m3, .int (nI ln), .ref m4, .ref m5, .int (nI cl), .ref m6, .ref m7, .ref m8, .ref m9, .ref m10, .ref m11, .ref m12, .int (nI pn), .ref m13, .ref m14])), (m1, .inl (D.2 0, 800, .inl M.2.1)), (m2, .inl (D.2 0, 200, .inl M.2.2))] H → va_D A [(m0, .inr (6, [.int th, .int (nI M.1), .ref m1, .ref m2, .int (nI bt), .ref m3, .int (nI ln), .ref m4, .ref m5, .int (nI cl), .ref m6, .ref m7, .ref m8, .ref m9, .ref m10, .ref m11, .ref m12, .int (nI pn), .ref m13, .ref m14])), (m1, .inl (D.2 0, 800, .inl M.2.1)), (m2, .inl (D.2 0, 200, .inl M.2.2))] → va_S A s.heap H locs → ∀ (ls : Array Slot), lv_has ls 6 [(0, .ref m0), (1, .int (nI j)), (2, .int p2), (3, .long (zm_bal M.2.1 M.2.2 j p2 k)), (5, .int (nI k))] → W p l e (headSpec wsX6_balance ({ frames := 0, cells := 0, slots := 0, locals := 0 })).room s m [.ref m0, .int (nI j), .int p2].toArray below meth c H locs 0 0 (MQ below (va_Ql (fun r (_ : Unit) => r = zm_bal M.2.1 M.2.2 j p2 M.1) (zq D A (fun (_ : Unit) => ([(m0, .inr (6, [.int th, .int (nI M.1), .ref m1, .ref m2, .int (nI bt), .ref m3, .int (nI ln), .ref m4, .ref m5, .int (nI cl), .ref m6, .ref m7, .ref m8, .ref m9, .ref m10, .ref m11, .ref m12, .int (nI pn), .ref m13, .ref m14])), (m1, .inl (D.2 0, 800, .inl M.2.1)), (m2, .inl (D.2 0, 200, .inl M.2.2))] : va_W))) A) [.ref m0, .int (nI j), .int p2].toArray s 0 0 A) (F0 m 5 ls []) := by
    intro nn
    induction nn with
    | zero =>
      intro k q1 q2
      exfalso
      omega
    | succ nn ih_lo1 =>
      intro k q1 q2 H locs hP hD hS ls hl
      refine lv_iload hx hb dX6_balance_5 (lv_at hl 4 rfl) ?_
      refine lv_aload_n hx hb dX6_balance_7 rfl (lv_at hl 0 rfl) ?_
      refine va_get (D := D.1) (ci := 6) (v := .int (nI M.1)) (C := "ShopLedgerModel") (T := TX6) (N := 20) hx hb hZ inX6 hown hK hP 0 rfl rfl 1 (by decide) (hZ _ t_277) (fun _ h9 => h9) rfl dX6_balance_8 ?_
      refine lv_icmp_ge (tgt := 50) hx hb dX6_balance_11 (by decide) (fun c1 => ?_) (fun c1 => ?_)
      · skip
        have e9 : M.1 = k := (z_ge q1 (by omega) c1).symm
        subst e9
        refine lv_lload_n hx hb dX6_balance_50 rfl (lv_at hl 3 rfl) ?_
        exact z_lret (v := zm_bal M.2.1 M.2.2 j p2 M.1) hx hb hr hlocks hP hD hS () (rfl) [0, 1, 2] rfl (by decide) (Nat.le_of_ble_eq_true rfl) (Nat.le_of_ble_eq_true rfl) dX6_balance_51
      have hk : k < M.1 := z_lt q1 (by omega) c1
      refine lv_lload_n hx hb dX6_balance_14 rfl (lv_at hl 3 rfl) ?_
      refine lv_aload_n hx hb dX6_balance_15 rfl (lv_at hl 0 rfl) ?_
      refine va_get (D := D.1) (ci := 6) (v := .ref m1) (C := "ShopLedgerModel") (T := TX6) (N := 20) hx hb hZ inX6 hown hK hP 0 rfl rfl 2 (by decide) (hZ _ t_276) (fun _ h9 => h9) rfl dX6_balance_16 ?_
      refine lv_iconst (v := 4) hx hb dX6_balance_19 (by decide) ?_
      refine lv_iload hx hb dX6_balance_20 (lv_at hl 4 rfl) ?_
      refine lv_imul hx hb dX6_balance_22 ?_
      rw [show (4 * (nI k)) = nI (4 * k) from pk_mul 4 k]
      refine lv_iload_n hx hb dX6_balance_23 rfl (lv_at hl 1 rfl) ?_
      refine lv_iadd hx hb dX6_balance_24 ?_
      rw [show ((nI (4 * k)) + (nI j)) = nI (4 * k + j) from nI_add _ _]
      refine z_iald (k := 4 * k + j) hx hb hK hP 1 rfl (by omega) (by decide) dX6_balance_25 ?_
      refine lv_iload_n hx hb dX6_balance_26 rfl (lv_at hl 2 rfl) ?_
      refine lv_icmp_ne (tgt := 41) hx hb dX6_balance_27 (by decide) (fun c2 => ?_) (fun c2 => ?_)
      · skip
        refine lv_lconst (v := 0) hx hb dX6_balance_41 (by decide) ?_
        refine lv_ladd hx hb dX6_balance_42 ?_
        rw [show ((zm_bal M.2.1 M.2.2 j p2 k) + 0) = zm_bal M.2.1 M.2.2 j p2 (k + 1) from by simp only [zm_bal]; rw [if_neg c2]]
        refine lv_lstore_n (lv' := [(3, .long (zm_bal M.2.1 M.2.2 j p2 (k + 1))), (0, .ref m0), (1, .int (nI j)), (2, .int p2), (5, .int (nI k))]) hx hb dX6_balance_43 rfl hl (by decide) rfl (fun ls hl => ?_)
        refine lv_iinc (v := nI (k + 1)) (lv' := [(5, .int (nI (k + 1))), (3, .long (zm_bal M.2.1 M.2.2 j p2 (k + 1))), (0, .ref m0), (1, .int (nI j)), (2, .int p2)]) hx hb dX6_balance_44 hl (k := 4) rfl (nI_1 k) (by decide) rfl (fun ls hl => ?_)
        refine lv_goto (tgt := 5) hx hb dX6_balance_47 (by decide) ?_
        exact ih_lo1 (k + 1) (Nat.succ_le_of_lt hk) (by omega)  _ _ (hP.sub [0, 1, 2] rfl) (hD.sub [0, 1, 2] (by decide) rfl) hS ls (lv_sub hl [2, 3, 4, 1, 0] rfl)
      refine lv_aload_n hx hb dX6_balance_30 rfl (lv_at hl 0 rfl) ?_
      refine va_get (D := D.1) (ci := 6) (v := .ref m2) (C := "ShopLedgerModel") (T := TX6) (N := 20) hx hb hZ inX6 hown hK hP 0 rfl rfl 3 (by decide) (hZ _ t_279) (fun _ h9 => h9) rfl dX6_balance_31 ?_
      refine lv_iload hx hb dX6_balance_34 (lv_at hl 4 rfl) ?_
      refine z_iald (k := k) hx hb hK hP 2 rfl (by omega) (by decide) dX6_balance_36 ?_
      refine lv_i2l (v := (M.2.2 k).toInt64) hx hb dX6_balance_37 rfl ?_
      refine lv_goto (tgt := 42) hx hb dX6_balance_38 (by decide) ?_
      refine lv_ladd hx hb dX6_balance_42 ?_
      rw [show ((zm_bal M.2.1 M.2.2 j p2 k) + ((M.2.2 k).toInt64)) = zm_bal M.2.1 M.2.2 j p2 (k + 1) from by simp only [zm_bal]; rw [if_pos c2]]
      refine lv_lstore_n (lv' := [(3, .long (zm_bal M.2.1 M.2.2 j p2 (k + 1))), (0, .ref m0), (1, .int (nI j)), (2, .int p2), (5, .int (nI k))]) hx hb dX6_balance_43 rfl hl (by decide) rfl (fun ls hl => ?_)
      refine lv_iinc (v := nI (k + 1)) (lv' := [(5, .int (nI (k + 1))), (3, .long (zm_bal M.2.1 M.2.2 j p2 (k + 1))), (0, .ref m0), (1, .int (nI j)), (2, .int p2)]) hx hb dX6_balance_44 hl (k := 4) rfl (nI_1 k) (by decide) rfl (fun ls hl => ?_)
      refine lv_goto (tgt := 5) hx hb dX6_balance_47 (by decide) ?_
      exact ih_lo1 (k + 1) (Nat.succ_le_of_lt hk) (by omega)  _ _ (hP.sub [0, 1, 2] rfl) (hD.sub [0, 1, 2] (by decide) rfl) hS ls (lv_sub hl [2, 3, 4, 1, 0] rfl)
  exact lo1 (M.1 + 1) 0 (Nat.zero_le _) (by omega)  _ _ (hP.sub [0, 1, 2] rfl) (hD.sub [0, 1, 2] (by decide) rfl) hS ls (lv_sub hl [2, 3, 4, 1, 0] rfl)
