abbrev zD : Type := va_G × (Nat → ClassId)
abbrev zt (D : zD) : List (ClassId × FieldType) := [(D.2 0, .int), (D.2 1, .long), (D.2 2, .boolean), (D.2 3, .object "ShopLedger$Stock"), (D.2 4, .object "ShopLedger$Money")]
def zStr : List (String × Nat × String) := [("ShopLedger", 71, "a line\'s sum is not 0"), ("ShopLedger", 90, "a batch has lines that sum to nothing"), ("ShopLedger", 119, "a correction is between two accounts"), ("ShopLedger", 129, "it was reversed, or is a reversal"), ("ShopLedger", 159, "no such what"), ("ShopLedger", 162, "all weights are 0"), ("ShopLedger", 177, "there are not so many pieces"), ("ShopLedger", 191, "the day does not rise"), ("ShopLedger", 198, "no rate yet on that day"), ("ShopLedger", 219, "no room for the entries"), ("ShopLedger", 221, "no such index"), ("ShopLedger", 225, "the call is out of turn"), ("ShopLedger", 228, "out of range")]
def zCa : List (String × String) := [("java/lang/IndexOutOfBoundsException", "java/lang/IndexOutOfBoundsException"), ("java/lang/IllegalStateException", "java/lang/IllegalStateException"), ("java/lang/IllegalArgumentException", "java/lang/IllegalArgumentException"), ("java/lang/UnsupportedOperationException", "java/lang/UnsupportedOperationException")]
def zDe : List MethodName := [⟨"java/lang/RuntimeException", "<init>", "(Ljava/lang/String;)V"⟩, ⟨"java/lang/Exception", "<init>", "(Ljava/lang/String;)V"⟩, ⟨"java/lang/Throwable", "<init>", "(Ljava/lang/String;)V"⟩]
def zNe : List (String × Nat × MethodName × String) := [("ShopLedger", 9, ⟨"ShopLedger$Lines", "<init>", "()V"⟩, "ShopLedger"), ("ShopLedger", 18, ⟨"ShopLedger$Books", "<init>", "()V"⟩, "ShopLedger"), ("ShopLedger", 33, ⟨"ShopLedger$Stock", "<init>", "()V"⟩, "ShopLedger"), ("ShopLedger", 40, ⟨"ShopLedger$Money", "<init>", "()V"⟩, "ShopLedger"), ("ShopLedger", 43, ⟨"ShopLedger$Pieces", "<init>", "()V"⟩, "ShopLedger")]
def zNc : List (String × String) := [("java/lang/IllegalStateException", "java/lang/IndexOutOfBoundsException"), ("java/lang/IllegalArgumentException", "java/lang/IndexOutOfBoundsException"), ("java/lang/IllegalArgumentException", "java/lang/IllegalStateException"), ("java/lang/UnsupportedOperationException", "java/lang/IllegalStateException"), ("java/lang/UnsupportedOperationException", "java/lang/IndexOutOfBoundsException"), ("java/lang/UnsupportedOperationException", "java/lang/IllegalArgumentException")]
def zAO : List String := ["ShopLedger$Stock", "ShopLedger$Money"]
/-! ONE SHAPE FOR ALL CONTRACTS: a world of cells before, a world of cells behind, what a throw leaves. -/

theorem z_fm {ws ws' : va_W} {is : List Nat} (h : is.map (fun i => ws[i]?) = ws'.map some) : is.filterMap (fun i => ws[i]?) = ws' := by
  have h1 : is.filterMap (fun i => ws[i]?) = (is.map (fun i => ws[i]?)).filterMap id := by
    rw [List.filterMap_map]; rfl
  rw [h1, h, List.filterMap_map]
  exact List.filterMap_some
/-- what the machine's tables and its start give to a throw, a catch, a private call, an array of objects -/
def zB (A : Nat → Prop) (U : State) : Prop :=
  vx_Zq Bundle.tN "UNASSIGNED_STACK" Bundle.steD A U U.heap ∧ vx_Zq Bundle.tN "SUPPRESSED_SENTINEL" Bundle.listD A U U.heap ∧
  (∀ q ∈ zStr, ∃ sa : Nat, vk_R q.1 q.2.1 q.2.2 sa U) ∧ (∀ q ∈ zCa, va_Nw (.castable q.1 q.2) U) ∧ (∀ x ∈ zDe, va_Nw (.declares x) U) ∧
  (∀ q ∈ zNe, va_Nw (.methodLinkNest q.1 q.2.1 q.2.2.1 q.2.2.2) U) ∧ (∀ q ∈ zNc, va_Nc q.1 q.2 U) ∧ (∀ C ∈ zAO, va_AO C U)
theorem zB.call {A A' : Nat → Prop} {s U : State} {H : Heap} {locs : List Loc} (h : zB A s) (hU : U.heap = H) (hW : s.WarmedH U.vm) (hS : va_S A s.heap H locs) (hA : ∀ q, A' q → A q) : zB A' U := by
  obtain ⟨h1, h2, h3, h4, h5, h6, h7, h8⟩ := h
  refine ⟨?_, ?_, fun q hq => ?_, fun q hq => va_Nw.warmC hW (h4 q hq), fun q hq => va_Nw.warmD hW (h5 q hq), fun q hq => va_Nw.warmM hW (h6 q hq), fun q hq => va_Nc.moved hW.alike (h7 q hq), fun q hq => va_AO.moved hW.alike (h8 q hq)⟩
  · rw [hU]; exact (vx_Zq.moved hW.alike (h1.kept hS.2.1)).narrow hA
  · rw [hU]; exact (vx_Zq.moved hW.alike (h2.kept hS.2.1)).narrow hA
  · obtain ⟨sa, h⟩ := h3 q hq
    exact ⟨sa, vk_R.warm hW h⟩
theorem zB.same {A : Nat → Prop} {u U : State} (hv : U.vm = u.vm) (hh : U.heap = u.heap) (h : zB A u) : zB A U := by
  have ha : u.vm.Alike U.vm := by rw [hv]; exact Vm.Alike.refl _
  obtain ⟨h1, h2, h3, h4, h5, h6, h7, h8⟩ := h
  refine ⟨?_, ?_, fun q hq => ?_, fun q hq => va_Nw.same rfl hv.symm (h4 q hq), fun q hq => va_Nw.same rfl hv.symm (h5 q hq), fun q hq => va_Nw.same rfl hv.symm (h6 q hq), fun q hq => va_Nc.moved ha (h7 q hq), fun q hq => va_AO.moved ha (h8 q hq)⟩
  · rw [hh]; exact vx_Zq.moved ha h1
  · rw [hh]; exact vx_Zq.moved ha h2
  · obtain ⟨sa, h⟩ := h3 q hq
    exact ⟨sa, vk_R.same hv h⟩
/-- a method's start: the heap's size, its cells, the tables, apart, the rest -/
def zp (D : zD) (sz : Nat) (ws : va_W) : State → Prop := fun U => U.heap.size = sz ∧ va_P D.1 vwCl ws U.heap ∧ va_K D.1 vwCl (zt D) U ∧ va_D (fun _ => True) ws ∧ zB (va_A ws sz) U
theorem zp_blind {av : List Value} {D : zD} {sz : Nat} {ws : va_W} : FrameBlind (va_Pc av (zp D sz ws)) := fun a U g mk q => ⟨q.1, q.2.1, q.2.2.1, va_K.moved (u := U) (U := U.calling g mk a) (Vm.Alike.refl U.vm) q.2.2.2.1, q.2.2.2.2.1, zB.same rfl rfl q.2.2.2.2.2⟩
/-- a method's end: its cells, apart, in A -/
def zq {S : Type} (D : zD) (A : Nat → Prop) (w1 : S → va_W) : S → State → Prop := fun u t => va_P D.1 vwCl (w1 u) t.heap ∧ va_D A (w1 u)
/-- the end of a method that throws E -/
def zx (D : zD) (A : Nat → Prop) (w2 : va_W) (xn : String → Prop) : String → Unit → State → Prop := fun E _ t => xn E ∧ va_P D.1 vwCl w2 t.heap ∧ va_D A w2
/-- the callee's cells cut out of the caller's, and what comes back put beside the rest -/
def zJ (D : zD) (A : Nat → Prop) (s : State) (H : Heap) (locs : List Loc) (wc wr : va_W) : Prop :=
  (∀ U : State, U.heap = H → s.WarmedH U.vm → zp D H.size wc U) ∧ va_P D.1 vwCl wc H ∧ (∀ q, va_A wc H.size q → A q) ∧ va_S A s.heap H locs ∧ va_K D.1 vwCl (zt D) s ∧
  ∀ (H1 : Heap) (w1 : va_W), (∀ q : Nat, q < H.size → ¬ va_A wc H.size q → H1[q]? = H[q]?) → va_P D.1 vwCl w1 H1 → va_D (va_A wc H.size) w1 → va_P D.1 vwCl (wr ++ w1) H1 ∧ va_D A (wr ++ w1)
theorem zJ.mk {D : zD} {A : Nat → Prop} {s : State} {H : Heap} {locs : List Loc} {ws wc wr : va_W} (hA : ∀ q, s.heap.size ≤ q → A q) (hB : zB A s) (hK : va_K D.1 vwCl (zt D) s) (hP : va_P D.1 vwCl ws H) (hD : va_D A ws) (hS : va_S A s.heap H locs)
    (isC isR : List Nat) (hC : isC.map (fun i => ws[i]?) = wc.map some) (hR : isR.map (fun i => ws[i]?) = wr.map some) (hn : va_nd isC = true ∧ va_nd isR = true ∧ ∀ i ∈ isR, i ∉ isC) : zJ D A s H locs wc wr := by
  have hF : ∀ q, va_A wc H.size q → A q := va_free hD hS hA isC hC
  refine ⟨fun U hU hW => ⟨by rw [hU], by rw [hU]; exact hP.sub isC (z_fm hC), va_K.moved hW.alike hK, (hD.sub isC hn.1 hC).weaken (fun _ _ _ _ => trivial), hB.call hU hW hS hF⟩, hP.sub isC (z_fm hC), hF, hS, hK, fun H1 w1 hk hP1 hD1 => ?_⟩
  exact va_join hP hD isC isR hC hR hn.2.1 hn.2.2 hk hF hP1 hD1
section ZA
variable {p : Program} {l : Launch} {e : Env} {R : Room} {s : State} {m : MethodId} {args : Array Value} {below : List Frame} {meth : Method} {c : Code} {H : Heap} {locs : List Loc} {cells slots : Nat} {Q : State → Prop}
variable {y : MethodName} {bytes cc : ByteArray} {maxL nL mc ms n index pc : Nat} {ret : Option FieldType} {cws : List Cond} {rm : Room} {Qc : Array Value → State → Outcome → State → Prop} {XC : String → State → State → Prop} {free : Addr → Prop} {Ts : List Cond} {own C host : String} {b : Addr} {As rest st0 : List Value} {ls : Array Slot}
variable {D : zD} {A : Nat → Prop} {wc wr ws : va_W} {a : Array Value}
theorem z_runV (F : CallFix p m c cc nL s args Ts own) (hM : Met l y cws rm (va_Pc (.ref b :: As) (zp D H.size wc)) Qc mc ms free) (cw : CallW R s args own C index y bytes maxL ret cws rm mc ms n) (J : zJ D A s H locs wc wr) (q0 ci : Nat) {r : vw_C} {fs : List Value} (hc : vwCl[ci]? = some r) (hr : r.1 = C) (he : wc[q0]? = some (b, .inr (ci, fs)))
    (hn : As.length = n) (hsize : ls.size = nL) (hW : (rest.map fun v => v.category).sum ≤ 8) (hdg : decode cc pc = .ok (.invokevirtual index, 3)) (hf : cells + mc ≤ R.cells ∧ slots + ms ≤ R.slots) :
    va_Run p l e R s m args below meth c H locs cells slots mc ms (F0 m pc ls (As.reverse ++ .ref b :: rest)) rest (Qc (Value.ref b :: As).toArray) free :=
  va_runV F hM cw ⟨zp_blind, by rw [← hr]; exact va_recv J.2.2.2.2.1 J.2.1 hc he, fun U hU hW => ⟨rfl, J.1 U hU hW⟩⟩ rfl hn hsize rfl (lv_room hW) hdg hf
theorem z_xrunV (F : CallFix p m c cc nL s args Ts own) (hM : vx_Met l y cws rm (va_Pc (.ref b :: As) (zp D H.size wc)) Qc XC mc ms free) (cw : CallW R s args own C index y bytes maxL ret cws rm mc ms n) (J : zJ D A s H locs wc wr) (q0 ci : Nat) {r : vw_C} {fs : List Value} (hc : vwCl[ci]? = some r) (hr : r.1 = C) (he : wc[q0]? = some (b, .inr (ci, fs)))
    (hn : As.length = n) (hsize : ls.size = nL) (hW : (rest.map fun v => v.category).sum ≤ 8) (hdg : decode cc pc = .ok (.invokevirtual index, 3)) (hf : cells + mc ≤ R.cells ∧ slots + ms ≤ R.slots) :
    vx_Run p l e R s m args below meth c H locs cells slots mc ms (F0 m pc ls (As.reverse ++ .ref b :: rest)) rest (Qc (Value.ref b :: As).toArray) XC free :=
  vx_runV F hM cw ⟨zp_blind, by rw [← hr]; exact va_recv J.2.2.2.2.1 J.2.1 hc he, fun U hU hW => ⟨rfl, J.1 U hU hW⟩⟩ rfl hn hsize rfl (lv_room hW) hdg hf
theorem z_runS (F : CallFix p m c cc nL s args Ts own) (hM : Met l y cws rm (va_Pc As (zp D H.size wc)) Qc mc ms free) (cw : CallB R s args own index y bytes maxL ret cws rm mc ms n ∧ (Cond.static y).before args s = true) (J : zJ D A s H locs wc wr)
    (hn : As.length = n) (hsize : ls.size = nL) (hW : (rest.map fun v => v.category).sum ≤ 8) (hdg : decode cc pc = .ok (.invokestatic index, 3)) (hf : cells + mc ≤ R.cells ∧ slots + ms ≤ R.slots) :
    va_Run p l e R s m args below meth c H locs cells slots mc ms (F0 m pc ls (As.reverse ++ rest)) rest (Qc As.toArray) free :=
  va_runS F hM cw ⟨zp_blind, fun U hU hW => ⟨rfl, J.1 U hU hW⟩⟩ rfl hn hsize rfl (lv_room hW) hdg hf
theorem z_xrunS (F : CallFix p m c cc nL s args Ts own) (hM : vx_Met l y cws rm (va_Pc As (zp D H.size wc)) Qc XC mc ms free) (cw : CallB R s args own index y bytes maxL ret cws rm mc ms n ∧ (Cond.static y).before args s = true) (J : zJ D A s H locs wc wr)
    (hn : As.length = n) (hsize : ls.size = nL) (hW : (rest.map fun v => v.category).sum ≤ 8) (hdg : decode cc pc = .ok (.invokestatic index, 3)) (hf : cells + mc ≤ R.cells ∧ slots + ms ≤ R.slots) :
    vx_Run p l e R s m args below meth c H locs cells slots mc ms (F0 m pc ls (As.reverse ++ rest)) rest (Qc As.toArray) XC free :=
  vx_runS F hM cw ⟨zp_blind, fun U hU hW => ⟨rfl, J.1 U hU hW⟩⟩ rfl hn hsize rfl (lv_room hW) hdg hf
theorem z_runI (F : CallFix p m c cc nL s args Ts own) (hM : Met l y cws rm (va_Pc (.ref b :: As) (zp D H.size wc)) Qc mc ms free) (cw : CallB R s args own index y bytes maxL none cws rm mc ms n ∧ y.name = "<init>" ∧ (Cond.instanceMethod y).before args s = true) (J : zJ D A s H locs wc wr)
    (hn : As.length = n) (hsize : ls.size = nL) (hW : (rest.map fun v => v.category).sum ≤ 8) (hdg : decode cc pc = .ok (.invokespecial index, 3)) (hf : cells + mc ≤ R.cells ∧ slots + ms ≤ R.slots) :
    va_Run p l e R s m args below meth c H locs cells slots mc ms (F0 m pc ls (As.reverse ++ .ref b :: rest)) rest (Qc (Value.ref b :: As).toArray) free :=
  va_runI F hM cw ⟨zp_blind, fun U hU hW => ⟨rfl, J.1 U hU hW⟩⟩ rfl hn hsize rfl (lv_room hW) hdg hf
theorem z_runIN (F : CallFix p m c cc nL s args Ts own) (hM : Met l y cws rm (va_Pc (.ref b :: As) (zp D H.size wc)) Qc mc ms free) (cw : va_CN R s args own index y host bytes maxL none cws rm mc ms n ∧ y.name = "<init>" ∧ (Cond.instanceMethod y).before args s = true) (J : zJ D A s H locs wc wr)
    (hn : As.length = n) (hsize : ls.size = nL) (hW : (rest.map fun v => v.category).sum ≤ 8) (hdg : decode cc pc = .ok (.invokespecial index, 3)) (hf : cells + mc ≤ R.cells ∧ slots + ms ≤ R.slots) :
    va_Run p l e R s m args below meth c H locs cells slots mc ms (F0 m pc ls (As.reverse ++ .ref b :: rest)) rest (Qc (Value.ref b :: As).toArray) free :=
  va_runIN F hM cw ⟨zp_blind, fun U hU hW => ⟨rfl, J.1 U hU hW⟩⟩ rfl hn hsize rfl (lv_room hW) hdg hf
section ZGo
variable {S : Type} {w1 : S → va_W} {w2 : va_W} {xn : String → Prop}
theorem z_goi {post : Int32 → S → Prop} (hr : va_Run p l e R s m args below meth c H locs cells slots mc ms (F0 m pc ls st0) rest (va_Qi post (zq D (va_A wc H.size) w1) (va_A wc H.size) a) (va_A wc H.size)) (J : zJ D A s H locs wc wr)
    (kk : ∀ (r : Int32) (u : S) (H1 : Heap) (locs1 : List Loc), post r u → va_P D.1 vwCl (wr ++ w1 u) H1 → va_D A (wr ++ w1 u) → va_S A s.heap H1 locs1 → W p l e R s m args below meth c H1 locs1 (cells + mc) (slots + ms) Q (F0 m (pc + 3) ls (.int r :: rest))) : W p l e R s m args below meth c H locs cells slots Q (F0 m pc ls st0) := by
  obtain ⟨-, -, hF, hS, -, hj⟩ := J
  refine va_calli hr hS (fun q _ h => hF q h) hF (fun r u t H1 locs1 ht hvm hw hB hz1 hk1 hS => ?_)
  obtain ⟨hP, hD⟩ := hj H1 (w1 u) hk1 (by rw [← ht]; exact hB.1) hB.2
  exact kk r u H1 locs1 hw hP hD hS
theorem z_gol {post : Int64 → S → Prop} (hr : va_Run p l e R s m args below meth c H locs cells slots mc ms (F0 m pc ls st0) rest (va_Ql post (zq D (va_A wc H.size) w1) (va_A wc H.size) a) (va_A wc H.size)) (J : zJ D A s H locs wc wr)
    (kk : ∀ (r : Int64) (u : S) (H1 : Heap) (locs1 : List Loc), post r u → va_P D.1 vwCl (wr ++ w1 u) H1 → va_D A (wr ++ w1 u) → va_S A s.heap H1 locs1 → W p l e R s m args below meth c H1 locs1 (cells + mc) (slots + ms) Q (F0 m (pc + 3) ls (.long r :: rest))) : W p l e R s m args below meth c H locs cells slots Q (F0 m pc ls st0) := by
  obtain ⟨-, -, hF, hS, -, hj⟩ := J
  refine va_calll hr hS (fun q _ h => hF q h) hF (fun r u t H1 locs1 ht hvm hw hB hz1 hk1 hS => ?_)
  obtain ⟨hP, hD⟩ := hj H1 (w1 u) hk1 (by rw [← ht]; exact hB.1) hB.2
  exact kk r u H1 locs1 hw hP hD hS
theorem z_gov {post : S → Prop} (hr : va_Run p l e R s m args below meth c H locs cells slots mc ms (F0 m pc ls st0) rest (va_Qv post (zq D (va_A wc H.size) w1) (va_A wc H.size) a) (va_A wc H.size)) (J : zJ D A s H locs wc wr)
    (kk : ∀ (u : S) (H1 : Heap) (locs1 : List Loc), post u → va_P D.1 vwCl (wr ++ w1 u) H1 → va_D A (wr ++ w1 u) → va_S A s.heap H1 locs1 → W p l e R s m args below meth c H1 locs1 (cells + mc) (slots + ms) Q (F0 m (pc + 3) ls rest)) : W p l e R s m args below meth c H locs cells slots Q (F0 m pc ls st0) := by
  obtain ⟨-, -, hF, hS, -, hj⟩ := J
  refine va_callv hr hS (fun q _ h => hF q h) hF (fun u t H1 locs1 ht hvm hw hB hz1 hk1 hS => ?_)
  obtain ⟨hP, hD⟩ := hj H1 (w1 u) hk1 (by rw [← ht]; exact hB.1) hB.2
  exact kk u H1 locs1 hw hP hD hS
theorem z_xgoi {post : Int32 → S → Prop} (hr : vx_Run p l e R s m args below meth c H locs cells slots mc ms (F0 m pc ls st0) rest (va_Qi post (zq D (va_A wc H.size) w1) (va_A wc H.size) a) (vx_X (fun _ : Unit => True) (zx D (va_A wc H.size) w2 xn) (va_A wc H.size)) (va_A wc H.size)) (J : zJ D A s H locs wc wr)
    (kx : ∀ (E : String) (ce : Cell) (q9 : Addr) (H1 : Heap) (locs1 : List Loc), xn E → va_P D.1 vwCl (wr ++ w2) H1 → va_D A (wr ++ w2) → va_S A s.heap H1 locs1 → H1[q9]? = some ce → ce.vm = .none → s.vm.findClass E = some ce.cls → vx_W p l e R s m args below meth c H1 locs1 (cells + mc) (slots + ms) Q (F0 m pc ls rest) q9)
    (kk : ∀ (r : Int32) (u : S) (H1 : Heap) (locs1 : List Loc), post r u → va_P D.1 vwCl (wr ++ w1 u) H1 → va_D A (wr ++ w1 u) → va_S A s.heap H1 locs1 → W p l e R s m args below meth c H1 locs1 (cells + mc) (slots + ms) Q (F0 m (pc + 3) ls (.int r :: rest))) : W p l e R s m args below meth c H locs cells slots Q (F0 m pc ls st0) := by
  obtain ⟨-, -, hF, hS, -, hj⟩ := J
  refine vx_calli hr hS (fun q _ h => hF q h) hF (fun q _ h => hF q h) (fun E ce q9 u t H1 locs1 ht hvm hw hB hz1 hk1 hS h1 h2 h3 => ?_) (fun r u t H1 locs1 ht hvm hw hB hz1 hk1 hS => ?_)
  · obtain ⟨hxn, hP1, hD1⟩ := hB
    obtain ⟨hP, hD⟩ := hj H1 w2 hk1 (by rw [← ht]; exact hP1) hD1
    exact kx E ce q9 H1 locs1 hxn hP hD hS h1 h2 h3
  · obtain ⟨hP, hD⟩ := hj H1 (w1 u) hk1 (by rw [← ht]; exact hB.1) hB.2
    exact kk r u H1 locs1 hw hP hD hS
theorem z_xgol {post : Int64 → S → Prop} (hr : vx_Run p l e R s m args below meth c H locs cells slots mc ms (F0 m pc ls st0) rest (va_Ql post (zq D (va_A wc H.size) w1) (va_A wc H.size) a) (vx_X (fun _ : Unit => True) (zx D (va_A wc H.size) w2 xn) (va_A wc H.size)) (va_A wc H.size)) (J : zJ D A s H locs wc wr)
    (kx : ∀ (E : String) (ce : Cell) (q9 : Addr) (H1 : Heap) (locs1 : List Loc), xn E → va_P D.1 vwCl (wr ++ w2) H1 → va_D A (wr ++ w2) → va_S A s.heap H1 locs1 → H1[q9]? = some ce → ce.vm = .none → s.vm.findClass E = some ce.cls → vx_W p l e R s m args below meth c H1 locs1 (cells + mc) (slots + ms) Q (F0 m pc ls rest) q9)
    (kk : ∀ (r : Int64) (u : S) (H1 : Heap) (locs1 : List Loc), post r u → va_P D.1 vwCl (wr ++ w1 u) H1 → va_D A (wr ++ w1 u) → va_S A s.heap H1 locs1 → W p l e R s m args below meth c H1 locs1 (cells + mc) (slots + ms) Q (F0 m (pc + 3) ls (.long r :: rest))) : W p l e R s m args below meth c H locs cells slots Q (F0 m pc ls st0) := by
  obtain ⟨-, -, hF, hS, -, hj⟩ := J
  refine vx_calll hr hS (fun q _ h => hF q h) hF (fun q _ h => hF q h) (fun E ce q9 u t H1 locs1 ht hvm hw hB hz1 hk1 hS h1 h2 h3 => ?_) (fun r u t H1 locs1 ht hvm hw hB hz1 hk1 hS => ?_)
  · obtain ⟨hxn, hP1, hD1⟩ := hB
    obtain ⟨hP, hD⟩ := hj H1 w2 hk1 (by rw [← ht]; exact hP1) hD1
    exact kx E ce q9 H1 locs1 hxn hP hD hS h1 h2 h3
  · obtain ⟨hP, hD⟩ := hj H1 (w1 u) hk1 (by rw [← ht]; exact hB.1) hB.2
    exact kk r u H1 locs1 hw hP hD hS
theorem z_xgov {post : S → Prop} (hr : vx_Run p l e R s m args below meth c H locs cells slots mc ms (F0 m pc ls st0) rest (va_Qv post (zq D (va_A wc H.size) w1) (va_A wc H.size) a) (vx_X (fun _ : Unit => True) (zx D (va_A wc H.size) w2 xn) (va_A wc H.size)) (va_A wc H.size)) (J : zJ D A s H locs wc wr)
    (kx : ∀ (E : String) (ce : Cell) (q9 : Addr) (H1 : Heap) (locs1 : List Loc), xn E → va_P D.1 vwCl (wr ++ w2) H1 → va_D A (wr ++ w2) → va_S A s.heap H1 locs1 → H1[q9]? = some ce → ce.vm = .none → s.vm.findClass E = some ce.cls → vx_W p l e R s m args below meth c H1 locs1 (cells + mc) (slots + ms) Q (F0 m pc ls rest) q9)
    (kk : ∀ (u : S) (H1 : Heap) (locs1 : List Loc), post u → va_P D.1 vwCl (wr ++ w1 u) H1 → va_D A (wr ++ w1 u) → va_S A s.heap H1 locs1 → W p l e R s m args below meth c H1 locs1 (cells + mc) (slots + ms) Q (F0 m (pc + 3) ls rest)) : W p l e R s m args below meth c H locs cells slots Q (F0 m pc ls st0) := by
  obtain ⟨-, -, hF, hS, -, hj⟩ := J
  refine vx_callv hr hS (fun q _ h => hF q h) hF (fun q _ h => hF q h) (fun E ce q9 u t H1 locs1 ht hvm hw hB hz1 hk1 hS h1 h2 h3 => ?_) (fun u t H1 locs1 ht hvm hw hB hz1 hk1 hS => ?_)
  · obtain ⟨hxn, hP1, hD1⟩ := hB
    obtain ⟨hP, hD⟩ := hj H1 w2 hk1 (by rw [← ht]; exact hP1) hD1
    exact kx E ce q9 H1 locs1 hxn hP hD hS h1 h2 h3
  · obtain ⟨hP, hD⟩ := hj H1 (w1 u) hk1 (by rw [← ht]; exact hB.1) hB.2
    exact kk u H1 locs1 hw hP hD hS
/-- an exception of a callee goes on to the caller -/
theorem z_out {E : String} {ce : Cell} {q : Addr} (hout : ∀ x ∈ c.exceptionTable.toList, False) (hlocks : meth.locks = false) (hcell : H[q]? = some ce) (hv : ce.vm = .none) (hcl : s.vm.findClass E = some ce.cls) (hxn : xn E)
    (hP : va_P D.1 vwCl ws H) (hD : va_D A ws) (hS : va_S A s.heap H locs) (is : List Nat) (hi : is.map (fun i => ws[i]?) = w2.map some) (hn : va_nd is = true) (hc : cells ≤ mc) (hs : slots ≤ ms) :
    vx_W p l e R s m args below meth c H locs cells slots (vx_MQ below Qc (vx_X (fun _ : Unit => True) (zx D A w2 xn) A) args s mc ms A) (F0 m pc ls rest) q :=
  vx_out (E := E) (fun x hx => (hout x hx).elim) hlocks hcell hv hcl (fun t ht ha => ⟨(), trivial, ⟨hxn, by rw [ht]; exact hP.sub is (z_fm hi), hD.sub is hn hi⟩, hS.F ht⟩) hS.2.2 hc hs
theorem z_iret {post : Int32 → S → Prop} {v : Int32} (hx : p.tables.exec = Jvm.exec) (hb : c.code = cc) (hr : meth.sig.returnType = some .int) (hlocks : meth.locks = false) (hP : va_P D.1 vwCl ws H) (hD : va_D A ws) (hS : va_S A s.heap H locs) (u : S) (hp : post v u) (is : List Nat) (hi : is.map (fun i => ws[i]?) = (w1 u).map some) (hn : va_nd is = true) (hc : cells ≤ mc) (hs : slots ≤ ms) (hdg : decode cc pc = .ok (.ireturn, 1)) :
    W p l e R s m args below meth c H locs cells slots (MQ below (va_Qi post (zq D A w1) A) args s mc ms A) (F0 m pc ls [.int v]) :=
  W.widen hc hs (W.iret hx hb hr (fun t ht hW => ⟨⟨v, u, rfl, hp, by rw [ht]; exact hP.sub is (z_fm hi), hD.sub is hn hi⟩, hS.F ht⟩) hS.2.2 hdg hlocks)
theorem z_zret {post : Int32 → S → Prop} {v : Int32} (hx : p.tables.exec = Jvm.exec) (hb : c.code = cc) (hr : meth.sig.returnType = some .boolean) (hlocks : meth.locks = false) (hnr : narrow .boolean (.int v) = .int v) (hP : va_P D.1 vwCl ws H) (hD : va_D A ws) (hS : va_S A s.heap H locs) (u : S) (hp : post v u) (is : List Nat) (hi : is.map (fun i => ws[i]?) = (w1 u).map some) (hn : va_nd is = true) (hc : cells ≤ mc) (hs : slots ≤ ms) (hdg : decode cc pc = .ok (.ireturn, 1)) :
    W p l e R s m args below meth c H locs cells slots (MQ below (va_Qi post (zq D A w1) A) args s mc ms A) (F0 m pc ls [.int v]) :=
  W.widen hc hs (W.zret hx hb hr hnr (fun t ht hW => ⟨⟨v, u, rfl, hp, by rw [ht]; exact hP.sub is (z_fm hi), hD.sub is hn hi⟩, hS.F ht⟩) hS.2.2 hdg hlocks)
theorem z_lret {post : Int64 → S → Prop} {v : Int64} (hx : p.tables.exec = Jvm.exec) (hb : c.code = cc) (hr : meth.sig.returnType = some .long) (hlocks : meth.locks = false) (hP : va_P D.1 vwCl ws H) (hD : va_D A ws) (hS : va_S A s.heap H locs) (u : S) (hp : post v u) (is : List Nat) (hi : is.map (fun i => ws[i]?) = (w1 u).map some) (hn : va_nd is = true) (hc : cells ≤ mc) (hs : slots ≤ ms) (hdg : decode cc pc = .ok (.lreturn, 1)) :
    W p l e R s m args below meth c H locs cells slots (MQ below (va_Ql post (zq D A w1) A) args s mc ms A) (F0 m pc ls [.long v]) :=
  W.widen hc hs (W.lret hx hb hr (fun t ht hW => ⟨⟨v, u, rfl, hp, by rw [ht]; exact hP.sub is (z_fm hi), hD.sub is hn hi⟩, hS.F ht⟩) hS.2.2 hdg hlocks)
theorem z_vret {post : S → Prop} (hx : p.tables.exec = Jvm.exec) (hb : c.code = cc) (hr : meth.sig.returnType = none) (hlocks : meth.locks = false) (hP : va_P D.1 vwCl ws H) (hD : va_D A ws) (hS : va_S A s.heap H locs) (u : S) (hp : post u) (is : List Nat) (hi : is.map (fun i => ws[i]?) = (w1 u).map some) (hn : va_nd is = true) (hc : cells ≤ mc) (hs : slots ≤ ms) (hdg : decode cc pc = .ok (.return_, 1)) :
    W p l e R s m args below meth c H locs cells slots (MQ below (va_Qv post (zq D A w1) A) args s mc ms A) (F0 m pc ls []) :=
  W.widen hc hs (W.vret hx hb hr (fun t ht hW => ⟨⟨u, rfl, hp, by rw [ht]; exact hP.sub is (z_fm hi), hD.sub is hn hi⟩, hS.F ht⟩) hS.2.2 hdg hlocks)
/-- throw new E("text") -/
theorem z_throw (cls text : String) (names : List String) {ik is ic : Nat} (hx : p.tables.exec = Jvm.exec) (hb : c.code = cc) (hl9 : l.stackTraces = false) (hout : ∀ x ∈ c.exceptionTable.toList, False) (hlocks : meth.locks = false)
    (hown : s.vm.findClass own = some m.cls) (hcls : Bundle.fit cls = true) (hnames : ∀ n ∈ names, Bundle.fit n = true) (hk : (Cond.classLink own ik cls).before args s = true) (hini : (Cond.initialized cls).before args s = true)
    (hB : zB A s) (hstr : (own, is, text) ∈ zStr) (hat : ∀ w ∈ vx_atS own ic cls names, w.before args s = true) (hgood : ∀ w ∈ Cond.classLink own ik cls :: Cond.initialized cls :: vx_atS own ic cls names, vx_ot w = true) (hsize : ls.size = c.maxLocals)
    (d0 : decode cc pc = .ok (.new ik, 3)) (d3 : decode cc (pc + 3) = .ok (.dup, 1)) (d4 : decode cc (pc + 4) = .ok (.ldc is, 2)) (d6 : decode cc (pc + 6) = .ok (.invokespecial ic, 3)) (d9 : decode cc (pc + 9) = .ok (.athrow, 1))
    (hRf : names.length + 3 < R.frames) (hRl : (rest.map fun v => v.category).sum + (13 * (names.length + 1) + 43) ≤ R.locals) (hRc : cells + 1 ≤ R.cells) (hRs : slots + 6 ≤ R.slots)
    (hxn : xn cls) (hP : va_P D.1 vwCl ws H) (hD : va_D A ws) (hS : va_S A s.heap H locs) (ix : List Nat) (hi : ix.map (fun i => ws[i]?) = w2.map some) (hn : va_nd ix = true) (hc : cells + 1 ≤ mc) (hs : slots + 6 ≤ ms) :
    W p l e R s m args below meth c H locs cells slots (vx_MQ below Qc (vx_X (fun _ : Unit => True) (zx D A w2 xn) A) args s mc ms A) (F0 m pc ls rest) := by
  obtain ⟨sa, hsa⟩ := hB.2.2.1 _ hstr
  have hP9 := hP.sub ix (z_fm hi)
  have hD9 := hD.sub ix hn hi
  exact vx_throwS (own := own) (cls := cls) (text := text) (names := names) hx hb hl9 hown hcls hnames hk hini hsa hat hgood hB.1 hB.2.1 hS hsize d0 d3 d4 d6 d9 (fun x hx => (hout x hx).elim) hRf hRl hRc hRs hlocks
    (fun t ha hsz hk => ⟨(), trivial, ⟨hxn, hP9.kept (fun k q hq => hk q.1 (hP9 k q hq).lt), hD9⟩, Nat.le_trans hS.1 hsz, fun q h1 h2 => (hk q (Nat.lt_of_lt_of_le h1 hS.1)).trans (hS.2.1 q h1 h2)⟩) hS.2.2 hc hs
end ZGo
end ZA
section ZB
variable {p : Program} {l : Launch} {e : Env} {R : Room} {s : State} {m : MethodId} {args : Array Value} {below : List Frame} {meth : Method} {c : Code} {H : Heap} {locs : List Loc} {cells slots : Nat} {Q : State → Prop}
variable {cc : ByteArray} {pc : Nat} {ls : Array Slot} {rest : List Value} {D : zD} {A : Nat → Prop} {a : Nat} {ws : va_W} {H0 : Heap}
theorem z_iald (hexec : p.tables.exec = Jvm.exec) (hb : c.code = cc) (hK : va_K D.1 vwCl (zt D) s) (hP : va_P D.1 vwCl ws H) (q0 : Nat) {n : Nat} {f : Nat → Int32} (ha : ws[q0]? = some (a, .inl (D.2 0, n, .inl f))) {k : Nat} (hk : k < n) (hn : n < 2 ^ 31) (hdg : decode cc pc = .ok (.iaload, 1))
    (kk : W p l e R s m args below meth c H locs cells slots Q (F0 m (pc + 1) ls (.int (f k) :: rest))) : W p l e R s m args below meth c H locs cells slots Q (F0 m pc ls (.int (nI k) :: .ref a :: rest)) :=
  va_iald hexec hb hK hP q0 0 ha rfl (vp_in_nI hk hn) hdg (by rw [nI_clamp (Nat.lt_trans hk hn)]; exact kk)
theorem z_zald (hexec : p.tables.exec = Jvm.exec) (hb : c.code = cc) (hK : va_K D.1 vwCl (zt D) s) (hP : va_P D.1 vwCl ws H) (q0 : Nat) {n : Nat} {f : Nat → Int32} (ha : ws[q0]? = some (a, .inl (D.2 2, n, .inl f))) {k : Nat} (hk : k < n) (hn : n < 2 ^ 31) (hdg : decode cc pc = .ok (.baload, 1))
    (kk : W p l e R s m args below meth c H locs cells slots Q (F0 m (pc + 1) ls (.int (f k) :: rest))) : W p l e R s m args below meth c H locs cells slots Q (F0 m pc ls (.int (nI k) :: .ref a :: rest)) :=
  va_zald hexec hb hK hP q0 2 ha rfl (vp_in_nI hk hn) hdg (by rw [nI_clamp (Nat.lt_trans hk hn)]; exact kk)
theorem z_lald (hexec : p.tables.exec = Jvm.exec) (hb : c.code = cc) (hK : va_K D.1 vwCl (zt D) s) (hP : va_P D.1 vwCl ws H) (q0 : Nat) {n : Nat} {f : Nat → Int64} (ha : ws[q0]? = some (a, .inl (D.2 1, n, .inr (.inl f)))) {k : Nat} (hk : k < n) (hn : n < 2 ^ 31) (hdg : decode cc pc = .ok (.laload, 1))
    (kk : W p l e R s m args below meth c H locs cells slots Q (F0 m (pc + 1) ls (.long (f k) :: rest))) : W p l e R s m args below meth c H locs cells slots Q (F0 m pc ls (.int (nI k) :: .ref a :: rest)) :=
  va_lald hexec hb hK hP q0 1 ha rfl (vp_in_nI hk hn) hdg (by rw [nI_clamp (Nat.lt_trans hk hn)]; exact kk)
theorem z_iast (hexec : p.tables.exec = Jvm.exec) (hb : c.code = cc) (hK : va_K D.1 vwCl (zt D) s) (hP : va_P D.1 vwCl ws H) (hD : va_D A ws) (hS : va_S A H0 H locs) (q0 : Nat) {n : Nat} {f : Nat → Int32} (ha : ws[q0]? = some (a, .inl (D.2 0, n, .inl f))) {k : Nat} {x : Int32} (hk : k < n) (hn : n < 2 ^ 31) (hdg : decode cc pc = .ok (.iastore, 1))
    (kk : ∀ (H1 : Heap) (locs1 : List Loc), va_P D.1 vwCl (ws.set q0 (a, .inl (D.2 0, n, .inl (upd f k x)))) H1 → va_D A (ws.set q0 (a, .inl (D.2 0, n, .inl (upd f k x)))) → va_S A H0 H1 locs1 → W p l e R s m args below meth c H1 locs1 cells slots Q (F0 m (pc + 1) ls rest)) : W p l e R s m args below meth c H locs cells slots Q (F0 m pc ls (.int x :: .int (nI k) :: .ref a :: rest)) :=
  va_iast hexec hb hK hP hD hS q0 0 ha rfl (vp_in_nI hk hn) hdg (fun H1 locs1 h1 h2 h3 => by rw [nI_clamp (Nat.lt_trans hk hn)] at h1 h2; exact kk H1 locs1 h1 h2 h3)
theorem z_zast (hexec : p.tables.exec = Jvm.exec) (hb : c.code = cc) (hK : va_K D.1 vwCl (zt D) s) (hP : va_P D.1 vwCl ws H) (hD : va_D A ws) (hS : va_S A H0 H locs) (q0 : Nat) {n : Nat} {f : Nat → Int32} (ha : ws[q0]? = some (a, .inl (D.2 2, n, .inl f))) {k : Nat} {x : Int32} (hk : k < n) (hn : n < 2 ^ 31) (hdg : decode cc pc = .ok (.bastore, 1))
    (kk : ∀ (H1 : Heap) (locs1 : List Loc), va_P D.1 vwCl (ws.set q0 (a, .inl (D.2 2, n, .inl (upd f k (vp_nar .boolean x))))) H1 → va_D A (ws.set q0 (a, .inl (D.2 2, n, .inl (upd f k (vp_nar .boolean x))))) → va_S A H0 H1 locs1 → W p l e R s m args below meth c H1 locs1 cells slots Q (F0 m (pc + 1) ls rest)) : W p l e R s m args below meth c H locs cells slots Q (F0 m pc ls (.int x :: .int (nI k) :: .ref a :: rest)) :=
  va_zast hexec hb hK hP hD hS q0 2 ha rfl (vp_in_nI hk hn) hdg (fun H1 locs1 h1 h2 h3 => by rw [nI_clamp (Nat.lt_trans hk hn)] at h1 h2; exact kk H1 locs1 h1 h2 h3)
theorem z_last (hexec : p.tables.exec = Jvm.exec) (hb : c.code = cc) (hK : va_K D.1 vwCl (zt D) s) (hP : va_P D.1 vwCl ws H) (hD : va_D A ws) (hS : va_S A H0 H locs) (q0 : Nat) {n : Nat} {f : Nat → Int64} (ha : ws[q0]? = some (a, .inl (D.2 1, n, .inr (.inl f)))) {k : Nat} {x : Int64} (hk : k < n) (hn : n < 2 ^ 31) (hdg : decode cc pc = .ok (.lastore, 1))
    (kk : ∀ (H1 : Heap) (locs1 : List Loc), va_P D.1 vwCl (ws.set q0 (a, .inl (D.2 1, n, .inr (.inl (vp_updL f k x))))) H1 → va_D A (ws.set q0 (a, .inl (D.2 1, n, .inr (.inl (vp_updL f k x))))) → va_S A H0 H1 locs1 → W p l e R s m args below meth c H1 locs1 cells slots Q (F0 m (pc + 1) ls rest)) : W p l e R s m args below meth c H locs cells slots Q (F0 m pc ls (.long x :: .int (nI k) :: .ref a :: rest)) :=
  va_last hexec hb hK hP hD hS q0 1 ha rfl (vp_in_nI hk hn) hdg (fun H1 locs1 h1 h2 h3 => by rw [nI_clamp (Nat.lt_trans hk hn)] at h1 h2; exact kk H1 locs1 h1 h2 h3)
theorem z_aldq (hexec : p.tables.exec = Jvm.exec) (hb : c.code = cc) (hK : va_K D.1 vwCl (zt D) s) (hP : va_P D.1 vwCl ws H) (q0 t0 : Nat) {cA : ClassId} {C : String} {n q : Nat} {f : Nat → Option Nat} (ha : ws[q0]? = some (a, .inl (cA, n, .inr (.inr (.inr (.inr f)))))) (ht : (zt D)[t0]? = some (cA, .object C)) {k : Nat} (hk : k < n) (hn : n < 2 ^ 31) (hq : f k = some q) (hdg : decode cc pc = .ok (.aaload, 1))
    (kk : W p l e R s m args below meth c H locs cells slots Q (F0 m (pc + 1) ls (.ref q :: rest))) : W p l e R s m args below meth c H locs cells slots Q (F0 m pc ls (.int (nI k) :: .ref a :: rest)) :=
  va_aldq hexec hb hK hP q0 t0 ha ht (vp_in_nI hk hn) hdg (by rw [nI_clamp (Nat.lt_trans hk hn), hq]; exact kk)
theorem z_ge {k t : Nat} (hk : k ≤ t) (ht : t < 2 ^ 31) (c : nI t ≤ nI k) : k = t := Nat.le_antisymm hk ((nI_leI ht (Nat.lt_of_le_of_lt hk ht)).mp c)
theorem z_lt {k t : Nat} (hk : k ≤ t) (ht : t < 2 ^ 31) (c : ¬ nI t ≤ nI k) : k < t := by
  rcases Nat.lt_or_ge k t with h | h
  · exact h
  · exact absurd ((nI_leI ht (Nat.lt_of_le_of_lt hk ht)).mpr h) c
theorem z_cai {cA : ClassId} (h : va_K D.1 vwCl (zt D ++ [(cA, .int)]) s) : cA = D.2 0 := by
  have h1 : s.vm.findClass ("[" ++ FieldType.int.toString) = some cA := (h.2 (zt D).length (cA, .int) (by simp)).2
  have h2 : s.vm.findClass ("[" ++ FieldType.int.toString) = some (D.2 0) := (h.2 0 (D.2 0, .int) rfl).2
  exact Option.some.inj (h1.symm.trans h2)
theorem z_cal {cA : ClassId} (h : va_K D.1 vwCl (zt D ++ [(cA, .long)]) s) : cA = D.2 1 := by
  have h1 : s.vm.findClass ("[" ++ FieldType.long.toString) = some cA := (h.2 (zt D).length (cA, .long) (by simp)).2
  have h2 : s.vm.findClass ("[" ++ FieldType.long.toString) = some (D.2 1) := (h.2 1 (D.2 1, .long) rfl).2
  exact Option.some.inj (h1.symm.trans h2)
theorem z_caz {cA : ClassId} (h : va_K D.1 vwCl (zt D ++ [(cA, .boolean)]) s) : cA = D.2 2 := by
  have h1 : s.vm.findClass ("[" ++ FieldType.boolean.toString) = some cA := (h.2 (zt D).length (cA, .boolean) (by simp)).2
  have h2 : s.vm.findClass ("[" ++ FieldType.boolean.toString) = some (D.2 2) := (h.2 2 (D.2 2, .boolean) rfl).2
  exact Option.some.inj (h1.symm.trans h2)
theorem z_caS {cA : ClassId} (h : va_K D.1 vwCl (zt D ++ [(cA, .object "ShopLedger$Stock")]) s) : cA = D.2 3 := by
  obtain ⟨_, _, _, _, _, h1⟩ := (h.2 (zt D).length (cA, .object "ShopLedger$Stock") (by simp)).2
  obtain ⟨_, _, _, _, _, h2⟩ := (h.2 3 (D.2 3, .object "ShopLedger$Stock") rfl).2
  exact Option.some.inj (h1.symm.trans h2)
theorem z_caM {cA : ClassId} (h : va_K D.1 vwCl (zt D ++ [(cA, .object "ShopLedger$Money")]) s) : cA = D.2 4 := by
  obtain ⟨_, _, _, _, _, h1⟩ := (h.2 (zt D).length (cA, .object "ShopLedger$Money") (by simp)).2
  obtain ⟨_, _, _, _, _, h2⟩ := (h.2 4 (D.2 4, .object "ShopLedger$Money") rfl).2
  exact Option.some.inj (h1.symm.trans h2)
end ZB
