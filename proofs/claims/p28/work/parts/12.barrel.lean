set_option maxHeartbeats 4000000 in
set_option maxRecDepth 100000 in
/-- its place in the row of LINES -/
theorem kX0_lineAt (l : Launch) (tn : Nat) (ln : Nat) : Met l yX0_lineAt wsX0_lineAt ({ frames := 0, cells := 0, slots := 0, locals := 0 }) (va_Pc [.int (nI tn), .int (nI ln)] (fun _ => True)) (va_Qi (fun (r : Int32) (u : Unit) => r = nI (ln * 24 + tn)) (fun _ _ => True) (fun _ => False)) 0 0 (fun _ => False) := by
  refine Met.ofW (cc := cX0_lineAt) (maxL := 2) (ret := (some .int)) (by decide) rfl ?_
  intro p e s m args below meth c s₁ B hml hv
  obtain ⟨rfl, -⟩ := hv
  have hx := B.exec
  have hb := B.bytes
  have hr := B.returns
  have hts := atoms_spec (ws := wsX0_lineAt) B.pre
  have hown : s.vm.findClass RX0 = some m.cls := findClass_of_methodNamed B.named
  have hlocks := B.notSynchronized
  have hS : va_S (fun _ => False) s.heap s.heap [] := va_S.rf
  have hl := lv_entry ([.int (nI tn), .int (nI ln)]) (n := 2) (Nat.le_of_ble_eq_true rfl)
  rw [lg_entry_eq]
  generalize (lg_sl ([.int (nI tn), .int (nI ln)]) ++ List.replicate (2 - (lg_sl ([.int (nI tn), .int (nI ln)])).length) Slot.unset).toArray = ls at hl ⊢
  have hl : lv_has ls 2 [(0, .int (nI tn)), (1, .int (nI ln))] := hl
  refine lv_iload_n hx hb dX0_lineAt_0 rfl (lv_at hl 1 rfl) ?_
  refine lv_bipush (v := nI 24) hx hb dX0_lineAt_1 (by decide) ?_
  refine xi_mul hx hb dX0_lineAt_3 ?_
  refine lv_iload_n hx hb dX0_lineAt_4 rfl (lv_at hl 0 rfl) ?_
  refine xi_add hx hb dX0_lineAt_5 ?_
  exact W.iret (v := nI ((ln * 24) + tn)) hx hb hr (fun t ht hW => ⟨⟨nI ((ln * 24) + tn), (), rfl, rfl, trivial⟩, hS.F ht⟩) hS.2.2 dX0_lineAt_6

set_option maxHeartbeats 4000000 in
set_option maxRecDepth 100000 in
/-- its place in the row of PINS -/
theorem kX0_pinAt (l : Launch) (tn : Nat) (ln : Nat) (pl : Nat) : Met l yX0_pinAt wsX0_pinAt ({ frames := 0, cells := 0, slots := 0, locals := 0 }) (va_Pc [.int (nI tn), .int (nI ln), .int (nI pl)] (fun _ => True)) (va_Qi (fun (r : Int32) (u : Unit) => r = nI ((ln * 24 + tn) * 64 + pl)) (fun _ _ => True) (fun _ => False)) 0 0 (fun _ => False) := by
  refine Met.ofW (cc := cX0_pinAt) (maxL := 3) (ret := (some .int)) (by decide) rfl ?_
  intro p e s m args below meth c s₁ B hml hv
  obtain ⟨rfl, -⟩ := hv
  have hx := B.exec
  have hb := B.bytes
  have hr := B.returns
  have hts := atoms_spec (ws := wsX0_pinAt) B.pre
  have hown : s.vm.findClass RX0 = some m.cls := findClass_of_methodNamed B.named
  have hlocks := B.notSynchronized
  have hS : va_S (fun _ => False) s.heap s.heap [] := va_S.rf
  have hl := lv_entry ([.int (nI tn), .int (nI ln), .int (nI pl)]) (n := 3) (Nat.le_of_ble_eq_true rfl)
  rw [lg_entry_eq]
  generalize (lg_sl ([.int (nI tn), .int (nI ln), .int (nI pl)]) ++ List.replicate (3 - (lg_sl ([.int (nI tn), .int (nI ln), .int (nI pl)])).length) Slot.unset).toArray = ls at hl ⊢
  have hl : lv_has ls 3 [(0, .int (nI tn)), (1, .int (nI ln)), (2, .int (nI pl))] := hl
  refine lv_iload_n hx hb dX0_pinAt_0 rfl (lv_at hl 1 rfl) ?_
  refine lv_bipush (v := nI 24) hx hb dX0_pinAt_1 (by decide) ?_
  refine xi_mul hx hb dX0_pinAt_3 ?_
  refine lv_iload_n hx hb dX0_pinAt_4 rfl (lv_at hl 0 rfl) ?_
  refine xi_add hx hb dX0_pinAt_5 ?_
  refine lv_bipush (v := nI 64) hx hb dX0_pinAt_6 (by decide) ?_
  refine xi_mul hx hb dX0_pinAt_8 ?_
  refine lv_iload_n hx hb dX0_pinAt_9 rfl (lv_at hl 2 rfl) ?_
  refine xi_add hx hb dX0_pinAt_10 ?_
  exact W.iret (v := nI ((((ln * 24) + tn) * 64) + pl)) hx hb hr (fun t ht hW => ⟨⟨nI ((((ln * 24) + tn) * 64) + pl), (), rfl, rfl, trivial⟩, hS.F ht⟩) hS.2.2 dX0_pinAt_11

theorem mX0_placesNear_constantLong_RX0_19_127 : Cond.constantLong RX0 19 (127) ∈ wsX0_placesNear := List.mem_of_getElem? (i := 1) (by decide +kernel)
set_option maxHeartbeats 4000000 in
set_option maxRecDepth 100000 in
/-- the PLACES near -/
theorem kX0_placesNear (l : Launch) (pl : Nat) : Met l yX0_placesNear wsX0_placesNear ({ frames := 0, cells := 0, slots := 0, locals := 0 }) (va_Pc [.int (nI pl)] (fun _ => True)) (va_Ql (fun (r : Int64) (u : Unit) => r = nearL pl) (fun _ _ => True) (fun _ => False)) 0 0 (fun _ => False) := by
  refine Met.ofW (cc := cX0_placesNear) (maxL := 2) (ret := (some .long)) (by decide) rfl ?_
  intro p e s m args below meth c s₁ B hml hv
  obtain ⟨rfl, -⟩ := hv
  have hx := B.exec
  have hb := B.bytes
  have hr := B.returns
  have hts := atoms_spec (ws := wsX0_placesNear) B.pre
  have hown : s.vm.findClass RX0 = some m.cls := findClass_of_methodNamed B.named
  have hlocks := B.notSynchronized
  have hS : va_S (fun _ => False) s.heap s.heap [] := va_S.rf
  have hl := lv_entry ([.int (nI pl)]) (n := 2) (Nat.le_of_ble_eq_true rfl)
  rw [lg_entry_eq]
  generalize (lg_sl ([.int (nI pl)]) ++ List.replicate (2 - (lg_sl ([.int (nI pl)])).length) Slot.unset).toArray = ls at hl ⊢
  have hl : lv_has ls 2 [(0, .int (nI pl))] := hl
  refine lv_iload_n hx hb dX0_placesNear_0 rfl (lv_at hl 0 rfl) ?_
  refine lv_iconst (v := nI 3) hx hb dX0_placesNear_1 (by decide) ?_
  refine lv_isub hx hb dX0_placesNear_2 ?_
  refine lv_bipush (v := nI 63) hx hb dX0_placesNear_3 (by decide) ?_
  refine lv_iand hx hb dX0_placesNear_5 ?_
  refine lv_istore_n (lv' := [(1, .int (((nI pl) - (nI 3)) &&& (nI 63))), (0, .int (nI pl))]) hx hb dX0_placesNear_6 rfl hl (by decide) rfl (fun ls hl => ?_)
  refine lv_ldc2 (v := (127)) hx hb hown (hts _ mX0_placesNear_constantLong_RX0_19_127) dX0_placesNear_7 ?_
  refine lv_iload_n hx hb dX0_placesNear_10 rfl (lv_at hl 0 rfl) ?_
  refine lv_lshl (v := ((127) : Int64) <<< ((((nI pl) - (nI 3)) &&& (nI 63)).toInt64 &&& 63)) hx hb dX0_placesNear_11 rfl ?_
  refine lv_ldc2 (v := (127)) hx hb hown (hts _ mX0_placesNear_constantLong_RX0_19_127) dX0_placesNear_12 ?_
  refine lv_iload_n hx hb dX0_placesNear_15 rfl (lv_at hl 0 rfl) ?_
  refine lv_ineg hx hb dX0_placesNear_16 ?_
  refine lv_lushr (v := (((127) : Int64).toUInt64 >>> ((-(((nI pl) - (nI 3)) &&& (nI 63))).toInt64.toUInt64 &&& Int64.toUInt64 63)).toInt64) hx hb dX0_placesNear_17 rfl ?_
  refine lv_lor hx hb dX0_placesNear_18 ?_
  exact W.lret (v := (((127) : Int64) <<< ((((nI pl) - (nI 3)) &&& (nI 63)).toInt64 &&& 63)) ||| ((((127) : Int64).toUInt64 >>> ((-(((nI pl) - (nI 3)) &&& (nI 63))).toInt64.toUInt64 &&& Int64.toUInt64 63)).toInt64)) hx hb hr (fun t ht hW => ⟨⟨(((127) : Int64) <<< ((((nI pl) - (nI 3)) &&& (nI 63)).toInt64 &&& 63)) ||| ((((127) : Int64).toUInt64 >>> ((-(((nI pl) - (nI 3)) &&& (nI 63))).toInt64.toUInt64 &&& Int64.toUInt64 63)).toInt64), (), rfl, rfl, trivial⟩, hS.F ht⟩) hS.2.2 dX0_placesNear_19

theorem inX0_placesOf_X0 : ∀ w ∈ wsX00, w ∈ wsX0_placesOf := by decide +kernel
theorem mX0_placesOf_fieldLink_RX0_9_PinBarrel_Barrel_places_J : Cond.fieldLink RX0 9 "PinBarrel$Barrel" "places" "[J" ∈ wsX0_placesOf := List.mem_of_getElem? (i := 1) (by decide +kernel)
set_option maxHeartbeats 4000000 in
set_option maxRecDepth 100000 in
/-- the set of a LINE -/
theorem kX0_placesOf (l : Launch) (dC : Nat → ClassId) (dI : Nat → Nat → Nat) (cyI cyZ cyJ cyD cyB : ClassId) (h0 h1 : Nat) (h2 : Nat) (plc : Nat → Int64) (tn : Nat) (ln : Nat) (ht : tn < 24) (hln : ln < 3) : Met l yX0_placesOf wsX0_placesOf ({ frames := 1, cells := 0, slots := 0, locals := 21 }) (va_Pc [.ref h0, .int (nI tn), .int (nI ln)] (xP (dC, dI) vwCl (xT cyI cyZ cyJ cyD cyB) [(h0, .inr (2, [.ref h1, .ref h2])), (h1, .inl (cyJ, 72, .inr (.inl plc)))])) (va_Ql (fun (r : Int64) (u : Unit) => r = plc (ln * 24 + tn)) (fun _ _ => True) (fun _ => False)) 0 0 (fun _ => False) := by
  refine Met.ofW (cc := cX0_placesOf) (maxL := 3) (ret := (some .long)) (by decide) rfl ?_
  intro p e s m args below meth c s₁ B hml hv
  obtain ⟨rfl, hP, hK⟩ := hv
  have hx := B.exec
  have hb := B.bytes
  have hr := B.returns
  have hts := atoms_spec (ws := wsX0_placesOf) B.pre
  have hown : s.vm.findClass RX0 = some m.cls := findClass_of_methodNamed B.named
  have hlocks := B.notSynchronized
  have hS : va_S (fun _ => False) s.heap s.heap [] := va_S.rf
  have hP : va_P (dC, dI) vwCl [(h0, .inr (2, [.ref h1, .ref h2])), (h1, .inl (cyJ, 72, .inr (.inl plc)))] s.heap := hP
  have hl := lv_entry ([.ref h0, .int (nI tn), .int (nI ln)]) (n := 3) (Nat.le_of_ble_eq_true rfl)
  rw [lg_entry_eq]
  generalize (lg_sl ([.ref h0, .int (nI tn), .int (nI ln)]) ++ List.replicate (3 - (lg_sl ([.ref h0, .int (nI tn), .int (nI ln)])).length) Slot.unset).toArray = ls at hl ⊢
  have hl : lv_has ls 3 [(0, .ref h0), (1, .int (nI tn)), (2, .int (nI ln))] := hl
  refine lv_aload_n hx hb dX0_placesOf_0 rfl (lv_at hl 0 rfl) ?_
  refine va_get (D := (dC, dI)) (ci := 2) (v := .ref h1) (C := RX0) (T := TX0) (N := 2) hx hb hts inX0_placesOf_X0 hown hK hP 0 rfl rfl 0 (by decide) (hts _ mX0_placesOf_fieldLink_RX0_9_PinBarrel_Barrel_places_J) (fun _ h9 => h9) rfl dX0_placesOf_1 ?_
  refine lv_iload_n hx hb dX0_placesOf_4 rfl (lv_at hl 1 rfl) ?_
  refine lv_iload_n hx hb dX0_placesOf_5 rfl (lv_at hl 2 rfl) ?_
  refine xs_i (As := [.int (nI tn), .int (nI ln)]) (rest := [.ref h1]) ⟨hx, hb, hml, hown, hts⟩ (kX0_lineAt l tn ln) (va_cwS 2 hts gX0_placesOf_X0_lineAt rfl rfl rfl (by decide +kernel) ⟨Nat.le_of_ble_eq_true rfl, Nat.le_of_ble_eq_true rfl⟩) hP hS rfl hl.1 rfl (Nat.le_of_ble_eq_true rfl) dX0_placesOf_6 ⟨Nat.zero_le _, Nat.zero_le _⟩ (fun r_1 H locs hw hP hS => ?_)
  have hw : r_1 = nI (ln * 24 + tn) := hw
  subst hw
  refine xl_J (f := plc) hx hb hK hP 1 2 rfl rfl (by omega) (by decide) dX0_placesOf_9 ?_
  exact W.lret (v := plc (ln * 24 + tn)) hx hb hr (fun t ht hW => ⟨⟨plc (ln * 24 + tn), (), rfl, rfl, trivial⟩, hS.F ht⟩) hS.2.2 dX0_placesOf_10

theorem inX0_wearOf_X0 : ∀ w ∈ wsX00, w ∈ wsX0_wearOf := by decide +kernel
theorem mX0_wearOf_fieldLink_RX0_15_PinBarrel_Barrel_wears_I : Cond.fieldLink RX0 15 "PinBarrel$Barrel" "wears" "[I" ∈ wsX0_wearOf := List.mem_of_getElem? (i := 1) (by decide +kernel)
set_option maxHeartbeats 4000000 in
set_option maxRecDepth 100000 in
/-- the WEAR -/
theorem kX0_wearOf (l : Launch) (dC : Nat → ClassId) (dI : Nat → Nat → Nat) (cyI cyZ cyJ cyD cyB : ClassId) (h0 h2 : Nat) (h1 : Nat) (wea : Nat → Nat) (tn : Nat) (ln : Nat) (pl : Nat) (ht : tn < 24) (hln : ln < 3) (hpl : pl < 64) : Met l yX0_wearOf wsX0_wearOf ({ frames := 1, cells := 0, slots := 0, locals := 22 }) (va_Pc [.ref h0, .int (nI tn), .int (nI ln), .int (nI pl)] (xP (dC, dI) vwCl (xT cyI cyZ cyJ cyD cyB) [(h0, .inr (2, [.ref h1, .ref h2])), (h2, .inl (cyI, 4608, .inl (fun k => nI (wea k))))])) (va_Qi (fun (r : Int32) (u : Unit) => r = nI (wea ((ln * 24 + tn) * 64 + pl))) (fun _ _ => True) (fun _ => False)) 0 0 (fun _ => False) := by
  refine Met.ofW (cc := cX0_wearOf) (maxL := 4) (ret := (some .int)) (by decide) rfl ?_
  intro p e s m args below meth c s₁ B hml hv
  obtain ⟨rfl, hP, hK⟩ := hv
  have hx := B.exec
  have hb := B.bytes
  have hr := B.returns
  have hts := atoms_spec (ws := wsX0_wearOf) B.pre
  have hown : s.vm.findClass RX0 = some m.cls := findClass_of_methodNamed B.named
  have hlocks := B.notSynchronized
  have hS : va_S (fun _ => False) s.heap s.heap [] := va_S.rf
  have hP : va_P (dC, dI) vwCl [(h0, .inr (2, [.ref h1, .ref h2])), (h2, .inl (cyI, 4608, .inl (fun k => nI (wea k))))] s.heap := hP
  have hl := lv_entry ([.ref h0, .int (nI tn), .int (nI ln), .int (nI pl)]) (n := 4) (Nat.le_of_ble_eq_true rfl)
  rw [lg_entry_eq]
  generalize (lg_sl ([.ref h0, .int (nI tn), .int (nI ln), .int (nI pl)]) ++ List.replicate (4 - (lg_sl ([.ref h0, .int (nI tn), .int (nI ln), .int (nI pl)])).length) Slot.unset).toArray = ls at hl ⊢
  have hl : lv_has ls 4 [(0, .ref h0), (1, .int (nI tn)), (2, .int (nI ln)), (3, .int (nI pl))] := hl
  refine lv_aload_n hx hb dX0_wearOf_0 rfl (lv_at hl 0 rfl) ?_
  refine va_get (D := (dC, dI)) (ci := 2) (v := .ref h2) (C := RX0) (T := TX0) (N := 2) hx hb hts inX0_wearOf_X0 hown hK hP 0 rfl rfl 1 (by decide) (hts _ mX0_wearOf_fieldLink_RX0_15_PinBarrel_Barrel_wears_I) (fun _ h9 => h9) rfl dX0_wearOf_1 ?_
  refine lv_iload_n hx hb dX0_wearOf_4 rfl (lv_at hl 1 rfl) ?_
  refine lv_iload_n hx hb dX0_wearOf_5 rfl (lv_at hl 2 rfl) ?_
  refine lv_iload_n hx hb dX0_wearOf_6 rfl (lv_at hl 3 rfl) ?_
  refine xs_i (As := [.int (nI tn), .int (nI ln), .int (nI pl)]) (rest := [.ref h2]) ⟨hx, hb, hml, hown, hts⟩ (kX0_pinAt l tn ln pl) (va_cwS 3 hts gX0_wearOf_X0_pinAt rfl rfl rfl (by decide +kernel) ⟨Nat.le_of_ble_eq_true rfl, Nat.le_of_ble_eq_true rfl⟩) hP hS rfl hl.1 rfl (Nat.le_of_ble_eq_true rfl) dX0_wearOf_7 ⟨Nat.zero_le _, Nat.zero_le _⟩ (fun r_1 H locs hw hP hS => ?_)
  have hw : r_1 = nI ((ln * 24 + tn) * 64 + pl) := hw
  subst hw
  refine xl_I (f := wea) hx hb hK hP 1 0 rfl rfl (by omega) (by decide) dX0_wearOf_10 ?_
  exact W.iret (v := nI (wea ((ln * 24 + tn) * 64 + pl))) hx hb hr (fun t ht hW => ⟨⟨nI (wea ((ln * 24 + tn) * 64 + pl)), (), rfl, rfl, trivial⟩, hS.F ht⟩) hS.2.2 dX0_wearOf_11

theorem inX0_hasPin_X0 : ∀ w ∈ wsX00, w ∈ wsX0_hasPin := by decide +kernel
theorem mX0_hasPin_fieldLink_RX0_9_PinBarrel_Barrel_places_J : Cond.fieldLink RX0 9 "PinBarrel$Barrel" "places" "[J" ∈ wsX0_hasPin := List.mem_of_getElem? (i := 1) (by decide +kernel)
set_option maxHeartbeats 4000000 in
set_option maxRecDepth 100000 in
/-- whether a PIN is there -/
theorem kX0_hasPin (l : Launch) (dC : Nat → ClassId) (dI : Nat → Nat → Nat) (cyI cyZ cyJ cyD cyB : ClassId) (h0 h1 : Nat) (h2 : Nat) (plc : Nat → Int64) (tn : Nat) (ln : Nat) (pl : Nat) (ht : tn < 24) (hln : ln < 3) (hpl : pl < 64) : Met l yX0_hasPin wsX0_hasPin ({ frames := 1, cells := 0, slots := 0, locals := 21 }) (va_Pc [.ref h0, .int (nI tn), .int (nI ln), .int (nI pl)] (xP (dC, dI) vwCl (xT cyI cyZ cyJ cyD cyB) [(h0, .inr (2, [.ref h1, .ref h2])), (h1, .inl (cyJ, 72, .inr (.inl plc)))])) (va_Qi (fun (r : Int32) (u : Unit) => r = xb (bitL (plc (ln * 24 + tn)) pl)) (fun _ _ => True) (fun _ => False)) 0 0 (fun _ => False) := by
  refine Met.ofW (cc := cX0_hasPin) (maxL := 4) (ret := (some .boolean)) (by decide) rfl ?_
  intro p e s m args below meth c s₁ B hml hv
  obtain ⟨rfl, hP, hK⟩ := hv
  have hx := B.exec
  have hb := B.bytes
  have hr := B.returns
  have hts := atoms_spec (ws := wsX0_hasPin) B.pre
  have hown : s.vm.findClass RX0 = some m.cls := findClass_of_methodNamed B.named
  have hlocks := B.notSynchronized
  have hS : va_S (fun _ => False) s.heap s.heap [] := va_S.rf
  have hP : va_P (dC, dI) vwCl [(h0, .inr (2, [.ref h1, .ref h2])), (h1, .inl (cyJ, 72, .inr (.inl plc)))] s.heap := hP
  have hl := lv_entry ([.ref h0, .int (nI tn), .int (nI ln), .int (nI pl)]) (n := 4) (Nat.le_of_ble_eq_true rfl)
  rw [lg_entry_eq]
  generalize (lg_sl ([.ref h0, .int (nI tn), .int (nI ln), .int (nI pl)]) ++ List.replicate (4 - (lg_sl ([.ref h0, .int (nI tn), .int (nI ln), .int (nI pl)])).length) Slot.unset).toArray = ls at hl ⊢
  have hl : lv_has ls 4 [(0, .ref h0), (1, .int (nI tn)), (2, .int (nI ln)), (3, .int (nI pl))] := hl
  refine lv_aload_n hx hb dX0_hasPin_0 rfl (lv_at hl 0 rfl) ?_
  refine va_get (D := (dC, dI)) (ci := 2) (v := .ref h1) (C := RX0) (T := TX0) (N := 2) hx hb hts inX0_hasPin_X0 hown hK hP 0 rfl rfl 0 (by decide) (hts _ mX0_hasPin_fieldLink_RX0_9_PinBarrel_Barrel_places_J) (fun _ h9 => h9) rfl dX0_hasPin_1 ?_
  refine lv_iload_n hx hb dX0_hasPin_4 rfl (lv_at hl 1 rfl) ?_
  refine lv_iload_n hx hb dX0_hasPin_5 rfl (lv_at hl 2 rfl) ?_
  refine xs_i (As := [.int (nI tn), .int (nI ln)]) (rest := [.ref h1]) ⟨hx, hb, hml, hown, hts⟩ (kX0_lineAt l tn ln) (va_cwS 2 hts gX0_hasPin_X0_lineAt rfl rfl rfl (by decide +kernel) ⟨Nat.le_of_ble_eq_true rfl, Nat.le_of_ble_eq_true rfl⟩) hP hS rfl hl.1 rfl (Nat.le_of_ble_eq_true rfl) dX0_hasPin_6 ⟨Nat.zero_le _, Nat.zero_le _⟩ (fun r_1 H locs hw hP hS => ?_)
  have hw : r_1 = nI (ln * 24 + tn) := hw
  subst hw
  refine xl_J (f := plc) hx hb hK hP 1 2 rfl rfl (by omega) (by decide) dX0_hasPin_9 ?_
  refine lv_iload_n hx hb dX0_hasPin_10 rfl (lv_at hl 3 rfl) ?_
  refine lv_lushr (v := ((plc (ln * 24 + tn)).toUInt64 >>> ((nI pl).toInt64.toUInt64 &&& Int64.toUInt64 63)).toInt64) hx hb dX0_hasPin_11 rfl ?_
  refine lv_lconst (v := 1) hx hb dX0_hasPin_12 (by decide) ?_
  refine lv_land hx hb dX0_hasPin_13 ?_
  refine lv_lconst (v := 1) hx hb dX0_hasPin_14 (by decide) ?_
  refine W.lcmp hx hb dX0_hasPin_15 ?_
  refine lv_if_ne (tgt := 23) hx hb dX0_hasPin_16 (by decide) (fun c_2 => ?_) (fun c_2 => ?_)
  · refine lv_iconst (v := nI 0) hx hb dX0_hasPin_23 (by decide) ?_
    exact W.zret (v := nI 0) (ty := .boolean) hx hb hr rfl (fun t ht hW => ⟨⟨nI 0, (), rfl, (xb_f (Bool.eq_false_iff.mpr (fun h => c_2 ((xk_bit (plc (ln * 24 + tn)) hpl).mpr h)))).symm, trivial⟩, hS.F ht⟩) hS.2.2 dX0_hasPin_24
  · refine lv_iconst (v := nI 1) hx hb dX0_hasPin_19 (by decide) ?_
    refine lv_goto (tgt := 24) hx hb dX0_hasPin_20 (by decide) ?_
    exact W.zret (v := nI 1) (ty := .boolean) hx hb hr rfl (fun t ht hW => ⟨⟨nI 1, (), rfl, (xb_t ((xk_bit (plc (ln * 24 + tn)) hpl).mp c_2)).symm, trivial⟩, hS.F ht⟩) hS.2.2 dX0_hasPin_24

theorem inX0_setPin_X0 : ∀ w ∈ wsX00, w ∈ wsX0_setPin := by decide +kernel
theorem mX0_setPin_fieldLink_RX0_9_PinBarrel_Barrel_places_J : Cond.fieldLink RX0 9 "PinBarrel$Barrel" "places" "[J" ∈ wsX0_setPin := List.mem_of_getElem? (i := 1) (by decide +kernel)
theorem mX0_setPin_fieldLink_RX0_15_PinBarrel_Barrel_wears_I : Cond.fieldLink RX0 15 "PinBarrel$Barrel" "wears" "[I" ∈ wsX0_setPin := List.mem_of_getElem? (i := 2) (by decide +kernel)
set_option maxHeartbeats 4000000 in
set_option maxRecDepth 100000 in
/-- a new PIN -/
theorem kX0_setPin (l : Launch) (dC : Nat → ClassId) (dI : Nat → Nat → Nat) (cyI cyZ cyJ cyD cyB : ClassId) (h0 h1 h2 : Nat) (plc : Nat → Int64) (wea : Nat → Nat) (tn : Nat) (ln : Nat) (pl : Nat) (ht : tn < 24) (hln : ln < 3) (hpl : pl < 64) : Met l yX0_setPin wsX0_setPin ({ frames := 1, cells := 0, slots := 0, locals := 22 }) (va_Pc [.ref h0, .int (nI tn), .int (nI ln), .int (nI pl)] (xM (dC, dI) vwCl (xT cyI cyZ cyJ cyD cyB) [(h0, .inr (2, [.ref h1, .ref h2])), (h1, .inl (cyJ, 72, .inr (.inl plc))), (h2, .inl (cyI, 4608, .inl (fun k => nI (wea k))))])) (va_Qv (fun (u : Unit) => True) (fun u t => va_P (dC, dI) vwCl [(h0, .inr (2, [.ref h1, .ref h2])), (h1, .inl (cyJ, 72, .inr (.inl (va_up plc (ln * 24 + tn) (setB (plc (ln * 24 + tn)) pl))))), (h2, .inl (cyI, 4608, .inl (fun k => nI ((va_up wea ((ln * 24 + tn) * 64 + pl) 0) k))))] t.heap ∧ va_D (xA [(h0, .inr (2, [.ref h1, .ref h2])), (h1, .inl (cyJ, 72, .inr (.inl plc))), (h2, .inl (cyI, 4608, .inl (fun k => nI (wea k))))]) [(h0, .inr (2, [.ref h1, .ref h2])), (h1, .inl (cyJ, 72, .inr (.inl (va_up plc (ln * 24 + tn) (setB (plc (ln * 24 + tn)) pl))))), (h2, .inl (cyI, 4608, .inl (fun k => nI ((va_up wea ((ln * 24 + tn) * 64 + pl) 0) k))))]) (xA [(h0, .inr (2, [.ref h1, .ref h2])), (h1, .inl (cyJ, 72, .inr (.inl plc))), (h2, .inl (cyI, 4608, .inl (fun k => nI (wea k))))])) 0 0 (xA [(h0, .inr (2, [.ref h1, .ref h2])), (h1, .inl (cyJ, 72, .inr (.inl plc))), (h2, .inl (cyI, 4608, .inl (fun k => nI (wea k))))]) := by
  refine Met.ofW (cc := cX0_setPin) (maxL := 4) (ret := none) (by decide) rfl ?_
  intro p e s m args below meth c s₁ B hml hv
  obtain ⟨rfl, hP, hK, hD0⟩ := hv
  have hx := B.exec
  have hb := B.bytes
  have hr := B.returns
  have hts := atoms_spec (ws := wsX0_setPin) B.pre
  have hown : s.vm.findClass RX0 = some m.cls := findClass_of_methodNamed B.named
  have hlocks := B.notSynchronized
  have hD := xA_self hD0
  clear hD0
  generalize hAe : xA [(h0, .inr (2, [.ref h1, .ref h2])), (h1, .inl (cyJ, 72, .inr (.inl plc))), (h2, .inl (cyI, 4608, .inl (fun k => nI (wea k))))] = A at hD ⊢
  have hS : va_S A s.heap s.heap [] := va_S.rf
  have hP : va_P (dC, dI) vwCl [(h0, .inr (2, [.ref h1, .ref h2])), (h1, .inl (cyJ, 72, .inr (.inl plc))), (h2, .inl (cyI, 4608, .inl (fun k => nI (wea k))))] s.heap := hP
  have hl := lv_entry ([.ref h0, .int (nI tn), .int (nI ln), .int (nI pl)]) (n := 4) (Nat.le_of_ble_eq_true rfl)
  rw [lg_entry_eq]
  generalize (lg_sl ([.ref h0, .int (nI tn), .int (nI ln), .int (nI pl)]) ++ List.replicate (4 - (lg_sl ([.ref h0, .int (nI tn), .int (nI ln), .int (nI pl)])).length) Slot.unset).toArray = ls at hl ⊢
  have hl : lv_has ls 4 [(0, .ref h0), (1, .int (nI tn)), (2, .int (nI ln)), (3, .int (nI pl))] := hl
  refine lv_aload_n hx hb dX0_setPin_0 rfl (lv_at hl 0 rfl) ?_
  refine va_get (D := (dC, dI)) (ci := 2) (v := .ref h1) (C := RX0) (T := TX0) (N := 2) hx hb hts inX0_setPin_X0 hown hK hP 0 rfl rfl 0 (by decide) (hts _ mX0_setPin_fieldLink_RX0_9_PinBarrel_Barrel_places_J) (fun _ h9 => h9) rfl dX0_setPin_1 ?_
  refine lv_iload_n hx hb dX0_setPin_4 rfl (lv_at hl 1 rfl) ?_
  refine lv_iload_n hx hb dX0_setPin_5 rfl (lv_at hl 2 rfl) ?_
  refine xs_i (As := [.int (nI tn), .int (nI ln)]) (rest := [.ref h1]) ⟨hx, hb, hml, hown, hts⟩ (kX0_lineAt l tn ln) (va_cwS 2 hts gX0_setPin_X0_lineAt rfl rfl rfl (by decide +kernel) ⟨Nat.le_of_ble_eq_true rfl, Nat.le_of_ble_eq_true rfl⟩) hP hS rfl hl.1 rfl (Nat.le_of_ble_eq_true rfl) dX0_setPin_6 ⟨Nat.zero_le _, Nat.zero_le _⟩ (fun r_1 H locs hw hP hS => ?_)
  have hw : r_1 = nI (ln * 24 + tn) := hw
  subst hw
  refine lv_dup2_11 hx hb dX0_setPin_9 rfl rfl ?_
  refine xl_J (f := plc) hx hb hK hP 1 2 rfl rfl (by omega) (by decide) dX0_setPin_10 ?_
  refine lv_lconst (v := 1) hx hb dX0_setPin_11 (by decide) ?_
  refine lv_iload_n hx hb dX0_setPin_12 rfl (lv_at hl 3 rfl) ?_
  refine lv_lshl (v := (1 : Int64) <<< ((nI pl).toInt64 &&& 63)) hx hb dX0_setPin_13 rfl ?_
  refine lv_lor hx hb dX0_setPin_14 ?_
  refine xt_J (f := plc) (x := ((plc (ln * 24 + tn)) ||| ((1 : Int64) <<< ((nI pl).toInt64 &&& 63)))) hx hb hK hP hD hS 1 2 rfl rfl (by omega) (by decide) dX0_setPin_15 (fun H locs hP hD hS => ?_)
  have hP : va_P (dC, dI) vwCl [(h0, .inr (2, [.ref h1, .ref h2])), (h1, .inl (cyJ, 72, .inr (.inl (va_up plc (ln * 24 + tn) ((plc (ln * 24 + tn)) ||| ((1 : Int64) <<< ((nI pl).toInt64 &&& 63))))))), (h2, .inl (cyI, 4608, .inl (fun k => nI (wea k))))] H := hP
  have hD : va_D A [(h0, .inr (2, [.ref h1, .ref h2])), (h1, .inl (cyJ, 72, .inr (.inl (va_up plc (ln * 24 + tn) ((plc (ln * 24 + tn)) ||| ((1 : Int64) <<< ((nI pl).toInt64 &&& 63))))))), (h2, .inl (cyI, 4608, .inl (fun k => nI (wea k))))] := hD
  refine lv_aload_n hx hb dX0_setPin_16 rfl (lv_at hl 0 rfl) ?_
  refine va_get (D := (dC, dI)) (ci := 2) (v := .ref h2) (C := RX0) (T := TX0) (N := 2) hx hb hts inX0_setPin_X0 hown hK hP 0 rfl rfl 1 (by decide) (hts _ mX0_setPin_fieldLink_RX0_15_PinBarrel_Barrel_wears_I) (fun _ h9 => h9) rfl dX0_setPin_17 ?_
  refine lv_iload_n hx hb dX0_setPin_20 rfl (lv_at hl 1 rfl) ?_
  refine lv_iload_n hx hb dX0_setPin_21 rfl (lv_at hl 2 rfl) ?_
  refine lv_iload_n hx hb dX0_setPin_22 rfl (lv_at hl 3 rfl) ?_
  refine xs_i (As := [.int (nI tn), .int (nI ln), .int (nI pl)]) (rest := [.ref h2]) ⟨hx, hb, hml, hown, hts⟩ (kX0_pinAt l tn ln pl) (va_cwS 3 hts gX0_setPin_X0_pinAt rfl rfl rfl (by decide +kernel) ⟨Nat.le_of_ble_eq_true rfl, Nat.le_of_ble_eq_true rfl⟩) hP hS rfl hl.1 rfl (Nat.le_of_ble_eq_true rfl) dX0_setPin_23 ⟨Nat.zero_le _, Nat.zero_le _⟩ (fun r_2 H locs hw hP hS => ?_)
  have hw : r_2 = nI ((ln * 24 + tn) * 64 + pl) := hw
  subst hw
  refine lv_iconst (v := nI 0) hx hb dX0_setPin_26 (by decide) ?_
  refine xt_I (f := wea) (x := 0) hx hb hK hP hD hS 2 0 rfl rfl (by omega) (by decide) dX0_setPin_27 (fun H locs hP hD hS => ?_)
  have hP : va_P (dC, dI) vwCl [(h0, .inr (2, [.ref h1, .ref h2])), (h1, .inl (cyJ, 72, .inr (.inl (va_up plc (ln * 24 + tn) ((plc (ln * 24 + tn)) ||| ((1 : Int64) <<< ((nI pl).toInt64 &&& 63))))))), (h2, .inl (cyI, 4608, .inl (fun k => nI ((va_up wea ((ln * 24 + tn) * 64 + pl) 0) k))))] H := hP
  have hD : va_D A [(h0, .inr (2, [.ref h1, .ref h2])), (h1, .inl (cyJ, 72, .inr (.inl (va_up plc (ln * 24 + tn) ((plc (ln * 24 + tn)) ||| ((1 : Int64) <<< ((nI pl).toInt64 &&& 63))))))), (h2, .inl (cyI, 4608, .inl (fun k => nI ((va_up wea ((ln * 24 + tn) * 64 + pl) 0) k))))] := hD
  have hP9 : va_P (dC, dI) vwCl [(h0, .inr (2, [.ref h1, .ref h2])), (h1, .inl (cyJ, 72, .inr (.inl (va_up plc (ln * 24 + tn) (setB (plc (ln * 24 + tn)) pl))))), (h2, .inl (cyI, 4608, .inl (fun k => nI ((va_up wea ((ln * 24 + tn) * 64 + pl) 0) k))))] _ := hP
  have hD9 : va_D A [(h0, .inr (2, [.ref h1, .ref h2])), (h1, .inl (cyJ, 72, .inr (.inl (va_up plc (ln * 24 + tn) (setB (plc (ln * 24 + tn)) pl))))), (h2, .inl (cyI, 4608, .inl (fun k => nI ((va_up wea ((ln * 24 + tn) * 64 + pl) 0) k))))] := hD
  exact W.vret hx hb hr (fun t ht hW => ⟨⟨(), rfl, trivial, ⟨by rw [ht]; exact hP9, hD9⟩⟩, hS.F ht⟩) hS.2.2 dX0_setPin_28

theorem mJ13_bitCount_95d88_constantLong_RJ13_314_6148914691236517205 : Cond.constantLong RJ13 314 (6148914691236517205) ∈ wsJ13_bitCount_95d88 := List.mem_of_getElem? (i := 1) (by decide +kernel)
theorem mJ13_bitCount_95d88_constantLong_RJ13_316_3689348814741910323 : Cond.constantLong RJ13 316 (3689348814741910323) ∈ wsJ13_bitCount_95d88 := List.mem_of_getElem? (i := 2) (by decide +kernel)
theorem mJ13_bitCount_95d88_constantLong_RJ13_318_1085102592571150095 : Cond.constantLong RJ13 318 (1085102592571150095) ∈ wsJ13_bitCount_95d88 := List.mem_of_getElem? (i := 3) (by decide +kernel)
set_option maxHeartbeats 4000000 in
set_option maxRecDepth 100000 in
/-- how many bits -/
theorem kJ13_bitCount_95d88 (l : Launch) (xx : Int64) : Met l yJ13_bitCount_95d88 wsJ13_bitCount_95d88 ({ frames := 0, cells := 0, slots := 0, locals := 0 }) (va_Pc [.long xx] (fun _ => True)) (va_Qi (fun (r : Int32) (u : Unit) => r = nI (bcN xx)) (fun _ _ => True) (fun _ => False)) 0 0 (fun _ => False) := by
  refine Met.ofW (cc := cJ13_bitCount_95d88) (maxL := 2) (ret := (some .int)) (by decide) rfl ?_
  intro p e s m args below meth c s₁ B hml hv
  obtain ⟨rfl, -⟩ := hv
  have hx := B.exec
  have hb := B.bytes
  have hr := B.returns
  have hts := atoms_spec (ws := wsJ13_bitCount_95d88) B.pre
  have hown : s.vm.findClass RJ13 = some m.cls := findClass_of_methodNamed B.named
  have hlocks := B.notSynchronized
  have hS : va_S (fun _ => False) s.heap s.heap [] := va_S.rf
  have hl := lv_entry ([.long xx]) (n := 2) (Nat.le_of_ble_eq_true rfl)
  rw [lg_entry_eq]
  generalize (lg_sl ([.long xx]) ++ List.replicate (2 - (lg_sl ([.long xx])).length) Slot.unset).toArray = ls at hl ⊢
  have hl : lv_has ls 2 [(0, .long xx)] := hl
  refine lv_lload_n hx hb dJ13_bitCount_95d88_0 rfl (lv_at hl 0 rfl) ?_
  refine lv_lload_n hx hb dJ13_bitCount_95d88_1 rfl (lv_at hl 0 rfl) ?_
  refine lv_iconst (v := nI 1) hx hb dJ13_bitCount_95d88_2 (by decide) ?_
  refine lv_lushr (v := (xx.toUInt64 >>> ((nI 1).toInt64.toUInt64 &&& Int64.toUInt64 63)).toInt64) hx hb dJ13_bitCount_95d88_3 rfl ?_
  refine lv_ldc2 (v := (6148914691236517205)) hx hb hown (hts _ mJ13_bitCount_95d88_constantLong_RJ13_314_6148914691236517205) dJ13_bitCount_95d88_4 ?_
  refine lv_land hx hb dJ13_bitCount_95d88_7 ?_
  refine lv_lsub hx hb dJ13_bitCount_95d88_8 ?_
  refine lv_topl (fun y1 ey1 => ?_)
  refine lv_lstore_n (lv' := [(0, .long y1)]) hx hb dJ13_bitCount_95d88_9 rfl hl (by decide) rfl (fun ls hl => ?_)
  refine lv_lload_n hx hb dJ13_bitCount_95d88_10 rfl (lv_at hl 0 rfl) ?_
  refine lv_ldc2 (v := (3689348814741910323)) hx hb hown (hts _ mJ13_bitCount_95d88_constantLong_RJ13_316_3689348814741910323) dJ13_bitCount_95d88_11 ?_
  refine lv_land hx hb dJ13_bitCount_95d88_14 ?_
  refine lv_lload_n hx hb dJ13_bitCount_95d88_15 rfl (lv_at hl 0 rfl) ?_
  refine lv_iconst (v := nI 2) hx hb dJ13_bitCount_95d88_16 (by decide) ?_
  refine lv_lushr (v := (y1.toUInt64 >>> ((nI 2).toInt64.toUInt64 &&& Int64.toUInt64 63)).toInt64) hx hb dJ13_bitCount_95d88_17 rfl ?_
  refine lv_ldc2 (v := (3689348814741910323)) hx hb hown (hts _ mJ13_bitCount_95d88_constantLong_RJ13_316_3689348814741910323) dJ13_bitCount_95d88_18 ?_
  refine lv_land hx hb dJ13_bitCount_95d88_21 ?_
  refine lv_ladd hx hb dJ13_bitCount_95d88_22 ?_
  refine lv_topl (fun y2 ey2 => ?_)
  refine lv_lstore_n (lv' := [(0, .long y2)]) hx hb dJ13_bitCount_95d88_23 rfl hl (by decide) rfl (fun ls hl => ?_)
  refine lv_lload_n hx hb dJ13_bitCount_95d88_24 rfl (lv_at hl 0 rfl) ?_
  refine lv_lload_n hx hb dJ13_bitCount_95d88_25 rfl (lv_at hl 0 rfl) ?_
  refine lv_iconst (v := nI 4) hx hb dJ13_bitCount_95d88_26 (by decide) ?_
  refine lv_lushr (v := (y2.toUInt64 >>> ((nI 4).toInt64.toUInt64 &&& Int64.toUInt64 63)).toInt64) hx hb dJ13_bitCount_95d88_27 rfl ?_
  refine lv_ladd hx hb dJ13_bitCount_95d88_28 ?_
  refine lv_ldc2 (v := (1085102592571150095)) hx hb hown (hts _ mJ13_bitCount_95d88_constantLong_RJ13_318_1085102592571150095) dJ13_bitCount_95d88_29 ?_
  refine lv_land hx hb dJ13_bitCount_95d88_32 ?_
  refine lv_topl (fun y3 ey3 => ?_)
  refine lv_lstore_n (lv' := [(0, .long y3)]) hx hb dJ13_bitCount_95d88_33 rfl hl (by decide) rfl (fun ls hl => ?_)
  refine lv_lload_n hx hb dJ13_bitCount_95d88_34 rfl (lv_at hl 0 rfl) ?_
  refine lv_lload_n hx hb dJ13_bitCount_95d88_35 rfl (lv_at hl 0 rfl) ?_
  refine lv_bipush (v := nI 8) hx hb dJ13_bitCount_95d88_36 (by decide) ?_
  refine lv_lushr (v := (y3.toUInt64 >>> ((nI 8).toInt64.toUInt64 &&& Int64.toUInt64 63)).toInt64) hx hb dJ13_bitCount_95d88_38 rfl ?_
  refine lv_ladd hx hb dJ13_bitCount_95d88_39 ?_
  refine lv_topl (fun y4 ey4 => ?_)
  refine lv_lstore_n (lv' := [(0, .long y4)]) hx hb dJ13_bitCount_95d88_40 rfl hl (by decide) rfl (fun ls hl => ?_)
  refine lv_lload_n hx hb dJ13_bitCount_95d88_41 rfl (lv_at hl 0 rfl) ?_
  refine lv_lload_n hx hb dJ13_bitCount_95d88_42 rfl (lv_at hl 0 rfl) ?_
  refine lv_bipush (v := nI 16) hx hb dJ13_bitCount_95d88_43 (by decide) ?_
  refine lv_lushr (v := (y4.toUInt64 >>> ((nI 16).toInt64.toUInt64 &&& Int64.toUInt64 63)).toInt64) hx hb dJ13_bitCount_95d88_45 rfl ?_
  refine lv_ladd hx hb dJ13_bitCount_95d88_46 ?_
  refine lv_topl (fun y5 ey5 => ?_)
  refine lv_lstore_n (lv' := [(0, .long y5)]) hx hb dJ13_bitCount_95d88_47 rfl hl (by decide) rfl (fun ls hl => ?_)
  refine lv_lload_n hx hb dJ13_bitCount_95d88_48 rfl (lv_at hl 0 rfl) ?_
  refine lv_lload_n hx hb dJ13_bitCount_95d88_49 rfl (lv_at hl 0 rfl) ?_
  refine lv_bipush (v := nI 32) hx hb dJ13_bitCount_95d88_50 (by decide) ?_
  refine lv_lushr (v := (y5.toUInt64 >>> ((nI 32).toInt64.toUInt64 &&& Int64.toUInt64 63)).toInt64) hx hb dJ13_bitCount_95d88_52 rfl ?_
  refine lv_ladd hx hb dJ13_bitCount_95d88_53 ?_
  refine lv_topl (fun y6 ey6 => ?_)
  refine lv_lstore_n (lv' := [(0, .long y6)]) hx hb dJ13_bitCount_95d88_54 rfl hl (by decide) rfl (fun ls hl => ?_)
  refine lv_lload_n hx hb dJ13_bitCount_95d88_55 rfl (lv_at hl 0 rfl) ?_
  refine lv_l2i hx hb dJ13_bitCount_95d88_56 rfl ?_
  refine lv_bipush (v := nI 127) hx hb dJ13_bitCount_95d88_57 (by decide) ?_
  refine lv_iand hx hb dJ13_bitCount_95d88_59 ?_
  exact W.iret (v := ((y6).toInt32) &&& (nI 127)) hx hb hr (fun t ht hW => ⟨⟨((y6).toInt32) &&& (nI 127), (), rfl, (by subst ey6; subst ey5; subst ey4; subst ey3; subst ey2; subst ey1; exact xk_bitCount xx), trivial⟩, hS.F ht⟩) hS.2.2 dJ13_bitCount_95d88_60

set_option maxHeartbeats 4000000 in
set_option maxRecDepth 100000 in
/-- PINS of a TOOTH -/
theorem kX0_pinsOfTooth (l : Launch) (dC : Nat → ClassId) (dI : Nat → Nat → Nat) (cyI cyZ cyJ cyD cyB : ClassId) (h0 h1 : Nat) (h2 : Nat) (plc : Nat → Int64) (tn : Nat) (ht : tn < 24) : Met l yX0_pinsOfTooth wsX0_pinsOfTooth ({ frames := 2, cells := 0, slots := 0, locals := 43 }) (va_Pc [.ref h0, .int (nI tn)] (xP (dC, dI) vwCl (xT cyI cyZ cyJ cyD cyB) [(h0, .inr (2, [.ref h1, .ref h2])), (h1, .inl (cyJ, 72, .inr (.inl plc)))])) (va_Qi (fun (r : Int32) (u : Unit) => r = nI (pinsF plc tn)) (fun _ _ => True) (fun _ => False)) 0 0 (fun _ => False) := by
  refine Met.ofW (cc := cX0_pinsOfTooth) (maxL := 4) (ret := (some .int)) (by decide) rfl ?_
  intro p e s m args below meth c s₁ B hml hv
  obtain ⟨rfl, hP, hK⟩ := hv
  have hx := B.exec
  have hb := B.bytes
  have hr := B.returns
  have hts := atoms_spec (ws := wsX0_pinsOfTooth) B.pre
  have hown : s.vm.findClass RX0 = some m.cls := findClass_of_methodNamed B.named
  have hlocks := B.notSynchronized
  have hS : va_S (fun _ => False) s.heap s.heap [] := va_S.rf
  have hP : va_P (dC, dI) vwCl [(h0, .inr (2, [.ref h1, .ref h2])), (h1, .inl (cyJ, 72, .inr (.inl plc)))] s.heap := hP
  have hl := lv_entry ([.ref h0, .int (nI tn)]) (n := 4) (Nat.le_of_ble_eq_true rfl)
  rw [lg_entry_eq]
  generalize (lg_sl ([.ref h0, .int (nI tn)]) ++ List.replicate (4 - (lg_sl ([.ref h0, .int (nI tn)])).length) Slot.unset).toArray = ls at hl ⊢
  have hl : lv_has ls 4 [(0, .ref h0), (1, .int (nI tn))] := hl
  refine lv_iconst (v := nI 0) hx hb dX0_pinsOfTooth_0 (by decide) ?_
  refine lv_istore_n (lv' := [(2, .int (nI 0)), (0, .ref h0), (1, .int (nI tn))]) hx hb dX0_pinsOfTooth_1 rfl hl (by decide) rfl (fun ls hl => ?_)
  refine lv_iconst (v := nI 0) hx hb dX0_pinsOfTooth_2 (by decide) ?_
  refine lv_istore_n (lv' := [(3, .int (nI 0)), (2, .int (nI 0)), (0, .ref h0), (1, .int (nI tn))]) hx hb dX0_pinsOfTooth_3 rfl hl (by decide) rfl (fun ls hl => ?_)
  refine lv_iload_n hx hb dX0_pinsOfTooth_4 rfl (lv_at hl 0 rfl) ?_
  refine lv_iconst (v := nI 3) hx hb dX0_pinsOfTooth_5 (by decide) ?_
  refine xc_ge (tgt := 27) hx hb dX0_pinsOfTooth_6 (by decide) (by omega) (by omega) (fun c_1 => by omega) (fun c_1 => ?_)
  refine lv_iload_n hx hb dX0_pinsOfTooth_9 rfl (lv_at hl 1 rfl) ?_
  refine lv_aload_n hx hb dX0_pinsOfTooth_10 rfl (lv_at hl 2 rfl) ?_
  refine lv_iload_n hx hb dX0_pinsOfTooth_11 rfl (lv_at hl 3 rfl) ?_
  refine lv_iload_n hx hb dX0_pinsOfTooth_12 rfl (lv_at hl 0 rfl) ?_
  refine xv_l (As := [.int (nI tn), .int (nI 0)]) (rest := [.int (nI 0)]) (q := (RX0, TX0, 2)) ⟨hx, hb, hml, hown, hts⟩ (kX0_placesOf l dC dI cyI cyZ cyJ cyD cyB h0 h1 h2 plc tn 0 (by omega) (by omega)) (cwV 2 hts gX0_pinsOfTooth_X0_placesOf rfl rfl rfl (by decide +kernel) ⟨Nat.le_of_ble_eq_true rfl, Nat.le_of_ble_eq_true rfl⟩) hK hP hS [0, 1] rfl 0 2 rfl rfl rfl hl.1 rfl (Nat.le_of_ble_eq_true rfl) dX0_pinsOfTooth_13 ⟨Nat.zero_le _, Nat.zero_le _⟩ (fun r_2 H locs hw hP hS => ?_)
  have hw : r_2 = plc (0 * 24 + tn) := hw
  subst hw
  refine xs_i (As := [.long (plc (0 * 24 + tn))]) (rest := [.int (nI 0)]) ⟨hx, hb, hml, hown, hts⟩ (kJ13_bitCount_95d88 l (plc (0 * 24 + tn))) (va_cwS 1 hts gX0_pinsOfTooth_J13_bitCount_95d88 rfl rfl rfl (by decide +kernel) ⟨Nat.le_of_ble_eq_true rfl, Nat.le_of_ble_eq_true rfl⟩) hP hS rfl hl.1 rfl (Nat.le_of_ble_eq_true rfl) dX0_pinsOfTooth_16 ⟨Nat.zero_le _, Nat.zero_le _⟩ (fun r_3 H locs hw hP hS => ?_)
  have hw : r_3 = nI (bcN (plc (0 * 24 + tn))) := hw
  subst hw
  refine xi_add hx hb dX0_pinsOfTooth_19 ?_
  refine lv_istore_n (lv' := [(2, .int (nI (0 + (bcN (plc (0 * 24 + tn)))))), (3, .int (nI 0)), (0, .ref h0), (1, .int (nI tn))]) hx hb dX0_pinsOfTooth_20 rfl hl (by decide) rfl (fun ls hl => ?_)
  refine xi_inc (k := 1) (lv' := [(3, .int (nI (0 + 1))), (2, .int (nI (0 + (bcN (plc (0 * 24 + tn)))))), (0, .ref h0), (1, .int (nI tn))]) hx hb dX0_pinsOfTooth_21 hl rfl (by decide) rfl (fun ls hl => ?_)
  refine lv_goto (tgt := 4) hx hb dX0_pinsOfTooth_24 (by decide) ?_
  refine lv_iload_n hx hb dX0_pinsOfTooth_4 rfl (lv_at hl 0 rfl) ?_
  refine lv_iconst (v := nI 3) hx hb dX0_pinsOfTooth_5 (by decide) ?_
  refine xc_ge (tgt := 27) hx hb dX0_pinsOfTooth_6 (by decide) (by omega) (by omega) (fun c_4 => by omega) (fun c_4 => ?_)
  refine lv_iload_n hx hb dX0_pinsOfTooth_9 rfl (lv_at hl 1 rfl) ?_
  refine lv_aload_n hx hb dX0_pinsOfTooth_10 rfl (lv_at hl 2 rfl) ?_
  refine lv_iload_n hx hb dX0_pinsOfTooth_11 rfl (lv_at hl 3 rfl) ?_
  refine lv_iload_n hx hb dX0_pinsOfTooth_12 rfl (lv_at hl 0 rfl) ?_
  refine xv_l (As := [.int (nI tn), .int (nI (0 + 1))]) (rest := [.int (nI (0 + (bcN (plc (0 * 24 + tn)))))]) (q := (RX0, TX0, 2)) ⟨hx, hb, hml, hown, hts⟩ (kX0_placesOf l dC dI cyI cyZ cyJ cyD cyB h0 h1 h2 plc tn (0 + 1) (by omega) (by omega)) (cwV 2 hts gX0_pinsOfTooth_X0_placesOf rfl rfl rfl (by decide +kernel) ⟨Nat.le_of_ble_eq_true rfl, Nat.le_of_ble_eq_true rfl⟩) hK hP hS [0, 1] rfl 0 2 rfl rfl rfl hl.1 rfl (Nat.le_of_ble_eq_true rfl) dX0_pinsOfTooth_13 ⟨Nat.zero_le _, Nat.zero_le _⟩ (fun r_5 H locs hw hP hS => ?_)
  have hw : r_5 = plc ((0 + 1) * 24 + tn) := hw
  subst hw
  refine xs_i (As := [.long (plc ((0 + 1) * 24 + tn))]) (rest := [.int (nI (0 + (bcN (plc (0 * 24 + tn)))))]) ⟨hx, hb, hml, hown, hts⟩ (kJ13_bitCount_95d88 l (plc ((0 + 1) * 24 + tn))) (va_cwS 1 hts gX0_pinsOfTooth_J13_bitCount_95d88 rfl rfl rfl (by decide +kernel) ⟨Nat.le_of_ble_eq_true rfl, Nat.le_of_ble_eq_true rfl⟩) hP hS rfl hl.1 rfl (Nat.le_of_ble_eq_true rfl) dX0_pinsOfTooth_16 ⟨Nat.zero_le _, Nat.zero_le _⟩ (fun r_6 H locs hw hP hS => ?_)
  have hw : r_6 = nI (bcN (plc ((0 + 1) * 24 + tn))) := hw
  subst hw
  refine xi_add hx hb dX0_pinsOfTooth_19 ?_
  refine lv_istore_n (lv' := [(2, .int (nI ((0 + (bcN (plc (0 * 24 + tn)))) + (bcN (plc ((0 + 1) * 24 + tn)))))), (3, .int (nI (0 + 1))), (0, .ref h0), (1, .int (nI tn))]) hx hb dX0_pinsOfTooth_20 rfl hl (by decide) rfl (fun ls hl => ?_)
  refine xi_inc (k := 1) (lv' := [(3, .int (nI ((0 + 1) + 1))), (2, .int (nI ((0 + (bcN (plc (0 * 24 + tn)))) + (bcN (plc ((0 + 1) * 24 + tn)))))), (0, .ref h0), (1, .int (nI tn))]) hx hb dX0_pinsOfTooth_21 hl rfl (by decide) rfl (fun ls hl => ?_)
  refine lv_goto (tgt := 4) hx hb dX0_pinsOfTooth_24 (by decide) ?_
  refine lv_iload_n hx hb dX0_pinsOfTooth_4 rfl (lv_at hl 0 rfl) ?_
  refine lv_iconst (v := nI 3) hx hb dX0_pinsOfTooth_5 (by decide) ?_
  refine xc_ge (tgt := 27) hx hb dX0_pinsOfTooth_6 (by decide) (by omega) (by omega) (fun c_7 => by omega) (fun c_7 => ?_)
  refine lv_iload_n hx hb dX0_pinsOfTooth_9 rfl (lv_at hl 1 rfl) ?_
  refine lv_aload_n hx hb dX0_pinsOfTooth_10 rfl (lv_at hl 2 rfl) ?_
  refine lv_iload_n hx hb dX0_pinsOfTooth_11 rfl (lv_at hl 3 rfl) ?_
  refine lv_iload_n hx hb dX0_pinsOfTooth_12 rfl (lv_at hl 0 rfl) ?_
  refine xv_l (As := [.int (nI tn), .int (nI ((0 + 1) + 1))]) (rest := [.int (nI ((0 + (bcN (plc (0 * 24 + tn)))) + (bcN (plc ((0 + 1) * 24 + tn)))))]) (q := (RX0, TX0, 2)) ⟨hx, hb, hml, hown, hts⟩ (kX0_placesOf l dC dI cyI cyZ cyJ cyD cyB h0 h1 h2 plc tn ((0 + 1) + 1) (by omega) (by omega)) (cwV 2 hts gX0_pinsOfTooth_X0_placesOf rfl rfl rfl (by decide +kernel) ⟨Nat.le_of_ble_eq_true rfl, Nat.le_of_ble_eq_true rfl⟩) hK hP hS [0, 1] rfl 0 2 rfl rfl rfl hl.1 rfl (Nat.le_of_ble_eq_true rfl) dX0_pinsOfTooth_13 ⟨Nat.zero_le _, Nat.zero_le _⟩ (fun r_8 H locs hw hP hS => ?_)
  have hw : r_8 = plc (((0 + 1) + 1) * 24 + tn) := hw
  subst hw
  refine xs_i (As := [.long (plc (((0 + 1) + 1) * 24 + tn))]) (rest := [.int (nI ((0 + (bcN (plc (0 * 24 + tn)))) + (bcN (plc ((0 + 1) * 24 + tn)))))]) ⟨hx, hb, hml, hown, hts⟩ (kJ13_bitCount_95d88 l (plc (((0 + 1) + 1) * 24 + tn))) (va_cwS 1 hts gX0_pinsOfTooth_J13_bitCount_95d88 rfl rfl rfl (by decide +kernel) ⟨Nat.le_of_ble_eq_true rfl, Nat.le_of_ble_eq_true rfl⟩) hP hS rfl hl.1 rfl (Nat.le_of_ble_eq_true rfl) dX0_pinsOfTooth_16 ⟨Nat.zero_le _, Nat.zero_le _⟩ (fun r_9 H locs hw hP hS => ?_)
  have hw : r_9 = nI (bcN (plc (((0 + 1) + 1) * 24 + tn))) := hw
  subst hw
  refine xi_add hx hb dX0_pinsOfTooth_19 ?_
  refine lv_istore_n (lv' := [(2, .int (nI (((0 + (bcN (plc (0 * 24 + tn)))) + (bcN (plc ((0 + 1) * 24 + tn)))) + (bcN (plc (((0 + 1) + 1) * 24 + tn)))))), (3, .int (nI ((0 + 1) + 1))), (0, .ref h0), (1, .int (nI tn))]) hx hb dX0_pinsOfTooth_20 rfl hl (by decide) rfl (fun ls hl => ?_)
  refine xi_inc (k := 1) (lv' := [(3, .int (nI (((0 + 1) + 1) + 1))), (2, .int (nI (((0 + (bcN (plc (0 * 24 + tn)))) + (bcN (plc ((0 + 1) * 24 + tn)))) + (bcN (plc (((0 + 1) + 1) * 24 + tn)))))), (0, .ref h0), (1, .int (nI tn))]) hx hb dX0_pinsOfTooth_21 hl rfl (by decide) rfl (fun ls hl => ?_)
  refine lv_goto (tgt := 4) hx hb dX0_pinsOfTooth_24 (by decide) ?_
  refine lv_iload_n hx hb dX0_pinsOfTooth_4 rfl (lv_at hl 0 rfl) ?_
  refine lv_iconst (v := nI 3) hx hb dX0_pinsOfTooth_5 (by decide) ?_
  refine xc_ge (tgt := 27) hx hb dX0_pinsOfTooth_6 (by decide) (by omega) (by omega) (fun c_10 => ?_) (fun c_10 => by omega)
  refine lv_iload_n hx hb dX0_pinsOfTooth_27 rfl (lv_at hl 1 rfl) ?_
  exact W.iret (v := nI (((0 + (bcN (plc (0 * 24 + tn)))) + (bcN (plc ((0 + 1) * 24 + tn)))) + (bcN (plc (((0 + 1) + 1) * 24 + tn))))) hx hb hr (fun t ht hW => ⟨⟨nI (((0 + (bcN (plc (0 * 24 + tn)))) + (bcN (plc ((0 + 1) * 24 + tn)))) + (bcN (plc (((0 + 1) + 1) * 24 + tn)))), (), rfl, rfl, trivial⟩, hS.F ht⟩) hS.2.2 dX0_pinsOfTooth_28

theorem inX0_freeTooth_X1 : ∀ w ∈ wsX10, w ∈ wsX0_freeTooth := by decide +kernel
theorem mX0_freeTooth_fieldLink_RX0_43_PinBarrel_Comb_count_I : Cond.fieldLink RX0 43 "PinBarrel$Comb" "count" "I" ∈ wsX0_freeTooth := List.mem_of_getElem? (i := 1) (by decide +kernel)
theorem mX0_freeTooth_fieldLink_RX0_49_PinBarrel_Comb_pitch_I : Cond.fieldLink RX0 49 "PinBarrel$Comb" "pitch" "[I" ∈ wsX0_freeTooth := List.mem_of_getElem? (i := 2) (by decide +kernel)
theorem mX0_freeTooth_fieldLink_RX0_52_PinBarrel_Comb_broken_Z : Cond.fieldLink RX0 52 "PinBarrel$Comb" "broken" "[Z" ∈ wsX0_freeTooth := List.mem_of_getElem? (i := 3) (by decide +kernel)
theorem inX0_freeTooth_X0 : ∀ w ∈ wsX00, w ∈ wsX0_freeTooth := by decide +kernel
theorem mX0_freeTooth_fieldLink_RX0_9_PinBarrel_Barrel_places_J : Cond.fieldLink RX0 9 "PinBarrel$Barrel" "places" "[J" ∈ wsX0_freeTooth := List.mem_of_getElem? (i := 4) (by decide +kernel)
set_option maxHeartbeats 4000000 in
set_option maxRecDepth 100000 in
/-- the TOOTH that a NOTE is pinned for -/
theorem kX0_freeTooth (l : Launch) (dC : Nat → ClassId) (dI : Nat → Nat → Nat) (cyI cyZ cyJ cyD cyB : ClassId) (h0 h1 g0 g1 g2 : Nat) (h2 : Nat) (plc : Nat → Int64) (g3 : Nat) (g4 : Nat) (g5 : Nat) (cnt : Nat) (pit : Nat → Nat) (bro : Nat → Bool) (ln : Nat) (pi : Int32) (pl : Nat) (hcn : cnt ≤ 24) (hln : ln < 3) (hpl : pl < 64) : Met l yX0_freeTooth wsX0_freeTooth ({ frames := 1, cells := 0, slots := 0, locals := 21 }) (va_Pc [.ref h0, .ref g0, .int (nI ln), .int pi, .int (nI pl)] (xP (dC, dI) vwCl (xT cyI cyZ cyJ cyD cyB) [(h0, .inr (2, [.ref h1, .ref h2])), (h1, .inl (cyJ, 72, .inr (.inl plc))), (g0, .inr (3, [.ref g1, .ref g2, .ref g3, .ref g4, .ref g5, .int (nI cnt)])), (g1, .inl (cyI, 24, .inl (fun k => nI (pit k)))), (g2, .inl (cyZ, 24, .inl (fun k => xb (bro k))))])) (va_Qi (fun (r : Int32) (u : Unit) => r = (frF pit bro plc ln pi (nearL pl) cnt).1) (fun _ _ => True) (fun _ => False)) 0 0 (fun _ => False) := by
  refine Met.ofW (cc := cX0_freeTooth) (maxL := 13) (ret := (some .int)) (by decide) rfl ?_
  intro p e s m args below meth c s₁ B hml hv
  obtain ⟨rfl, hP, hK⟩ := hv
  have hx := B.exec
  have hb := B.bytes
  have hr := B.returns
  have hts := atoms_spec (ws := wsX0_freeTooth) B.pre
  have hown : s.vm.findClass RX0 = some m.cls := findClass_of_methodNamed B.named
  have hlocks := B.notSynchronized
  have hS : va_S (fun _ => False) s.heap s.heap [] := va_S.rf
  have hP : va_P (dC, dI) vwCl [(h0, .inr (2, [.ref h1, .ref h2])), (h1, .inl (cyJ, 72, .inr (.inl plc))), (g0, .inr (3, [.ref g1, .ref g2, .ref g3, .ref g4, .ref g5, .int (nI cnt)])), (g1, .inl (cyI, 24, .inl (fun k => nI (pit k)))), (g2, .inl (cyZ, 24, .inl (fun k => xb (bro k))))] s.heap := hP
  have hl := lv_entry ([.ref h0, .ref g0, .int (nI ln), .int pi, .int (nI pl)]) (n := 13) (Nat.le_of_ble_eq_true rfl)
  rw [lg_entry_eq]
  generalize (lg_sl ([.ref h0, .ref g0, .int (nI ln), .int pi, .int (nI pl)]) ++ List.replicate (13 - (lg_sl ([.ref h0, .ref g0, .int (nI ln), .int pi, .int (nI pl)])).length) Slot.unset).toArray = ls at hl ⊢
  have hl : lv_has ls 13 [(0, .ref h0), (1, .ref g0), (2, .int (nI ln)), (3, .int pi), (4, .int (nI pl))] := hl
  refine lv_iload hx hb dX0_freeTooth_0 (lv_at hl 4 rfl) ?_
  refine xs_l (As := [.int (nI pl)]) (rest := []) ⟨hx, hb, hml, hown, hts⟩ (kX0_placesNear l pl) (va_cwS 1 hts gX0_freeTooth_X0_placesNear rfl rfl rfl (by decide +kernel) ⟨Nat.le_of_ble_eq_true rfl, Nat.le_of_ble_eq_true rfl⟩) hP hS rfl hl.1 rfl (Nat.le_of_ble_eq_true rfl) dX0_freeTooth_2 ⟨Nat.zero_le _, Nat.zero_le _⟩ (fun r_1 H locs hw hP hS => ?_)
  have hw : r_1 = nearL pl := hw
  subst hw
  refine lv_lstore (lv' := [(5, .long (nearL pl)), (0, .ref h0), (1, .ref g0), (2, .int (nI ln)), (3, .int pi), (4, .int (nI pl))]) hx hb dX0_freeTooth_5 hl (by decide) rfl (fun ls hl => ?_)
  refine lv_iconst (v := (-1)) hx hb dX0_freeTooth_7 (by decide) ?_
  refine lv_istore (lv' := [(7, .int (-1)), (5, .long (nearL pl)), (0, .ref h0), (1, .ref g0), (2, .int (nI ln)), (3, .int pi), (4, .int (nI pl))]) hx hb dX0_freeTooth_8 hl (by decide) rfl (fun ls hl => ?_)
  refine lv_bipush (v := nI 64) hx hb dX0_freeTooth_10 (by decide) ?_
  refine lv_istore (lv' := [(8, .int (nI 64)), (7, .int (-1)), (5, .long (nearL pl)), (0, .ref h0), (1, .ref g0), (2, .int (nI ln)), (3, .int pi), (4, .int (nI pl))]) hx hb dX0_freeTooth_12 hl (by decide) rfl (fun ls hl => ?_)
  refine lv_iconst (v := nI 0) hx hb dX0_freeTooth_14 (by decide) ?_
  refine lv_istore (lv' := [(9, .int (nI 0)), (8, .int (nI 64)), (7, .int (-1)), (5, .long (nearL pl)), (0, .ref h0), (1, .ref g0), (2, .int (nI ln)), (3, .int pi), (4, .int (nI pl))]) hx hb dX0_freeTooth_15 hl (by decide) rfl (fun ls hl => ?_)
  refine (?_ : ∀ (n_2 i_3 : Nat), i_3 + n_2 = cnt → ∀ (H : Heap) (locs : List Loc) (hP : va_P (dC, dI) vwCl [(h0, .inr (2, [.ref h1, .ref h2])), (h1, .inl (cyJ, 72, .inr (.inl plc))), (g0, .inr (3, [.ref g1, .ref g2, .ref g3, .ref g4, .ref g5, .int (nI cnt)])), (g1, .inl (cyI, 24, .inl (fun k => nI (pit k)))), (g2, .inl (cyZ, 24, .inl (fun k => xb (bro k))))] H) (hS : va_S (fun _ => False) s.heap H locs) (ls : Array Slot) (hl : lv_has ls 13 [(9, .int (nI i_3)), (8, .int (nI ((frF pit bro plc ln pi (nearL pl) i_3).2))), (7, .int ((frF pit bro plc ln pi (nearL pl) i_3).1)), (5, .long (nearL pl)), (0, .ref h0), (1, .ref g0), (2, .int (nI ln)), (3, .int pi)]), W p l e _ s m _ below meth c H locs 0 0 _ (F0 m 17 ls [])) (cnt - 0) 0 (by omega) _ _ hP hS _ (lv_sub hl [0, 1, 2, 3, 4, 5, 6, 7] rfl)
  clear hl hP hS
  intro n_2
  induction n_2 with
  | zero =>
    intro i_3 hi_4 H locs hP hS ls hl
    have hfr := frF_le pit bro plc ln pi (nearL pl) i_3
    have hbc := bcN_le (plc (ln * 24 + i_3))
    refine lv_iload hx hb dX0_freeTooth_17 (lv_at hl 0 rfl) ?_
    refine lv_aload_n hx hb dX0_freeTooth_19 rfl (lv_at hl 5 rfl) ?_
    refine va_get (D := (dC, dI)) (ci := 3) (v := .int (nI cnt)) (C := RX1) (T := TX1) (N := 6) hx hb hts inX0_freeTooth_X1 hown hK hP 2 rfl rfl 5 (by decide) (hts _ mX0_freeTooth_fieldLink_RX0_43_PinBarrel_Comb_count_I) (fun _ h9 => h9) rfl dX0_freeTooth_20 ?_
    refine xc_ge (tgt := 98) hx hb dX0_freeTooth_23 (by decide) (by omega) (by omega) (fun c_7 => ?_) (fun c_7 => by omega)
    refine lv_iload hx hb dX0_freeTooth_98 (lv_at hl 2 rfl) ?_
    exact W.iret (v := (frF pit bro plc ln pi (nearL pl) i_3).1) hx hb hr (fun t ht hW => ⟨⟨(frF pit bro plc ln pi (nearL pl) i_3).1, (), rfl, (by rw [show i_3 = cnt from by omega]), trivial⟩, hS.F ht⟩) hS.2.2 dX0_freeTooth_100
  | succ n_2 ih_5 =>
    intro i_3 hi_4 H locs hP hS ls hl
    have hfr := frF_le pit bro plc ln pi (nearL pl) i_3
    have hbc := bcN_le (plc (ln * 24 + i_3))
    refine lv_iload hx hb dX0_freeTooth_17 (lv_at hl 0 rfl) ?_
    refine lv_aload_n hx hb dX0_freeTooth_19 rfl (lv_at hl 5 rfl) ?_
    refine va_get (D := (dC, dI)) (ci := 3) (v := .int (nI cnt)) (C := RX1) (T := TX1) (N := 6) hx hb hts inX0_freeTooth_X1 hown hK hP 2 rfl rfl 5 (by decide) (hts _ mX0_freeTooth_fieldLink_RX0_43_PinBarrel_Comb_count_I) (fun _ h9 => h9) rfl dX0_freeTooth_20 ?_
    refine xc_ge (tgt := 98) hx hb dX0_freeTooth_23 (by decide) (by omega) (by omega) (fun c_8 => by omega) (fun c_8 => ?_)
    refine lv_aload_n hx hb dX0_freeTooth_26 rfl (lv_at hl 5 rfl) ?_
    refine va_get (D := (dC, dI)) (ci := 3) (v := .ref g1) (C := RX1) (T := TX1) (N := 6) hx hb hts inX0_freeTooth_X1 hown hK hP 2 rfl rfl 0 (by decide) (hts _ mX0_freeTooth_fieldLink_RX0_49_PinBarrel_Comb_pitch_I) (fun _ h9 => h9) rfl dX0_freeTooth_27 ?_
    refine lv_iload hx hb dX0_freeTooth_30 (lv_at hl 0 rfl) ?_
    refine xl_I (f := pit) hx hb hK hP 3 0 rfl rfl (by omega) (by decide) dX0_freeTooth_32 ?_
    refine lv_iload_n hx hb dX0_freeTooth_33 rfl (lv_at hl 7 rfl) ?_
    refine lv_icmp_ne (tgt := 92) hx hb dX0_freeTooth_34 (by decide) (fun c_9 => ?_) (fun c_9 => ?_)
    · refine xi_inc (k := 0) (lv' := [(9, .int (nI (i_3 + 1))), (8, .int (nI ((frF pit bro plc ln pi (nearL pl) i_3).2))), (7, .int ((frF pit bro plc ln pi (nearL pl) i_3).1)), (5, .long (nearL pl)), (0, .ref h0), (1, .ref g0), (2, .int (nI ln)), (3, .int pi)]) hx hb dX0_freeTooth_92 hl rfl (by decide) rfl (fun ls hl => ?_)
      refine lv_goto (tgt := 17) hx hb dX0_freeTooth_95 (by decide) ?_
      have e1 : frF pit bro plc ln pi (nearL pl) (i_3 + 1) = frF pit bro plc ln pi (nearL pl) i_3 := if_neg (fun hq => by first | exact c_9 hq.1 | exact absurd (c_9) (by rw [hq.2.1]; decide) | exact c_9 (lg_cmp0.mpr hq.2.2.1) | (have h9 := hq.2.2.2; omega))
      exact ih_5 (i_3 + 1) (by omega)  _ _ (by first | exact hP | (simp only [e1]; exact hP) | (simp only [e1] at hP ⊢; exact hP)) hS _ (by first | exact (lv_sub hl [0, 1, 2, 3, 4, 5, 6, 7] rfl) | (simp only [e1]; exact (lv_sub hl [0, 1, 2, 3, 4, 5, 6, 7] rfl)) | (simp only [e1] at hl ⊢; exact (lv_sub hl [0, 1, 2, 3, 4, 5, 6, 7] rfl)))
    · refine lv_aload_n hx hb dX0_freeTooth_37 rfl (lv_at hl 5 rfl) ?_
      refine va_get (D := (dC, dI)) (ci := 3) (v := .ref g2) (C := RX1) (T := TX1) (N := 6) hx hb hts inX0_freeTooth_X1 hown hK hP 2 rfl rfl 1 (by decide) (hts _ mX0_freeTooth_fieldLink_RX0_52_PinBarrel_Comb_broken_Z) (fun _ h9 => h9) rfl dX0_freeTooth_38 ?_
      refine lv_iload hx hb dX0_freeTooth_41 (lv_at hl 0 rfl) ?_
      refine xl_Z (f := bro) hx hb hK hP 4 1 rfl rfl (by omega) (by decide) dX0_freeTooth_43 ?_
      refine xb_ne (tgt := 92) hx hb dX0_freeTooth_44 (by decide) (fun c_10 => ?_) (fun c_10 => ?_)
      · refine xi_inc (k := 0) (lv' := [(9, .int (nI (i_3 + 1))), (8, .int (nI ((frF pit bro plc ln pi (nearL pl) i_3).2))), (7, .int ((frF pit bro plc ln pi (nearL pl) i_3).1)), (5, .long (nearL pl)), (0, .ref h0), (1, .ref g0), (2, .int (nI ln)), (3, .int pi)]) hx hb dX0_freeTooth_92 hl rfl (by decide) rfl (fun ls hl => ?_)
        refine lv_goto (tgt := 17) hx hb dX0_freeTooth_95 (by decide) ?_
        have e1 : frF pit bro plc ln pi (nearL pl) (i_3 + 1) = frF pit bro plc ln pi (nearL pl) i_3 := if_neg (fun hq => by first | exact c_10 hq.1 | exact absurd (c_10) (by rw [hq.2.1]; decide) | exact c_10 (lg_cmp0.mpr hq.2.2.1) | (have h9 := hq.2.2.2; omega))
        exact ih_5 (i_3 + 1) (by omega)  _ _ (by first | exact hP | (simp only [e1]; exact hP) | (simp only [e1] at hP ⊢; exact hP)) hS _ (by first | exact (lv_sub hl [0, 1, 2, 3, 4, 5, 6, 7] rfl) | (simp only [e1]; exact (lv_sub hl [0, 1, 2, 3, 4, 5, 6, 7] rfl)) | (simp only [e1] at hl ⊢; exact (lv_sub hl [0, 1, 2, 3, 4, 5, 6, 7] rfl)))
      · refine lv_aload_n hx hb dX0_freeTooth_47 rfl (lv_at hl 4 rfl) ?_
        refine va_get (D := (dC, dI)) (ci := 2) (v := .ref h1) (C := RX0) (T := TX0) (N := 2) hx hb hts inX0_freeTooth_X0 hown hK hP 0 rfl rfl 0 (by decide) (hts _ mX0_freeTooth_fieldLink_RX0_9_PinBarrel_Barrel_places_J) (fun _ h9 => h9) rfl dX0_freeTooth_48 ?_
        refine lv_iload hx hb dX0_freeTooth_51 (lv_at hl 0 rfl) ?_
        refine lv_iload_n hx hb dX0_freeTooth_53 rfl (lv_at hl 6 rfl) ?_
        refine xs_i (As := [.int (nI i_3), .int (nI ln)]) (rest := [.ref h1]) ⟨hx, hb, hml, hown, hts⟩ (kX0_lineAt l i_3 ln) (va_cwS 2 hts gX0_freeTooth_X0_lineAt rfl rfl rfl (by decide +kernel) ⟨Nat.le_of_ble_eq_true rfl, Nat.le_of_ble_eq_true rfl⟩) hP hS rfl hl.1 rfl (Nat.le_of_ble_eq_true rfl) dX0_freeTooth_54 ⟨Nat.zero_le _, Nat.zero_le _⟩ (fun r_11 H locs hw hP hS => ?_)
        have hw : r_11 = nI (ln * 24 + i_3) := hw
        subst hw
        refine xl_J (f := plc) hx hb hK hP 1 2 rfl rfl (by omega) (by decide) dX0_freeTooth_57 ?_
        refine lv_lstore (lv' := [(10, .long (plc (ln * 24 + i_3))), (9, .int (nI i_3)), (8, .int (nI ((frF pit bro plc ln pi (nearL pl) i_3).2))), (7, .int ((frF pit bro plc ln pi (nearL pl) i_3).1)), (5, .long (nearL pl)), (0, .ref h0), (1, .ref g0), (2, .int (nI ln)), (3, .int pi)]) hx hb dX0_freeTooth_58 hl (by decide) rfl (fun ls hl => ?_)
        refine lv_lload hx hb dX0_freeTooth_60 (lv_at hl 0 rfl) ?_
        refine xs_i (As := [.long (plc (ln * 24 + i_3))]) (rest := []) ⟨hx, hb, hml, hown, hts⟩ (kJ13_bitCount_95d88 l (plc (ln * 24 + i_3))) (va_cwS 1 hts gX0_freeTooth_J13_bitCount_95d88 rfl rfl rfl (by decide +kernel) ⟨Nat.le_of_ble_eq_true rfl, Nat.le_of_ble_eq_true rfl⟩) hP hS rfl hl.1 rfl (Nat.le_of_ble_eq_true rfl) dX0_freeTooth_62 ⟨Nat.zero_le _, Nat.zero_le _⟩ (fun r_12 H locs hw hP hS => ?_)
        have hw : r_12 = nI (bcN (plc (ln * 24 + i_3))) := hw
        subst hw
        refine lv_istore (lv' := [(12, .int (nI (bcN (plc (ln * 24 + i_3))))), (10, .long (plc (ln * 24 + i_3))), (9, .int (nI i_3)), (8, .int (nI ((frF pit bro plc ln pi (nearL pl) i_3).2))), (7, .int ((frF pit bro plc ln pi (nearL pl) i_3).1)), (5, .long (nearL pl)), (0, .ref h0), (1, .ref g0), (2, .int (nI ln)), (3, .int pi)]) hx hb dX0_freeTooth_65 hl (by decide) rfl (fun ls hl => ?_)
        refine lv_lload hx hb dX0_freeTooth_67 (lv_at hl 1 rfl) ?_
        refine lv_lload hx hb dX0_freeTooth_69 (lv_at hl 5 rfl) ?_
        refine lv_land hx hb dX0_freeTooth_71 ?_
        refine lv_lconst (v := 0) hx hb dX0_freeTooth_72 (by decide) ?_
        refine W.lcmp hx hb dX0_freeTooth_73 ?_
        refine lv_if_ne (tgt := 92) hx hb dX0_freeTooth_74 (by decide) (fun c_13 => ?_) (fun c_13 => ?_)
        · refine xi_inc (k := 2) (lv' := [(9, .int (nI (i_3 + 1))), (12, .int (nI (bcN (plc (ln * 24 + i_3))))), (10, .long (plc (ln * 24 + i_3))), (8, .int (nI ((frF pit bro plc ln pi (nearL pl) i_3).2))), (7, .int ((frF pit bro plc ln pi (nearL pl) i_3).1)), (5, .long (nearL pl)), (0, .ref h0), (1, .ref g0), (2, .int (nI ln)), (3, .int pi)]) hx hb dX0_freeTooth_92 hl rfl (by decide) rfl (fun ls hl => ?_)
          refine lv_goto (tgt := 17) hx hb dX0_freeTooth_95 (by decide) ?_
          have e1 : frF pit bro plc ln pi (nearL pl) (i_3 + 1) = frF pit bro plc ln pi (nearL pl) i_3 := if_neg (fun hq => by first | exact c_13 hq.1 | exact absurd (c_13) (by rw [hq.2.1]; decide) | exact c_13 (lg_cmp0.mpr hq.2.2.1) | (have h9 := hq.2.2.2; omega))
          exact ih_5 (i_3 + 1) (by omega)  _ _ (by first | exact hP | (simp only [e1]; exact hP) | (simp only [e1] at hP ⊢; exact hP)) hS _ (by first | exact (lv_sub hl [0, 3, 4, 5, 6, 7, 8, 9] rfl) | (simp only [e1]; exact (lv_sub hl [0, 3, 4, 5, 6, 7, 8, 9] rfl)) | (simp only [e1] at hl ⊢; exact (lv_sub hl [0, 3, 4, 5, 6, 7, 8, 9] rfl)))
        · refine lv_iload hx hb dX0_freeTooth_77 (lv_at hl 0 rfl) ?_
          refine lv_iload hx hb dX0_freeTooth_79 (lv_at hl 3 rfl) ?_
          refine xc_ge (tgt := 92) hx hb dX0_freeTooth_81 (by decide) (by omega) (by omega) (fun c_14 => ?_) (fun c_14 => ?_)
          · refine xi_inc (k := 2) (lv' := [(9, .int (nI (i_3 + 1))), (12, .int (nI (bcN (plc (ln * 24 + i_3))))), (10, .long (plc (ln * 24 + i_3))), (8, .int (nI ((frF pit bro plc ln pi (nearL pl) i_3).2))), (7, .int ((frF pit bro plc ln pi (nearL pl) i_3).1)), (5, .long (nearL pl)), (0, .ref h0), (1, .ref g0), (2, .int (nI ln)), (3, .int pi)]) hx hb dX0_freeTooth_92 hl rfl (by decide) rfl (fun ls hl => ?_)
            refine lv_goto (tgt := 17) hx hb dX0_freeTooth_95 (by decide) ?_
            have e1 : frF pit bro plc ln pi (nearL pl) (i_3 + 1) = frF pit bro plc ln pi (nearL pl) i_3 := if_neg (fun hq => by first | exact c_14 hq.1 | exact absurd (c_14) (by rw [hq.2.1]; decide) | exact c_14 (lg_cmp0.mpr hq.2.2.1) | (have h9 := hq.2.2.2; omega))
            exact ih_5 (i_3 + 1) (by omega)  _ _ (by first | exact hP | (simp only [e1]; exact hP) | (simp only [e1] at hP ⊢; exact hP)) hS _ (by first | exact (lv_sub hl [0, 3, 4, 5, 6, 7, 8, 9] rfl) | (simp only [e1]; exact (lv_sub hl [0, 3, 4, 5, 6, 7, 8, 9] rfl)) | (simp only [e1] at hl ⊢; exact (lv_sub hl [0, 3, 4, 5, 6, 7, 8, 9] rfl)))
          · refine lv_iload hx hb dX0_freeTooth_84 (lv_at hl 2 rfl) ?_
            refine lv_istore (lv' := [(7, .int (nI i_3)), (12, .int (nI (bcN (plc (ln * 24 + i_3))))), (10, .long (plc (ln * 24 + i_3))), (9, .int (nI i_3)), (8, .int (nI ((frF pit bro plc ln pi (nearL pl) i_3).2))), (5, .long (nearL pl)), (0, .ref h0), (1, .ref g0), (2, .int (nI ln)), (3, .int pi)]) hx hb dX0_freeTooth_86 hl (by decide) rfl (fun ls hl => ?_)
            refine lv_iload hx hb dX0_freeTooth_88 (lv_at hl 1 rfl) ?_
            refine lv_istore (lv' := [(8, .int (nI (bcN (plc (ln * 24 + i_3))))), (7, .int (nI i_3)), (12, .int (nI (bcN (plc (ln * 24 + i_3))))), (10, .long (plc (ln * 24 + i_3))), (9, .int (nI i_3)), (5, .long (nearL pl)), (0, .ref h0), (1, .ref g0), (2, .int (nI ln)), (3, .int pi)]) hx hb dX0_freeTooth_90 hl (by decide) rfl (fun ls hl => ?_)
            refine xi_inc (k := 4) (lv' := [(9, .int (nI (i_3 + 1))), (8, .int (nI (bcN (plc (ln * 24 + i_3))))), (7, .int (nI i_3)), (12, .int (nI (bcN (plc (ln * 24 + i_3))))), (10, .long (plc (ln * 24 + i_3))), (5, .long (nearL pl)), (0, .ref h0), (1, .ref g0), (2, .int (nI ln)), (3, .int pi)]) hx hb dX0_freeTooth_92 hl rfl (by decide) rfl (fun ls hl => ?_)
            refine lv_goto (tgt := 17) hx hb dX0_freeTooth_95 (by decide) ?_
            have e1 : frF pit bro plc ln pi (nearL pl) (i_3 + 1) = (nI i_3, bcN (plc (ln * 24 + i_3))) := if_pos ⟨c_9, c_10, lg_cmp0.mp c_13, by omega⟩
            exact ih_5 (i_3 + 1) (by omega)  _ _ (by first | exact hP | (simp only [e1]; exact hP) | (simp only [e1] at hP ⊢; exact hP)) hS _ (by first | exact (lv_sub hl [0, 1, 2, 5, 6, 7, 8, 9] rfl) | (simp only [e1]; exact (lv_sub hl [0, 1, 2, 5, 6, 7, 8, 9] rfl)) | (simp only [e1] at hl ⊢; exact (lv_sub hl [0, 1, 2, 5, 6, 7, 8, 9] rfl)))

theorem inX0_pullFrom_X0 : ∀ w ∈ wsX00, w ∈ wsX0_pullFrom := by decide +kernel
theorem mX0_pullFrom_fieldLink_RX0_9_PinBarrel_Barrel_places_J : Cond.fieldLink RX0 9 "PinBarrel$Barrel" "places" "[J" ∈ wsX0_pullFrom := List.mem_of_getElem? (i := 1) (by decide +kernel)
theorem mX0_pullFrom_constantLong_RX0_63_1 : Cond.constantLong RX0 63 (-1) ∈ wsX0_pullFrom := List.mem_of_getElem? (i := 2) (by decide +kernel)
set_option maxHeartbeats 4000000 in
set_option maxRecDepth 100000 in
/-- PINS pulled out -/
theorem kX0_pullFrom (l : Launch) (dC : Nat → ClassId) (dI : Nat → Nat → Nat) (cyI cyZ cyJ cyD cyB : ClassId) (h0 h1 h2 : Nat) (plc : Nat → Int64) (wea : Nat → Nat) (tn : Nat) (ln : Nat) (least : Nat) (ht : tn < 24) (hln : ln < 3) (hle : least < 2 ^ 30) (hw : ∀ k, wea k < 2 ^ 30) : Met l yX0_pullFrom wsX0_pullFrom ({ frames := 2, cells := 0, slots := 0, locals := 45 }) (va_Pc [.ref h0, .int (nI tn), .int (nI ln), .int (nI least)] (xM (dC, dI) vwCl (xT cyI cyZ cyJ cyD cyB) [(h0, .inr (2, [.ref h1, .ref h2])), (h1, .inl (cyJ, 72, .inr (.inl plc))), (h2, .inl (cyI, 4608, .inl (fun k => nI (wea k))))])) (va_Qi (fun (r : Int32) (u : Unit) => r = nI ((puF (plc (ln * 24 + tn)) wea ((ln * 24 + tn) * 64) least 64).2)) (fun u t => va_P (dC, dI) vwCl [(h0, .inr (2, [.ref h1, .ref h2])), (h1, .inl (cyJ, 72, .inr (.inl (va_up plc (ln * 24 + tn) (puF (plc (ln * 24 + tn)) wea ((ln * 24 + tn) * 64) least 64).1)))), (h2, .inl (cyI, 4608, .inl (fun k => nI (wea k))))] t.heap ∧ va_D (xA [(h0, .inr (2, [.ref h1, .ref h2])), (h1, .inl (cyJ, 72, .inr (.inl plc))), (h2, .inl (cyI, 4608, .inl (fun k => nI (wea k))))]) [(h0, .inr (2, [.ref h1, .ref h2])), (h1, .inl (cyJ, 72, .inr (.inl (va_up plc (ln * 24 + tn) (puF (plc (ln * 24 + tn)) wea ((ln * 24 + tn) * 64) least 64).1)))), (h2, .inl (cyI, 4608, .inl (fun k => nI (wea k))))]) (xA [(h0, .inr (2, [.ref h1, .ref h2])), (h1, .inl (cyJ, 72, .inr (.inl plc))), (h2, .inl (cyI, 4608, .inl (fun k => nI (wea k))))])) 0 0 (xA [(h0, .inr (2, [.ref h1, .ref h2])), (h1, .inl (cyJ, 72, .inr (.inl plc))), (h2, .inl (cyI, 4608, .inl (fun k => nI (wea k))))]) := by
  refine Met.ofW (cc := cX0_pullFrom) (maxL := 6) (ret := (some .int)) (by decide) rfl ?_
  intro p e s m args below meth c s₁ B hml hv
  obtain ⟨rfl, hP, hK, hD0⟩ := hv
  have hx := B.exec
  have hb := B.bytes
  have hr := B.returns
  have hts := atoms_spec (ws := wsX0_pullFrom) B.pre
  have hown : s.vm.findClass RX0 = some m.cls := findClass_of_methodNamed B.named
  have hlocks := B.notSynchronized
  have hD := xA_self hD0
  clear hD0
  generalize hAe : xA [(h0, .inr (2, [.ref h1, .ref h2])), (h1, .inl (cyJ, 72, .inr (.inl plc))), (h2, .inl (cyI, 4608, .inl (fun k => nI (wea k))))] = A at hD ⊢
  have hS : va_S A s.heap s.heap [] := va_S.rf
  have hP : va_P (dC, dI) vwCl [(h0, .inr (2, [.ref h1, .ref h2])), (h1, .inl (cyJ, 72, .inr (.inl plc))), (h2, .inl (cyI, 4608, .inl (fun k => nI (wea k))))] s.heap := hP
  have hl := lv_entry ([.ref h0, .int (nI tn), .int (nI ln), .int (nI least)]) (n := 6) (Nat.le_of_ble_eq_true rfl)
  rw [lg_entry_eq]
  generalize (lg_sl ([.ref h0, .int (nI tn), .int (nI ln), .int (nI least)]) ++ List.replicate (6 - (lg_sl ([.ref h0, .int (nI tn), .int (nI ln), .int (nI least)])).length) Slot.unset).toArray = ls at hl ⊢
  have hl : lv_has ls 6 [(0, .ref h0), (1, .int (nI tn)), (2, .int (nI ln)), (3, .int (nI least))] := hl
  refine lv_iconst (v := nI 0) hx hb dX0_pullFrom_0 (by decide) ?_
  refine lv_istore (lv' := [(4, .int (nI 0)), (0, .ref h0), (1, .int (nI tn)), (2, .int (nI ln)), (3, .int (nI least))]) hx hb dX0_pullFrom_1 hl (by decide) rfl (fun ls hl => ?_)
  refine lv_iconst (v := nI 0) hx hb dX0_pullFrom_3 (by decide) ?_
  refine lv_istore (lv' := [(5, .int (nI 0)), (4, .int (nI 0)), (0, .ref h0), (1, .int (nI tn)), (2, .int (nI ln)), (3, .int (nI least))]) hx hb dX0_pullFrom_4 hl (by decide) rfl (fun ls hl => ?_)
  have e0 : va_up plc (ln * 24 + tn) (puF (plc (ln * 24 + tn)) wea ((ln * 24 + tn) * 64) least 0).1 = plc := xu_same plc _
  have e4 : (puF (plc (ln * 24 + tn)) wea ((ln * 24 + tn) * 64) least 0).2 = 0 := rfl
  refine (?_ : ∀ (n_1 i_2 : Nat), i_2 + n_1 = 64 → ∀ (H : Heap) (locs : List Loc) (hP : va_P (dC, dI) vwCl [(h0, .inr (2, [.ref h1, .ref h2])), (h1, .inl (cyJ, 72, .inr (.inl (va_up plc (ln * 24 + tn) (puF (plc (ln * 24 + tn)) wea ((ln * 24 + tn) * 64) least i_2).1)))), (h2, .inl (cyI, 4608, .inl (fun k => nI (wea k))))] H) (hD : va_D A [(h0, .inr (2, [.ref h1, .ref h2])), (h1, .inl (cyJ, 72, .inr (.inl (va_up plc (ln * 24 + tn) (puF (plc (ln * 24 + tn)) wea ((ln * 24 + tn) * 64) least i_2).1)))), (h2, .inl (cyI, 4608, .inl (fun k => nI (wea k))))]) (hS : va_S A s.heap H locs) (ls : Array Slot) (hl : lv_has ls 6 [(5, .int (nI i_2)), (4, .int (nI ((puF (plc (ln * 24 + tn)) wea ((ln * 24 + tn) * 64) least i_2).2))), (0, .ref h0), (1, .int (nI tn)), (2, .int (nI ln)), (3, .int (nI least))]), W p l e _ s m _ below meth c H locs 0 0 _ (F0 m 6 ls [])) (64 - 0) 0 (by omega) _ _ (by first | exact hP | (simp only [e0, e4]; exact hP)) (by first | exact hD | (simp only [e0, e4]; exact hD)) hS _ (by first | exact (lv_sub hl [0, 1, 2, 3, 4, 5] rfl) | (simp only [e0, e4]; exact (lv_sub hl [0, 1, 2, 3, 4, 5] rfl)))
  clear hl hP hS hD
  intro n_1
  induction n_1 with
  | zero =>
    intro i_2 hi_3 H locs hP hD hS ls hl
    have hw1 := hw ((ln * 24 + tn) * 64 + i_2)
    refine lv_iload hx hb dX0_pullFrom_6 (lv_at hl 0 rfl) ?_
    refine lv_bipush (v := nI 64) hx hb dX0_pullFrom_8 (by decide) ?_
    refine xc_ge (tgt := 66) hx hb dX0_pullFrom_10 (by decide) (by omega) (by omega) (fun c_6 => ?_) (fun c_6 => by omega)
    refine lv_iload hx hb dX0_pullFrom_66 (lv_at hl 1 rfl) ?_
    obtain rfl : i_2 = 64 := by omega
    have hP9 : va_P (dC, dI) vwCl [(h0, .inr (2, [.ref h1, .ref h2])), (h1, .inl (cyJ, 72, .inr (.inl (va_up plc (ln * 24 + tn) (puF (plc (ln * 24 + tn)) wea ((ln * 24 + tn) * 64) least 64).1)))), (h2, .inl (cyI, 4608, .inl (fun k => nI (wea k))))] _ := hP
    have hD9 : va_D A [(h0, .inr (2, [.ref h1, .ref h2])), (h1, .inl (cyJ, 72, .inr (.inl (va_up plc (ln * 24 + tn) (puF (plc (ln * 24 + tn)) wea ((ln * 24 + tn) * 64) least 64).1)))), (h2, .inl (cyI, 4608, .inl (fun k => nI (wea k))))] := hD
    exact W.iret (v := nI ((puF (plc (ln * 24 + tn)) wea ((ln * 24 + tn) * 64) least 64).2)) hx hb hr (fun t ht hW => ⟨⟨nI ((puF (plc (ln * 24 + tn)) wea ((ln * 24 + tn) * 64) least 64).2), (), rfl, rfl, ⟨by rw [ht]; exact hP9, hD9⟩⟩, hS.F ht⟩) hS.2.2 dX0_pullFrom_68
  | succ n_1 ih_4 =>
    intro i_2 hi_3 H locs hP hD hS ls hl
    have hw1 := hw ((ln * 24 + tn) * 64 + i_2)
    refine lv_iload hx hb dX0_pullFrom_6 (lv_at hl 0 rfl) ?_
    refine lv_bipush (v := nI 64) hx hb dX0_pullFrom_8 (by decide) ?_
    refine xc_ge (tgt := 66) hx hb dX0_pullFrom_10 (by decide) (by omega) (by omega) (fun c_7 => by omega) (fun c_7 => ?_)
    refine lv_aload_n hx hb dX0_pullFrom_13 rfl (lv_at hl 2 rfl) ?_
    refine lv_iload_n hx hb dX0_pullFrom_14 rfl (lv_at hl 3 rfl) ?_
    refine lv_iload_n hx hb dX0_pullFrom_15 rfl (lv_at hl 4 rfl) ?_
    refine lv_iload hx hb dX0_pullFrom_16 (lv_at hl 0 rfl) ?_
    refine xv_i (As := [.int (nI tn), .int (nI ln), .int (nI i_2)]) (rest := []) (q := (RX0, TX0, 2)) ⟨hx, hb, hml, hown, hts⟩ (kX0_hasPin l dC dI cyI cyZ cyJ cyD cyB h0 h1 h2 (va_up plc (ln * 24 + tn) (puF (plc (ln * 24 + tn)) wea ((ln * 24 + tn) * 64) least i_2).1) tn ln i_2 (by omega) (by omega) (by omega)) (cwV 3 hts gX0_pullFrom_X0_hasPin rfl rfl rfl (by decide +kernel) ⟨Nat.le_of_ble_eq_true rfl, Nat.le_of_ble_eq_true rfl⟩) hK hP hS [0, 1] rfl 0 2 rfl rfl rfl hl.1 rfl (Nat.le_of_ble_eq_true rfl) dX0_pullFrom_18 ⟨Nat.zero_le _, Nat.zero_le _⟩ (fun r_8 H locs hw hP hS => ?_)
    have hw : r_8 = xb (bitL ((va_up plc (ln * 24 + tn) (puF (plc (ln * 24 + tn)) wea ((ln * 24 + tn) * 64) least i_2).1) (ln * 24 + tn)) i_2) := hw
    rw [hw]
    rw [xu_self]
    refine xb_eq (tgt := 60) hx hb dX0_pullFrom_21 (by decide) (fun c_9 => ?_) (fun c_9 => ?_)
    · refine xi_inc (k := 0) (lv' := [(5, .int (nI (i_2 + 1))), (4, .int (nI ((puF (plc (ln * 24 + tn)) wea ((ln * 24 + tn) * 64) least i_2).2))), (0, .ref h0), (1, .int (nI tn)), (2, .int (nI ln)), (3, .int (nI least))]) hx hb dX0_pullFrom_60 hl rfl (by decide) rfl (fun ls hl => ?_)
      refine lv_goto (tgt := 6) hx hb dX0_pullFrom_63 (by decide) ?_
      have e1 : puF (plc (ln * 24 + tn)) wea ((ln * 24 + tn) * 64) least (i_2 + 1) = puF (plc (ln * 24 + tn)) wea ((ln * 24 + tn) * 64) least i_2 := if_neg (fun hq => by first | exact absurd c_9 (by rw [hq.1]; decide) | omega)
      exact ih_4 (i_2 + 1) (by omega)  _ _ (by first | exact hP | (simp only [e1]; exact hP) | (simp only [e1] at hP ⊢; exact hP)) (by first | exact hD | (simp only [e1]; exact hD) | (simp only [e1] at hD ⊢; exact hD)) hS _ (by first | exact (lv_sub hl [0, 1, 2, 3, 4, 5] rfl) | (simp only [e1]; exact (lv_sub hl [0, 1, 2, 3, 4, 5] rfl)) | (simp only [e1] at hl ⊢; exact (lv_sub hl [0, 1, 2, 3, 4, 5] rfl)))
    · refine lv_aload_n hx hb dX0_pullFrom_24 rfl (lv_at hl 2 rfl) ?_
      refine lv_iload_n hx hb dX0_pullFrom_25 rfl (lv_at hl 3 rfl) ?_
      refine lv_iload_n hx hb dX0_pullFrom_26 rfl (lv_at hl 4 rfl) ?_
      refine lv_iload hx hb dX0_pullFrom_27 (lv_at hl 0 rfl) ?_
      refine xv_i (As := [.int (nI tn), .int (nI ln), .int (nI i_2)]) (rest := []) (q := (RX0, TX0, 2)) ⟨hx, hb, hml, hown, hts⟩ (kX0_wearOf l dC dI cyI cyZ cyJ cyD cyB h0 h2 h1 wea tn ln i_2 (by omega) (by omega) (by omega)) (cwV 3 hts gX0_pullFrom_X0_wearOf rfl rfl rfl (by decide +kernel) ⟨Nat.le_of_ble_eq_true rfl, Nat.le_of_ble_eq_true rfl⟩) hK hP hS [0, 2] rfl 0 2 rfl rfl rfl hl.1 rfl (Nat.le_of_ble_eq_true rfl) dX0_pullFrom_29 ⟨Nat.zero_le _, Nat.zero_le _⟩ (fun r_10 H locs hw hP hS => ?_)
      have hw : r_10 = nI (wea ((ln * 24 + tn) * 64 + i_2)) := hw
      subst hw
      refine lv_iload_n hx hb dX0_pullFrom_32 rfl (lv_at hl 5 rfl) ?_
      refine xc_lt (tgt := 60) hx hb dX0_pullFrom_33 (by decide) (by omega) (by omega) (fun c_11 => ?_) (fun c_11 => ?_)
      · refine xi_inc (k := 0) (lv' := [(5, .int (nI (i_2 + 1))), (4, .int (nI ((puF (plc (ln * 24 + tn)) wea ((ln * 24 + tn) * 64) least i_2).2))), (0, .ref h0), (1, .int (nI tn)), (2, .int (nI ln)), (3, .int (nI least))]) hx hb dX0_pullFrom_60 hl rfl (by decide) rfl (fun ls hl => ?_)
        refine lv_goto (tgt := 6) hx hb dX0_pullFrom_63 (by decide) ?_
        have e1 : puF (plc (ln * 24 + tn)) wea ((ln * 24 + tn) * 64) least (i_2 + 1) = puF (plc (ln * 24 + tn)) wea ((ln * 24 + tn) * 64) least i_2 := if_neg (fun hq => by first | exact absurd c_11 (by rw [hq.1]; decide) | omega)
        exact ih_4 (i_2 + 1) (by omega)  _ _ (by first | exact hP | (simp only [e1]; exact hP) | (simp only [e1] at hP ⊢; exact hP)) (by first | exact hD | (simp only [e1]; exact hD) | (simp only [e1] at hD ⊢; exact hD)) hS _ (by first | exact (lv_sub hl [0, 1, 2, 3, 4, 5] rfl) | (simp only [e1]; exact (lv_sub hl [0, 1, 2, 3, 4, 5] rfl)) | (simp only [e1] at hl ⊢; exact (lv_sub hl [0, 1, 2, 3, 4, 5] rfl)))
      · refine lv_aload_n hx hb dX0_pullFrom_36 rfl (lv_at hl 2 rfl) ?_
        refine va_get (D := (dC, dI)) (ci := 2) (v := .ref h1) (C := RX0) (T := TX0) (N := 2) hx hb hts inX0_pullFrom_X0 hown hK hP 0 rfl rfl 0 (by decide) (hts _ mX0_pullFrom_fieldLink_RX0_9_PinBarrel_Barrel_places_J) (fun _ h9 => h9) rfl dX0_pullFrom_37 ?_
        refine lv_iload_n hx hb dX0_pullFrom_40 rfl (lv_at hl 3 rfl) ?_
        refine lv_iload_n hx hb dX0_pullFrom_41 rfl (lv_at hl 4 rfl) ?_
        refine xs_i (As := [.int (nI tn), .int (nI ln)]) (rest := [.ref h1]) ⟨hx, hb, hml, hown, hts⟩ (kX0_lineAt l tn ln) (va_cwS 2 hts gX0_pullFrom_X0_lineAt rfl rfl rfl (by decide +kernel) ⟨Nat.le_of_ble_eq_true rfl, Nat.le_of_ble_eq_true rfl⟩) hP hS rfl hl.1 rfl (Nat.le_of_ble_eq_true rfl) dX0_pullFrom_42 ⟨Nat.zero_le _, Nat.zero_le _⟩ (fun r_12 H locs hw hP hS => ?_)
        have hw : r_12 = nI (ln * 24 + tn) := hw
        subst hw
        refine lv_dup2_11 hx hb dX0_pullFrom_45 rfl rfl ?_
        refine xl_J (f := (va_up plc (ln * 24 + tn) (puF (plc (ln * 24 + tn)) wea ((ln * 24 + tn) * 64) least i_2).1)) hx hb hK hP 1 2 rfl rfl (by omega) (by decide) dX0_pullFrom_46 ?_
        refine lv_lconst (v := 1) hx hb dX0_pullFrom_47 (by decide) ?_
        refine lv_iload hx hb dX0_pullFrom_48 (lv_at hl 0 rfl) ?_
        refine lv_lshl (v := (1 : Int64) <<< ((nI i_2).toInt64 &&& 63)) hx hb dX0_pullFrom_50 rfl ?_
        refine lv_ldc2 (v := (-1)) hx hb hown (hts _ mX0_pullFrom_constantLong_RX0_63_1) dX0_pullFrom_51 ?_
        refine lv_lxor hx hb dX0_pullFrom_54 ?_
        refine lv_land hx hb dX0_pullFrom_55 ?_
        refine xt_J (f := (va_up plc (ln * 24 + tn) (puF (plc (ln * 24 + tn)) wea ((ln * 24 + tn) * 64) least i_2).1)) (x := (((va_up plc (ln * 24 + tn) (puF (plc (ln * 24 + tn)) wea ((ln * 24 + tn) * 64) least i_2).1) (ln * 24 + tn)) &&& (((1 : Int64) <<< ((nI i_2).toInt64 &&& 63)) ^^^ ((-1) : Int64)))) hx hb hK hP hD hS 1 2 rfl rfl (by omega) (by decide) dX0_pullFrom_56 (fun H locs hP hD hS => ?_)
        have hP : va_P (dC, dI) vwCl [(h0, .inr (2, [.ref h1, .ref h2])), (h1, .inl (cyJ, 72, .inr (.inl (va_up (va_up plc (ln * 24 + tn) (puF (plc (ln * 24 + tn)) wea ((ln * 24 + tn) * 64) least i_2).1) (ln * 24 + tn) (((va_up plc (ln * 24 + tn) (puF (plc (ln * 24 + tn)) wea ((ln * 24 + tn) * 64) least i_2).1) (ln * 24 + tn)) &&& (((1 : Int64) <<< ((nI i_2).toInt64 &&& 63)) ^^^ ((-1) : Int64))))))), (h2, .inl (cyI, 4608, .inl (fun k => nI (wea k))))] H := hP
        have hD : va_D A [(h0, .inr (2, [.ref h1, .ref h2])), (h1, .inl (cyJ, 72, .inr (.inl (va_up (va_up plc (ln * 24 + tn) (puF (plc (ln * 24 + tn)) wea ((ln * 24 + tn) * 64) least i_2).1) (ln * 24 + tn) (((va_up plc (ln * 24 + tn) (puF (plc (ln * 24 + tn)) wea ((ln * 24 + tn) * 64) least i_2).1) (ln * 24 + tn)) &&& (((1 : Int64) <<< ((nI i_2).toInt64 &&& 63)) ^^^ ((-1) : Int64))))))), (h2, .inl (cyI, 4608, .inl (fun k => nI (wea k))))] := hD
        refine xi_inc (k := 1) (lv' := [(4, .int (nI (((puF (plc (ln * 24 + tn)) wea ((ln * 24 + tn) * 64) least i_2).2) + 1))), (5, .int (nI i_2)), (0, .ref h0), (1, .int (nI tn)), (2, .int (nI ln)), (3, .int (nI least))]) hx hb dX0_pullFrom_57 hl rfl (by decide) rfl (fun ls hl => ?_)
        refine xi_inc (k := 1) (lv' := [(5, .int (nI (i_2 + 1))), (4, .int (nI (((puF (plc (ln * 24 + tn)) wea ((ln * 24 + tn) * 64) least i_2).2) + 1))), (0, .ref h0), (1, .int (nI tn)), (2, .int (nI ln)), (3, .int (nI least))]) hx hb dX0_pullFrom_60 hl rfl (by decide) rfl (fun ls hl => ?_)
        refine lv_goto (tgt := 6) hx hb dX0_pullFrom_63 (by decide) ?_
        have e1 : puF (plc (ln * 24 + tn)) wea ((ln * 24 + tn) * 64) least (i_2 + 1) = (clrB (puF (plc (ln * 24 + tn)) wea ((ln * 24 + tn) * 64) least i_2).1 i_2, (puF (plc (ln * 24 + tn)) wea ((ln * 24 + tn) * 64) least i_2).2 + 1) := if_pos ⟨c_9, by omega⟩
        have e2 := fun (f : Nat → Int64) (k : Nat) (x y : Int64) => xu_up f k x y
        have e3 := fun (f : Nat → Int64) (k : Nat) (x : Int64) => xu_self f k x
        exact ih_4 (i_2 + 1) (by omega)  _ _ (by first | exact hP | (simp only [e1, e2, e3, clrB]; exact hP) | (simp only [e1, e2, e3, clrB] at hP ⊢; exact hP)) (by first | exact hD | (simp only [e1, e2, e3, clrB]; exact hD) | (simp only [e1, e2, e3, clrB] at hD ⊢; exact hD)) hS _ (by first | exact (lv_sub hl [0, 1, 2, 3, 4, 5] rfl) | (simp only [e1, e2, e3, clrB]; exact (lv_sub hl [0, 1, 2, 3, 4, 5] rfl)) | (simp only [e1, e2, e3, clrB] at hl ⊢; exact (lv_sub hl [0, 1, 2, 3, 4, 5] rfl)))

theorem inX0_renewPins_X0 : ∀ w ∈ wsX00, w ∈ wsX0_renewPins := by decide +kernel
theorem mX0_renewPins_fieldLink_RX0_15_PinBarrel_Barrel_wears_I : Cond.fieldLink RX0 15 "PinBarrel$Barrel" "wears" "[I" ∈ wsX0_renewPins := List.mem_of_getElem? (i := 1) (by decide +kernel)
set_option maxHeartbeats 4000000 in
set_option maxRecDepth 100000 in
/-- worn PINS mended -/
theorem kX0_renewPins (l : Launch) (dC : Nat → ClassId) (dI : Nat → Nat → Nat) (cyI cyZ cyJ cyD cyB : ClassId) (h0 h1 h2 : Nat) (plc : Nat → Int64) (wea : Nat → Nat) (tn : Nat) (ln : Nat) (ht : tn < 24) (hln : ln < 3) (hw : ∀ k, wea k < 2 ^ 30) : Met l yX0_renewPins wsX0_renewPins ({ frames := 2, cells := 0, slots := 0, locals := 45 }) (va_Pc [.ref h0, .int (nI tn), .int (nI ln)] (xM (dC, dI) vwCl (xT cyI cyZ cyJ cyD cyB) [(h0, .inr (2, [.ref h1, .ref h2])), (h1, .inl (cyJ, 72, .inr (.inl plc))), (h2, .inl (cyI, 4608, .inl (fun k => nI (wea k))))])) (va_Qi (fun (r : Int32) (u : Unit) => r = nI ((rnF (plc (ln * 24 + tn)) wea ((ln * 24 + tn) * 64) 64).2)) (fun u t => va_P (dC, dI) vwCl [(h0, .inr (2, [.ref h1, .ref h2])), (h1, .inl (cyJ, 72, .inr (.inl plc))), (h2, .inl (cyI, 4608, .inl (fun k => nI (((rnF (plc (ln * 24 + tn)) wea ((ln * 24 + tn) * 64) 64).1) k))))] t.heap ∧ va_D (xA [(h0, .inr (2, [.ref h1, .ref h2])), (h1, .inl (cyJ, 72, .inr (.inl plc))), (h2, .inl (cyI, 4608, .inl (fun k => nI (wea k))))]) [(h0, .inr (2, [.ref h1, .ref h2])), (h1, .inl (cyJ, 72, .inr (.inl plc))), (h2, .inl (cyI, 4608, .inl (fun k => nI (((rnF (plc (ln * 24 + tn)) wea ((ln * 24 + tn) * 64) 64).1) k))))]) (xA [(h0, .inr (2, [.ref h1, .ref h2])), (h1, .inl (cyJ, 72, .inr (.inl plc))), (h2, .inl (cyI, 4608, .inl (fun k => nI (wea k))))])) 0 0 (xA [(h0, .inr (2, [.ref h1, .ref h2])), (h1, .inl (cyJ, 72, .inr (.inl plc))), (h2, .inl (cyI, 4608, .inl (fun k => nI (wea k))))]) := by
  refine Met.ofW (cc := cX0_renewPins) (maxL := 5) (ret := (some .int)) (by decide) rfl ?_
  intro p e s m args below meth c s₁ B hml hv
  obtain ⟨rfl, hP, hK, hD0⟩ := hv
  have hx := B.exec
  have hb := B.bytes
  have hr := B.returns
  have hts := atoms_spec (ws := wsX0_renewPins) B.pre
  have hown : s.vm.findClass RX0 = some m.cls := findClass_of_methodNamed B.named
  have hlocks := B.notSynchronized
  have hD := xA_self hD0
  clear hD0
  generalize hAe : xA [(h0, .inr (2, [.ref h1, .ref h2])), (h1, .inl (cyJ, 72, .inr (.inl plc))), (h2, .inl (cyI, 4608, .inl (fun k => nI (wea k))))] = A at hD ⊢
  have hS : va_S A s.heap s.heap [] := va_S.rf
  have hP : va_P (dC, dI) vwCl [(h0, .inr (2, [.ref h1, .ref h2])), (h1, .inl (cyJ, 72, .inr (.inl plc))), (h2, .inl (cyI, 4608, .inl (fun k => nI (wea k))))] s.heap := hP
  have hl := lv_entry ([.ref h0, .int (nI tn), .int (nI ln)]) (n := 5) (Nat.le_of_ble_eq_true rfl)
  rw [lg_entry_eq]
  generalize (lg_sl ([.ref h0, .int (nI tn), .int (nI ln)]) ++ List.replicate (5 - (lg_sl ([.ref h0, .int (nI tn), .int (nI ln)])).length) Slot.unset).toArray = ls at hl ⊢
  have hl : lv_has ls 5 [(0, .ref h0), (1, .int (nI tn)), (2, .int (nI ln))] := hl
  refine lv_iconst (v := nI 0) hx hb dX0_renewPins_0 (by decide) ?_
  refine lv_istore_n (lv' := [(3, .int (nI 0)), (0, .ref h0), (1, .int (nI tn)), (2, .int (nI ln))]) hx hb dX0_renewPins_1 rfl hl (by decide) rfl (fun ls hl => ?_)
  refine lv_iconst (v := nI 0) hx hb dX0_renewPins_2 (by decide) ?_
  refine lv_istore (lv' := [(4, .int (nI 0)), (3, .int (nI 0)), (0, .ref h0), (1, .int (nI tn)), (2, .int (nI ln))]) hx hb dX0_renewPins_3 hl (by decide) rfl (fun ls hl => ?_)
  have e0 : (rnF (plc (ln * 24 + tn)) wea ((ln * 24 + tn) * 64) 0).1 = wea := rfl
  have e4 : (rnF (plc (ln * 24 + tn)) wea ((ln * 24 + tn) * 64) 0).2 = 0 := rfl
  refine (?_ : ∀ (n_1 i_2 : Nat), i_2 + n_1 = 64 → ∀ (H : Heap) (locs : List Loc) (hP : va_P (dC, dI) vwCl [(h0, .inr (2, [.ref h1, .ref h2])), (h1, .inl (cyJ, 72, .inr (.inl plc))), (h2, .inl (cyI, 4608, .inl (fun k => nI (((rnF (plc (ln * 24 + tn)) wea ((ln * 24 + tn) * 64) i_2).1) k))))] H) (hD : va_D A [(h0, .inr (2, [.ref h1, .ref h2])), (h1, .inl (cyJ, 72, .inr (.inl plc))), (h2, .inl (cyI, 4608, .inl (fun k => nI (((rnF (plc (ln * 24 + tn)) wea ((ln * 24 + tn) * 64) i_2).1) k))))]) (hS : va_S A s.heap H locs) (ls : Array Slot) (hl : lv_has ls 5 [(4, .int (nI i_2)), (3, .int (nI ((rnF (plc (ln * 24 + tn)) wea ((ln * 24 + tn) * 64) i_2).2))), (0, .ref h0), (1, .int (nI tn)), (2, .int (nI ln))]), W p l e _ s m _ below meth c H locs 0 0 _ (F0 m 5 ls [])) (64 - 0) 0 (by omega) _ _ (by first | exact hP | (simp only [e0, e4]; exact hP)) (by first | exact hD | (simp only [e0, e4]; exact hD)) hS _ (by first | exact (lv_sub hl [0, 1, 2, 3, 4] rfl) | (simp only [e0, e4]; exact (lv_sub hl [0, 1, 2, 3, 4] rfl)))
  clear hl hP hS hD
  intro n_1
  induction n_1 with
  | zero =>
    intro i_2 hi_3 H locs hP hD hS ls hl
    have hw1 := rnF_le (plc (ln * 24 + tn)) ((ln * 24 + tn) * 64) hw i_2 ((ln * 24 + tn) * 64 + i_2)
    refine lv_iload hx hb dX0_renewPins_5 (lv_at hl 0 rfl) ?_
    refine lv_bipush (v := nI 64) hx hb dX0_renewPins_7 (by decide) ?_
    refine xc_ge (tgt := 57) hx hb dX0_renewPins_9 (by decide) (by omega) (by omega) (fun c_6 => ?_) (fun c_6 => by omega)
    refine lv_iload_n hx hb dX0_renewPins_57 rfl (lv_at hl 1 rfl) ?_
    obtain rfl : i_2 = 64 := by omega
    have hP9 : va_P (dC, dI) vwCl [(h0, .inr (2, [.ref h1, .ref h2])), (h1, .inl (cyJ, 72, .inr (.inl plc))), (h2, .inl (cyI, 4608, .inl (fun k => nI (((rnF (plc (ln * 24 + tn)) wea ((ln * 24 + tn) * 64) 64).1) k))))] _ := hP
    have hD9 : va_D A [(h0, .inr (2, [.ref h1, .ref h2])), (h1, .inl (cyJ, 72, .inr (.inl plc))), (h2, .inl (cyI, 4608, .inl (fun k => nI (((rnF (plc (ln * 24 + tn)) wea ((ln * 24 + tn) * 64) 64).1) k))))] := hD
    exact W.iret (v := nI ((rnF (plc (ln * 24 + tn)) wea ((ln * 24 + tn) * 64) 64).2)) hx hb hr (fun t ht hW => ⟨⟨nI ((rnF (plc (ln * 24 + tn)) wea ((ln * 24 + tn) * 64) 64).2), (), rfl, rfl, ⟨by rw [ht]; exact hP9, hD9⟩⟩, hS.F ht⟩) hS.2.2 dX0_renewPins_58
  | succ n_1 ih_4 =>
    intro i_2 hi_3 H locs hP hD hS ls hl
    have hw1 := rnF_le (plc (ln * 24 + tn)) ((ln * 24 + tn) * 64) hw i_2 ((ln * 24 + tn) * 64 + i_2)
    refine lv_iload hx hb dX0_renewPins_5 (lv_at hl 0 rfl) ?_
    refine lv_bipush (v := nI 64) hx hb dX0_renewPins_7 (by decide) ?_
    refine xc_ge (tgt := 57) hx hb dX0_renewPins_9 (by decide) (by omega) (by omega) (fun c_7 => by omega) (fun c_7 => ?_)
    refine lv_aload_n hx hb dX0_renewPins_12 rfl (lv_at hl 2 rfl) ?_
    refine lv_iload_n hx hb dX0_renewPins_13 rfl (lv_at hl 3 rfl) ?_
    refine lv_iload_n hx hb dX0_renewPins_14 rfl (lv_at hl 4 rfl) ?_
    refine lv_iload hx hb dX0_renewPins_15 (lv_at hl 0 rfl) ?_
    refine xv_i (As := [.int (nI tn), .int (nI ln), .int (nI i_2)]) (rest := []) (q := (RX0, TX0, 2)) ⟨hx, hb, hml, hown, hts⟩ (kX0_hasPin l dC dI cyI cyZ cyJ cyD cyB h0 h1 h2 plc tn ln i_2 (by omega) (by omega) (by omega)) (cwV 3 hts gX0_renewPins_X0_hasPin rfl rfl rfl (by decide +kernel) ⟨Nat.le_of_ble_eq_true rfl, Nat.le_of_ble_eq_true rfl⟩) hK hP hS [0, 1] rfl 0 2 rfl rfl rfl hl.1 rfl (Nat.le_of_ble_eq_true rfl) dX0_renewPins_17 ⟨Nat.zero_le _, Nat.zero_le _⟩ (fun r_8 H locs hw hP hS => ?_)
    have hw : r_8 = xb (bitL (plc (ln * 24 + tn)) i_2) := hw
    subst hw
    refine xb_eq (tgt := 51) hx hb dX0_renewPins_20 (by decide) (fun c_9 => ?_) (fun c_9 => ?_)
    · refine xi_inc (k := 0) (lv' := [(4, .int (nI (i_2 + 1))), (3, .int (nI ((rnF (plc (ln * 24 + tn)) wea ((ln * 24 + tn) * 64) i_2).2))), (0, .ref h0), (1, .int (nI tn)), (2, .int (nI ln))]) hx hb dX0_renewPins_51 hl rfl (by decide) rfl (fun ls hl => ?_)
      refine lv_goto (tgt := 5) hx hb dX0_renewPins_54 (by decide) ?_
      have e1 : rnF (plc (ln * 24 + tn)) wea ((ln * 24 + tn) * 64) (i_2 + 1) = rnF (plc (ln * 24 + tn)) wea ((ln * 24 + tn) * 64) i_2 := if_neg (fun hq => by first | exact absurd c_9 (by rw [hq.1]; decide) | (have h9 := hq.2; omega))
      exact ih_4 (i_2 + 1) (by omega)  _ _ (by first | exact hP | (simp only [e1]; exact hP) | (simp only [e1] at hP ⊢; exact hP)) (by first | exact hD | (simp only [e1]; exact hD) | (simp only [e1] at hD ⊢; exact hD)) hS _ (by first | exact (lv_sub hl [0, 1, 2, 3, 4] rfl) | (simp only [e1]; exact (lv_sub hl [0, 1, 2, 3, 4] rfl)) | (simp only [e1] at hl ⊢; exact (lv_sub hl [0, 1, 2, 3, 4] rfl)))
    · refine lv_aload_n hx hb dX0_renewPins_23 rfl (lv_at hl 2 rfl) ?_
      refine lv_iload_n hx hb dX0_renewPins_24 rfl (lv_at hl 3 rfl) ?_
      refine lv_iload_n hx hb dX0_renewPins_25 rfl (lv_at hl 4 rfl) ?_
      refine lv_iload hx hb dX0_renewPins_26 (lv_at hl 0 rfl) ?_
      refine xv_i (As := [.int (nI tn), .int (nI ln), .int (nI i_2)]) (rest := []) (q := (RX0, TX0, 2)) ⟨hx, hb, hml, hown, hts⟩ (kX0_wearOf l dC dI cyI cyZ cyJ cyD cyB h0 h2 h1 ((rnF (plc (ln * 24 + tn)) wea ((ln * 24 + tn) * 64) i_2).1) tn ln i_2 (by omega) (by omega) (by omega)) (cwV 3 hts gX0_renewPins_X0_wearOf rfl rfl rfl (by decide +kernel) ⟨Nat.le_of_ble_eq_true rfl, Nat.le_of_ble_eq_true rfl⟩) hK hP hS [0, 2] rfl 0 2 rfl rfl rfl hl.1 rfl (Nat.le_of_ble_eq_true rfl) dX0_renewPins_28 ⟨Nat.zero_le _, Nat.zero_le _⟩ (fun r_10 H locs hw hP hS => ?_)
      have hw : r_10 = nI (((rnF (plc (ln * 24 + tn)) wea ((ln * 24 + tn) * 64) i_2).1) ((ln * 24 + tn) * 64 + i_2)) := hw
      rw [hw]
      refine lv_iconst (v := nI 3) hx hb dX0_renewPins_31 (by decide) ?_
      refine xc_lt (tgt := 51) hx hb dX0_renewPins_32 (by decide) (by omega) (by omega) (fun c_11 => ?_) (fun c_11 => ?_)
      · refine xi_inc (k := 0) (lv' := [(4, .int (nI (i_2 + 1))), (3, .int (nI ((rnF (plc (ln * 24 + tn)) wea ((ln * 24 + tn) * 64) i_2).2))), (0, .ref h0), (1, .int (nI tn)), (2, .int (nI ln))]) hx hb dX0_renewPins_51 hl rfl (by decide) rfl (fun ls hl => ?_)
        refine lv_goto (tgt := 5) hx hb dX0_renewPins_54 (by decide) ?_
        have e1 : rnF (plc (ln * 24 + tn)) wea ((ln * 24 + tn) * 64) (i_2 + 1) = rnF (plc (ln * 24 + tn)) wea ((ln * 24 + tn) * 64) i_2 := if_neg (fun hq => by first | exact absurd c_11 (by rw [hq.1]; decide) | (have h9 := hq.2; omega))
        exact ih_4 (i_2 + 1) (by omega)  _ _ (by first | exact hP | (simp only [e1]; exact hP) | (simp only [e1] at hP ⊢; exact hP)) (by first | exact hD | (simp only [e1]; exact hD) | (simp only [e1] at hD ⊢; exact hD)) hS _ (by first | exact (lv_sub hl [0, 1, 2, 3, 4] rfl) | (simp only [e1]; exact (lv_sub hl [0, 1, 2, 3, 4] rfl)) | (simp only [e1] at hl ⊢; exact (lv_sub hl [0, 1, 2, 3, 4] rfl)))
      · refine lv_aload_n hx hb dX0_renewPins_35 rfl (lv_at hl 2 rfl) ?_
        refine va_get (D := (dC, dI)) (ci := 2) (v := .ref h2) (C := RX0) (T := TX0) (N := 2) hx hb hts inX0_renewPins_X0 hown hK hP 0 rfl rfl 1 (by decide) (hts _ mX0_renewPins_fieldLink_RX0_15_PinBarrel_Barrel_wears_I) (fun _ h9 => h9) rfl dX0_renewPins_36 ?_
        refine lv_iload_n hx hb dX0_renewPins_39 rfl (lv_at hl 3 rfl) ?_
        refine lv_iload_n hx hb dX0_renewPins_40 rfl (lv_at hl 4 rfl) ?_
        refine lv_iload hx hb dX0_renewPins_41 (lv_at hl 0 rfl) ?_
        refine xs_i (As := [.int (nI tn), .int (nI ln), .int (nI i_2)]) (rest := [.ref h2]) ⟨hx, hb, hml, hown, hts⟩ (kX0_pinAt l tn ln i_2) (va_cwS 3 hts gX0_renewPins_X0_pinAt rfl rfl rfl (by decide +kernel) ⟨Nat.le_of_ble_eq_true rfl, Nat.le_of_ble_eq_true rfl⟩) hP hS rfl hl.1 rfl (Nat.le_of_ble_eq_true rfl) dX0_renewPins_43 ⟨Nat.zero_le _, Nat.zero_le _⟩ (fun r_12 H locs hw hP hS => ?_)
        have hw : r_12 = nI ((ln * 24 + tn) * 64 + i_2) := hw
        subst hw
        refine lv_iconst (v := nI 0) hx hb dX0_renewPins_46 (by decide) ?_
        refine xt_I (f := ((rnF (plc (ln * 24 + tn)) wea ((ln * 24 + tn) * 64) i_2).1)) (x := 0) hx hb hK hP hD hS 2 0 rfl rfl (by omega) (by decide) dX0_renewPins_47 (fun H locs hP hD hS => ?_)
        have hP : va_P (dC, dI) vwCl [(h0, .inr (2, [.ref h1, .ref h2])), (h1, .inl (cyJ, 72, .inr (.inl plc))), (h2, .inl (cyI, 4608, .inl (fun k => nI ((va_up ((rnF (plc (ln * 24 + tn)) wea ((ln * 24 + tn) * 64) i_2).1) ((ln * 24 + tn) * 64 + i_2) 0) k))))] H := hP
        have hD : va_D A [(h0, .inr (2, [.ref h1, .ref h2])), (h1, .inl (cyJ, 72, .inr (.inl plc))), (h2, .inl (cyI, 4608, .inl (fun k => nI ((va_up ((rnF (plc (ln * 24 + tn)) wea ((ln * 24 + tn) * 64) i_2).1) ((ln * 24 + tn) * 64 + i_2) 0) k))))] := hD
        refine xi_inc (k := 1) (lv' := [(3, .int (nI (((rnF (plc (ln * 24 + tn)) wea ((ln * 24 + tn) * 64) i_2).2) + 1))), (4, .int (nI i_2)), (0, .ref h0), (1, .int (nI tn)), (2, .int (nI ln))]) hx hb dX0_renewPins_48 hl rfl (by decide) rfl (fun ls hl => ?_)
        refine xi_inc (k := 1) (lv' := [(4, .int (nI (i_2 + 1))), (3, .int (nI (((rnF (plc (ln * 24 + tn)) wea ((ln * 24 + tn) * 64) i_2).2) + 1))), (0, .ref h0), (1, .int (nI tn)), (2, .int (nI ln))]) hx hb dX0_renewPins_51 hl rfl (by decide) rfl (fun ls hl => ?_)
        refine lv_goto (tgt := 5) hx hb dX0_renewPins_54 (by decide) ?_
        have e1 : rnF (plc (ln * 24 + tn)) wea ((ln * 24 + tn) * 64) (i_2 + 1) = (va_up (rnF (plc (ln * 24 + tn)) wea ((ln * 24 + tn) * 64) i_2).1 ((ln * 24 + tn) * 64 + i_2) 0, (rnF (plc (ln * 24 + tn)) wea ((ln * 24 + tn) * 64) i_2).2 + 1) := if_pos ⟨c_9, by omega⟩
        exact ih_4 (i_2 + 1) (by omega)  _ _ (by first | exact hP | (simp only [e1]; exact hP) | (simp only [e1] at hP ⊢; exact hP)) (by first | exact hD | (simp only [e1]; exact hD) | (simp only [e1] at hD ⊢; exact hD)) hS _ (by first | exact (lv_sub hl [0, 1, 2, 3, 4] rfl) | (simp only [e1]; exact (lv_sub hl [0, 1, 2, 3, 4] rfl)) | (simp only [e1] at hl ⊢; exact (lv_sub hl [0, 1, 2, 3, 4] rfl)))

theorem inX0_wearDown_X0 : ∀ w ∈ wsX00, w ∈ wsX0_wearDown := by decide +kernel
theorem mX0_wearDown_fieldLink_RX0_15_PinBarrel_Barrel_wears_I : Cond.fieldLink RX0 15 "PinBarrel$Barrel" "wears" "[I" ∈ wsX0_wearDown := List.mem_of_getElem? (i := 1) (by decide +kernel)
theorem mX0_wearDown_fieldLink_RX0_9_PinBarrel_Barrel_places_J : Cond.fieldLink RX0 9 "PinBarrel$Barrel" "places" "[J" ∈ wsX0_wearDown := List.mem_of_getElem? (i := 2) (by decide +kernel)
theorem mX0_wearDown_constantLong_RX0_63_1 : Cond.constantLong RX0 63 (-1) ∈ wsX0_wearDown := List.mem_of_getElem? (i := 3) (by decide +kernel)
set_option maxHeartbeats 4000000 in
set_option maxRecDepth 100000 in
/-- a PIN wears -/
theorem kX0_wearDown (l : Launch) (dC : Nat → ClassId) (dI : Nat → Nat → Nat) (cyI cyZ cyJ cyD cyB : ClassId) (h0 h1 h2 : Nat) (plc : Nat → Int64) (wea : Nat → Nat) (tn : Nat) (ln : Nat) (pl : Nat) (ht : tn < 24) (hln : ln < 3) (hpl : pl < 64) (hw : wea ((ln * 24 + tn) * 64 + pl) < 2 ^ 30) : Met l yX0_wearDown wsX0_wearDown ({ frames := 1, cells := 0, slots := 0, locals := 22 }) (va_Pc [.ref h0, .int (nI tn), .int (nI ln), .int (nI pl)] (xM (dC, dI) vwCl (xT cyI cyZ cyJ cyD cyB) [(h0, .inr (2, [.ref h1, .ref h2])), (h1, .inl (cyJ, 72, .inr (.inl plc))), (h2, .inl (cyI, 4608, .inl (fun k => nI (wea k))))])) (va_Qi (fun (r : Int32) (u : Unit) => r = xb (decide (5 ≤ wea ((ln * 24 + tn) * 64 + pl) + 1))) (fun u t => va_P (dC, dI) vwCl [(h0, .inr (2, [.ref h1, .ref h2])), (h1, .inl (cyJ, 72, .inr (.inl (if 5 ≤ wea ((ln * 24 + tn) * 64 + pl) + 1 then va_up plc (ln * 24 + tn) (clrB (plc (ln * 24 + tn)) pl) else plc)))), (h2, .inl (cyI, 4608, .inl (fun k => nI ((va_up wea ((ln * 24 + tn) * 64 + pl) (wea ((ln * 24 + tn) * 64 + pl) + 1)) k))))] t.heap ∧ va_D (xA [(h0, .inr (2, [.ref h1, .ref h2])), (h1, .inl (cyJ, 72, .inr (.inl plc))), (h2, .inl (cyI, 4608, .inl (fun k => nI (wea k))))]) [(h0, .inr (2, [.ref h1, .ref h2])), (h1, .inl (cyJ, 72, .inr (.inl (if 5 ≤ wea ((ln * 24 + tn) * 64 + pl) + 1 then va_up plc (ln * 24 + tn) (clrB (plc (ln * 24 + tn)) pl) else plc)))), (h2, .inl (cyI, 4608, .inl (fun k => nI ((va_up wea ((ln * 24 + tn) * 64 + pl) (wea ((ln * 24 + tn) * 64 + pl) + 1)) k))))]) (xA [(h0, .inr (2, [.ref h1, .ref h2])), (h1, .inl (cyJ, 72, .inr (.inl plc))), (h2, .inl (cyI, 4608, .inl (fun k => nI (wea k))))])) 0 0 (xA [(h0, .inr (2, [.ref h1, .ref h2])), (h1, .inl (cyJ, 72, .inr (.inl plc))), (h2, .inl (cyI, 4608, .inl (fun k => nI (wea k))))]) := by
  refine Met.ofW (cc := cX0_wearDown) (maxL := 5) (ret := (some .boolean)) (by decide) rfl ?_
  intro p e s m args below meth c s₁ B hml hv
  obtain ⟨rfl, hP, hK, hD0⟩ := hv
  have hx := B.exec
  have hb := B.bytes
  have hr := B.returns
  have hts := atoms_spec (ws := wsX0_wearDown) B.pre
  have hown : s.vm.findClass RX0 = some m.cls := findClass_of_methodNamed B.named
  have hlocks := B.notSynchronized
  have hD := xA_self hD0
  clear hD0
  generalize hAe : xA [(h0, .inr (2, [.ref h1, .ref h2])), (h1, .inl (cyJ, 72, .inr (.inl plc))), (h2, .inl (cyI, 4608, .inl (fun k => nI (wea k))))] = A at hD ⊢
  have hS : va_S A s.heap s.heap [] := va_S.rf
  have hP : va_P (dC, dI) vwCl [(h0, .inr (2, [.ref h1, .ref h2])), (h1, .inl (cyJ, 72, .inr (.inl plc))), (h2, .inl (cyI, 4608, .inl (fun k => nI (wea k))))] s.heap := hP
  have hl := lv_entry ([.ref h0, .int (nI tn), .int (nI ln), .int (nI pl)]) (n := 5) (Nat.le_of_ble_eq_true rfl)
  rw [lg_entry_eq]
  generalize (lg_sl ([.ref h0, .int (nI tn), .int (nI ln), .int (nI pl)]) ++ List.replicate (5 - (lg_sl ([.ref h0, .int (nI tn), .int (nI ln), .int (nI pl)])).length) Slot.unset).toArray = ls at hl ⊢
  have hl : lv_has ls 5 [(0, .ref h0), (1, .int (nI tn)), (2, .int (nI ln)), (3, .int (nI pl))] := hl
  refine lv_iload_n hx hb dX0_wearDown_0 rfl (lv_at hl 1 rfl) ?_
  refine lv_iload_n hx hb dX0_wearDown_1 rfl (lv_at hl 2 rfl) ?_
  refine lv_iload_n hx hb dX0_wearDown_2 rfl (lv_at hl 3 rfl) ?_
  refine xs_i (As := [.int (nI tn), .int (nI ln), .int (nI pl)]) (rest := []) ⟨hx, hb, hml, hown, hts⟩ (kX0_pinAt l tn ln pl) (va_cwS 3 hts gX0_wearDown_X0_pinAt rfl rfl rfl (by decide +kernel) ⟨Nat.le_of_ble_eq_true rfl, Nat.le_of_ble_eq_true rfl⟩) hP hS rfl hl.1 rfl (Nat.le_of_ble_eq_true rfl) dX0_wearDown_3 ⟨Nat.zero_le _, Nat.zero_le _⟩ (fun r_1 H locs hw hP hS => ?_)
  have hw : r_1 = nI ((ln * 24 + tn) * 64 + pl) := hw
  subst hw
  refine lv_istore (lv' := [(4, .int (nI ((ln * 24 + tn) * 64 + pl))), (0, .ref h0), (1, .int (nI tn)), (2, .int (nI ln)), (3, .int (nI pl))]) hx hb dX0_wearDown_6 hl (by decide) rfl (fun ls hl => ?_)
  refine lv_aload_n hx hb dX0_wearDown_8 rfl (lv_at hl 1 rfl) ?_
  refine va_get (D := (dC, dI)) (ci := 2) (v := .ref h2) (C := RX0) (T := TX0) (N := 2) hx hb hts inX0_wearDown_X0 hown hK hP 0 rfl rfl 1 (by decide) (hts _ mX0_wearDown_fieldLink_RX0_15_PinBarrel_Barrel_wears_I) (fun _ h9 => h9) rfl dX0_wearDown_9 ?_
  refine lv_iload hx hb dX0_wearDown_12 (lv_at hl 0 rfl) ?_
  refine lv_dup2_11 hx hb dX0_wearDown_14 rfl rfl ?_
  refine xl_I (f := wea) hx hb hK hP 2 0 rfl rfl (by omega) (by decide) dX0_wearDown_15 ?_
  refine lv_iconst (v := nI 1) hx hb dX0_wearDown_16 (by decide) ?_
  refine xi_add hx hb dX0_wearDown_17 ?_
  refine xt_I (f := wea) (x := ((wea ((ln * 24 + tn) * 64 + pl)) + 1)) hx hb hK hP hD hS 2 0 rfl rfl (by omega) (by decide) dX0_wearDown_18 (fun H locs hP hD hS => ?_)
  have hP : va_P (dC, dI) vwCl [(h0, .inr (2, [.ref h1, .ref h2])), (h1, .inl (cyJ, 72, .inr (.inl plc))), (h2, .inl (cyI, 4608, .inl (fun k => nI ((va_up wea ((ln * 24 + tn) * 64 + pl) ((wea ((ln * 24 + tn) * 64 + pl)) + 1)) k))))] H := hP
  have hD : va_D A [(h0, .inr (2, [.ref h1, .ref h2])), (h1, .inl (cyJ, 72, .inr (.inl plc))), (h2, .inl (cyI, 4608, .inl (fun k => nI ((va_up wea ((ln * 24 + tn) * 64 + pl) ((wea ((ln * 24 + tn) * 64 + pl)) + 1)) k))))] := hD
  refine lv_aload_n hx hb dX0_wearDown_19 rfl (lv_at hl 1 rfl) ?_
  refine va_get (D := (dC, dI)) (ci := 2) (v := .ref h2) (C := RX0) (T := TX0) (N := 2) hx hb hts inX0_wearDown_X0 hown hK hP 0 rfl rfl 1 (by decide) (hts _ mX0_wearDown_fieldLink_RX0_15_PinBarrel_Barrel_wears_I) (fun _ h9 => h9) rfl dX0_wearDown_20 ?_
  refine lv_iload hx hb dX0_wearDown_23 (lv_at hl 0 rfl) ?_
  refine xl_I (f := (va_up wea ((ln * 24 + tn) * 64 + pl) ((wea ((ln * 24 + tn) * 64 + pl)) + 1))) hx hb hK hP 2 0 rfl rfl (by omega) (by decide) dX0_wearDown_25 ?_
  rw [xu_self]
  refine lv_iconst (v := nI 5) hx hb dX0_wearDown_26 (by decide) ?_
  refine xc_ge (tgt := 32) hx hb dX0_wearDown_27 (by decide) (by omega) (by omega) (fun c_2 => ?_) (fun c_2 => ?_)
  · refine lv_aload_n hx hb dX0_wearDown_32 rfl (lv_at hl 1 rfl) ?_
    refine va_get (D := (dC, dI)) (ci := 2) (v := .ref h1) (C := RX0) (T := TX0) (N := 2) hx hb hts inX0_wearDown_X0 hown hK hP 0 rfl rfl 0 (by decide) (hts _ mX0_wearDown_fieldLink_RX0_9_PinBarrel_Barrel_places_J) (fun _ h9 => h9) rfl dX0_wearDown_33 ?_
    refine lv_iload_n hx hb dX0_wearDown_36 rfl (lv_at hl 2 rfl) ?_
    refine lv_iload_n hx hb dX0_wearDown_37 rfl (lv_at hl 3 rfl) ?_
    refine xs_i (As := [.int (nI tn), .int (nI ln)]) (rest := [.ref h1]) ⟨hx, hb, hml, hown, hts⟩ (kX0_lineAt l tn ln) (va_cwS 2 hts gX0_wearDown_X0_lineAt rfl rfl rfl (by decide +kernel) ⟨Nat.le_of_ble_eq_true rfl, Nat.le_of_ble_eq_true rfl⟩) hP hS rfl hl.1 rfl (Nat.le_of_ble_eq_true rfl) dX0_wearDown_38 ⟨Nat.zero_le _, Nat.zero_le _⟩ (fun r_3 H locs hw hP hS => ?_)
    have hw : r_3 = nI (ln * 24 + tn) := hw
    subst hw
    refine lv_dup2_11 hx hb dX0_wearDown_41 rfl rfl ?_
    refine xl_J (f := plc) hx hb hK hP 1 2 rfl rfl (by omega) (by decide) dX0_wearDown_42 ?_
    refine lv_lconst (v := 1) hx hb dX0_wearDown_43 (by decide) ?_
    refine lv_iload_n hx hb dX0_wearDown_44 rfl (lv_at hl 4 rfl) ?_
    refine lv_lshl (v := (1 : Int64) <<< ((nI pl).toInt64 &&& 63)) hx hb dX0_wearDown_45 rfl ?_
    refine lv_ldc2 (v := (-1)) hx hb hown (hts _ mX0_wearDown_constantLong_RX0_63_1) dX0_wearDown_46 ?_
    refine lv_lxor hx hb dX0_wearDown_49 ?_
    refine lv_land hx hb dX0_wearDown_50 ?_
    refine xt_J (f := plc) (x := ((plc (ln * 24 + tn)) &&& (((1 : Int64) <<< ((nI pl).toInt64 &&& 63)) ^^^ ((-1) : Int64)))) hx hb hK hP hD hS 1 2 rfl rfl (by omega) (by decide) dX0_wearDown_51 (fun H locs hP hD hS => ?_)
    have hP : va_P (dC, dI) vwCl [(h0, .inr (2, [.ref h1, .ref h2])), (h1, .inl (cyJ, 72, .inr (.inl (va_up plc (ln * 24 + tn) ((plc (ln * 24 + tn)) &&& (((1 : Int64) <<< ((nI pl).toInt64 &&& 63)) ^^^ ((-1) : Int64))))))), (h2, .inl (cyI, 4608, .inl (fun k => nI ((va_up wea ((ln * 24 + tn) * 64 + pl) ((wea ((ln * 24 + tn) * 64 + pl)) + 1)) k))))] H := hP
    have hD : va_D A [(h0, .inr (2, [.ref h1, .ref h2])), (h1, .inl (cyJ, 72, .inr (.inl (va_up plc (ln * 24 + tn) ((plc (ln * 24 + tn)) &&& (((1 : Int64) <<< ((nI pl).toInt64 &&& 63)) ^^^ ((-1) : Int64))))))), (h2, .inl (cyI, 4608, .inl (fun k => nI ((va_up wea ((ln * 24 + tn) * 64 + pl) ((wea ((ln * 24 + tn) * 64 + pl)) + 1)) k))))] := hD
    refine lv_iconst (v := nI 1) hx hb dX0_wearDown_52 (by decide) ?_
    have e1 : (if 5 ≤ wea ((ln * 24 + tn) * 64 + pl) + 1 then va_up plc (ln * 24 + tn) (clrB (plc (ln * 24 + tn)) pl) else plc) = va_up plc (ln * 24 + tn) (clrB (plc (ln * 24 + tn)) pl) := if_pos (by omega)
    rw [clrB] at e1
    rw [← e1] at hP hD
    have hP9 : va_P (dC, dI) vwCl [(h0, .inr (2, [.ref h1, .ref h2])), (h1, .inl (cyJ, 72, .inr (.inl (if 5 ≤ wea ((ln * 24 + tn) * 64 + pl) + 1 then va_up plc (ln * 24 + tn) (clrB (plc (ln * 24 + tn)) pl) else plc)))), (h2, .inl (cyI, 4608, .inl (fun k => nI ((va_up wea ((ln * 24 + tn) * 64 + pl) (wea ((ln * 24 + tn) * 64 + pl) + 1)) k))))] _ := hP
    have hD9 : va_D A [(h0, .inr (2, [.ref h1, .ref h2])), (h1, .inl (cyJ, 72, .inr (.inl (if 5 ≤ wea ((ln * 24 + tn) * 64 + pl) + 1 then va_up plc (ln * 24 + tn) (clrB (plc (ln * 24 + tn)) pl) else plc)))), (h2, .inl (cyI, 4608, .inl (fun k => nI ((va_up wea ((ln * 24 + tn) * 64 + pl) (wea ((ln * 24 + tn) * 64 + pl) + 1)) k))))] := hD
    exact W.zret (v := nI 1) (ty := .boolean) hx hb hr rfl (fun t ht hW => ⟨⟨nI 1, (), rfl, (xb_t (decide_eq_true (show 5 ≤ wea ((ln * 24 + tn) * 64 + pl) + 1 from by omega))).symm, ⟨by rw [ht]; exact hP9, hD9⟩⟩, hS.F ht⟩) hS.2.2 dX0_wearDown_53
  · refine lv_iconst (v := nI 0) hx hb dX0_wearDown_30 (by decide) ?_
    have e1 : plc = (if 5 ≤ wea ((ln * 24 + tn) * 64 + pl) + 1 then va_up plc (ln * 24 + tn) (clrB (plc (ln * 24 + tn)) pl) else plc) := (if_neg (by omega)).symm
    have hP : va_P (dC, dI) vwCl [(h0, .inr (2, [.ref h1, .ref h2])), (h1, .inl (cyJ, 72, .inr (.inl (if 5 ≤ wea ((ln * 24 + tn) * 64 + pl) + 1 then va_up plc (ln * 24 + tn) (clrB (plc (ln * 24 + tn)) pl) else plc)))), (h2, .inl (cyI, 4608, .inl (fun k => nI ((va_up wea ((ln * 24 + tn) * 64 + pl) (wea ((ln * 24 + tn) * 64 + pl) + 1)) k))))] H := by first | exact e1 ▸ hP | (rw [← e1]; exact hP)
    have hD : va_D A [(h0, .inr (2, [.ref h1, .ref h2])), (h1, .inl (cyJ, 72, .inr (.inl (if 5 ≤ wea ((ln * 24 + tn) * 64 + pl) + 1 then va_up plc (ln * 24 + tn) (clrB (plc (ln * 24 + tn)) pl) else plc)))), (h2, .inl (cyI, 4608, .inl (fun k => nI ((va_up wea ((ln * 24 + tn) * 64 + pl) (wea ((ln * 24 + tn) * 64 + pl) + 1)) k))))] := by rw [← e1]; exact hD
    have hP9 : va_P (dC, dI) vwCl [(h0, .inr (2, [.ref h1, .ref h2])), (h1, .inl (cyJ, 72, .inr (.inl (if 5 ≤ wea ((ln * 24 + tn) * 64 + pl) + 1 then va_up plc (ln * 24 + tn) (clrB (plc (ln * 24 + tn)) pl) else plc)))), (h2, .inl (cyI, 4608, .inl (fun k => nI ((va_up wea ((ln * 24 + tn) * 64 + pl) (wea ((ln * 24 + tn) * 64 + pl) + 1)) k))))] _ := hP
    have hD9 : va_D A [(h0, .inr (2, [.ref h1, .ref h2])), (h1, .inl (cyJ, 72, .inr (.inl (if 5 ≤ wea ((ln * 24 + tn) * 64 + pl) + 1 then va_up plc (ln * 24 + tn) (clrB (plc (ln * 24 + tn)) pl) else plc)))), (h2, .inl (cyI, 4608, .inl (fun k => nI ((va_up wea ((ln * 24 + tn) * 64 + pl) (wea ((ln * 24 + tn) * 64 + pl) + 1)) k))))] := hD
    exact W.zret (v := nI 0) (ty := .boolean) hx hb hr rfl (fun t ht hW => ⟨⟨nI 0, (), rfl, (xb_f (decide_eq_false (show ¬ 5 ≤ wea ((ln * 24 + tn) * 64 + pl) + 1 from by omega))).symm, ⟨by rw [ht]; exact hP9, hD9⟩⟩, hS.F ht⟩) hS.2.2 dX0_wearDown_31

theorem inX0_takePins_X0 : ∀ w ∈ wsX00, w ∈ wsX0_takePins := by decide +kernel
theorem mX0_takePins_fieldLink_RX0_9_PinBarrel_Barrel_places_J : Cond.fieldLink RX0 9 "PinBarrel$Barrel" "places" "[J" ∈ wsX0_takePins := List.mem_of_getElem? (i := 1) (by decide +kernel)
theorem mX0_takePins_methodLink_RX0_65_arraycopyName : Cond.methodLink RX0 65 arraycopyName ∈ wsX0_takePins := List.mem_of_getElem? (i := 2) (by decide +kernel)
theorem mX0_takePins_native_arraycopyName : Cond.native arraycopyName ∈ wsX0_takePins := List.mem_of_getElem? (i := 3) (by decide +kernel)
theorem mX0_takePins_static_arraycopyName : Cond.static arraycopyName ∈ wsX0_takePins := List.mem_of_getElem? (i := 4) (by decide +kernel)
theorem mX0_takePins_initialized_java_lang_System : Cond.initialized "java/lang/System" ∈ wsX0_takePins := List.mem_of_getElem? (i := 5) (by decide +kernel)
set_option maxHeartbeats 4000000 in
set_option maxRecDepth 100000 in
/-- the PINS of LINES taken over -/
theorem kX0_takePins (l : Launch) (dC : Nat → ClassId) (dI : Nat → Nat → Nat) (cyI cyZ cyJ cyD cyB : ClassId) (h0 h1 g0 g1 : Nat) (h2 : Nat) (g2 : Nat) (plc : Nat → Int64) (fplc : Nat → Int64) (ln : Nat) (hln : ln < 3) : Met l yX0_takePins wsX0_takePins ({ frames := 1, cells := 0, slots := 0, locals := 40 }) (va_Pc [.ref h0, .ref g0, .int (nI ln)] (xM (dC, dI) vwCl (xT cyI cyZ cyJ cyD cyB) [(h0, .inr (2, [.ref h1, .ref h2])), (h1, .inl (cyJ, 72, .inr (.inl plc))), (g0, .inr (2, [.ref g1, .ref g2])), (g1, .inl (cyJ, 72, .inr (.inl fplc)))])) (va_Qv (fun (u : Unit) => True) (fun u t => va_P (dC, dI) vwCl [(h0, .inr (2, [.ref h1, .ref h2])), (h1, .inl (cyJ, 72, .inr (.inl (va_cpy fplc plc (ln * 24 + 0) (ln * 24 + 0) 24)))), (g0, .inr (2, [.ref g1, .ref g2])), (g1, .inl (cyJ, 72, .inr (.inl fplc)))] t.heap ∧ va_D (xA [(h0, .inr (2, [.ref h1, .ref h2])), (h1, .inl (cyJ, 72, .inr (.inl plc))), (g0, .inr (2, [.ref g1, .ref g2])), (g1, .inl (cyJ, 72, .inr (.inl fplc)))]) [(h0, .inr (2, [.ref h1, .ref h2])), (h1, .inl (cyJ, 72, .inr (.inl (va_cpy fplc plc (ln * 24 + 0) (ln * 24 + 0) 24)))), (g0, .inr (2, [.ref g1, .ref g2])), (g1, .inl (cyJ, 72, .inr (.inl fplc)))]) (xA [(h0, .inr (2, [.ref h1, .ref h2])), (h1, .inl (cyJ, 72, .inr (.inl plc))), (g0, .inr (2, [.ref g1, .ref g2])), (g1, .inl (cyJ, 72, .inr (.inl fplc)))])) 0 0 (xA [(h0, .inr (2, [.ref h1, .ref h2])), (h1, .inl (cyJ, 72, .inr (.inl plc))), (g0, .inr (2, [.ref g1, .ref g2])), (g1, .inl (cyJ, 72, .inr (.inl fplc)))]) := by
  refine Met.ofW (cc := cX0_takePins) (maxL := 4) (ret := none) (by decide) rfl ?_
  intro p e s m args below meth c s₁ B hml hv
  obtain ⟨rfl, hP, hK, hD0⟩ := hv
  have hx := B.exec
  have hb := B.bytes
  have hr := B.returns
  have hts := atoms_spec (ws := wsX0_takePins) B.pre
  have hown : s.vm.findClass RX0 = some m.cls := findClass_of_methodNamed B.named
  have hlocks := B.notSynchronized
  have hD := xA_self hD0
  clear hD0
  generalize hAe : xA [(h0, .inr (2, [.ref h1, .ref h2])), (h1, .inl (cyJ, 72, .inr (.inl plc))), (g0, .inr (2, [.ref g1, .ref g2])), (g1, .inl (cyJ, 72, .inr (.inl fplc)))] = A at hD ⊢
  have hS : va_S A s.heap s.heap [] := va_S.rf
  have hP : va_P (dC, dI) vwCl [(h0, .inr (2, [.ref h1, .ref h2])), (h1, .inl (cyJ, 72, .inr (.inl plc))), (g0, .inr (2, [.ref g1, .ref g2])), (g1, .inl (cyJ, 72, .inr (.inl fplc)))] s.heap := hP
  have hl := lv_entry ([.ref h0, .ref g0, .int (nI ln)]) (n := 4) (Nat.le_of_ble_eq_true rfl)
  rw [lg_entry_eq]
  generalize (lg_sl ([.ref h0, .ref g0, .int (nI ln)]) ++ List.replicate (4 - (lg_sl ([.ref h0, .ref g0, .int (nI ln)])).length) Slot.unset).toArray = ls at hl ⊢
  have hl : lv_has ls 4 [(0, .ref h0), (1, .ref g0), (2, .int (nI ln))] := hl
  refine lv_iconst (v := nI 0) hx hb dX0_takePins_0 (by decide) ?_
  refine lv_iload_n hx hb dX0_takePins_1 rfl (lv_at hl 2 rfl) ?_
  refine xs_i (As := [.int (nI 0), .int (nI ln)]) (rest := []) ⟨hx, hb, hml, hown, hts⟩ (kX0_lineAt l 0 ln) (va_cwS 2 hts gX0_takePins_X0_lineAt rfl rfl rfl (by decide +kernel) ⟨Nat.le_of_ble_eq_true rfl, Nat.le_of_ble_eq_true rfl⟩) hP hS rfl hl.1 rfl (Nat.le_of_ble_eq_true rfl) dX0_takePins_2 ⟨Nat.zero_le _, Nat.zero_le _⟩ (fun r_1 H locs hw hP hS => ?_)
  have hw : r_1 = nI (ln * 24 + 0) := hw
  subst hw
  refine lv_istore_n (lv' := [(3, .int (nI (ln * 24 + 0))), (0, .ref h0), (1, .ref g0), (2, .int (nI ln))]) hx hb dX0_takePins_5 rfl hl (by decide) rfl (fun ls hl => ?_)
  refine lv_aload_n hx hb dX0_takePins_6 rfl (lv_at hl 2 rfl) ?_
  refine va_get (D := (dC, dI)) (ci := 2) (v := .ref g1) (C := RX0) (T := TX0) (N := 2) hx hb hts inX0_takePins_X0 hown hK hP 2 rfl rfl 0 (by decide) (hts _ mX0_takePins_fieldLink_RX0_9_PinBarrel_Barrel_places_J) (fun _ h9 => h9) rfl dX0_takePins_7 ?_
  refine lv_iload_n hx hb dX0_takePins_10 rfl (lv_at hl 0 rfl) ?_
  refine lv_aload_n hx hb dX0_takePins_11 rfl (lv_at hl 1 rfl) ?_
  refine va_get (D := (dC, dI)) (ci := 2) (v := .ref h1) (C := RX0) (T := TX0) (N := 2) hx hb hts inX0_takePins_X0 hown hK hP 0 rfl rfl 0 (by decide) (hts _ mX0_takePins_fieldLink_RX0_9_PinBarrel_Barrel_places_J) (fun _ h9 => h9) rfl dX0_takePins_12 ?_
  refine lv_iload_n hx hb dX0_takePins_15 rfl (lv_at hl 0 rfl) ?_
  refine lv_bipush (v := nI 24) hx hb dX0_takePins_16 (by decide) ?_
  refine va_copyl hx hb (hml.trans hl.1.symm) hown (hts _ mX0_takePins_methodLink_RX0_65_arraycopyName) (hts _ mX0_takePins_native_arraycopyName) (hts _ mX0_takePins_static_arraycopyName) (hts _ mX0_takePins_initialized_java_lang_System) hK hP hD hS 3 1 2 2 rfl rfl rfl rfl rfl (nI_pos (by omega)) (nI_pos (by omega)) (nI_pos (by omega)) (by rw [nI_clamp (by omega), nI_clamp (by omega)]; omega) (by rw [nI_clamp (by omega), nI_clamp (by omega)]; omega) (fun _ _ => rfl) (Nat.le_of_ble_eq_true rfl) (Nat.le_of_ble_eq_true rfl) dX0_takePins_18 (fun H locs hP hD hS => ?_)
  rw [nI_clamp (n := ln * 24 + 0) (by omega), nI_clamp (n := 24) (by omega)] at hP hD
  have hP : va_P (dC, dI) vwCl [(h0, .inr (2, [.ref h1, .ref h2])), (h1, .inl (cyJ, 72, .inr (.inl (va_cpy fplc plc (ln * 24 + 0) (ln * 24 + 0) 24)))), (g0, .inr (2, [.ref g1, .ref g2])), (g1, .inl (cyJ, 72, .inr (.inl fplc)))] H := hP
  have hD : va_D A [(h0, .inr (2, [.ref h1, .ref h2])), (h1, .inl (cyJ, 72, .inr (.inl (va_cpy fplc plc (ln * 24 + 0) (ln * 24 + 0) 24)))), (g0, .inr (2, [.ref g1, .ref g2])), (g1, .inl (cyJ, 72, .inr (.inl fplc)))] := hD
  have hP9 : va_P (dC, dI) vwCl [(h0, .inr (2, [.ref h1, .ref h2])), (h1, .inl (cyJ, 72, .inr (.inl (va_cpy fplc plc (ln * 24 + 0) (ln * 24 + 0) 24)))), (g0, .inr (2, [.ref g1, .ref g2])), (g1, .inl (cyJ, 72, .inr (.inl fplc)))] _ := hP
  have hD9 : va_D A [(h0, .inr (2, [.ref h1, .ref h2])), (h1, .inl (cyJ, 72, .inr (.inl (va_cpy fplc plc (ln * 24 + 0) (ln * 24 + 0) 24)))), (g0, .inr (2, [.ref g1, .ref g2])), (g1, .inl (cyJ, 72, .inr (.inl fplc)))] := hD
  exact W.vret hx hb hr (fun t ht hW => ⟨⟨(), rfl, trivial, ⟨by rw [ht]; exact hP9, hD9⟩⟩, hS.F ht⟩) hS.2.2 dX0_takePins_21

theorem inX0_takeWears_X0 : ∀ w ∈ wsX00, w ∈ wsX0_takeWears := by decide +kernel
theorem mX0_takeWears_fieldLink_RX0_15_PinBarrel_Barrel_wears_I : Cond.fieldLink RX0 15 "PinBarrel$Barrel" "wears" "[I" ∈ wsX0_takeWears := List.mem_of_getElem? (i := 1) (by decide +kernel)
theorem mX0_takeWears_methodLink_RX0_65_arraycopyName : Cond.methodLink RX0 65 arraycopyName ∈ wsX0_takeWears := List.mem_of_getElem? (i := 2) (by decide +kernel)
theorem mX0_takeWears_native_arraycopyName : Cond.native arraycopyName ∈ wsX0_takeWears := List.mem_of_getElem? (i := 3) (by decide +kernel)
theorem mX0_takeWears_static_arraycopyName : Cond.static arraycopyName ∈ wsX0_takeWears := List.mem_of_getElem? (i := 4) (by decide +kernel)
theorem mX0_takeWears_initialized_java_lang_System : Cond.initialized "java/lang/System" ∈ wsX0_takeWears := List.mem_of_getElem? (i := 5) (by decide +kernel)
set_option maxHeartbeats 4000000 in
set_option maxRecDepth 100000 in
/-- their WEAR taken over -/
theorem kX0_takeWears (l : Launch) (dC : Nat → ClassId) (dI : Nat → Nat → Nat) (cyI cyZ cyJ cyD cyB : ClassId) (h0 h2 g0 g2 : Nat) (h1 : Nat) (g1 : Nat) (wea : Nat → Nat) (fwea : Nat → Nat) (ln : Nat) (hln : ln < 3) : Met l yX0_takeWears wsX0_takeWears ({ frames := 1, cells := 0, slots := 0, locals := 40 }) (va_Pc [.ref h0, .ref g0, .int (nI ln)] (xM (dC, dI) vwCl (xT cyI cyZ cyJ cyD cyB) [(h0, .inr (2, [.ref h1, .ref h2])), (h2, .inl (cyI, 4608, .inl (fun k => nI (wea k)))), (g0, .inr (2, [.ref g1, .ref g2])), (g2, .inl (cyI, 4608, .inl (fun k => nI (fwea k))))])) (va_Qv (fun (u : Unit) => True) (fun u t => va_P (dC, dI) vwCl [(h0, .inr (2, [.ref h1, .ref h2])), (h2, .inl (cyI, 4608, .inl (fun k => nI ((va_cpy fwea wea ((ln * 24 + 0) * 64 + 0) ((ln * 24 + 0) * 64 + 0) (1536)) k)))), (g0, .inr (2, [.ref g1, .ref g2])), (g2, .inl (cyI, 4608, .inl (fun k => nI (fwea k))))] t.heap ∧ va_D (xA [(h0, .inr (2, [.ref h1, .ref h2])), (h2, .inl (cyI, 4608, .inl (fun k => nI (wea k)))), (g0, .inr (2, [.ref g1, .ref g2])), (g2, .inl (cyI, 4608, .inl (fun k => nI (fwea k))))]) [(h0, .inr (2, [.ref h1, .ref h2])), (h2, .inl (cyI, 4608, .inl (fun k => nI ((va_cpy fwea wea ((ln * 24 + 0) * 64 + 0) ((ln * 24 + 0) * 64 + 0) (1536)) k)))), (g0, .inr (2, [.ref g1, .ref g2])), (g2, .inl (cyI, 4608, .inl (fun k => nI (fwea k))))]) (xA [(h0, .inr (2, [.ref h1, .ref h2])), (h2, .inl (cyI, 4608, .inl (fun k => nI (wea k)))), (g0, .inr (2, [.ref g1, .ref g2])), (g2, .inl (cyI, 4608, .inl (fun k => nI (fwea k))))])) 0 0 (xA [(h0, .inr (2, [.ref h1, .ref h2])), (h2, .inl (cyI, 4608, .inl (fun k => nI (wea k)))), (g0, .inr (2, [.ref g1, .ref g2])), (g2, .inl (cyI, 4608, .inl (fun k => nI (fwea k))))]) := by
  refine Met.ofW (cc := cX0_takeWears) (maxL := 4) (ret := none) (by decide) rfl ?_
  intro p e s m args below meth c s₁ B hml hv
  obtain ⟨rfl, hP, hK, hD0⟩ := hv
  have hx := B.exec
  have hb := B.bytes
  have hr := B.returns
  have hts := atoms_spec (ws := wsX0_takeWears) B.pre
  have hown : s.vm.findClass RX0 = some m.cls := findClass_of_methodNamed B.named
  have hlocks := B.notSynchronized
  have hD := xA_self hD0
  clear hD0
  generalize hAe : xA [(h0, .inr (2, [.ref h1, .ref h2])), (h2, .inl (cyI, 4608, .inl (fun k => nI (wea k)))), (g0, .inr (2, [.ref g1, .ref g2])), (g2, .inl (cyI, 4608, .inl (fun k => nI (fwea k))))] = A at hD ⊢
  have hS : va_S A s.heap s.heap [] := va_S.rf
  have hP : va_P (dC, dI) vwCl [(h0, .inr (2, [.ref h1, .ref h2])), (h2, .inl (cyI, 4608, .inl (fun k => nI (wea k)))), (g0, .inr (2, [.ref g1, .ref g2])), (g2, .inl (cyI, 4608, .inl (fun k => nI (fwea k))))] s.heap := hP
  have hl := lv_entry ([.ref h0, .ref g0, .int (nI ln)]) (n := 4) (Nat.le_of_ble_eq_true rfl)
  rw [lg_entry_eq]
  generalize (lg_sl ([.ref h0, .ref g0, .int (nI ln)]) ++ List.replicate (4 - (lg_sl ([.ref h0, .ref g0, .int (nI ln)])).length) Slot.unset).toArray = ls at hl ⊢
  have hl : lv_has ls 4 [(0, .ref h0), (1, .ref g0), (2, .int (nI ln))] := hl
  refine lv_iconst (v := nI 0) hx hb dX0_takeWears_0 (by decide) ?_
  refine lv_iload_n hx hb dX0_takeWears_1 rfl (lv_at hl 2 rfl) ?_
  refine lv_iconst (v := nI 0) hx hb dX0_takeWears_2 (by decide) ?_
  refine xs_i (As := [.int (nI 0), .int (nI ln), .int (nI 0)]) (rest := []) ⟨hx, hb, hml, hown, hts⟩ (kX0_pinAt l 0 ln 0) (va_cwS 3 hts gX0_takeWears_X0_pinAt rfl rfl rfl (by decide +kernel) ⟨Nat.le_of_ble_eq_true rfl, Nat.le_of_ble_eq_true rfl⟩) hP hS rfl hl.1 rfl (Nat.le_of_ble_eq_true rfl) dX0_takeWears_3 ⟨Nat.zero_le _, Nat.zero_le _⟩ (fun r_1 H locs hw hP hS => ?_)
  have hw : r_1 = nI ((ln * 24 + 0) * 64 + 0) := hw
  subst hw
  refine lv_istore_n (lv' := [(3, .int (nI ((ln * 24 + 0) * 64 + 0))), (0, .ref h0), (1, .ref g0), (2, .int (nI ln))]) hx hb dX0_takeWears_6 rfl hl (by decide) rfl (fun ls hl => ?_)
  refine lv_aload_n hx hb dX0_takeWears_7 rfl (lv_at hl 2 rfl) ?_
  refine va_get (D := (dC, dI)) (ci := 2) (v := .ref g2) (C := RX0) (T := TX0) (N := 2) hx hb hts inX0_takeWears_X0 hown hK hP 2 rfl rfl 1 (by decide) (hts _ mX0_takeWears_fieldLink_RX0_15_PinBarrel_Barrel_wears_I) (fun _ h9 => h9) rfl dX0_takeWears_8 ?_
  refine lv_iload_n hx hb dX0_takeWears_11 rfl (lv_at hl 0 rfl) ?_
  refine lv_aload_n hx hb dX0_takeWears_12 rfl (lv_at hl 1 rfl) ?_
  refine va_get (D := (dC, dI)) (ci := 2) (v := .ref h2) (C := RX0) (T := TX0) (N := 2) hx hb hts inX0_takeWears_X0 hown hK hP 0 rfl rfl 1 (by decide) (hts _ mX0_takeWears_fieldLink_RX0_15_PinBarrel_Barrel_wears_I) (fun _ h9 => h9) rfl dX0_takeWears_13 ?_
  refine lv_iload_n hx hb dX0_takeWears_16 rfl (lv_at hl 0 rfl) ?_
  refine lv_sipush (v := nI 1536) hx hb dX0_takeWears_17 (by decide) ?_
  refine va_copyi hx hb (hml.trans hl.1.symm) hown (hts _ mX0_takeWears_methodLink_RX0_65_arraycopyName) (hts _ mX0_takeWears_native_arraycopyName) (hts _ mX0_takeWears_static_arraycopyName) (hts _ mX0_takeWears_initialized_java_lang_System) hK hP hD hS 3 1 0 0 rfl rfl rfl rfl rfl (nI_pos (by omega)) (nI_pos (by omega)) (nI_pos (by omega)) (by rw [nI_clamp (by omega), nI_clamp (by omega)]; omega) (by rw [nI_clamp (by omega), nI_clamp (by omega)]; omega) (fun _ _ => rfl) (Nat.le_of_ble_eq_true rfl) (Nat.le_of_ble_eq_true rfl) dX0_takeWears_20 (fun H locs hP hD hS => ?_)
  rw [nI_clamp (n := (ln * 24 + 0) * 64 + 0) (by omega), nI_clamp (n := 1536) (by omega), xk_cpyI] at hP hD
  have hP : va_P (dC, dI) vwCl [(h0, .inr (2, [.ref h1, .ref h2])), (h2, .inl (cyI, 4608, .inl (fun k => nI ((va_cpy fwea wea ((ln * 24 + 0) * 64 + 0) ((ln * 24 + 0) * 64 + 0) 1536) k)))), (g0, .inr (2, [.ref g1, .ref g2])), (g2, .inl (cyI, 4608, .inl (fun k => nI (fwea k))))] H := hP
  have hD : va_D A [(h0, .inr (2, [.ref h1, .ref h2])), (h2, .inl (cyI, 4608, .inl (fun k => nI ((va_cpy fwea wea ((ln * 24 + 0) * 64 + 0) ((ln * 24 + 0) * 64 + 0) 1536) k)))), (g0, .inr (2, [.ref g1, .ref g2])), (g2, .inl (cyI, 4608, .inl (fun k => nI (fwea k))))] := hD
  have hP9 : va_P (dC, dI) vwCl [(h0, .inr (2, [.ref h1, .ref h2])), (h2, .inl (cyI, 4608, .inl (fun k => nI ((va_cpy fwea wea ((ln * 24 + 0) * 64 + 0) ((ln * 24 + 0) * 64 + 0) (1536)) k)))), (g0, .inr (2, [.ref g1, .ref g2])), (g2, .inl (cyI, 4608, .inl (fun k => nI (fwea k))))] _ := hP
  have hD9 : va_D A [(h0, .inr (2, [.ref h1, .ref h2])), (h2, .inl (cyI, 4608, .inl (fun k => nI ((va_cpy fwea wea ((ln * 24 + 0) * 64 + 0) ((ln * 24 + 0) * 64 + 0) (1536)) k)))), (g0, .inr (2, [.ref g1, .ref g2])), (g2, .inl (cyI, 4608, .inl (fun k => nI (fwea k))))] := hD
  exact W.vret hx hb hr (fun t ht hW => ⟨⟨(), rfl, trivial, ⟨by rw [ht]; exact hP9, hD9⟩⟩, hS.F ht⟩) hS.2.2 dX0_takeWears_23
