theorem inX5_needTooth_X5 : ∀ w ∈ wsX50, w ∈ wsX5_needTooth := by decide +kernel
theorem mX5_needTooth_fieldLink_RX5_27_PinBarrel_comb_LPinBarrel_Comb : Cond.fieldLink RX5 27 "PinBarrel" "comb" "LPinBarrel$Comb;" ∈ wsX5_needTooth := List.mem_of_getElem? (i := 3) (by decide +kernel)
theorem inX5_needTooth_X1 : ∀ w ∈ wsX10, w ∈ wsX5_needTooth := by decide +kernel
theorem mX5_needTooth_fieldLink_RX5_45_PinBarrel_Comb_count_I : Cond.fieldLink RX5 45 "PinBarrel$Comb" "count" "I" ∈ wsX5_needTooth := List.mem_of_getElem? (i := 4) (by decide +kernel)
set_option maxHeartbeats 4000000 in
set_option maxRecDepth 100000 in
theorem kX5_needTooth (l : Launch) (dC : Nat → ClassId) (dI : Nat → Nat → Nat) (cyI cyZ cyJ cyD cyB : ClassId) (p0 g0 : Nat) (t0 : Nat) (w0 : Nat) (h0 : Nat) (s0 : Nat) (v0 : Nat) (kn : Nat) (g1 : Nat) (g2 : Nat) (g3 : Nat) (g4 : Nat) (g5 : Nat) (cnt : Nat) (tn : Nat) (hcn : cnt ≤ 24) (ht : tn < cnt) : Met l yX5_needTooth wsX5_needTooth ({ frames := 0, cells := 0, slots := 0, locals := 0 }) (va_Pc [.ref p0, .int (nI tn)] (xP (dC, dI) vwCl (xT cyI cyZ cyJ cyD cyB) [(p0, .inr (7, [.ref t0, .ref w0, .ref g0, .ref h0, .ref s0, .ref v0, .int (nI kn)])), (g0, .inr (3, [.ref g1, .ref g2, .ref g3, .ref g4, .ref g5, .int (nI cnt)]))])) (va_Qv (fun (u : Unit) => True) (fun _ _ => True) (fun _ => False)) 0 0 (fun _ => False) := by
  refine Met.ofW (cc := cX5_needTooth) (maxL := 2) (ret := none) (by decide) rfl ?_
  intro p e s m args below meth c s₁ B hml hv
  obtain ⟨rfl, hP, hK⟩ := hv
  have hx := B.exec
  have hb := B.bytes
  have hr := B.returns
  have hts := atoms_spec (ws := wsX5_needTooth) B.pre
  have hown : s.vm.findClass RX5 = some m.cls := findClass_of_methodNamed B.named
  have hlocks := B.notSynchronized
  have hS : va_S (fun _ => False) s.heap s.heap [] := va_S.rf
  have hP : va_P (dC, dI) vwCl [(p0, .inr (7, [.ref t0, .ref w0, .ref g0, .ref h0, .ref s0, .ref v0, .int (nI kn)])), (g0, .inr (3, [.ref g1, .ref g2, .ref g3, .ref g4, .ref g5, .int (nI cnt)]))] s.heap := hP
  have hl := lv_entry ([.ref p0, .int (nI tn)]) (n := 2) (Nat.le_of_ble_eq_true rfl)
  rw [lg_entry_eq]
  generalize (lg_sl ([.ref p0, .int (nI tn)]) ++ List.replicate (2 - (lg_sl ([.ref p0, .int (nI tn)])).length) Slot.unset).toArray = ls at hl ⊢
  have hl : lv_has ls 2 [(0, .ref p0), (1, .int (nI tn))] := hl
  refine lv_iload_n hx hb dX5_needTooth_0 rfl (lv_at hl 1 rfl) ?_
  refine xz_lt (tgt := 15) hx hb dX5_needTooth_1 (by decide) (by omega) ?_
  refine lv_iload_n hx hb dX5_needTooth_4 rfl (lv_at hl 1 rfl) ?_
  refine lv_aload_n hx hb dX5_needTooth_5 rfl (lv_at hl 0 rfl) ?_
  refine va_get (D := (dC, dI)) (ci := 7) (v := .ref g0) (C := RX5) (T := TX5) (N := 7) hx hb hts inX5_needTooth_X5 hown hK hP 0 rfl rfl 2 (by decide) (hts _ mX5_needTooth_fieldLink_RX5_27_PinBarrel_comb_LPinBarrel_Comb) (fun _ h9 => h9) rfl dX5_needTooth_6 ?_
  refine va_get (D := (dC, dI)) (ci := 3) (v := .int (nI cnt)) (C := RX1) (T := TX1) (N := 6) hx hb hts inX5_needTooth_X1 hown hK hP 1 rfl rfl 5 (by decide) (hts _ mX5_needTooth_fieldLink_RX5_45_PinBarrel_Comb_count_I) (fun _ h9 => h9) rfl dX5_needTooth_9 ?_
  refine xc_lt (tgt := 26) hx hb dX5_needTooth_12 (by decide) (by omega) (by omega) (fun c_2 => ?_) (fun c_2 => by omega)
  exact W.vret hx hb hr (fun t ht hW => ⟨⟨(), rfl, trivial, trivial⟩, hS.F ht⟩) hS.2.2 dX5_needTooth_26

theorem inX5_needTune_X5 : ∀ w ∈ wsX50, w ∈ wsX5_needTune := by decide +kernel
theorem mX5_needTune_fieldLink_RX5_10_PinBarrel_tunes_LPinBarrel_Tunes : Cond.fieldLink RX5 10 "PinBarrel" "tunes" "LPinBarrel$Tunes;" ∈ wsX5_needTune := List.mem_of_getElem? (i := 3) (by decide +kernel)
theorem inX5_needTune_X3 : ∀ w ∈ wsX30, w ∈ wsX5_needTune := by decide +kernel
theorem mX5_needTune_fieldLink_RX5_69_PinBarrel_Tunes_count_I : Cond.fieldLink RX5 69 "PinBarrel$Tunes" "count" "I" ∈ wsX5_needTune := List.mem_of_getElem? (i := 4) (by decide +kernel)
set_option maxHeartbeats 4000000 in
set_option maxRecDepth 100000 in
theorem kX5_needTune (l : Launch) (dC : Nat → ClassId) (dI : Nat → Nat → Nat) (cyI cyZ cyJ cyD cyB : ClassId) (p0 t0 : Nat) (w0 : Nat) (g0 : Nat) (h0 : Nat) (s0 : Nat) (v0 : Nat) (kn : Nat) (t1 : Nat) (t2 : Nat) (tcn : Nat) (tu : Nat) (htc : tcn ≤ 4) (htu : tu < tcn) : Met l yX5_needTune wsX5_needTune ({ frames := 0, cells := 0, slots := 0, locals := 0 }) (va_Pc [.ref p0, .int (nI tu)] (xP (dC, dI) vwCl (xT cyI cyZ cyJ cyD cyB) [(p0, .inr (7, [.ref t0, .ref w0, .ref g0, .ref h0, .ref s0, .ref v0, .int (nI kn)])), (t0, .inr (5, [.ref t1, .ref t2, .int (nI tcn)]))])) (va_Qv (fun (u : Unit) => True) (fun _ _ => True) (fun _ => False)) 0 0 (fun _ => False) := by
  refine Met.ofW (cc := cX5_needTune) (maxL := 2) (ret := none) (by decide) rfl ?_
  intro p e s m args below meth c s₁ B hml hv
  obtain ⟨rfl, hP, hK⟩ := hv
  have hx := B.exec
  have hb := B.bytes
  have hr := B.returns
  have hts := atoms_spec (ws := wsX5_needTune) B.pre
  have hown : s.vm.findClass RX5 = some m.cls := findClass_of_methodNamed B.named
  have hlocks := B.notSynchronized
  have hS : va_S (fun _ => False) s.heap s.heap [] := va_S.rf
  have hP : va_P (dC, dI) vwCl [(p0, .inr (7, [.ref t0, .ref w0, .ref g0, .ref h0, .ref s0, .ref v0, .int (nI kn)])), (t0, .inr (5, [.ref t1, .ref t2, .int (nI tcn)]))] s.heap := hP
  have hl := lv_entry ([.ref p0, .int (nI tu)]) (n := 2) (Nat.le_of_ble_eq_true rfl)
  rw [lg_entry_eq]
  generalize (lg_sl ([.ref p0, .int (nI tu)]) ++ List.replicate (2 - (lg_sl ([.ref p0, .int (nI tu)])).length) Slot.unset).toArray = ls at hl ⊢
  have hl : lv_has ls 2 [(0, .ref p0), (1, .int (nI tu))] := hl
  refine lv_iload_n hx hb dX5_needTune_0 rfl (lv_at hl 1 rfl) ?_
  refine xz_lt (tgt := 15) hx hb dX5_needTune_1 (by decide) (by omega) ?_
  refine lv_iload_n hx hb dX5_needTune_4 rfl (lv_at hl 1 rfl) ?_
  refine lv_aload_n hx hb dX5_needTune_5 rfl (lv_at hl 0 rfl) ?_
  refine va_get (D := (dC, dI)) (ci := 7) (v := .ref t0) (C := RX5) (T := TX5) (N := 7) hx hb hts inX5_needTune_X5 hown hK hP 0 rfl rfl 0 (by decide) (hts _ mX5_needTune_fieldLink_RX5_10_PinBarrel_tunes_LPinBarrel_Tunes) (fun _ h9 => h9) rfl dX5_needTune_6 ?_
  refine va_get (D := (dC, dI)) (ci := 5) (v := .int (nI tcn)) (C := RX3) (T := TX3) (N := 3) hx hb hts inX5_needTune_X3 hown hK hP 1 rfl rfl 2 (by decide) (hts _ mX5_needTune_fieldLink_RX5_69_PinBarrel_Tunes_count_I) (fun _ h9 => h9) rfl dX5_needTune_9 ?_
  refine xc_lt (tgt := 26) hx hb dX5_needTune_12 (by decide) (by omega) (by omega) (fun c_2 => ?_) (fun c_2 => by omega)
  exact W.vret hx hb hr (fun t ht hW => ⟨⟨(), rfl, trivial, trivial⟩, hS.F ht⟩) hS.2.2 dX5_needTune_26

theorem inX5_needSound_X5 : ∀ w ∈ wsX50, w ∈ wsX5_needSound := by decide +kernel
theorem mX5_needSound_fieldLink_RX5_37_PinBarrel_sounds_LPinBarrel_Sounds : Cond.fieldLink RX5 37 "PinBarrel" "sounds" "LPinBarrel$Sounds;" ∈ wsX5_needSound := List.mem_of_getElem? (i := 3) (by decide +kernel)
theorem inX5_needSound_X2 : ∀ w ∈ wsX20, w ∈ wsX5_needSound := by decide +kernel
theorem mX5_needSound_fieldLink_RX5_251_PinBarrel_Sounds_kept_I : Cond.fieldLink RX5 251 "PinBarrel$Sounds" "kept" "I" ∈ wsX5_needSound := List.mem_of_getElem? (i := 4) (by decide +kernel)
set_option maxHeartbeats 4000000 in
set_option maxRecDepth 100000 in
theorem kX5_needSound (l : Launch) (dC : Nat → ClassId) (dI : Nat → Nat → Nat) (cyI cyZ cyJ cyD cyB : ClassId) (p0 s0 : Nat) (t0 : Nat) (w0 : Nat) (g0 : Nat) (h0 : Nat) (v0 : Nat) (kn : Nat) (s1 : Nat) (s2 : Nat) (old : Nat) (kep : Nat) (evr : Nat) (sn : Nat) (hke : kep ≤ 40) (hsn : sn < kep) : Met l yX5_needSound wsX5_needSound ({ frames := 0, cells := 0, slots := 0, locals := 0 }) (va_Pc [.ref p0, .int (nI sn)] (xP (dC, dI) vwCl (xT cyI cyZ cyJ cyD cyB) [(p0, .inr (7, [.ref t0, .ref w0, .ref g0, .ref h0, .ref s0, .ref v0, .int (nI kn)])), (s0, .inr (4, [.ref s1, .ref s2, .int (nI old), .int (nI kep), .int (nI evr)]))])) (va_Qv (fun (u : Unit) => True) (fun _ _ => True) (fun _ => False)) 0 0 (fun _ => False) := by
  refine Met.ofW (cc := cX5_needSound) (maxL := 2) (ret := none) (by decide) rfl ?_
  intro p e s m args below meth c s₁ B hml hv
  obtain ⟨rfl, hP, hK⟩ := hv
  have hx := B.exec
  have hb := B.bytes
  have hr := B.returns
  have hts := atoms_spec (ws := wsX5_needSound) B.pre
  have hown : s.vm.findClass RX5 = some m.cls := findClass_of_methodNamed B.named
  have hlocks := B.notSynchronized
  have hS : va_S (fun _ => False) s.heap s.heap [] := va_S.rf
  have hP : va_P (dC, dI) vwCl [(p0, .inr (7, [.ref t0, .ref w0, .ref g0, .ref h0, .ref s0, .ref v0, .int (nI kn)])), (s0, .inr (4, [.ref s1, .ref s2, .int (nI old), .int (nI kep), .int (nI evr)]))] s.heap := hP
  have hl := lv_entry ([.ref p0, .int (nI sn)]) (n := 2) (Nat.le_of_ble_eq_true rfl)
  rw [lg_entry_eq]
  generalize (lg_sl ([.ref p0, .int (nI sn)]) ++ List.replicate (2 - (lg_sl ([.ref p0, .int (nI sn)])).length) Slot.unset).toArray = ls at hl ⊢
  have hl : lv_has ls 2 [(0, .ref p0), (1, .int (nI sn))] := hl
  refine lv_iload_n hx hb dX5_needSound_0 rfl (lv_at hl 1 rfl) ?_
  refine xz_lt (tgt := 15) hx hb dX5_needSound_1 (by decide) (by omega) ?_
  refine lv_iload_n hx hb dX5_needSound_4 rfl (lv_at hl 1 rfl) ?_
  refine lv_aload_n hx hb dX5_needSound_5 rfl (lv_at hl 0 rfl) ?_
  refine va_get (D := (dC, dI)) (ci := 7) (v := .ref s0) (C := RX5) (T := TX5) (N := 7) hx hb hts inX5_needSound_X5 hown hK hP 0 rfl rfl 4 (by decide) (hts _ mX5_needSound_fieldLink_RX5_37_PinBarrel_sounds_LPinBarrel_Sounds) (fun _ h9 => h9) rfl dX5_needSound_6 ?_
  refine va_get (D := (dC, dI)) (ci := 4) (v := .int (nI kep)) (C := RX2) (T := TX2) (N := 5) hx hb hts inX5_needSound_X2 hown hK hP 1 rfl rfl 3 (by decide) (hts _ mX5_needSound_fieldLink_RX5_251_PinBarrel_Sounds_kept_I) (fun _ h9 => h9) rfl dX5_needSound_9 ?_
  refine xc_lt (tgt := 26) hx hb dX5_needSound_12 (by decide) (by omega) (by omega) (fun c_2 => ?_) (fun c_2 => by omega)
  exact W.vret hx hb hr (fun t ht hW => ⟨⟨(), rfl, trivial, trivial⟩, hS.F ht⟩) hS.2.2 dX5_needSound_26

set_option maxHeartbeats 4000000 in
set_option maxRecDepth 100000 in
theorem kX5_needLine (l : Launch) (ln : Nat) (hln : ln < 3) : Met l yX5_needLine wsX5_needLine ({ frames := 0, cells := 0, slots := 0, locals := 0 }) (va_Pc [.int (nI ln)] (fun _ => True)) (va_Qv (fun (u : Unit) => True) (fun _ _ => True) (fun _ => False)) 0 0 (fun _ => False) := by
  refine Met.ofW (cc := cX5_needLine) (maxL := 1) (ret := none) (by decide) rfl ?_
  intro p e s m args below meth c s₁ B hml hv
  obtain ⟨rfl, -⟩ := hv
  have hx := B.exec
  have hb := B.bytes
  have hr := B.returns
  have hts := atoms_spec (ws := wsX5_needLine) B.pre
  have hown : s.vm.findClass RX5 = some m.cls := findClass_of_methodNamed B.named
  have hlocks := B.notSynchronized
  have hS : va_S (fun _ => False) s.heap s.heap [] := va_S.rf
  have hl := lv_entry ([.int (nI ln)]) (n := 1) (Nat.le_of_ble_eq_true rfl)
  rw [lg_entry_eq]
  generalize (lg_sl ([.int (nI ln)]) ++ List.replicate (1 - (lg_sl ([.int (nI ln)])).length) Slot.unset).toArray = ls at hl ⊢
  have hl : lv_has ls 1 [(0, .int (nI ln))] := hl
  refine lv_iload_n hx hb dX5_needLine_0 rfl (lv_at hl 0 rfl) ?_
  refine xz_lt (tgt := 9) hx hb dX5_needLine_1 (by decide) (by omega) ?_
  refine lv_iload_n hx hb dX5_needLine_4 rfl (lv_at hl 0 rfl) ?_
  refine lv_iconst (v := nI 3) hx hb dX5_needLine_5 (by decide) ?_
  refine xc_lt (tgt := 20) hx hb dX5_needLine_6 (by decide) (by omega) (by omega) (fun c_2 => ?_) (fun c_2 => by omega)
  exact W.vret hx hb hr (fun t ht hW => ⟨⟨(), rfl, trivial, trivial⟩, hS.F ht⟩) hS.2.2 dX5_needLine_20

set_option maxHeartbeats 4000000 in
set_option maxRecDepth 100000 in
theorem kX5_needPlace (l : Launch) (pl : Nat) (hpl : pl < 64) : Met l yX5_needPlace wsX5_needPlace ({ frames := 0, cells := 0, slots := 0, locals := 0 }) (va_Pc [.int (nI pl)] (fun _ => True)) (va_Qv (fun (u : Unit) => True) (fun _ _ => True) (fun _ => False)) 0 0 (fun _ => False) := by
  refine Met.ofW (cc := cX5_needPlace) (maxL := 1) (ret := none) (by decide) rfl ?_
  intro p e s m args below meth c s₁ B hml hv
  obtain ⟨rfl, -⟩ := hv
  have hx := B.exec
  have hb := B.bytes
  have hr := B.returns
  have hts := atoms_spec (ws := wsX5_needPlace) B.pre
  have hown : s.vm.findClass RX5 = some m.cls := findClass_of_methodNamed B.named
  have hlocks := B.notSynchronized
  have hS : va_S (fun _ => False) s.heap s.heap [] := va_S.rf
  have hl := lv_entry ([.int (nI pl)]) (n := 1) (Nat.le_of_ble_eq_true rfl)
  rw [lg_entry_eq]
  generalize (lg_sl ([.int (nI pl)]) ++ List.replicate (1 - (lg_sl ([.int (nI pl)])).length) Slot.unset).toArray = ls at hl ⊢
  have hl : lv_has ls 1 [(0, .int (nI pl))] := hl
  refine lv_iload_n hx hb dX5_needPlace_0 rfl (lv_at hl 0 rfl) ?_
  refine xz_lt (tgt := 10) hx hb dX5_needPlace_1 (by decide) (by omega) ?_
  refine lv_iload_n hx hb dX5_needPlace_4 rfl (lv_at hl 0 rfl) ?_
  refine lv_bipush (v := nI 64) hx hb dX5_needPlace_5 (by decide) ?_
  refine xc_lt (tgt := 21) hx hb dX5_needPlace_7 (by decide) (by omega) (by omega) (fun c_2 => ?_) (fun c_2 => by omega)
  exact W.vret hx hb hr (fun t ht hW => ⟨⟨(), rfl, trivial, trivial⟩, hS.F ht⟩) hS.2.2 dX5_needPlace_21

set_option maxHeartbeats 4000000 in
set_option maxRecDepth 100000 in
theorem kX5_needPitch (l : Launch) (pi : Nat) (hpi : pi < 48) : Met l yX5_needPitch wsX5_needPitch ({ frames := 0, cells := 0, slots := 0, locals := 0 }) (va_Pc [.int (nI pi)] (fun _ => True)) (va_Qv (fun (u : Unit) => True) (fun _ _ => True) (fun _ => False)) 0 0 (fun _ => False) := by
  refine Met.ofW (cc := cX5_needPitch) (maxL := 1) (ret := none) (by decide) rfl ?_
  intro p e s m args below meth c s₁ B hml hv
  obtain ⟨rfl, -⟩ := hv
  have hx := B.exec
  have hb := B.bytes
  have hr := B.returns
  have hts := atoms_spec (ws := wsX5_needPitch) B.pre
  have hown : s.vm.findClass RX5 = some m.cls := findClass_of_methodNamed B.named
  have hlocks := B.notSynchronized
  have hS : va_S (fun _ => False) s.heap s.heap [] := va_S.rf
  have hl := lv_entry ([.int (nI pi)]) (n := 1) (Nat.le_of_ble_eq_true rfl)
  rw [lg_entry_eq]
  generalize (lg_sl ([.int (nI pi)]) ++ List.replicate (1 - (lg_sl ([.int (nI pi)])).length) Slot.unset).toArray = ls at hl ⊢
  have hl : lv_has ls 1 [(0, .int (nI pi))] := hl
  refine lv_iload_n hx hb dX5_needPitch_0 rfl (lv_at hl 0 rfl) ?_
  refine xz_lt (tgt := 10) hx hb dX5_needPitch_1 (by decide) (by omega) ?_
  refine lv_iload_n hx hb dX5_needPitch_4 rfl (lv_at hl 0 rfl) ?_
  refine lv_bipush (v := nI 48) hx hb dX5_needPitch_5 (by decide) ?_
  refine xc_lt (tgt := 21) hx hb dX5_needPitch_7 (by decide) (by omega) (by omega) (fun c_2 => ?_) (fun c_2 => by omega)
  exact W.vret hx hb hr (fun t ht hW => ⟨⟨(), rfl, trivial, trivial⟩, hS.F ht⟩) hS.2.2 dX5_needPitch_21

set_option maxHeartbeats 4000000 in
set_option maxRecDepth 100000 in
theorem kX5_needSteps (l : Launch) (mny : Nat) (hmn : 1 ≤ mny ∧ mny ≤ 128) : Met l yX5_needSteps wsX5_needSteps ({ frames := 0, cells := 0, slots := 0, locals := 0 }) (va_Pc [.int (nI mny)] (fun _ => True)) (va_Qv (fun (u : Unit) => True) (fun _ _ => True) (fun _ => False)) 0 0 (fun _ => False) := by
  refine Met.ofW (cc := cX5_needSteps) (maxL := 1) (ret := none) (by decide) rfl ?_
  intro p e s m args below meth c s₁ B hml hv
  obtain ⟨rfl, -⟩ := hv
  have hx := B.exec
  have hb := B.bytes
  have hr := B.returns
  have hts := atoms_spec (ws := wsX5_needSteps) B.pre
  have hown : s.vm.findClass RX5 = some m.cls := findClass_of_methodNamed B.named
  have hlocks := B.notSynchronized
  have hS : va_S (fun _ => False) s.heap s.heap [] := va_S.rf
  have hl := lv_entry ([.int (nI mny)]) (n := 1) (Nat.le_of_ble_eq_true rfl)
  rw [lg_entry_eq]
  generalize (lg_sl ([.int (nI mny)]) ++ List.replicate (1 - (lg_sl ([.int (nI mny)])).length) Slot.unset).toArray = ls at hl ⊢
  have hl : lv_has ls 1 [(0, .int (nI mny))] := hl
  refine lv_iload_n hx hb dX5_needSteps_0 rfl (lv_at hl 0 rfl) ?_
  refine lv_iconst (v := nI 1) hx hb dX5_needSteps_1 (by decide) ?_
  refine xc_lt (tgt := 12) hx hb dX5_needSteps_2 (by decide) (by omega) (by omega) (fun c_1 => by omega) (fun c_1 => ?_)
  refine lv_iload_n hx hb dX5_needSteps_5 rfl (lv_at hl 0 rfl) ?_
  refine lv_sipush (v := nI 128) hx hb dX5_needSteps_6 (by decide) ?_
  refine xc_le (tgt := 23) hx hb dX5_needSteps_9 (by decide) (by omega) (by omega) (fun c_2 => ?_) (fun c_2 => by omega)
  exact W.vret hx hb hr (fun t ht hW => ⟨⟨(), rfl, trivial, trivial⟩, hS.F ht⟩) hS.2.2 dX5_needSteps_23

set_option maxHeartbeats 4000000 in
set_option maxRecDepth 100000 in
theorem kX5_needQuestion (l : Launch) (wh : Nat) (qs : Nat) (hqs : qs ≤ 15) (hwh : wh < qs) : Met l yX5_needQuestion wsX5_needQuestion ({ frames := 0, cells := 0, slots := 0, locals := 0 }) (va_Pc [.int (nI wh), .int (nI qs)] (fun _ => True)) (va_Qv (fun (u : Unit) => True) (fun _ _ => True) (fun _ => False)) 0 0 (fun _ => False) := by
  refine Met.ofW (cc := cX5_needQuestion) (maxL := 2) (ret := none) (by decide) rfl ?_
  intro p e s m args below meth c s₁ B hml hv
  obtain ⟨rfl, -⟩ := hv
  have hx := B.exec
  have hb := B.bytes
  have hr := B.returns
  have hts := atoms_spec (ws := wsX5_needQuestion) B.pre
  have hown : s.vm.findClass RX5 = some m.cls := findClass_of_methodNamed B.named
  have hlocks := B.notSynchronized
  have hS : va_S (fun _ => False) s.heap s.heap [] := va_S.rf
  have hl := lv_entry ([.int (nI wh), .int (nI qs)]) (n := 2) (Nat.le_of_ble_eq_true rfl)
  rw [lg_entry_eq]
  generalize (lg_sl ([.int (nI wh), .int (nI qs)]) ++ List.replicate (2 - (lg_sl ([.int (nI wh), .int (nI qs)])).length) Slot.unset).toArray = ls at hl ⊢
  have hl : lv_has ls 2 [(0, .int (nI wh)), (1, .int (nI qs))] := hl
  refine lv_iload_n hx hb dX5_needQuestion_0 rfl (lv_at hl 0 rfl) ?_
  refine xz_lt (tgt := 9) hx hb dX5_needQuestion_1 (by decide) (by omega) ?_
  refine lv_iload_n hx hb dX5_needQuestion_4 rfl (lv_at hl 0 rfl) ?_
  refine lv_iload_n hx hb dX5_needQuestion_5 rfl (lv_at hl 1 rfl) ?_
  refine xc_lt (tgt := 20) hx hb dX5_needQuestion_6 (by decide) (by omega) (by omega) (fun c_2 => ?_) (fun c_2 => by omega)
  exact W.vret hx hb hr (fun t ht hW => ⟨⟨(), rfl, trivial, trivial⟩, hS.F ht⟩) hS.2.2 dX5_needQuestion_20

set_option maxHeartbeats 4000000 in
set_option maxRecDepth 100000 in
theorem kX5_needKey (l : Launch) (hi : Int32) (hk1 : ¬ hi < (-24)) (hk2 : hi ≤ nI 24) : Met l yX5_needKey wsX5_needKey ({ frames := 0, cells := 0, slots := 0, locals := 0 }) (va_Pc [.int hi] (fun _ => True)) (va_Qv (fun (u : Unit) => True) (fun _ _ => True) (fun _ => False)) 0 0 (fun _ => False) := by
  refine Met.ofW (cc := cX5_needKey) (maxL := 1) (ret := none) (by decide) rfl ?_
  intro p e s m args below meth c s₁ B hml hv
  obtain ⟨rfl, -⟩ := hv
  have hx := B.exec
  have hb := B.bytes
  have hr := B.returns
  have hts := atoms_spec (ws := wsX5_needKey) B.pre
  have hown : s.vm.findClass RX5 = some m.cls := findClass_of_methodNamed B.named
  have hlocks := B.notSynchronized
  have hS : va_S (fun _ => False) s.heap s.heap [] := va_S.rf
  have hl := lv_entry ([.int hi]) (n := 1) (Nat.le_of_ble_eq_true rfl)
  rw [lg_entry_eq]
  generalize (lg_sl ([.int hi]) ++ List.replicate (1 - (lg_sl ([.int hi])).length) Slot.unset).toArray = ls at hl ⊢
  have hl : lv_has ls 1 [(0, .int hi)] := hl
  refine lv_iload_n hx hb dX5_needKey_0 rfl (lv_at hl 0 rfl) ?_
  refine lv_bipush (v := (-24)) hx hb dX5_needKey_1 (by decide) ?_
  refine lv_icmp_lt (tgt := 12) hx hb dX5_needKey_3 (by decide) (fun c_1 => absurd c_1 hk1) (fun c_1 => ?_)
  refine lv_iload_n hx hb dX5_needKey_6 rfl (lv_at hl 0 rfl) ?_
  refine lv_bipush (v := nI 24) hx hb dX5_needKey_7 (by decide) ?_
  refine lv_icmp_le (tgt := 23) hx hb dX5_needKey_9 (by decide) (fun c_2 => ?_) (fun c_2 => absurd hk2 c_2)
  exact W.vret hx hb hr (fun t ht hW => ⟨⟨(), rfl, trivial, trivial⟩, hS.F ht⟩) hS.2.2 dX5_needKey_23

theorem inX5_tooth_X5 : ∀ w ∈ wsX50, w ∈ wsX5_tooth := by decide +kernel
theorem mX5_tooth_fieldLink_RX5_27_PinBarrel_comb_LPinBarrel_Comb : Cond.fieldLink RX5 27 "PinBarrel" "comb" "LPinBarrel$Comb;" ∈ wsX5_tooth := List.mem_of_getElem? (i := 3) (by decide +kernel)
theorem inX5_tooth_X1 : ∀ w ∈ wsX10, w ∈ wsX5_tooth := by decide +kernel
theorem mX5_tooth_fieldLink_RX5_45_PinBarrel_Comb_count_I : Cond.fieldLink RX5 45 "PinBarrel$Comb" "count" "I" ∈ wsX5_tooth := List.mem_of_getElem? (i := 4) (by decide +kernel)
set_option maxHeartbeats 4000000 in
set_option maxRecDepth 100000 in
theorem kX5_tooth (l : Launch) (dC : Nat → ClassId) (dI : Nat → Nat → Nat) (cyI cyZ cyJ cyD cyB : ClassId) (p0 g0 g1 : Nat) (t0 : Nat) (w0 : Nat) (h0 : Nat) (s0 : Nat) (v0 : Nat) (kn : Nat) (g2 : Nat) (g3 : Nat) (g4 : Nat) (g5 : Nat) (cnt : Nat) (pit : Nat → Nat) (pi : Nat) (hcn : cnt < 24) (hpi : pi < 48) : Met l yX5_tooth wsX5_tooth ({ frames := 1, cells := 0, slots := 0, locals := 21 }) (va_Pc [.ref p0, .int (nI pi)] (xM (dC, dI) vwCl (xT cyI cyZ cyJ cyD cyB) [(p0, .inr (7, [.ref t0, .ref w0, .ref g0, .ref h0, .ref s0, .ref v0, .int (nI kn)])), (g0, .inr (3, [.ref g1, .ref g2, .ref g3, .ref g4, .ref g5, .int (nI cnt)])), (g1, .inl (cyI, 24, .inl (fun k => nI (pit k))))])) (va_Qi (fun (r : Int32) (u : Unit) => r = nI (cnt + 1 - 1)) (fun u t => va_P (dC, dI) vwCl [(p0, .inr (7, [.ref t0, .ref w0, .ref g0, .ref h0, .ref s0, .ref v0, .int (nI kn)])), (g0, .inr (3, [.ref g1, .ref g2, .ref g3, .ref g4, .ref g5, .int (nI (cnt + 1))])), (g1, .inl (cyI, 24, .inl (fun k => nI ((va_up pit cnt pi) k))))] t.heap ∧ va_D (xA [(p0, .inr (7, [.ref t0, .ref w0, .ref g0, .ref h0, .ref s0, .ref v0, .int (nI kn)])), (g0, .inr (3, [.ref g1, .ref g2, .ref g3, .ref g4, .ref g5, .int (nI cnt)])), (g1, .inl (cyI, 24, .inl (fun k => nI (pit k))))]) [(p0, .inr (7, [.ref t0, .ref w0, .ref g0, .ref h0, .ref s0, .ref v0, .int (nI kn)])), (g0, .inr (3, [.ref g1, .ref g2, .ref g3, .ref g4, .ref g5, .int (nI (cnt + 1))])), (g1, .inl (cyI, 24, .inl (fun k => nI ((va_up pit cnt pi) k))))]) (xA [(p0, .inr (7, [.ref t0, .ref w0, .ref g0, .ref h0, .ref s0, .ref v0, .int (nI kn)])), (g0, .inr (3, [.ref g1, .ref g2, .ref g3, .ref g4, .ref g5, .int (nI cnt)])), (g1, .inl (cyI, 24, .inl (fun k => nI (pit k))))])) 0 0 (xA [(p0, .inr (7, [.ref t0, .ref w0, .ref g0, .ref h0, .ref s0, .ref v0, .int (nI kn)])), (g0, .inr (3, [.ref g1, .ref g2, .ref g3, .ref g4, .ref g5, .int (nI cnt)])), (g1, .inl (cyI, 24, .inl (fun k => nI (pit k))))]) := by
  refine Met.ofW (cc := cX5_tooth) (maxL := 2) (ret := (some .int)) (by decide) rfl ?_
  intro p e s m args below meth c s₁ B hml hv
  obtain ⟨rfl, hP, hK, hD0⟩ := hv
  have hx := B.exec
  have hb := B.bytes
  have hr := B.returns
  have hts := atoms_spec (ws := wsX5_tooth) B.pre
  have hown : s.vm.findClass RX5 = some m.cls := findClass_of_methodNamed B.named
  have hlocks := B.notSynchronized
  have hD := xA_self hD0
  clear hD0
  generalize hAe : xA [(p0, .inr (7, [.ref t0, .ref w0, .ref g0, .ref h0, .ref s0, .ref v0, .int (nI kn)])), (g0, .inr (3, [.ref g1, .ref g2, .ref g3, .ref g4, .ref g5, .int (nI cnt)])), (g1, .inl (cyI, 24, .inl (fun k => nI (pit k))))] = A at hD ⊢
  have hS : va_S A s.heap s.heap [] := va_S.rf
  have hP : va_P (dC, dI) vwCl [(p0, .inr (7, [.ref t0, .ref w0, .ref g0, .ref h0, .ref s0, .ref v0, .int (nI kn)])), (g0, .inr (3, [.ref g1, .ref g2, .ref g3, .ref g4, .ref g5, .int (nI cnt)])), (g1, .inl (cyI, 24, .inl (fun k => nI (pit k))))] s.heap := hP
  have hl := lv_entry ([.ref p0, .int (nI pi)]) (n := 2) (Nat.le_of_ble_eq_true rfl)
  rw [lg_entry_eq]
  generalize (lg_sl ([.ref p0, .int (nI pi)]) ++ List.replicate (2 - (lg_sl ([.ref p0, .int (nI pi)])).length) Slot.unset).toArray = ls at hl ⊢
  have hl : lv_has ls 2 [(0, .ref p0), (1, .int (nI pi))] := hl
  refine lv_iload_n hx hb dX5_tooth_0 rfl (lv_at hl 1 rfl) ?_
  refine xs_v (As := [.int (nI pi)]) (rest := []) ⟨hx, hb, hml, hown, hts⟩ (kX5_needPitch l pi (by omega)) (va_cwS 1 hts gX5_tooth_X5_needPitch rfl rfl rfl (by decide +kernel) ⟨Nat.le_of_ble_eq_true rfl, Nat.le_of_ble_eq_true rfl⟩) hP hS rfl hl.1 rfl (Nat.le_of_ble_eq_true rfl) dX5_tooth_1 ⟨Nat.zero_le _, Nat.zero_le _⟩ (fun H locs hP hS => ?_)
  refine lv_aload_n hx hb dX5_tooth_4 rfl (lv_at hl 0 rfl) ?_
  refine va_get (D := (dC, dI)) (ci := 7) (v := .ref g0) (C := RX5) (T := TX5) (N := 7) hx hb hts inX5_tooth_X5 hown hK hP 0 rfl rfl 2 (by decide) (hts _ mX5_tooth_fieldLink_RX5_27_PinBarrel_comb_LPinBarrel_Comb) (fun _ h9 => h9) rfl dX5_tooth_5 ?_
  refine va_get (D := (dC, dI)) (ci := 3) (v := .int (nI cnt)) (C := RX1) (T := TX1) (N := 6) hx hb hts inX5_tooth_X1 hown hK hP 1 rfl rfl 5 (by decide) (hts _ mX5_tooth_fieldLink_RX5_45_PinBarrel_Comb_count_I) (fun _ h9 => h9) rfl dX5_tooth_8 ?_
  refine lv_bipush (v := nI 24) hx hb dX5_tooth_11 (by decide) ?_
  refine xc_lt (tgt := 26) hx hb dX5_tooth_13 (by decide) (by omega) (by omega) (fun c_2 => ?_) (fun c_2 => by omega)
  refine lv_aload_n hx hb dX5_tooth_26 rfl (lv_at hl 0 rfl) ?_
  refine va_get (D := (dC, dI)) (ci := 7) (v := .ref g0) (C := RX5) (T := TX5) (N := 7) hx hb hts inX5_tooth_X5 hown hK hP 0 rfl rfl 2 (by decide) (hts _ mX5_tooth_fieldLink_RX5_27_PinBarrel_comb_LPinBarrel_Comb) (fun _ h9 => h9) rfl dX5_tooth_27 ?_
  refine lv_iload_n hx hb dX5_tooth_30 rfl (lv_at hl 1 rfl) ?_
  refine xm_i (As := [.int (nI pi)]) (rest := []) (q := (RX1, TX1, 6)) ⟨hx, hb, hml, hown, hts⟩ (kX1_addTooth l dC dI cyI cyZ cyJ cyD cyB g0 g1 g2 g3 g4 g5 pit cnt pi (by omega)) (cwV 1 hts gX5_tooth_X1_addTooth rfl rfl rfl (by decide +kernel) ⟨Nat.le_of_ble_eq_true rfl, Nat.le_of_ble_eq_true rfl⟩) hK hP hD hS [1, 2] rfl (by decide) 1 3 rfl rfl rfl hl.1 rfl (Nat.le_of_ble_eq_true rfl) dX5_tooth_31 ⟨Nat.zero_le _, Nat.zero_le _⟩ (fun r_3 u_4 H1 locs hw hP1 hD1 hk1 hS => ?_)
  have hw : r_3 = nI (cnt + 1 - 1) := hw
  subst hw
  obtain ⟨hP, hD⟩ := xW_join (wr := [(p0, .inr (7, [.ref t0, .ref w0, .ref g0, .ref h0, .ref s0, .ref v0, .int (nI kn)]))]) (w1 := [(g0, .inr (3, [.ref g1, .ref g2, .ref g3, .ref g4, .ref g5, .int (nI (cnt + 1))])), (g1, .inl (cyI, 24, .inl (fun k => nI ((va_up pit cnt pi) k))))]) (wN := [(p0, .inr (7, [.ref t0, .ref w0, .ref g0, .ref h0, .ref s0, .ref v0, .int (nI kn)])), (g0, .inr (3, [.ref g1, .ref g2, .ref g3, .ref g4, .ref g5, .int (nI (cnt + 1))])), (g1, .inl (cyI, 24, .inl (fun k => nI ((va_up pit cnt pi) k))))]) hP hD [1, 2] [0] [0, 1, 2] rfl rfl (by decide) (by decide) hk1 hP1 hD1 (by decide) rfl
  clear hP1 hD1 hk1
  generalize H1 = H at hP hS ⊢
  have hP9 : va_P (dC, dI) vwCl [(p0, .inr (7, [.ref t0, .ref w0, .ref g0, .ref h0, .ref s0, .ref v0, .int (nI kn)])), (g0, .inr (3, [.ref g1, .ref g2, .ref g3, .ref g4, .ref g5, .int (nI (cnt + 1))])), (g1, .inl (cyI, 24, .inl (fun k => nI ((va_up pit cnt pi) k))))] _ := hP
  have hD9 : va_D A [(p0, .inr (7, [.ref t0, .ref w0, .ref g0, .ref h0, .ref s0, .ref v0, .int (nI kn)])), (g0, .inr (3, [.ref g1, .ref g2, .ref g3, .ref g4, .ref g5, .int (nI (cnt + 1))])), (g1, .inl (cyI, 24, .inl (fun k => nI ((va_up pit cnt pi) k))))] := hD
  exact W.iret (v := nI (cnt + 1 - 1)) hx hb hr (fun t ht hW => ⟨⟨nI (cnt + 1 - 1), (), rfl, rfl, ⟨by rw [ht]; exact hP9, hD9⟩⟩, hS.F ht⟩) hS.2.2 dX5_tooth_34

theorem inX5_file_X5 : ∀ w ∈ wsX50, w ∈ wsX5_file := by decide +kernel
theorem mX5_file_fieldLink_RX5_27_PinBarrel_comb_LPinBarrel_Comb : Cond.fieldLink RX5 27 "PinBarrel" "comb" "LPinBarrel$Comb;" ∈ wsX5_file := List.mem_of_getElem? (i := 1) (by decide +kernel)
theorem inX5_file_X1 : ∀ w ∈ wsX10, w ∈ wsX5_file := by decide +kernel
theorem mX5_file_fieldLink_RX5_65_PinBarrel_Comb_pitch_I : Cond.fieldLink RX5 65 "PinBarrel$Comb" "pitch" "[I" ∈ wsX5_file := List.mem_of_getElem? (i := 2) (by decide +kernel)
set_option maxHeartbeats 4000000 in
set_option maxRecDepth 100000 in
theorem kX5_file (l : Launch) (dC : Nat → ClassId) (dI : Nat → Nat → Nat) (cyI cyZ cyJ cyD cyB : ClassId) (p0 g0 g1 : Nat) (t0 : Nat) (w0 : Nat) (h0 : Nat) (s0 : Nat) (v0 : Nat) (kn : Nat) (g2 : Nat) (g3 : Nat) (g4 : Nat) (g5 : Nat) (cnt : Nat) (pit : Nat → Nat) (tn : Nat) (pi : Nat) (hcn : cnt ≤ 24) (ht : tn < cnt) (hpi : pi < 48) : Met l yX5_file wsX5_file ({ frames := 1, cells := 0, slots := 0, locals := 21 }) (va_Pc [.ref p0, .int (nI tn), .int (nI pi)] (xM (dC, dI) vwCl (xT cyI cyZ cyJ cyD cyB) [(p0, .inr (7, [.ref t0, .ref w0, .ref g0, .ref h0, .ref s0, .ref v0, .int (nI kn)])), (g0, .inr (3, [.ref g1, .ref g2, .ref g3, .ref g4, .ref g5, .int (nI cnt)])), (g1, .inl (cyI, 24, .inl (fun k => nI (pit k))))])) (va_Qi (fun (r : Int32) (u : Unit) => r = nI (pit tn)) (fun u t => va_P (dC, dI) vwCl [(p0, .inr (7, [.ref t0, .ref w0, .ref g0, .ref h0, .ref s0, .ref v0, .int (nI kn)])), (g0, .inr (3, [.ref g1, .ref g2, .ref g3, .ref g4, .ref g5, .int (nI cnt)])), (g1, .inl (cyI, 24, .inl (fun k => nI ((va_up pit tn pi) k))))] t.heap ∧ va_D (xA [(p0, .inr (7, [.ref t0, .ref w0, .ref g0, .ref h0, .ref s0, .ref v0, .int (nI kn)])), (g0, .inr (3, [.ref g1, .ref g2, .ref g3, .ref g4, .ref g5, .int (nI cnt)])), (g1, .inl (cyI, 24, .inl (fun k => nI (pit k))))]) [(p0, .inr (7, [.ref t0, .ref w0, .ref g0, .ref h0, .ref s0, .ref v0, .int (nI kn)])), (g0, .inr (3, [.ref g1, .ref g2, .ref g3, .ref g4, .ref g5, .int (nI cnt)])), (g1, .inl (cyI, 24, .inl (fun k => nI ((va_up pit tn pi) k))))]) (xA [(p0, .inr (7, [.ref t0, .ref w0, .ref g0, .ref h0, .ref s0, .ref v0, .int (nI kn)])), (g0, .inr (3, [.ref g1, .ref g2, .ref g3, .ref g4, .ref g5, .int (nI cnt)])), (g1, .inl (cyI, 24, .inl (fun k => nI (pit k))))])) 0 0 (xA [(p0, .inr (7, [.ref t0, .ref w0, .ref g0, .ref h0, .ref s0, .ref v0, .int (nI kn)])), (g0, .inr (3, [.ref g1, .ref g2, .ref g3, .ref g4, .ref g5, .int (nI cnt)])), (g1, .inl (cyI, 24, .inl (fun k => nI (pit k))))]) := by
  refine Met.ofW (cc := cX5_file) (maxL := 4) (ret := (some .int)) (by decide) rfl ?_
  intro p e s m args below meth c s₁ B hml hv
  obtain ⟨rfl, hP, hK, hD0⟩ := hv
  have hx := B.exec
  have hb := B.bytes
  have hr := B.returns
  have hts := atoms_spec (ws := wsX5_file) B.pre
  have hown : s.vm.findClass RX5 = some m.cls := findClass_of_methodNamed B.named
  have hlocks := B.notSynchronized
  have hD := xA_self hD0
  clear hD0
  generalize hAe : xA [(p0, .inr (7, [.ref t0, .ref w0, .ref g0, .ref h0, .ref s0, .ref v0, .int (nI kn)])), (g0, .inr (3, [.ref g1, .ref g2, .ref g3, .ref g4, .ref g5, .int (nI cnt)])), (g1, .inl (cyI, 24, .inl (fun k => nI (pit k))))] = A at hD ⊢
  have hS : va_S A s.heap s.heap [] := va_S.rf
  have hP : va_P (dC, dI) vwCl [(p0, .inr (7, [.ref t0, .ref w0, .ref g0, .ref h0, .ref s0, .ref v0, .int (nI kn)])), (g0, .inr (3, [.ref g1, .ref g2, .ref g3, .ref g4, .ref g5, .int (nI cnt)])), (g1, .inl (cyI, 24, .inl (fun k => nI (pit k))))] s.heap := hP
  have hl := lv_entry ([.ref p0, .int (nI tn), .int (nI pi)]) (n := 4) (Nat.le_of_ble_eq_true rfl)
  rw [lg_entry_eq]
  generalize (lg_sl ([.ref p0, .int (nI tn), .int (nI pi)]) ++ List.replicate (4 - (lg_sl ([.ref p0, .int (nI tn), .int (nI pi)])).length) Slot.unset).toArray = ls at hl ⊢
  have hl : lv_has ls 4 [(0, .ref p0), (1, .int (nI tn)), (2, .int (nI pi))] := hl
  refine lv_aload_n hx hb dX5_file_0 rfl (lv_at hl 0 rfl) ?_
  refine lv_iload_n hx hb dX5_file_1 rfl (lv_at hl 1 rfl) ?_
  refine xv_v (As := [.int (nI tn)]) (rest := []) (q := (RX5, TX5, 7)) ⟨hx, hb, hml, hown, hts⟩ (kX5_needTooth l dC dI cyI cyZ cyJ cyD cyB p0 g0 t0 w0 h0 s0 v0 kn g1 g2 g3 g4 g5 cnt tn (by omega) (by omega)) (cwV 1 hts gX5_file_X5_needTooth rfl rfl rfl (by decide +kernel) ⟨Nat.le_of_ble_eq_true rfl, Nat.le_of_ble_eq_true rfl⟩) hK hP hS [0, 1] rfl 0 7 rfl rfl rfl hl.1 rfl (Nat.le_of_ble_eq_true rfl) dX5_file_2 ⟨Nat.zero_le _, Nat.zero_le _⟩ (fun H locs hP hS => ?_)
  refine lv_iload_n hx hb dX5_file_5 rfl (lv_at hl 2 rfl) ?_
  refine xs_v (As := [.int (nI pi)]) (rest := []) ⟨hx, hb, hml, hown, hts⟩ (kX5_needPitch l pi (by omega)) (va_cwS 1 hts gX5_file_X5_needPitch rfl rfl rfl (by decide +kernel) ⟨Nat.le_of_ble_eq_true rfl, Nat.le_of_ble_eq_true rfl⟩) hP hS rfl hl.1 rfl (Nat.le_of_ble_eq_true rfl) dX5_file_6 ⟨Nat.zero_le _, Nat.zero_le _⟩ (fun H locs hP hS => ?_)
  refine lv_aload_n hx hb dX5_file_9 rfl (lv_at hl 0 rfl) ?_
  refine va_get (D := (dC, dI)) (ci := 7) (v := .ref g0) (C := RX5) (T := TX5) (N := 7) hx hb hts inX5_file_X5 hown hK hP 0 rfl rfl 2 (by decide) (hts _ mX5_file_fieldLink_RX5_27_PinBarrel_comb_LPinBarrel_Comb) (fun _ h9 => h9) rfl dX5_file_10 ?_
  refine va_get (D := (dC, dI)) (ci := 3) (v := .ref g1) (C := RX1) (T := TX1) (N := 6) hx hb hts inX5_file_X1 hown hK hP 1 rfl rfl 0 (by decide) (hts _ mX5_file_fieldLink_RX5_65_PinBarrel_Comb_pitch_I) (fun _ h9 => h9) rfl dX5_file_13 ?_
  refine lv_iload_n hx hb dX5_file_16 rfl (lv_at hl 1 rfl) ?_
  refine xl_I (f := pit) hx hb hK hP 2 0 rfl rfl (by omega) (by decide) dX5_file_17 ?_
  refine lv_istore_n (lv' := [(3, .int (nI (pit tn))), (0, .ref p0), (1, .int (nI tn)), (2, .int (nI pi))]) hx hb dX5_file_18 rfl hl (by decide) rfl (fun ls hl => ?_)
  refine lv_aload_n hx hb dX5_file_19 rfl (lv_at hl 1 rfl) ?_
  refine va_get (D := (dC, dI)) (ci := 7) (v := .ref g0) (C := RX5) (T := TX5) (N := 7) hx hb hts inX5_file_X5 hown hK hP 0 rfl rfl 2 (by decide) (hts _ mX5_file_fieldLink_RX5_27_PinBarrel_comb_LPinBarrel_Comb) (fun _ h9 => h9) rfl dX5_file_20 ?_
  refine va_get (D := (dC, dI)) (ci := 3) (v := .ref g1) (C := RX1) (T := TX1) (N := 6) hx hb hts inX5_file_X1 hown hK hP 1 rfl rfl 0 (by decide) (hts _ mX5_file_fieldLink_RX5_65_PinBarrel_Comb_pitch_I) (fun _ h9 => h9) rfl dX5_file_23 ?_
  refine lv_iload_n hx hb dX5_file_26 rfl (lv_at hl 2 rfl) ?_
  refine lv_iload_n hx hb dX5_file_27 rfl (lv_at hl 3 rfl) ?_
  refine xt_I (f := pit) (x := pi) hx hb hK hP hD hS 2 0 rfl rfl (by omega) (by decide) dX5_file_28 (fun H locs hP hD hS => ?_)
  have hP : va_P (dC, dI) vwCl [(p0, .inr (7, [.ref t0, .ref w0, .ref g0, .ref h0, .ref s0, .ref v0, .int (nI kn)])), (g0, .inr (3, [.ref g1, .ref g2, .ref g3, .ref g4, .ref g5, .int (nI cnt)])), (g1, .inl (cyI, 24, .inl (fun k => nI ((va_up pit tn pi) k))))] H := hP
  have hD : va_D A [(p0, .inr (7, [.ref t0, .ref w0, .ref g0, .ref h0, .ref s0, .ref v0, .int (nI kn)])), (g0, .inr (3, [.ref g1, .ref g2, .ref g3, .ref g4, .ref g5, .int (nI cnt)])), (g1, .inl (cyI, 24, .inl (fun k => nI ((va_up pit tn pi) k))))] := hD
  refine lv_iload_n hx hb dX5_file_29 rfl (lv_at hl 0 rfl) ?_
  have hP9 : va_P (dC, dI) vwCl [(p0, .inr (7, [.ref t0, .ref w0, .ref g0, .ref h0, .ref s0, .ref v0, .int (nI kn)])), (g0, .inr (3, [.ref g1, .ref g2, .ref g3, .ref g4, .ref g5, .int (nI cnt)])), (g1, .inl (cyI, 24, .inl (fun k => nI ((va_up pit tn pi) k))))] _ := hP
  have hD9 : va_D A [(p0, .inr (7, [.ref t0, .ref w0, .ref g0, .ref h0, .ref s0, .ref v0, .int (nI kn)])), (g0, .inr (3, [.ref g1, .ref g2, .ref g3, .ref g4, .ref g5, .int (nI cnt)])), (g1, .inl (cyI, 24, .inl (fun k => nI ((va_up pit tn pi) k))))] := hD
  exact W.iret (v := nI (pit tn)) hx hb hr (fun t ht hW => ⟨⟨nI (pit tn), (), rfl, rfl, ⟨by rw [ht]; exact hP9, hD9⟩⟩, hS.F ht⟩) hS.2.2 dX5_file_30

theorem inX5_tune_X5 : ∀ w ∈ wsX50, w ∈ wsX5_tune := by decide +kernel
theorem mX5_tune_fieldLink_RX5_10_PinBarrel_tunes_LPinBarrel_Tunes : Cond.fieldLink RX5 10 "PinBarrel" "tunes" "LPinBarrel$Tunes;" ∈ wsX5_tune := List.mem_of_getElem? (i := 3) (by decide +kernel)
theorem inX5_tune_X3 : ∀ w ∈ wsX30, w ∈ wsX5_tune := by decide +kernel
theorem mX5_tune_fieldLink_RX5_69_PinBarrel_Tunes_count_I : Cond.fieldLink RX5 69 "PinBarrel$Tunes" "count" "I" ∈ wsX5_tune := List.mem_of_getElem? (i := 4) (by decide +kernel)
set_option maxHeartbeats 4000000 in
set_option maxRecDepth 100000 in
theorem kX5_tune (l : Launch) (dC : Nat → ClassId) (dI : Nat → Nat → Nat) (cyI cyZ cyJ cyD cyB : ClassId) (p0 t0 : Nat) (w0 : Nat) (g0 : Nat) (h0 : Nat) (s0 : Nat) (v0 : Nat) (kn : Nat) (t1 : Nat) (t2 : Nat) (tcn : Nat) (htc : tcn < 4) : Met l yX5_tune wsX5_tune ({ frames := 0, cells := 0, slots := 0, locals := 0 }) (va_Pc [.ref p0] (xM (dC, dI) vwCl (xT cyI cyZ cyJ cyD cyB) [(p0, .inr (7, [.ref t0, .ref w0, .ref g0, .ref h0, .ref s0, .ref v0, .int (nI kn)])), (t0, .inr (5, [.ref t1, .ref t2, .int (nI tcn)]))])) (va_Qi (fun (r : Int32) (u : Unit) => r = nI (tcn + 1 - 1)) (fun u t => va_P (dC, dI) vwCl [(p0, .inr (7, [.ref t0, .ref w0, .ref g0, .ref h0, .ref s0, .ref v0, .int (nI kn)])), (t0, .inr (5, [.ref t1, .ref t2, .int (nI (tcn + 1))]))] t.heap ∧ va_D (xA [(p0, .inr (7, [.ref t0, .ref w0, .ref g0, .ref h0, .ref s0, .ref v0, .int (nI kn)])), (t0, .inr (5, [.ref t1, .ref t2, .int (nI tcn)]))]) [(p0, .inr (7, [.ref t0, .ref w0, .ref g0, .ref h0, .ref s0, .ref v0, .int (nI kn)])), (t0, .inr (5, [.ref t1, .ref t2, .int (nI (tcn + 1))]))]) (xA [(p0, .inr (7, [.ref t0, .ref w0, .ref g0, .ref h0, .ref s0, .ref v0, .int (nI kn)])), (t0, .inr (5, [.ref t1, .ref t2, .int (nI tcn)]))])) 0 0 (xA [(p0, .inr (7, [.ref t0, .ref w0, .ref g0, .ref h0, .ref s0, .ref v0, .int (nI kn)])), (t0, .inr (5, [.ref t1, .ref t2, .int (nI tcn)]))]) := by
  refine Met.ofW (cc := cX5_tune) (maxL := 1) (ret := (some .int)) (by decide) rfl ?_
  intro p e s m args below meth c s₁ B hml hv
  obtain ⟨rfl, hP, hK, hD0⟩ := hv
  have hx := B.exec
  have hb := B.bytes
  have hr := B.returns
  have hts := atoms_spec (ws := wsX5_tune) B.pre
  have hown : s.vm.findClass RX5 = some m.cls := findClass_of_methodNamed B.named
  have hlocks := B.notSynchronized
  have hD := xA_self hD0
  clear hD0
  generalize hAe : xA [(p0, .inr (7, [.ref t0, .ref w0, .ref g0, .ref h0, .ref s0, .ref v0, .int (nI kn)])), (t0, .inr (5, [.ref t1, .ref t2, .int (nI tcn)]))] = A at hD ⊢
  have hS : va_S A s.heap s.heap [] := va_S.rf
  have hP : va_P (dC, dI) vwCl [(p0, .inr (7, [.ref t0, .ref w0, .ref g0, .ref h0, .ref s0, .ref v0, .int (nI kn)])), (t0, .inr (5, [.ref t1, .ref t2, .int (nI tcn)]))] s.heap := hP
  have hl := lv_entry ([.ref p0]) (n := 1) (Nat.le_of_ble_eq_true rfl)
  rw [lg_entry_eq]
  generalize (lg_sl ([.ref p0]) ++ List.replicate (1 - (lg_sl ([.ref p0])).length) Slot.unset).toArray = ls at hl ⊢
  have hl : lv_has ls 1 [(0, .ref p0)] := hl
  refine lv_aload_n hx hb dX5_tune_0 rfl (lv_at hl 0 rfl) ?_
  refine va_get (D := (dC, dI)) (ci := 7) (v := .ref t0) (C := RX5) (T := TX5) (N := 7) hx hb hts inX5_tune_X5 hown hK hP 0 rfl rfl 0 (by decide) (hts _ mX5_tune_fieldLink_RX5_10_PinBarrel_tunes_LPinBarrel_Tunes) (fun _ h9 => h9) rfl dX5_tune_1 ?_
  refine va_get (D := (dC, dI)) (ci := 5) (v := .int (nI tcn)) (C := RX3) (T := TX3) (N := 3) hx hb hts inX5_tune_X3 hown hK hP 1 rfl rfl 2 (by decide) (hts _ mX5_tune_fieldLink_RX5_69_PinBarrel_Tunes_count_I) (fun _ h9 => h9) rfl dX5_tune_4 ?_
  refine lv_iconst (v := nI 4) hx hb dX5_tune_7 (by decide) ?_
  refine xc_lt (tgt := 21) hx hb dX5_tune_8 (by decide) (by omega) (by omega) (fun c_1 => ?_) (fun c_1 => by omega)
  refine lv_aload_n hx hb dX5_tune_21 rfl (lv_at hl 0 rfl) ?_
  refine va_get (D := (dC, dI)) (ci := 7) (v := .ref t0) (C := RX5) (T := TX5) (N := 7) hx hb hts inX5_tune_X5 hown hK hP 0 rfl rfl 0 (by decide) (hts _ mX5_tune_fieldLink_RX5_10_PinBarrel_tunes_LPinBarrel_Tunes) (fun _ h9 => h9) rfl dX5_tune_22 ?_
  refine lv_dup hx hb dX5_tune_25 rfl ?_
  refine va_get (D := (dC, dI)) (ci := 5) (v := .int (nI tcn)) (C := RX3) (T := TX3) (N := 3) hx hb hts inX5_tune_X3 hown hK hP 1 rfl rfl 2 (by decide) (hts _ mX5_tune_fieldLink_RX5_69_PinBarrel_Tunes_count_I) (fun _ h9 => h9) rfl dX5_tune_26 ?_
  refine lv_iconst (v := nI 1) hx hb dX5_tune_29 (by decide) ?_
  refine xi_add hx hb dX5_tune_30 ?_
  refine va_put (D := (dC, dI)) (ci := 5) (v := .int (nI (tcn + 1))) (ty := .int) (C := RX3) (T := TX3) (N := 3) hx hb hts inX5_tune_X3 tyX3 tyX3_ok nmX3 hown hK hP hD hS 1 rfl rfl 2 (by decide) (hts _ mX5_tune_fieldLink_RX5_69_PinBarrel_Tunes_count_I) (fun _ h9 => h9) rfl (by decide +kernel) rfl rfl (Nat.le_of_ble_eq_true rfl) dX5_tune_31 (fun H locs hP hD hS => ?_)
  have hP : va_P (dC, dI) vwCl [(p0, .inr (7, [.ref t0, .ref w0, .ref g0, .ref h0, .ref s0, .ref v0, .int (nI kn)])), (t0, .inr (5, [.ref t1, .ref t2, .int (nI (tcn + 1))]))] H := hP
  have hD : va_D A [(p0, .inr (7, [.ref t0, .ref w0, .ref g0, .ref h0, .ref s0, .ref v0, .int (nI kn)])), (t0, .inr (5, [.ref t1, .ref t2, .int (nI (tcn + 1))]))] := hD
  refine lv_aload_n hx hb dX5_tune_34 rfl (lv_at hl 0 rfl) ?_
  refine va_get (D := (dC, dI)) (ci := 7) (v := .ref t0) (C := RX5) (T := TX5) (N := 7) hx hb hts inX5_tune_X5 hown hK hP 0 rfl rfl 0 (by decide) (hts _ mX5_tune_fieldLink_RX5_10_PinBarrel_tunes_LPinBarrel_Tunes) (fun _ h9 => h9) rfl dX5_tune_35 ?_
  refine va_get (D := (dC, dI)) (ci := 5) (v := .int (nI (tcn + 1))) (C := RX3) (T := TX3) (N := 3) hx hb hts inX5_tune_X3 hown hK hP 1 rfl rfl 2 (by decide) (hts _ mX5_tune_fieldLink_RX5_69_PinBarrel_Tunes_count_I) (fun _ h9 => h9) rfl dX5_tune_38 ?_
  refine lv_iconst (v := nI 1) hx hb dX5_tune_41 (by decide) ?_
  refine xi_sub hx hb dX5_tune_42 (by omega) ?_
  have hP9 : va_P (dC, dI) vwCl [(p0, .inr (7, [.ref t0, .ref w0, .ref g0, .ref h0, .ref s0, .ref v0, .int (nI kn)])), (t0, .inr (5, [.ref t1, .ref t2, .int (nI (tcn + 1))]))] _ := hP
  have hD9 : va_D A [(p0, .inr (7, [.ref t0, .ref w0, .ref g0, .ref h0, .ref s0, .ref v0, .int (nI kn)])), (t0, .inr (5, [.ref t1, .ref t2, .int (nI (tcn + 1))]))] := hD
  exact W.iret (v := nI ((tcn + 1) - 1)) hx hb hr (fun t ht hW => ⟨⟨nI ((tcn + 1) - 1), (), rfl, rfl, ⟨by rw [ht]; exact hP9, hD9⟩⟩, hS.F ht⟩) hS.2.2 dX5_tune_43

theorem inX5_note_X5 : ∀ w ∈ wsX50, w ∈ wsX5_note := by decide +kernel
theorem mX5_note_fieldLink_RX5_10_PinBarrel_tunes_LPinBarrel_Tunes : Cond.fieldLink RX5 10 "PinBarrel" "tunes" "LPinBarrel$Tunes;" ∈ wsX5_note := List.mem_of_getElem? (i := 5) (by decide +kernel)
theorem inX5_note_X3 : ∀ w ∈ wsX30, w ∈ wsX5_note := by decide +kernel
theorem mX5_note_fieldLink_RX5_84_PinBarrel_Tunes_size_I : Cond.fieldLink RX5 84 "PinBarrel$Tunes" "size" "[I" ∈ wsX5_note := List.mem_of_getElem? (i := 6) (by decide +kernel)
set_option maxHeartbeats 4000000 in
set_option maxRecDepth 100000 in
theorem kX5_note (l : Launch) (dC : Nat → ClassId) (dI : Nat → Nat → Nat) (cyI cyZ cyJ cyD cyB : ClassId) (p0 t0 t1 t2 : Nat) (w0 : Nat) (g0 : Nat) (h0 : Nat) (s0 : Nat) (v0 : Nat) (kn : Nat) (tcn : Nat) (siz : Nat → Nat) (no : Nat → Nat) (tu : Nat) (ti : Nat) (pi : Nat) (htc : tcn ≤ 4) (htu : tu < tcn) (hti : ti < 64) (hpi : pi < 48) (hno : ∀ k, no k < 3072) (hsz : ∀ k, siz k ≤ 30) (hrm : hdF no (tu * 30) (ti * 48 + pi) (siz tu) = false → siz tu < 30) : Met l yX5_note wsX5_note ({ frames := 2, cells := 0, slots := 0, locals := 50 }) (va_Pc [.ref p0, .int (nI tu), .int (nI ti), .int (nI pi)] (xM (dC, dI) vwCl (xT cyI cyZ cyJ cyD cyB) [(p0, .inr (7, [.ref t0, .ref w0, .ref g0, .ref h0, .ref s0, .ref v0, .int (nI kn)])), (t0, .inr (5, [.ref t1, .ref t2, .int (nI tcn)])), (t1, .inl (cyI, 4, .inl (fun k => nI (siz k)))), (t2, .inl (cyI, 120, .inl (fun k => nI (no k))))])) (va_Qi (fun (r : Int32) (u : Unit) => r = nI (if hdF no (tu * 30) (ti * 48 + pi) (siz tu) then siz tu - 1 else siz tu + 1)) (fun u t => va_P (dC, dI) vwCl [(p0, .inr (7, [.ref t0, .ref w0, .ref g0, .ref h0, .ref s0, .ref v0, .int (nI kn)])), (t0, .inr (5, [.ref t1, .ref t2, .int (nI tcn)])), (t1, .inl (cyI, 4, .inl (fun k => nI ((va_up siz tu (if hdF no (tu * 30) (ti * 48 + pi) (siz tu) then siz tu - 1 else siz tu + 1)) k)))), (t2, .inl (cyI, 120, .inl (fun k => nI ((if hdF no (tu * 30) (ti * 48 + pi) (siz tu) then stF no (tu * 30) (ti * 48 + pi) (siz tu - 1) else wrF no (tu * 30) (ti * 48 + pi) (siz tu)) k))))] t.heap ∧ va_D (xA [(p0, .inr (7, [.ref t0, .ref w0, .ref g0, .ref h0, .ref s0, .ref v0, .int (nI kn)])), (t0, .inr (5, [.ref t1, .ref t2, .int (nI tcn)])), (t1, .inl (cyI, 4, .inl (fun k => nI (siz k)))), (t2, .inl (cyI, 120, .inl (fun k => nI (no k))))]) [(p0, .inr (7, [.ref t0, .ref w0, .ref g0, .ref h0, .ref s0, .ref v0, .int (nI kn)])), (t0, .inr (5, [.ref t1, .ref t2, .int (nI tcn)])), (t1, .inl (cyI, 4, .inl (fun k => nI ((va_up siz tu (if hdF no (tu * 30) (ti * 48 + pi) (siz tu) then siz tu - 1 else siz tu + 1)) k)))), (t2, .inl (cyI, 120, .inl (fun k => nI ((if hdF no (tu * 30) (ti * 48 + pi) (siz tu) then stF no (tu * 30) (ti * 48 + pi) (siz tu - 1) else wrF no (tu * 30) (ti * 48 + pi) (siz tu)) k))))]) (xA [(p0, .inr (7, [.ref t0, .ref w0, .ref g0, .ref h0, .ref s0, .ref v0, .int (nI kn)])), (t0, .inr (5, [.ref t1, .ref t2, .int (nI tcn)])), (t1, .inl (cyI, 4, .inl (fun k => nI (siz k)))), (t2, .inl (cyI, 120, .inl (fun k => nI (no k))))])) 0 0 (xA [(p0, .inr (7, [.ref t0, .ref w0, .ref g0, .ref h0, .ref s0, .ref v0, .int (nI kn)])), (t0, .inr (5, [.ref t1, .ref t2, .int (nI tcn)])), (t1, .inl (cyI, 4, .inl (fun k => nI (siz k)))), (t2, .inl (cyI, 120, .inl (fun k => nI (no k))))]) := by
  refine Met.ofW (cc := cX5_note) (maxL := 5) (ret := (some .int)) (by decide) rfl ?_
  intro p e s m args below meth c s₁ B hml hv
  obtain ⟨rfl, hP, hK, hD0⟩ := hv
  have hx := B.exec
  have hb := B.bytes
  have hr := B.returns
  have hts := atoms_spec (ws := wsX5_note) B.pre
  have hown : s.vm.findClass RX5 = some m.cls := findClass_of_methodNamed B.named
  have hlocks := B.notSynchronized
  have hD := xA_self hD0
  clear hD0
  generalize hAe : xA [(p0, .inr (7, [.ref t0, .ref w0, .ref g0, .ref h0, .ref s0, .ref v0, .int (nI kn)])), (t0, .inr (5, [.ref t1, .ref t2, .int (nI tcn)])), (t1, .inl (cyI, 4, .inl (fun k => nI (siz k)))), (t2, .inl (cyI, 120, .inl (fun k => nI (no k))))] = A at hD ⊢
  have hS : va_S A s.heap s.heap [] := va_S.rf
  have hP : va_P (dC, dI) vwCl [(p0, .inr (7, [.ref t0, .ref w0, .ref g0, .ref h0, .ref s0, .ref v0, .int (nI kn)])), (t0, .inr (5, [.ref t1, .ref t2, .int (nI tcn)])), (t1, .inl (cyI, 4, .inl (fun k => nI (siz k)))), (t2, .inl (cyI, 120, .inl (fun k => nI (no k))))] s.heap := hP
  have hl := lv_entry ([.ref p0, .int (nI tu), .int (nI ti), .int (nI pi)]) (n := 5) (Nat.le_of_ble_eq_true rfl)
  rw [lg_entry_eq]
  generalize (lg_sl ([.ref p0, .int (nI tu), .int (nI ti), .int (nI pi)]) ++ List.replicate (5 - (lg_sl ([.ref p0, .int (nI tu), .int (nI ti), .int (nI pi)])).length) Slot.unset).toArray = ls at hl ⊢
  have hl : lv_has ls 5 [(0, .ref p0), (1, .int (nI tu)), (2, .int (nI ti)), (3, .int (nI pi))] := hl
  have hsz1 := hsz tu
  refine lv_aload_n hx hb dX5_note_0 rfl (lv_at hl 0 rfl) ?_
  refine lv_iload_n hx hb dX5_note_1 rfl (lv_at hl 1 rfl) ?_
  refine xv_v (As := [.int (nI tu)]) (rest := []) (q := (RX5, TX5, 7)) ⟨hx, hb, hml, hown, hts⟩ (kX5_needTune l dC dI cyI cyZ cyJ cyD cyB p0 t0 w0 g0 h0 s0 v0 kn t1 t2 tcn tu (by omega) (by omega)) (cwV 1 hts gX5_note_X5_needTune rfl rfl rfl (by decide +kernel) ⟨Nat.le_of_ble_eq_true rfl, Nat.le_of_ble_eq_true rfl⟩) hK hP hS [0, 1] rfl 0 7 rfl rfl rfl hl.1 rfl (Nat.le_of_ble_eq_true rfl) dX5_note_2 ⟨Nat.zero_le _, Nat.zero_le _⟩ (fun H locs hP hS => ?_)
  refine lv_iload_n hx hb dX5_note_5 rfl (lv_at hl 2 rfl) ?_
  refine xz_lt (tgt := 15) hx hb dX5_note_6 (by decide) (by omega) ?_
  refine lv_iload_n hx hb dX5_note_9 rfl (lv_at hl 2 rfl) ?_
  refine lv_bipush (v := nI 64) hx hb dX5_note_10 (by decide) ?_
  refine xc_lt (tgt := 25) hx hb dX5_note_12 (by decide) (by omega) (by omega) (fun c_3 => ?_) (fun c_3 => by omega)
  refine lv_iload_n hx hb dX5_note_25 rfl (lv_at hl 3 rfl) ?_
  refine xs_v (As := [.int (nI pi)]) (rest := []) ⟨hx, hb, hml, hown, hts⟩ (kX5_needPitch l pi (by omega)) (va_cwS 1 hts gX5_note_X5_needPitch rfl rfl rfl (by decide +kernel) ⟨Nat.le_of_ble_eq_true rfl, Nat.le_of_ble_eq_true rfl⟩) hP hS rfl hl.1 rfl (Nat.le_of_ble_eq_true rfl) dX5_note_26 ⟨Nat.zero_le _, Nat.zero_le _⟩ (fun H locs hP hS => ?_)
  refine lv_aload_n hx hb dX5_note_29 rfl (lv_at hl 0 rfl) ?_
  refine va_get (D := (dC, dI)) (ci := 7) (v := .ref t0) (C := RX5) (T := TX5) (N := 7) hx hb hts inX5_note_X5 hown hK hP 0 rfl rfl 0 (by decide) (hts _ mX5_note_fieldLink_RX5_10_PinBarrel_tunes_LPinBarrel_Tunes) (fun _ h9 => h9) rfl dX5_note_30 ?_
  refine lv_iload_n hx hb dX5_note_33 rfl (lv_at hl 1 rfl) ?_
  refine lv_iload_n hx hb dX5_note_34 rfl (lv_at hl 2 rfl) ?_
  refine lv_iload_n hx hb dX5_note_35 rfl (lv_at hl 3 rfl) ?_
  refine xv_i (As := [.int (nI tu), .int (nI ti), .int (nI pi)]) (rest := []) (q := (RX3, TX3, 3)) ⟨hx, hb, hml, hown, hts⟩ (kX3_holds l dC dI cyI cyZ cyJ cyD cyB t0 t1 t2 siz no tcn tu ti pi (by omega) (by omega) (by omega) hno hsz) (cwV 3 hts gX5_note_X3_holds rfl rfl rfl (by decide +kernel) ⟨Nat.le_of_ble_eq_true rfl, Nat.le_of_ble_eq_true rfl⟩) hK hP hS [1, 2, 3] rfl 1 5 rfl rfl rfl hl.1 rfl (Nat.le_of_ble_eq_true rfl) dX5_note_36 ⟨Nat.zero_le _, Nat.zero_le _⟩ (fun r_5 H locs hw hP hS => ?_)
  have hw : r_5 = xb (hdF no (tu * 30) (ti * 48 + pi) (siz tu)) := hw
  subst hw
  refine lv_istore (lv' := [(4, .int (xb (hdF no (tu * 30) (ti * 48 + pi) (siz tu)))), (0, .ref p0), (1, .int (nI tu)), (2, .int (nI ti)), (3, .int (nI pi))]) hx hb dX5_note_39 hl (by decide) rfl (fun ls hl => ?_)
  refine lv_iload hx hb dX5_note_41 (lv_at hl 0 rfl) ?_
  refine xb_ne (tgt := 70) hx hb dX5_note_43 (by decide) (fun c_6 => ?_) (fun c_6 => ?_)
  · refine lv_iload hx hb dX5_note_70 (lv_at hl 0 rfl) ?_
    refine xb_eq (tgt := 88) hx hb dX5_note_72 (by decide) (fun c_7 => absurd (c_6.symm.trans c_7) (by decide)) (fun c_7 => ?_)
    refine lv_aload_n hx hb dX5_note_75 rfl (lv_at hl 1 rfl) ?_
    refine va_get (D := (dC, dI)) (ci := 7) (v := .ref t0) (C := RX5) (T := TX5) (N := 7) hx hb hts inX5_note_X5 hown hK hP 0 rfl rfl 0 (by decide) (hts _ mX5_note_fieldLink_RX5_10_PinBarrel_tunes_LPinBarrel_Tunes) (fun _ h9 => h9) rfl dX5_note_76 ?_
    refine lv_iload_n hx hb dX5_note_79 rfl (lv_at hl 2 rfl) ?_
    refine lv_iload_n hx hb dX5_note_80 rfl (lv_at hl 3 rfl) ?_
    refine lv_iload_n hx hb dX5_note_81 rfl (lv_at hl 4 rfl) ?_
    refine xm_v (As := [.int (nI tu), .int (nI ti), .int (nI pi)]) (rest := []) (q := (RX3, TX3, 3)) ⟨hx, hb, hml, hown, hts⟩ (kX3_strike l dC dI cyI cyZ cyJ cyD cyB t0 t1 t2 siz no tcn tu ti pi (by omega) (by omega) (by omega) hno hsz (hdF_pos c_6)) (cwV 3 hts gX5_note_X3_strike rfl rfl rfl (by decide +kernel) ⟨Nat.le_of_ble_eq_true rfl, Nat.le_of_ble_eq_true rfl⟩) hK hP hD hS [1, 2, 3] rfl (by decide) 1 5 rfl rfl rfl hl.1 rfl (Nat.le_of_ble_eq_true rfl) dX5_note_82 ⟨Nat.zero_le _, Nat.zero_le _⟩ (fun u_9 H1 locs hw hP1 hD1 hk1 hS => ?_)
    obtain ⟨hP, hD⟩ := xW_join (wr := [(p0, .inr (7, [.ref t0, .ref w0, .ref g0, .ref h0, .ref s0, .ref v0, .int (nI kn)]))]) (w1 := [(t0, .inr (5, [.ref t1, .ref t2, .int (nI tcn)])), (t1, .inl (cyI, 4, .inl (fun k => nI ((va_up siz tu (siz tu - 1)) k)))), (t2, .inl (cyI, 120, .inl (fun k => nI ((stF no (tu * 30) (ti * 48 + pi) (siz tu - 1)) k))))]) (wN := [(p0, .inr (7, [.ref t0, .ref w0, .ref g0, .ref h0, .ref s0, .ref v0, .int (nI kn)])), (t0, .inr (5, [.ref t1, .ref t2, .int (nI tcn)])), (t1, .inl (cyI, 4, .inl (fun k => nI ((va_up siz tu (siz tu - 1)) k)))), (t2, .inl (cyI, 120, .inl (fun k => nI ((stF no (tu * 30) (ti * 48 + pi) (siz tu - 1)) k))))]) hP hD [1, 2, 3] [0] [0, 1, 2, 3] rfl rfl (by decide) (by decide) hk1 hP1 hD1 (by decide) rfl
    clear hP1 hD1 hk1
    generalize H1 = H at hP hS ⊢
    refine lv_goto (tgt := 98) hx hb dX5_note_85 (by decide) ?_
    refine lv_aload_n hx hb dX5_note_98 rfl (lv_at hl 1 rfl) ?_
    refine va_get (D := (dC, dI)) (ci := 7) (v := .ref t0) (C := RX5) (T := TX5) (N := 7) hx hb hts inX5_note_X5 hown hK hP 0 rfl rfl 0 (by decide) (hts _ mX5_note_fieldLink_RX5_10_PinBarrel_tunes_LPinBarrel_Tunes) (fun _ h9 => h9) rfl dX5_note_99 ?_
    refine va_get (D := (dC, dI)) (ci := 5) (v := .ref t1) (C := RX3) (T := TX3) (N := 3) hx hb hts inX5_note_X3 hown hK hP 1 rfl rfl 0 (by decide) (hts _ mX5_note_fieldLink_RX5_84_PinBarrel_Tunes_size_I) (fun _ h9 => h9) rfl dX5_note_102 ?_
    refine lv_iload_n hx hb dX5_note_105 rfl (lv_at hl 2 rfl) ?_
    refine xl_I (f := (va_up siz tu (siz tu - 1))) hx hb hK hP 2 0 rfl rfl (by omega) (by decide) dX5_note_106 ?_
    have e1 : (if hdF no (tu * 30) (ti * 48 + pi) (siz tu) then siz tu - 1 else siz tu + 1) = siz tu - 1 := if_pos c_6
    have e2 : (if hdF no (tu * 30) (ti * 48 + pi) (siz tu) then stF no (tu * 30) (ti * 48 + pi) (siz tu - 1) else wrF no (tu * 30) (ti * 48 + pi) (siz tu)) = stF no (tu * 30) (ti * 48 + pi) (siz tu - 1) := if_pos c_6
    have hP := xW_eqP (w1 := [(p0, .inr (7, [.ref t0, .ref w0, .ref g0, .ref h0, .ref s0, .ref v0, .int (nI kn)])), (t0, .inr (5, [.ref t1, .ref t2, .int (nI tcn)])), (t1, .inl (cyI, 4, .inl (fun k => nI ((va_up siz tu (if hdF no (tu * 30) (ti * 48 + pi) (siz tu) then siz tu - 1 else siz tu + 1)) k)))), (t2, .inl (cyI, 120, .inl (fun k => nI ((if hdF no (tu * 30) (ti * 48 + pi) (siz tu) then stF no (tu * 30) (ti * 48 + pi) (siz tu - 1) else wrF no (tu * 30) (ti * 48 + pi) (siz tu)) k))))]) hP (by rw [e1, e2])
    have hD := xW_eqD (w1 := [(p0, .inr (7, [.ref t0, .ref w0, .ref g0, .ref h0, .ref s0, .ref v0, .int (nI kn)])), (t0, .inr (5, [.ref t1, .ref t2, .int (nI tcn)])), (t1, .inl (cyI, 4, .inl (fun k => nI ((va_up siz tu (if hdF no (tu * 30) (ti * 48 + pi) (siz tu) then siz tu - 1 else siz tu + 1)) k)))), (t2, .inl (cyI, 120, .inl (fun k => nI ((if hdF no (tu * 30) (ti * 48 + pi) (siz tu) then stF no (tu * 30) (ti * 48 + pi) (siz tu - 1) else wrF no (tu * 30) (ti * 48 + pi) (siz tu)) k))))]) hD (by rw [e1, e2])
    have hP9 : va_P (dC, dI) vwCl [(p0, .inr (7, [.ref t0, .ref w0, .ref g0, .ref h0, .ref s0, .ref v0, .int (nI kn)])), (t0, .inr (5, [.ref t1, .ref t2, .int (nI tcn)])), (t1, .inl (cyI, 4, .inl (fun k => nI ((va_up siz tu (if hdF no (tu * 30) (ti * 48 + pi) (siz tu) then siz tu - 1 else siz tu + 1)) k)))), (t2, .inl (cyI, 120, .inl (fun k => nI ((if hdF no (tu * 30) (ti * 48 + pi) (siz tu) then stF no (tu * 30) (ti * 48 + pi) (siz tu - 1) else wrF no (tu * 30) (ti * 48 + pi) (siz tu)) k))))] _ := hP
    have hD9 : va_D A [(p0, .inr (7, [.ref t0, .ref w0, .ref g0, .ref h0, .ref s0, .ref v0, .int (nI kn)])), (t0, .inr (5, [.ref t1, .ref t2, .int (nI tcn)])), (t1, .inl (cyI, 4, .inl (fun k => nI ((va_up siz tu (if hdF no (tu * 30) (ti * 48 + pi) (siz tu) then siz tu - 1 else siz tu + 1)) k)))), (t2, .inl (cyI, 120, .inl (fun k => nI ((if hdF no (tu * 30) (ti * 48 + pi) (siz tu) then stF no (tu * 30) (ti * 48 + pi) (siz tu - 1) else wrF no (tu * 30) (ti * 48 + pi) (siz tu)) k))))] := hD
    exact W.iret (v := nI ((va_up siz tu (siz tu - 1)) tu)) hx hb hr (fun t ht hW => ⟨⟨nI ((va_up siz tu (siz tu - 1)) tu), (), rfl, (by rw [e1, xu_self]), ⟨by rw [ht]; exact hP9, hD9⟩⟩, hS.F ht⟩) hS.2.2 dX5_note_107
  · refine lv_aload_n hx hb dX5_note_46 rfl (lv_at hl 1 rfl) ?_
    refine va_get (D := (dC, dI)) (ci := 7) (v := .ref t0) (C := RX5) (T := TX5) (N := 7) hx hb hts inX5_note_X5 hown hK hP 0 rfl rfl 0 (by decide) (hts _ mX5_note_fieldLink_RX5_10_PinBarrel_tunes_LPinBarrel_Tunes) (fun _ h9 => h9) rfl dX5_note_47 ?_
    refine va_get (D := (dC, dI)) (ci := 5) (v := .ref t1) (C := RX3) (T := TX3) (N := 3) hx hb hts inX5_note_X3 hown hK hP 1 rfl rfl 0 (by decide) (hts _ mX5_note_fieldLink_RX5_84_PinBarrel_Tunes_size_I) (fun _ h9 => h9) rfl dX5_note_50 ?_
    refine lv_iload_n hx hb dX5_note_53 rfl (lv_at hl 2 rfl) ?_
    refine xl_I (f := siz) hx hb hK hP 2 0 rfl rfl (by omega) (by decide) dX5_note_54 ?_
    refine lv_bipush (v := nI 30) hx hb dX5_note_55 (by decide) ?_
    refine xc_lt (tgt := 70) hx hb dX5_note_57 (by decide) (by omega) (by omega) (fun c_10 => ?_) (fun c_10 => by have h9 := hrm c_6; omega)
    refine lv_iload hx hb dX5_note_70 (lv_at hl 0 rfl) ?_
    refine xb_eq (tgt := 88) hx hb dX5_note_72 (by decide) (fun c_11 => ?_) (fun c_11 => absurd (c_6.symm.trans c_11) (by decide))
    have hroom := hrm c_6
    refine lv_aload_n hx hb dX5_note_88 rfl (lv_at hl 1 rfl) ?_
    refine va_get (D := (dC, dI)) (ci := 7) (v := .ref t0) (C := RX5) (T := TX5) (N := 7) hx hb hts inX5_note_X5 hown hK hP 0 rfl rfl 0 (by decide) (hts _ mX5_note_fieldLink_RX5_10_PinBarrel_tunes_LPinBarrel_Tunes) (fun _ h9 => h9) rfl dX5_note_89 ?_
    refine lv_iload_n hx hb dX5_note_92 rfl (lv_at hl 2 rfl) ?_
    refine lv_iload_n hx hb dX5_note_93 rfl (lv_at hl 3 rfl) ?_
    refine lv_iload_n hx hb dX5_note_94 rfl (lv_at hl 4 rfl) ?_
    refine xm_v (As := [.int (nI tu), .int (nI ti), .int (nI pi)]) (rest := []) (q := (RX3, TX3, 3)) ⟨hx, hb, hml, hown, hts⟩ (kX3_write l dC dI cyI cyZ cyJ cyD cyB t0 t1 t2 siz no tcn tu ti pi (by omega) (by omega) (by omega) hno hsz (by omega)) (cwV 3 hts gX5_note_X3_write rfl rfl rfl (by decide +kernel) ⟨Nat.le_of_ble_eq_true rfl, Nat.le_of_ble_eq_true rfl⟩) hK hP hD hS [1, 2, 3] rfl (by decide) 1 5 rfl rfl rfl hl.1 rfl (Nat.le_of_ble_eq_true rfl) dX5_note_95 ⟨Nat.zero_le _, Nat.zero_le _⟩ (fun u_13 H1 locs hw hP1 hD1 hk1 hS => ?_)
    obtain ⟨hP, hD⟩ := xW_join (wr := [(p0, .inr (7, [.ref t0, .ref w0, .ref g0, .ref h0, .ref s0, .ref v0, .int (nI kn)]))]) (w1 := [(t0, .inr (5, [.ref t1, .ref t2, .int (nI tcn)])), (t1, .inl (cyI, 4, .inl (fun k => nI ((va_up siz tu (siz tu + 1)) k)))), (t2, .inl (cyI, 120, .inl (fun k => nI ((wrF no (tu * 30) (ti * 48 + pi) (siz tu)) k))))]) (wN := [(p0, .inr (7, [.ref t0, .ref w0, .ref g0, .ref h0, .ref s0, .ref v0, .int (nI kn)])), (t0, .inr (5, [.ref t1, .ref t2, .int (nI tcn)])), (t1, .inl (cyI, 4, .inl (fun k => nI ((va_up siz tu (siz tu + 1)) k)))), (t2, .inl (cyI, 120, .inl (fun k => nI ((wrF no (tu * 30) (ti * 48 + pi) (siz tu)) k))))]) hP hD [1, 2, 3] [0] [0, 1, 2, 3] rfl rfl (by decide) (by decide) hk1 hP1 hD1 (by decide) rfl
    clear hP1 hD1 hk1
    generalize H1 = H at hP hS ⊢
    refine lv_aload_n hx hb dX5_note_98 rfl (lv_at hl 1 rfl) ?_
    refine va_get (D := (dC, dI)) (ci := 7) (v := .ref t0) (C := RX5) (T := TX5) (N := 7) hx hb hts inX5_note_X5 hown hK hP 0 rfl rfl 0 (by decide) (hts _ mX5_note_fieldLink_RX5_10_PinBarrel_tunes_LPinBarrel_Tunes) (fun _ h9 => h9) rfl dX5_note_99 ?_
    refine va_get (D := (dC, dI)) (ci := 5) (v := .ref t1) (C := RX3) (T := TX3) (N := 3) hx hb hts inX5_note_X3 hown hK hP 1 rfl rfl 0 (by decide) (hts _ mX5_note_fieldLink_RX5_84_PinBarrel_Tunes_size_I) (fun _ h9 => h9) rfl dX5_note_102 ?_
    refine lv_iload_n hx hb dX5_note_105 rfl (lv_at hl 2 rfl) ?_
    refine xl_I (f := (va_up siz tu (siz tu + 1))) hx hb hK hP 2 0 rfl rfl (by omega) (by decide) dX5_note_106 ?_
    have e1 : (if hdF no (tu * 30) (ti * 48 + pi) (siz tu) then siz tu - 1 else siz tu + 1) = siz tu + 1 := if_neg (by rw [c_6]; decide)
    have e2 : (if hdF no (tu * 30) (ti * 48 + pi) (siz tu) then stF no (tu * 30) (ti * 48 + pi) (siz tu - 1) else wrF no (tu * 30) (ti * 48 + pi) (siz tu)) = wrF no (tu * 30) (ti * 48 + pi) (siz tu) := if_neg (by rw [c_6]; decide)
    have hP := xW_eqP (w1 := [(p0, .inr (7, [.ref t0, .ref w0, .ref g0, .ref h0, .ref s0, .ref v0, .int (nI kn)])), (t0, .inr (5, [.ref t1, .ref t2, .int (nI tcn)])), (t1, .inl (cyI, 4, .inl (fun k => nI ((va_up siz tu (if hdF no (tu * 30) (ti * 48 + pi) (siz tu) then siz tu - 1 else siz tu + 1)) k)))), (t2, .inl (cyI, 120, .inl (fun k => nI ((if hdF no (tu * 30) (ti * 48 + pi) (siz tu) then stF no (tu * 30) (ti * 48 + pi) (siz tu - 1) else wrF no (tu * 30) (ti * 48 + pi) (siz tu)) k))))]) hP (by rw [e1, e2])
    have hD := xW_eqD (w1 := [(p0, .inr (7, [.ref t0, .ref w0, .ref g0, .ref h0, .ref s0, .ref v0, .int (nI kn)])), (t0, .inr (5, [.ref t1, .ref t2, .int (nI tcn)])), (t1, .inl (cyI, 4, .inl (fun k => nI ((va_up siz tu (if hdF no (tu * 30) (ti * 48 + pi) (siz tu) then siz tu - 1 else siz tu + 1)) k)))), (t2, .inl (cyI, 120, .inl (fun k => nI ((if hdF no (tu * 30) (ti * 48 + pi) (siz tu) then stF no (tu * 30) (ti * 48 + pi) (siz tu - 1) else wrF no (tu * 30) (ti * 48 + pi) (siz tu)) k))))]) hD (by rw [e1, e2])
    have hP9 : va_P (dC, dI) vwCl [(p0, .inr (7, [.ref t0, .ref w0, .ref g0, .ref h0, .ref s0, .ref v0, .int (nI kn)])), (t0, .inr (5, [.ref t1, .ref t2, .int (nI tcn)])), (t1, .inl (cyI, 4, .inl (fun k => nI ((va_up siz tu (if hdF no (tu * 30) (ti * 48 + pi) (siz tu) then siz tu - 1 else siz tu + 1)) k)))), (t2, .inl (cyI, 120, .inl (fun k => nI ((if hdF no (tu * 30) (ti * 48 + pi) (siz tu) then stF no (tu * 30) (ti * 48 + pi) (siz tu - 1) else wrF no (tu * 30) (ti * 48 + pi) (siz tu)) k))))] _ := hP
    have hD9 : va_D A [(p0, .inr (7, [.ref t0, .ref w0, .ref g0, .ref h0, .ref s0, .ref v0, .int (nI kn)])), (t0, .inr (5, [.ref t1, .ref t2, .int (nI tcn)])), (t1, .inl (cyI, 4, .inl (fun k => nI ((va_up siz tu (if hdF no (tu * 30) (ti * 48 + pi) (siz tu) then siz tu - 1 else siz tu + 1)) k)))), (t2, .inl (cyI, 120, .inl (fun k => nI ((if hdF no (tu * 30) (ti * 48 + pi) (siz tu) then stF no (tu * 30) (ti * 48 + pi) (siz tu - 1) else wrF no (tu * 30) (ti * 48 + pi) (siz tu)) k))))] := hD
    exact W.iret (v := nI ((va_up siz tu (siz tu + 1)) tu)) hx hb hr (fun t ht hW => ⟨⟨nI ((va_up siz tu (siz tu + 1)) tu), (), rfl, (by rw [e1, xu_self]), ⟨by rw [ht]; exact hP9, hD9⟩⟩, hS.F ht⟩) hS.2.2 dX5_note_107

theorem inX5_pinTune_X5 : ∀ w ∈ wsX50, w ∈ wsX5_pinTune := by decide +kernel
theorem mX5_pinTune_fieldLink_RX5_10_PinBarrel_tunes_LPinBarrel_Tunes : Cond.fieldLink RX5 10 "PinBarrel" "tunes" "LPinBarrel$Tunes;" ∈ wsX5_pinTune := List.mem_of_getElem? (i := 1) (by decide +kernel)
theorem inX5_pinTune_X3 : ∀ w ∈ wsX30, w ∈ wsX5_pinTune := by decide +kernel
theorem mX5_pinTune_fieldLink_RX5_84_PinBarrel_Tunes_size_I : Cond.fieldLink RX5 84 "PinBarrel$Tunes" "size" "[I" ∈ wsX5_pinTune := List.mem_of_getElem? (i := 2) (by decide +kernel)
theorem mX5_pinTune_fieldLink_RX5_27_PinBarrel_comb_LPinBarrel_Comb : Cond.fieldLink RX5 27 "PinBarrel" "comb" "LPinBarrel$Comb;" ∈ wsX5_pinTune := List.mem_of_getElem? (i := 3) (by decide +kernel)
set_option maxHeartbeats 4000000 in
set_option maxRecDepth 100000 in
theorem kX5_pinTune (l : Launch) (dC : Nat → ClassId) (dI : Nat → Nat → Nat) (cyI cyZ cyJ cyD cyB : ClassId) (p0 t0 t1 t2 g0 g1 g2 b0 b1 b2 : Nat) (w0 : Nat) (h0 : Nat) (s0 : Nat) (v0 : Nat) (kn : Nat) (tcn : Nat) (siz : Nat → Nat) (no : Nat → Nat) (g3 : Nat) (g4 : Nat) (g5 : Nat) (cnt : Nat) (pit : Nat → Nat) (bro : Nat → Bool) (vplc : Nat → Int64) (vwea : Nat → Nat) (tu : Nat) (ln : Nat) (hi : Int32) (hcn : cnt ≤ 24) (htu : tu < 4) (hln : ln < 3) (hno : ∀ k, no k < 3072) (hsz : ∀ k, siz k ≤ 30) : Met l yX5_pinTune wsX5_pinTune ({ frames := 2, cells := 0, slots := 0, locals := 53 }) (va_Pc [.ref p0, .ref b0, .int (nI tu), .int (nI ln), .int hi] (xM (dC, dI) vwCl (xT cyI cyZ cyJ cyD cyB) [(p0, .inr (7, [.ref t0, .ref w0, .ref g0, .ref h0, .ref s0, .ref v0, .int (nI kn)])), (t0, .inr (5, [.ref t1, .ref t2, .int (nI tcn)])), (t1, .inl (cyI, 4, .inl (fun k => nI (siz k)))), (t2, .inl (cyI, 120, .inl (fun k => nI (no k)))), (g0, .inr (3, [.ref g1, .ref g2, .ref g3, .ref g4, .ref g5, .int (nI cnt)])), (g1, .inl (cyI, 24, .inl (fun k => nI (pit k)))), (g2, .inl (cyZ, 24, .inl (fun k => xb (bro k)))), (b0, .inr (2, [.ref b1, .ref b2])), (b1, .inl (cyJ, 72, .inr (.inl vplc))), (b2, .inl (cyI, 4608, .inl (fun k => nI (vwea k))))])) (va_Qi (fun (r : Int32) (u : Unit) => r = nI ((ptF pit bro cnt no (tu * 30) ln hi vplc vwea (siz tu)).2.2)) (fun u t => va_P (dC, dI) vwCl [(p0, .inr (7, [.ref t0, .ref w0, .ref g0, .ref h0, .ref s0, .ref v0, .int (nI kn)])), (t0, .inr (5, [.ref t1, .ref t2, .int (nI tcn)])), (t1, .inl (cyI, 4, .inl (fun k => nI (siz k)))), (t2, .inl (cyI, 120, .inl (fun k => nI (no k)))), (g0, .inr (3, [.ref g1, .ref g2, .ref g3, .ref g4, .ref g5, .int (nI cnt)])), (g1, .inl (cyI, 24, .inl (fun k => nI (pit k)))), (g2, .inl (cyZ, 24, .inl (fun k => xb (bro k)))), (b0, .inr (2, [.ref b1, .ref b2])), (b1, .inl (cyJ, 72, .inr (.inl ((ptF pit bro cnt no (tu * 30) ln hi vplc vwea (siz tu)).1)))), (b2, .inl (cyI, 4608, .inl (fun k => nI (((ptF pit bro cnt no (tu * 30) ln hi vplc vwea (siz tu)).2.1) k))))] t.heap ∧ va_D (xA [(p0, .inr (7, [.ref t0, .ref w0, .ref g0, .ref h0, .ref s0, .ref v0, .int (nI kn)])), (t0, .inr (5, [.ref t1, .ref t2, .int (nI tcn)])), (t1, .inl (cyI, 4, .inl (fun k => nI (siz k)))), (t2, .inl (cyI, 120, .inl (fun k => nI (no k)))), (g0, .inr (3, [.ref g1, .ref g2, .ref g3, .ref g4, .ref g5, .int (nI cnt)])), (g1, .inl (cyI, 24, .inl (fun k => nI (pit k)))), (g2, .inl (cyZ, 24, .inl (fun k => xb (bro k)))), (b0, .inr (2, [.ref b1, .ref b2])), (b1, .inl (cyJ, 72, .inr (.inl vplc))), (b2, .inl (cyI, 4608, .inl (fun k => nI (vwea k))))]) [(p0, .inr (7, [.ref t0, .ref w0, .ref g0, .ref h0, .ref s0, .ref v0, .int (nI kn)])), (t0, .inr (5, [.ref t1, .ref t2, .int (nI tcn)])), (t1, .inl (cyI, 4, .inl (fun k => nI (siz k)))), (t2, .inl (cyI, 120, .inl (fun k => nI (no k)))), (g0, .inr (3, [.ref g1, .ref g2, .ref g3, .ref g4, .ref g5, .int (nI cnt)])), (g1, .inl (cyI, 24, .inl (fun k => nI (pit k)))), (g2, .inl (cyZ, 24, .inl (fun k => xb (bro k)))), (b0, .inr (2, [.ref b1, .ref b2])), (b1, .inl (cyJ, 72, .inr (.inl ((ptF pit bro cnt no (tu * 30) ln hi vplc vwea (siz tu)).1)))), (b2, .inl (cyI, 4608, .inl (fun k => nI (((ptF pit bro cnt no (tu * 30) ln hi vplc vwea (siz tu)).2.1) k))))]) (xA [(p0, .inr (7, [.ref t0, .ref w0, .ref g0, .ref h0, .ref s0, .ref v0, .int (nI kn)])), (t0, .inr (5, [.ref t1, .ref t2, .int (nI tcn)])), (t1, .inl (cyI, 4, .inl (fun k => nI (siz k)))), (t2, .inl (cyI, 120, .inl (fun k => nI (no k)))), (g0, .inr (3, [.ref g1, .ref g2, .ref g3, .ref g4, .ref g5, .int (nI cnt)])), (g1, .inl (cyI, 24, .inl (fun k => nI (pit k)))), (g2, .inl (cyZ, 24, .inl (fun k => xb (bro k)))), (b0, .inr (2, [.ref b1, .ref b2])), (b1, .inl (cyJ, 72, .inr (.inl vplc))), (b2, .inl (cyI, 4608, .inl (fun k => nI (vwea k))))])) 0 0 (xA [(p0, .inr (7, [.ref t0, .ref w0, .ref g0, .ref h0, .ref s0, .ref v0, .int (nI kn)])), (t0, .inr (5, [.ref t1, .ref t2, .int (nI tcn)])), (t1, .inl (cyI, 4, .inl (fun k => nI (siz k)))), (t2, .inl (cyI, 120, .inl (fun k => nI (no k)))), (g0, .inr (3, [.ref g1, .ref g2, .ref g3, .ref g4, .ref g5, .int (nI cnt)])), (g1, .inl (cyI, 24, .inl (fun k => nI (pit k)))), (g2, .inl (cyZ, 24, .inl (fun k => xb (bro k)))), (b0, .inr (2, [.ref b1, .ref b2])), (b1, .inl (cyJ, 72, .inr (.inl vplc))), (b2, .inl (cyI, 4608, .inl (fun k => nI (vwea k))))]) := by
  refine Met.ofW (cc := cX5_pinTune) (maxL := 10) (ret := (some .int)) (by decide) rfl ?_
  intro p e s m args below meth c s₁ B hml hv
  obtain ⟨rfl, hP, hK, hD0⟩ := hv
  have hx := B.exec
  have hb := B.bytes
  have hr := B.returns
  have hts := atoms_spec (ws := wsX5_pinTune) B.pre
  have hown : s.vm.findClass RX5 = some m.cls := findClass_of_methodNamed B.named
  have hlocks := B.notSynchronized
  have hD := xA_self hD0
  clear hD0
  generalize hAe : xA [(p0, .inr (7, [.ref t0, .ref w0, .ref g0, .ref h0, .ref s0, .ref v0, .int (nI kn)])), (t0, .inr (5, [.ref t1, .ref t2, .int (nI tcn)])), (t1, .inl (cyI, 4, .inl (fun k => nI (siz k)))), (t2, .inl (cyI, 120, .inl (fun k => nI (no k)))), (g0, .inr (3, [.ref g1, .ref g2, .ref g3, .ref g4, .ref g5, .int (nI cnt)])), (g1, .inl (cyI, 24, .inl (fun k => nI (pit k)))), (g2, .inl (cyZ, 24, .inl (fun k => xb (bro k)))), (b0, .inr (2, [.ref b1, .ref b2])), (b1, .inl (cyJ, 72, .inr (.inl vplc))), (b2, .inl (cyI, 4608, .inl (fun k => nI (vwea k))))] = A at hD ⊢
  have hS : va_S A s.heap s.heap [] := va_S.rf
  have hP : va_P (dC, dI) vwCl [(p0, .inr (7, [.ref t0, .ref w0, .ref g0, .ref h0, .ref s0, .ref v0, .int (nI kn)])), (t0, .inr (5, [.ref t1, .ref t2, .int (nI tcn)])), (t1, .inl (cyI, 4, .inl (fun k => nI (siz k)))), (t2, .inl (cyI, 120, .inl (fun k => nI (no k)))), (g0, .inr (3, [.ref g1, .ref g2, .ref g3, .ref g4, .ref g5, .int (nI cnt)])), (g1, .inl (cyI, 24, .inl (fun k => nI (pit k)))), (g2, .inl (cyZ, 24, .inl (fun k => xb (bro k)))), (b0, .inr (2, [.ref b1, .ref b2])), (b1, .inl (cyJ, 72, .inr (.inl vplc))), (b2, .inl (cyI, 4608, .inl (fun k => nI (vwea k))))] s.heap := hP
  have hl := lv_entry ([.ref p0, .ref b0, .int (nI tu), .int (nI ln), .int hi]) (n := 10) (Nat.le_of_ble_eq_true rfl)
  rw [lg_entry_eq]
  generalize (lg_sl ([.ref p0, .ref b0, .int (nI tu), .int (nI ln), .int hi]) ++ List.replicate (10 - (lg_sl ([.ref p0, .ref b0, .int (nI tu), .int (nI ln), .int hi])).length) Slot.unset).toArray = ls at hl ⊢
  have hl : lv_has ls 10 [(0, .ref p0), (1, .ref b0), (2, .int (nI tu)), (3, .int (nI ln)), (4, .int hi)] := hl
  have hsz1 := hsz tu
  refine lv_iconst (v := nI 0) hx hb dX5_pinTune_0 (by decide) ?_
  refine lv_istore (lv' := [(5, .int (nI 0)), (0, .ref p0), (1, .ref b0), (2, .int (nI tu)), (3, .int (nI ln)), (4, .int hi)]) hx hb dX5_pinTune_1 hl (by decide) rfl (fun ls hl => ?_)
  refine lv_aload_n hx hb dX5_pinTune_3 rfl (lv_at hl 1 rfl) ?_
  refine va_get (D := (dC, dI)) (ci := 7) (v := .ref t0) (C := RX5) (T := TX5) (N := 7) hx hb hts inX5_pinTune_X5 hown hK hP 0 rfl rfl 0 (by decide) (hts _ mX5_pinTune_fieldLink_RX5_10_PinBarrel_tunes_LPinBarrel_Tunes) (fun _ h9 => h9) rfl dX5_pinTune_4 ?_
  refine va_get (D := (dC, dI)) (ci := 5) (v := .ref t1) (C := RX3) (T := TX3) (N := 3) hx hb hts inX5_pinTune_X3 hown hK hP 1 rfl rfl 0 (by decide) (hts _ mX5_pinTune_fieldLink_RX5_84_PinBarrel_Tunes_size_I) (fun _ h9 => h9) rfl dX5_pinTune_7 ?_
  refine lv_iload_n hx hb dX5_pinTune_10 rfl (lv_at hl 3 rfl) ?_
  refine xl_I (f := siz) hx hb hK hP 2 0 rfl rfl (by omega) (by decide) dX5_pinTune_11 ?_
  refine lv_istore (lv' := [(6, .int (nI (siz tu))), (5, .int (nI 0)), (0, .ref p0), (1, .ref b0), (2, .int (nI tu)), (3, .int (nI ln)), (4, .int hi)]) hx hb dX5_pinTune_12 hl (by decide) rfl (fun ls hl => ?_)
  refine lv_iconst (v := nI 0) hx hb dX5_pinTune_14 (by decide) ?_
  refine lv_istore (lv' := [(7, .int (nI 0)), (6, .int (nI (siz tu))), (5, .int (nI 0)), (0, .ref p0), (1, .ref b0), (2, .int (nI tu)), (3, .int (nI ln)), (4, .int hi)]) hx hb dX5_pinTune_15 hl (by decide) rfl (fun ls hl => ?_)
  refine (?_ : ∀ (n_1 i_2 : Nat), i_2 + n_1 = siz tu → ∀ (plcq : Nat → Int64) (weaq : Nat → Nat) (losq : Nat) (hq : (plcq, weaq, losq) = ptF pit bro cnt no (tu * 30) ln hi vplc vwea i_2) (H : Heap) (locs : List Loc) (hP : va_P (dC, dI) vwCl [(p0, .inr (7, [.ref t0, .ref w0, .ref g0, .ref h0, .ref s0, .ref v0, .int (nI kn)])), (t0, .inr (5, [.ref t1, .ref t2, .int (nI tcn)])), (t1, .inl (cyI, 4, .inl (fun k => nI (siz k)))), (t2, .inl (cyI, 120, .inl (fun k => nI (no k)))), (g0, .inr (3, [.ref g1, .ref g2, .ref g3, .ref g4, .ref g5, .int (nI cnt)])), (g1, .inl (cyI, 24, .inl (fun k => nI (pit k)))), (g2, .inl (cyZ, 24, .inl (fun k => xb (bro k)))), (b0, .inr (2, [.ref b1, .ref b2])), (b1, .inl (cyJ, 72, .inr (.inl plcq))), (b2, .inl (cyI, 4608, .inl (fun k => nI (weaq k))))] H) (hD : va_D A [(p0, .inr (7, [.ref t0, .ref w0, .ref g0, .ref h0, .ref s0, .ref v0, .int (nI kn)])), (t0, .inr (5, [.ref t1, .ref t2, .int (nI tcn)])), (t1, .inl (cyI, 4, .inl (fun k => nI (siz k)))), (t2, .inl (cyI, 120, .inl (fun k => nI (no k)))), (g0, .inr (3, [.ref g1, .ref g2, .ref g3, .ref g4, .ref g5, .int (nI cnt)])), (g1, .inl (cyI, 24, .inl (fun k => nI (pit k)))), (g2, .inl (cyZ, 24, .inl (fun k => xb (bro k)))), (b0, .inr (2, [.ref b1, .ref b2])), (b1, .inl (cyJ, 72, .inr (.inl plcq))), (b2, .inl (cyI, 4608, .inl (fun k => nI (weaq k))))]) (hS : va_S A s.heap H locs) (ls : Array Slot) (hl : lv_has ls 10 [(7, .int (nI i_2)), (6, .int (nI (siz tu))), (5, .int (nI losq)), (0, .ref p0), (1, .ref b0), (2, .int (nI tu)), (3, .int (nI ln)), (4, .int hi)]), W p l e _ s m _ below meth c H locs 0 0 _ (F0 m 17 ls [])) ((siz tu) - 0) 0 (by omega) vplc vwea 0 rfl _ _ hP hD hS _ (lv_sub hl [0, 1, 2, 3, 4, 5, 6, 7] rfl)
  clear hl hP hS hD
  intro n_1
  induction n_1 with
  | zero =>
    intro i_2 hi_3 plcq weaq losq hq H locs hP hD hS ls hl
    have hsz1 := hsz tu
    have hno1 := hno (tu * 30 + i_2)
    have hlo1 := ptF_le pit bro cnt no (tu * 30) ln hi vplc vwea i_2
    rw [← hq] at hlo1
    refine lv_iload hx hb dX5_pinTune_17 (lv_at hl 0 rfl) ?_
    refine lv_iload hx hb dX5_pinTune_19 (lv_at hl 1 rfl) ?_
    refine xc_ge (tgt := 89) hx hb dX5_pinTune_21 (by decide) (by omega) (by omega) (fun c_6 => ?_) (fun c_6 => by omega)
    refine lv_iload hx hb dX5_pinTune_89 (lv_at hl 2 rfl) ?_
    have h8 : i_2 = siz tu := by omega
    rw [h8] at hq
    have e1 : (ptF pit bro cnt no (tu * 30) ln hi vplc vwea (siz tu)).1 = plcq := by rw [← hq]
    have e2 : (ptF pit bro cnt no (tu * 30) ln hi vplc vwea (siz tu)).2.1 = weaq := by rw [← hq]
    have hP := xW_eqP (w1 := [(p0, .inr (7, [.ref t0, .ref w0, .ref g0, .ref h0, .ref s0, .ref v0, .int (nI kn)])), (t0, .inr (5, [.ref t1, .ref t2, .int (nI tcn)])), (t1, .inl (cyI, 4, .inl (fun k => nI (siz k)))), (t2, .inl (cyI, 120, .inl (fun k => nI (no k)))), (g0, .inr (3, [.ref g1, .ref g2, .ref g3, .ref g4, .ref g5, .int (nI cnt)])), (g1, .inl (cyI, 24, .inl (fun k => nI (pit k)))), (g2, .inl (cyZ, 24, .inl (fun k => xb (bro k)))), (b0, .inr (2, [.ref b1, .ref b2])), (b1, .inl (cyJ, 72, .inr (.inl ((ptF pit bro cnt no (tu * 30) ln hi vplc vwea (siz tu)).1)))), (b2, .inl (cyI, 4608, .inl (fun k => nI (((ptF pit bro cnt no (tu * 30) ln hi vplc vwea (siz tu)).2.1) k))))]) hP (by rw [e1, e2])
    have hD := xW_eqD (w1 := [(p0, .inr (7, [.ref t0, .ref w0, .ref g0, .ref h0, .ref s0, .ref v0, .int (nI kn)])), (t0, .inr (5, [.ref t1, .ref t2, .int (nI tcn)])), (t1, .inl (cyI, 4, .inl (fun k => nI (siz k)))), (t2, .inl (cyI, 120, .inl (fun k => nI (no k)))), (g0, .inr (3, [.ref g1, .ref g2, .ref g3, .ref g4, .ref g5, .int (nI cnt)])), (g1, .inl (cyI, 24, .inl (fun k => nI (pit k)))), (g2, .inl (cyZ, 24, .inl (fun k => xb (bro k)))), (b0, .inr (2, [.ref b1, .ref b2])), (b1, .inl (cyJ, 72, .inr (.inl ((ptF pit bro cnt no (tu * 30) ln hi vplc vwea (siz tu)).1)))), (b2, .inl (cyI, 4608, .inl (fun k => nI (((ptF pit bro cnt no (tu * 30) ln hi vplc vwea (siz tu)).2.1) k))))]) hD (by rw [e1, e2])
    have hP9 : va_P (dC, dI) vwCl [(p0, .inr (7, [.ref t0, .ref w0, .ref g0, .ref h0, .ref s0, .ref v0, .int (nI kn)])), (t0, .inr (5, [.ref t1, .ref t2, .int (nI tcn)])), (t1, .inl (cyI, 4, .inl (fun k => nI (siz k)))), (t2, .inl (cyI, 120, .inl (fun k => nI (no k)))), (g0, .inr (3, [.ref g1, .ref g2, .ref g3, .ref g4, .ref g5, .int (nI cnt)])), (g1, .inl (cyI, 24, .inl (fun k => nI (pit k)))), (g2, .inl (cyZ, 24, .inl (fun k => xb (bro k)))), (b0, .inr (2, [.ref b1, .ref b2])), (b1, .inl (cyJ, 72, .inr (.inl ((ptF pit bro cnt no (tu * 30) ln hi vplc vwea (siz tu)).1)))), (b2, .inl (cyI, 4608, .inl (fun k => nI (((ptF pit bro cnt no (tu * 30) ln hi vplc vwea (siz tu)).2.1) k))))] _ := hP
    have hD9 : va_D A [(p0, .inr (7, [.ref t0, .ref w0, .ref g0, .ref h0, .ref s0, .ref v0, .int (nI kn)])), (t0, .inr (5, [.ref t1, .ref t2, .int (nI tcn)])), (t1, .inl (cyI, 4, .inl (fun k => nI (siz k)))), (t2, .inl (cyI, 120, .inl (fun k => nI (no k)))), (g0, .inr (3, [.ref g1, .ref g2, .ref g3, .ref g4, .ref g5, .int (nI cnt)])), (g1, .inl (cyI, 24, .inl (fun k => nI (pit k)))), (g2, .inl (cyZ, 24, .inl (fun k => xb (bro k)))), (b0, .inr (2, [.ref b1, .ref b2])), (b1, .inl (cyJ, 72, .inr (.inl ((ptF pit bro cnt no (tu * 30) ln hi vplc vwea (siz tu)).1)))), (b2, .inl (cyI, 4608, .inl (fun k => nI (((ptF pit bro cnt no (tu * 30) ln hi vplc vwea (siz tu)).2.1) k))))] := hD
    exact W.iret (v := nI losq) hx hb hr (fun t ht hW => ⟨⟨nI losq, (), rfl, (by rw [← hq]), ⟨by rw [ht]; exact hP9, hD9⟩⟩, hS.F ht⟩) hS.2.2 dX5_pinTune_91
  | succ n_1 ih_4 =>
    intro i_2 hi_3 plcq weaq losq hq H locs hP hD hS ls hl
    have hsz1 := hsz tu
    have hno1 := hno (tu * 30 + i_2)
    have hlo1 := ptF_le pit bro cnt no (tu * 30) ln hi vplc vwea i_2
    rw [← hq] at hlo1
    refine lv_iload hx hb dX5_pinTune_17 (lv_at hl 0 rfl) ?_
    refine lv_iload hx hb dX5_pinTune_19 (lv_at hl 1 rfl) ?_
    refine xc_ge (tgt := 89) hx hb dX5_pinTune_21 (by decide) (by omega) (by omega) (fun c_7 => by omega) (fun c_7 => ?_)
    refine lv_aload_n hx hb dX5_pinTune_24 rfl (lv_at hl 3 rfl) ?_
    refine va_get (D := (dC, dI)) (ci := 7) (v := .ref t0) (C := RX5) (T := TX5) (N := 7) hx hb hts inX5_pinTune_X5 hown hK hP 0 rfl rfl 0 (by decide) (hts _ mX5_pinTune_fieldLink_RX5_10_PinBarrel_tunes_LPinBarrel_Tunes) (fun _ h9 => h9) rfl dX5_pinTune_25 ?_
    refine lv_iload_n hx hb dX5_pinTune_28 rfl (lv_at hl 5 rfl) ?_
    refine lv_iload hx hb dX5_pinTune_29 (lv_at hl 0 rfl) ?_
    refine xv_i (As := [.int (nI tu), .int (nI i_2)]) (rest := []) (q := (RX3, TX3, 3)) ⟨hx, hb, hml, hown, hts⟩ (kX3_timeOf l dC dI cyI cyZ cyJ cyD cyB t0 t2 t1 tcn tu i_2 no (by omega) (by omega) hno) (cwV 2 hts gX5_pinTune_X3_timeOf rfl rfl rfl (by decide +kernel) ⟨Nat.le_of_ble_eq_true rfl, Nat.le_of_ble_eq_true rfl⟩) hK hP hS [1, 3] rfl 1 5 rfl rfl rfl hl.1 rfl (Nat.le_of_ble_eq_true rfl) dX5_pinTune_31 ⟨Nat.zero_le _, Nat.zero_le _⟩ (fun r_8 H locs hw hP hS => ?_)
    have hw : r_8 = nI (no (tu * 30 + i_2) / 48) := hw
    subst hw
    refine lv_istore (lv' := [(8, .int (nI (no (tu * 30 + i_2) / 48))), (7, .int (nI i_2)), (6, .int (nI (siz tu))), (5, .int (nI losq)), (0, .ref p0), (1, .ref b0), (2, .int (nI tu)), (3, .int (nI ln)), (4, .int hi)]) hx hb dX5_pinTune_34 hl (by decide) rfl (fun ls hl => ?_)
    refine lv_aload_n hx hb dX5_pinTune_36 rfl (lv_at hl 5 rfl) ?_
    refine lv_aload_n hx hb dX5_pinTune_37 rfl (lv_at hl 4 rfl) ?_
    refine va_get (D := (dC, dI)) (ci := 7) (v := .ref g0) (C := RX5) (T := TX5) (N := 7) hx hb hts inX5_pinTune_X5 hown hK hP 0 rfl rfl 2 (by decide) (hts _ mX5_pinTune_fieldLink_RX5_27_PinBarrel_comb_LPinBarrel_Comb) (fun _ h9 => h9) rfl dX5_pinTune_38 ?_
    refine lv_iload_n hx hb dX5_pinTune_41 rfl (lv_at hl 7 rfl) ?_
    refine lv_aload_n hx hb dX5_pinTune_42 rfl (lv_at hl 4 rfl) ?_
    refine va_get (D := (dC, dI)) (ci := 7) (v := .ref t0) (C := RX5) (T := TX5) (N := 7) hx hb hts inX5_pinTune_X5 hown hK hP 0 rfl rfl 0 (by decide) (hts _ mX5_pinTune_fieldLink_RX5_10_PinBarrel_tunes_LPinBarrel_Tunes) (fun _ h9 => h9) rfl dX5_pinTune_43 ?_
    refine lv_iload_n hx hb dX5_pinTune_46 rfl (lv_at hl 6 rfl) ?_
    refine lv_iload hx hb dX5_pinTune_47 (lv_at hl 1 rfl) ?_
    refine xv_i (As := [.int (nI tu), .int (nI i_2)]) (rest := [.int (nI ln), .ref g0, .ref b0]) (q := (RX3, TX3, 3)) ⟨hx, hb, hml, hown, hts⟩ (kX3_pitchOf l dC dI cyI cyZ cyJ cyD cyB t0 t2 t1 tcn tu i_2 no (by omega) (by omega) hno) (cwV 2 hts gX5_pinTune_X3_pitchOf rfl rfl rfl (by decide +kernel) ⟨Nat.le_of_ble_eq_true rfl, Nat.le_of_ble_eq_true rfl⟩) hK hP hS [1, 3] rfl 1 5 rfl rfl rfl hl.1 rfl (Nat.le_of_ble_eq_true rfl) dX5_pinTune_49 ⟨Nat.zero_le _, Nat.zero_le _⟩ (fun r_9 H locs hw hP hS => ?_)
    have hw : r_9 = nI (no (tu * 30 + i_2) % 48) := hw
    subst hw
    refine lv_iload hx hb dX5_pinTune_52 (lv_at hl 8 rfl) ?_
    refine lv_iadd hx hb dX5_pinTune_54 ?_
    refine lv_iload hx hb dX5_pinTune_55 (lv_at hl 0 rfl) ?_
    refine xv_i (As := [.ref g0, .int (nI ln), .int ((nI (no (tu * 30 + i_2) % 48)) + hi), .int (nI (no (tu * 30 + i_2) / 48))]) (rest := []) (q := (RX0, TX0, 2)) ⟨hx, hb, hml, hown, hts⟩ (kX0_freeTooth l dC dI cyI cyZ cyJ cyD cyB b0 b1 g0 g1 g2 b2 plcq g3 g4 g5 cnt pit bro ln ((nI (no (tu * 30 + i_2) % 48)) + hi) (no (tu * 30 + i_2) / 48) (by omega) (by omega) (by omega)) (cwV 4 hts gX5_pinTune_X0_freeTooth rfl rfl rfl (by decide +kernel) ⟨Nat.le_of_ble_eq_true rfl, Nat.le_of_ble_eq_true rfl⟩) hK hP hS [7, 8, 4, 5, 6] rfl 7 2 rfl rfl rfl hl.1 rfl (Nat.le_of_ble_eq_true rfl) dX5_pinTune_57 ⟨Nat.zero_le _, Nat.zero_le _⟩ (fun r_10 H locs hw hP hS => ?_)
    have hw : r_10 = (frF pit bro plcq ln ((nI (no (tu * 30 + i_2) % 48)) + hi) (nearL (no (tu * 30 + i_2) / 48)) cnt).1 := hw
    rw [hw]
    refine lv_istore (lv' := [(9, .int ((frF pit bro plcq ln ((nI (no (tu * 30 + i_2) % 48)) + hi) (nearL (no (tu * 30 + i_2) / 48)) cnt).1)), (8, .int (nI (no (tu * 30 + i_2) / 48))), (7, .int (nI i_2)), (6, .int (nI (siz tu))), (5, .int (nI losq)), (0, .ref p0), (1, .ref b0), (2, .int (nI tu)), (3, .int (nI ln)), (4, .int hi)]) hx hb dX5_pinTune_60 hl (by decide) rfl (fun ls hl => ?_)
    refine lv_iload hx hb dX5_pinTune_62 (lv_at hl 0 rfl) ?_
    refine lv_iconst (v := (-1)) hx hb dX5_pinTune_64 (by decide) ?_
    refine lv_icmp_ne (tgt := 74) hx hb dX5_pinTune_65 (by decide) (fun c_11 => ?_) (fun c_11 => ?_)
    · obtain ⟨k9, hk1, hk2, -, -, -⟩ := (frF_some pit bro plcq ln (nI (no (tu * 30 + i_2) % 48) + hi) (nearL (no (tu * 30 + i_2) / 48)) cnt).resolve_left c_11
      rw [hk2] at hl
      refine lv_aload_n hx hb dX5_pinTune_74 rfl (lv_at hl 6 rfl) ?_
      refine lv_iload hx hb dX5_pinTune_75 (lv_at hl 0 rfl) ?_
      refine lv_iload_n hx hb dX5_pinTune_77 rfl (lv_at hl 8 rfl) ?_
      refine lv_iload hx hb dX5_pinTune_78 (lv_at hl 1 rfl) ?_
      refine xm_v (As := [.int (nI k9), .int (nI ln), .int (nI (no (tu * 30 + i_2) / 48))]) (rest := []) (q := (RX0, TX0, 2)) ⟨hx, hb, hml, hown, hts⟩ (kX0_setPin l dC dI cyI cyZ cyJ cyD cyB b0 b1 b2 plcq weaq k9 ln (no (tu * 30 + i_2) / 48) (by omega) (by omega) (by omega)) (cwV 3 hts gX5_pinTune_X0_setPin rfl rfl rfl (by decide +kernel) ⟨Nat.le_of_ble_eq_true rfl, Nat.le_of_ble_eq_true rfl⟩) hK hP hD hS [7, 8, 9] rfl (by decide) 7 2 rfl rfl rfl hl.1 rfl (Nat.le_of_ble_eq_true rfl) dX5_pinTune_80 ⟨Nat.zero_le _, Nat.zero_le _⟩ (fun u_13 H1 locs hw hP1 hD1 hk1 hS => ?_)
      obtain ⟨hP, hD⟩ := xW_join (wr := [(p0, .inr (7, [.ref t0, .ref w0, .ref g0, .ref h0, .ref s0, .ref v0, .int (nI kn)])), (t0, .inr (5, [.ref t1, .ref t2, .int (nI tcn)])), (t1, .inl (cyI, 4, .inl (fun k => nI (siz k)))), (t2, .inl (cyI, 120, .inl (fun k => nI (no k)))), (g0, .inr (3, [.ref g1, .ref g2, .ref g3, .ref g4, .ref g5, .int (nI cnt)])), (g1, .inl (cyI, 24, .inl (fun k => nI (pit k)))), (g2, .inl (cyZ, 24, .inl (fun k => xb (bro k))))]) (w1 := [(b0, .inr (2, [.ref b1, .ref b2])), (b1, .inl (cyJ, 72, .inr (.inl (va_up plcq (ln * 24 + k9) (setB (plcq (ln * 24 + k9)) (no (tu * 30 + i_2) / 48)))))), (b2, .inl (cyI, 4608, .inl (fun k => nI ((va_up weaq ((ln * 24 + k9) * 64 + (no (tu * 30 + i_2) / 48)) 0) k))))]) (wN := [(p0, .inr (7, [.ref t0, .ref w0, .ref g0, .ref h0, .ref s0, .ref v0, .int (nI kn)])), (t0, .inr (5, [.ref t1, .ref t2, .int (nI tcn)])), (t1, .inl (cyI, 4, .inl (fun k => nI (siz k)))), (t2, .inl (cyI, 120, .inl (fun k => nI (no k)))), (g0, .inr (3, [.ref g1, .ref g2, .ref g3, .ref g4, .ref g5, .int (nI cnt)])), (g1, .inl (cyI, 24, .inl (fun k => nI (pit k)))), (g2, .inl (cyZ, 24, .inl (fun k => xb (bro k)))), (b0, .inr (2, [.ref b1, .ref b2])), (b1, .inl (cyJ, 72, .inr (.inl (va_up plcq (ln * 24 + k9) (setB (plcq (ln * 24 + k9)) (no (tu * 30 + i_2) / 48)))))), (b2, .inl (cyI, 4608, .inl (fun k => nI ((va_up weaq ((ln * 24 + k9) * 64 + (no (tu * 30 + i_2) / 48)) 0) k))))]) hP hD [7, 8, 9] [0, 1, 2, 3, 4, 5, 6] [0, 1, 2, 3, 4, 5, 6, 7, 8, 9] rfl rfl (by decide) (by decide) hk1 hP1 hD1 (by decide) rfl
      clear hP1 hD1 hk1
      generalize H1 = H at hP hS ⊢
      refine xi_inc (k := 2) (lv' := [(7, .int (nI (i_2 + 1))), (9, .int (nI k9)), (8, .int (nI (no (tu * 30 + i_2) / 48))), (6, .int (nI (siz tu))), (5, .int (nI losq)), (0, .ref p0), (1, .ref b0), (2, .int (nI tu)), (3, .int (nI ln)), (4, .int hi)]) hx hb dX5_pinTune_83 hl rfl (by decide) rfl (fun ls hl => ?_)
      refine lv_goto (tgt := 17) hx hb dX5_pinTune_86 (by decide) ?_
      exact ih_4 (i_2 + 1) (by omega) (va_up plcq (ln * 24 + k9) (setB (plcq (ln * 24 + k9)) (no (tu * 30 + i_2) / 48))) (va_up weaq ((ln * 24 + k9) * 64 + (no (tu * 30 + i_2) / 48)) 0) losq (by have h9 : ptF pit bro cnt no (tu * 30) ln hi vplc vwea (i_2 + 1) = _ := if_neg (by rw [← hq]; exact c_11); rw [h9, ← hq]; dsimp only; rw [hk2, nI_clamp (by omega)]) _ _ hP hD hS _ (lv_sub hl [0, 3, 4, 5, 6, 7, 8, 9] rfl)
    · refine xi_inc (k := 4) (lv' := [(5, .int (nI (losq + 1))), (9, .int ((frF pit bro plcq ln ((nI (no (tu * 30 + i_2) % 48)) + hi) (nearL (no (tu * 30 + i_2) / 48)) cnt).1)), (8, .int (nI (no (tu * 30 + i_2) / 48))), (7, .int (nI i_2)), (6, .int (nI (siz tu))), (0, .ref p0), (1, .ref b0), (2, .int (nI tu)), (3, .int (nI ln)), (4, .int hi)]) hx hb dX5_pinTune_68 hl rfl (by decide) rfl (fun ls hl => ?_)
      refine lv_goto (tgt := 83) hx hb dX5_pinTune_71 (by decide) ?_
      refine xi_inc (k := 3) (lv' := [(7, .int (nI (i_2 + 1))), (5, .int (nI (losq + 1))), (9, .int ((frF pit bro plcq ln ((nI (no (tu * 30 + i_2) % 48)) + hi) (nearL (no (tu * 30 + i_2) / 48)) cnt).1)), (8, .int (nI (no (tu * 30 + i_2) / 48))), (6, .int (nI (siz tu))), (0, .ref p0), (1, .ref b0), (2, .int (nI tu)), (3, .int (nI ln)), (4, .int hi)]) hx hb dX5_pinTune_83 hl rfl (by decide) rfl (fun ls hl => ?_)
      refine lv_goto (tgt := 17) hx hb dX5_pinTune_86 (by decide) ?_
      exact ih_4 (i_2 + 1) (by omega) plcq weaq (losq + 1) (by have h9 : ptF pit bro cnt no (tu * 30) ln hi vplc vwea (i_2 + 1) = ((ptF pit bro cnt no (tu * 30) ln hi vplc vwea i_2).1, (ptF pit bro cnt no (tu * 30) ln hi vplc vwea i_2).2.1, (ptF pit bro cnt no (tu * 30) ln hi vplc vwea i_2).2.2 + 1) := if_pos (by rw [← hq]; exact c_11); rw [h9, ← hq]) _ _ hP hD hS _ (lv_sub hl [0, 4, 1, 5, 6, 7, 8, 9] rfl)

theorem inX5_pin_X5 : ∀ w ∈ wsX50, w ∈ wsX5_pin := by decide +kernel
theorem mX5_pin_fieldLink_RX5_32_PinBarrel_barrel_LPinBarrel_Barrel : Cond.fieldLink RX5 32 "PinBarrel" "barrel" "LPinBarrel$Barrel;" ∈ wsX5_pin := List.mem_of_getElem? (i := 1) (by decide +kernel)
set_option maxHeartbeats 4000000 in
set_option maxRecDepth 100000 in
theorem kX5_pin (l : Launch) (dC : Nat → ClassId) (dI : Nat → Nat → Nat) (cyI cyZ cyJ cyD cyB : ClassId) (p0 t0 t1 t2 g0 g1 g2 h0 h1 h2 : Nat) (w0 : Nat) (s0 : Nat) (v0 : Nat) (kn : Nat) (tcn : Nat) (siz : Nat → Nat) (no : Nat → Nat) (g3 : Nat) (g4 : Nat) (g5 : Nat) (cnt : Nat) (pit : Nat → Nat) (bro : Nat → Bool) (plc : Nat → Int64) (wea : Nat → Nat) (tu : Nat) (ln : Nat) (hi : Int32) (hcn : cnt ≤ 24) (htc : tcn ≤ 4) (htu : tu < tcn) (hln : ln < 3) (hno : ∀ k, no k < 3072) (hsz : ∀ k, siz k ≤ 30) (hk1 : ¬ hi < (-24)) (hk2 : hi ≤ nI 24) : Met l yX5_pin wsX5_pin ({ frames := 3, cells := 0, slots := 0, locals := 82 }) (va_Pc [.ref p0, .int (nI tu), .int (nI ln), .int hi] (xM (dC, dI) vwCl (xT cyI cyZ cyJ cyD cyB) [(p0, .inr (7, [.ref t0, .ref w0, .ref g0, .ref h0, .ref s0, .ref v0, .int (nI kn)])), (t0, .inr (5, [.ref t1, .ref t2, .int (nI tcn)])), (t1, .inl (cyI, 4, .inl (fun k => nI (siz k)))), (t2, .inl (cyI, 120, .inl (fun k => nI (no k)))), (g0, .inr (3, [.ref g1, .ref g2, .ref g3, .ref g4, .ref g5, .int (nI cnt)])), (g1, .inl (cyI, 24, .inl (fun k => nI (pit k)))), (g2, .inl (cyZ, 24, .inl (fun k => xb (bro k)))), (h0, .inr (2, [.ref h1, .ref h2])), (h1, .inl (cyJ, 72, .inr (.inl plc))), (h2, .inl (cyI, 4608, .inl (fun k => nI (wea k))))])) (va_Qi (fun (r : Int32) (u : Unit) => r = nI ((ptF pit bro cnt no (tu * 30) ln hi plc wea (siz tu)).2.2)) (fun u t => va_P (dC, dI) vwCl [(p0, .inr (7, [.ref t0, .ref w0, .ref g0, .ref h0, .ref s0, .ref v0, .int (nI kn)])), (t0, .inr (5, [.ref t1, .ref t2, .int (nI tcn)])), (t1, .inl (cyI, 4, .inl (fun k => nI (siz k)))), (t2, .inl (cyI, 120, .inl (fun k => nI (no k)))), (g0, .inr (3, [.ref g1, .ref g2, .ref g3, .ref g4, .ref g5, .int (nI cnt)])), (g1, .inl (cyI, 24, .inl (fun k => nI (pit k)))), (g2, .inl (cyZ, 24, .inl (fun k => xb (bro k)))), (h0, .inr (2, [.ref h1, .ref h2])), (h1, .inl (cyJ, 72, .inr (.inl ((ptF pit bro cnt no (tu * 30) ln hi plc wea (siz tu)).1)))), (h2, .inl (cyI, 4608, .inl (fun k => nI (((ptF pit bro cnt no (tu * 30) ln hi plc wea (siz tu)).2.1) k))))] t.heap ∧ va_D (xA [(p0, .inr (7, [.ref t0, .ref w0, .ref g0, .ref h0, .ref s0, .ref v0, .int (nI kn)])), (t0, .inr (5, [.ref t1, .ref t2, .int (nI tcn)])), (t1, .inl (cyI, 4, .inl (fun k => nI (siz k)))), (t2, .inl (cyI, 120, .inl (fun k => nI (no k)))), (g0, .inr (3, [.ref g1, .ref g2, .ref g3, .ref g4, .ref g5, .int (nI cnt)])), (g1, .inl (cyI, 24, .inl (fun k => nI (pit k)))), (g2, .inl (cyZ, 24, .inl (fun k => xb (bro k)))), (h0, .inr (2, [.ref h1, .ref h2])), (h1, .inl (cyJ, 72, .inr (.inl plc))), (h2, .inl (cyI, 4608, .inl (fun k => nI (wea k))))]) [(p0, .inr (7, [.ref t0, .ref w0, .ref g0, .ref h0, .ref s0, .ref v0, .int (nI kn)])), (t0, .inr (5, [.ref t1, .ref t2, .int (nI tcn)])), (t1, .inl (cyI, 4, .inl (fun k => nI (siz k)))), (t2, .inl (cyI, 120, .inl (fun k => nI (no k)))), (g0, .inr (3, [.ref g1, .ref g2, .ref g3, .ref g4, .ref g5, .int (nI cnt)])), (g1, .inl (cyI, 24, .inl (fun k => nI (pit k)))), (g2, .inl (cyZ, 24, .inl (fun k => xb (bro k)))), (h0, .inr (2, [.ref h1, .ref h2])), (h1, .inl (cyJ, 72, .inr (.inl ((ptF pit bro cnt no (tu * 30) ln hi plc wea (siz tu)).1)))), (h2, .inl (cyI, 4608, .inl (fun k => nI (((ptF pit bro cnt no (tu * 30) ln hi plc wea (siz tu)).2.1) k))))]) (xA [(p0, .inr (7, [.ref t0, .ref w0, .ref g0, .ref h0, .ref s0, .ref v0, .int (nI kn)])), (t0, .inr (5, [.ref t1, .ref t2, .int (nI tcn)])), (t1, .inl (cyI, 4, .inl (fun k => nI (siz k)))), (t2, .inl (cyI, 120, .inl (fun k => nI (no k)))), (g0, .inr (3, [.ref g1, .ref g2, .ref g3, .ref g4, .ref g5, .int (nI cnt)])), (g1, .inl (cyI, 24, .inl (fun k => nI (pit k)))), (g2, .inl (cyZ, 24, .inl (fun k => xb (bro k)))), (h0, .inr (2, [.ref h1, .ref h2])), (h1, .inl (cyJ, 72, .inr (.inl plc))), (h2, .inl (cyI, 4608, .inl (fun k => nI (wea k))))])) 0 0 (xA [(p0, .inr (7, [.ref t0, .ref w0, .ref g0, .ref h0, .ref s0, .ref v0, .int (nI kn)])), (t0, .inr (5, [.ref t1, .ref t2, .int (nI tcn)])), (t1, .inl (cyI, 4, .inl (fun k => nI (siz k)))), (t2, .inl (cyI, 120, .inl (fun k => nI (no k)))), (g0, .inr (3, [.ref g1, .ref g2, .ref g3, .ref g4, .ref g5, .int (nI cnt)])), (g1, .inl (cyI, 24, .inl (fun k => nI (pit k)))), (g2, .inl (cyZ, 24, .inl (fun k => xb (bro k)))), (h0, .inr (2, [.ref h1, .ref h2])), (h1, .inl (cyJ, 72, .inr (.inl plc))), (h2, .inl (cyI, 4608, .inl (fun k => nI (wea k))))]) := by
  refine Met.ofW (cc := cX5_pin) (maxL := 4) (ret := (some .int)) (by decide) rfl ?_
  intro p e s m args below meth c s₁ B hml hv
  obtain ⟨rfl, hP, hK, hD0⟩ := hv
  have hx := B.exec
  have hb := B.bytes
  have hr := B.returns
  have hts := atoms_spec (ws := wsX5_pin) B.pre
  have hown : s.vm.findClass RX5 = some m.cls := findClass_of_methodNamed B.named
  have hlocks := B.notSynchronized
  have hD := xA_self hD0
  clear hD0
  generalize hAe : xA [(p0, .inr (7, [.ref t0, .ref w0, .ref g0, .ref h0, .ref s0, .ref v0, .int (nI kn)])), (t0, .inr (5, [.ref t1, .ref t2, .int (nI tcn)])), (t1, .inl (cyI, 4, .inl (fun k => nI (siz k)))), (t2, .inl (cyI, 120, .inl (fun k => nI (no k)))), (g0, .inr (3, [.ref g1, .ref g2, .ref g3, .ref g4, .ref g5, .int (nI cnt)])), (g1, .inl (cyI, 24, .inl (fun k => nI (pit k)))), (g2, .inl (cyZ, 24, .inl (fun k => xb (bro k)))), (h0, .inr (2, [.ref h1, .ref h2])), (h1, .inl (cyJ, 72, .inr (.inl plc))), (h2, .inl (cyI, 4608, .inl (fun k => nI (wea k))))] = A at hD ⊢
  have hS : va_S A s.heap s.heap [] := va_S.rf
  have hP : va_P (dC, dI) vwCl [(p0, .inr (7, [.ref t0, .ref w0, .ref g0, .ref h0, .ref s0, .ref v0, .int (nI kn)])), (t0, .inr (5, [.ref t1, .ref t2, .int (nI tcn)])), (t1, .inl (cyI, 4, .inl (fun k => nI (siz k)))), (t2, .inl (cyI, 120, .inl (fun k => nI (no k)))), (g0, .inr (3, [.ref g1, .ref g2, .ref g3, .ref g4, .ref g5, .int (nI cnt)])), (g1, .inl (cyI, 24, .inl (fun k => nI (pit k)))), (g2, .inl (cyZ, 24, .inl (fun k => xb (bro k)))), (h0, .inr (2, [.ref h1, .ref h2])), (h1, .inl (cyJ, 72, .inr (.inl plc))), (h2, .inl (cyI, 4608, .inl (fun k => nI (wea k))))] s.heap := hP
  have hl := lv_entry ([.ref p0, .int (nI tu), .int (nI ln), .int hi]) (n := 4) (Nat.le_of_ble_eq_true rfl)
  rw [lg_entry_eq]
  generalize (lg_sl ([.ref p0, .int (nI tu), .int (nI ln), .int hi]) ++ List.replicate (4 - (lg_sl ([.ref p0, .int (nI tu), .int (nI ln), .int hi])).length) Slot.unset).toArray = ls at hl ⊢
  have hl : lv_has ls 4 [(0, .ref p0), (1, .int (nI tu)), (2, .int (nI ln)), (3, .int hi)] := hl
  refine lv_aload_n hx hb dX5_pin_0 rfl (lv_at hl 0 rfl) ?_
  refine lv_iload_n hx hb dX5_pin_1 rfl (lv_at hl 1 rfl) ?_
  refine xv_v (As := [.int (nI tu)]) (rest := []) (q := (RX5, TX5, 7)) ⟨hx, hb, hml, hown, hts⟩ (kX5_needTune l dC dI cyI cyZ cyJ cyD cyB p0 t0 w0 g0 h0 s0 v0 kn t1 t2 tcn tu (by omega) (by omega)) (cwV 1 hts gX5_pin_X5_needTune rfl rfl rfl (by decide +kernel) ⟨Nat.le_of_ble_eq_true rfl, Nat.le_of_ble_eq_true rfl⟩) hK hP hS [0, 1] rfl 0 7 rfl rfl rfl hl.1 rfl (Nat.le_of_ble_eq_true rfl) dX5_pin_2 ⟨Nat.zero_le _, Nat.zero_le _⟩ (fun H locs hP hS => ?_)
  refine lv_iload_n hx hb dX5_pin_5 rfl (lv_at hl 2 rfl) ?_
  refine xs_v (As := [.int (nI ln)]) (rest := []) ⟨hx, hb, hml, hown, hts⟩ (kX5_needLine l ln (by omega)) (va_cwS 1 hts gX5_pin_X5_needLine rfl rfl rfl (by decide +kernel) ⟨Nat.le_of_ble_eq_true rfl, Nat.le_of_ble_eq_true rfl⟩) hP hS rfl hl.1 rfl (Nat.le_of_ble_eq_true rfl) dX5_pin_6 ⟨Nat.zero_le _, Nat.zero_le _⟩ (fun H locs hP hS => ?_)
  refine lv_iload_n hx hb dX5_pin_9 rfl (lv_at hl 3 rfl) ?_
  refine xs_v (As := [.int hi]) (rest := []) ⟨hx, hb, hml, hown, hts⟩ (kX5_needKey l hi (by omega) (by omega)) (va_cwS 1 hts gX5_pin_X5_needKey rfl rfl rfl (by decide +kernel) ⟨Nat.le_of_ble_eq_true rfl, Nat.le_of_ble_eq_true rfl⟩) hP hS rfl hl.1 rfl (Nat.le_of_ble_eq_true rfl) dX5_pin_10 ⟨Nat.zero_le _, Nat.zero_le _⟩ (fun H locs hP hS => ?_)
  refine lv_aload_n hx hb dX5_pin_13 rfl (lv_at hl 0 rfl) ?_
  refine lv_aload_n hx hb dX5_pin_14 rfl (lv_at hl 0 rfl) ?_
  refine va_get (D := (dC, dI)) (ci := 7) (v := .ref h0) (C := RX5) (T := TX5) (N := 7) hx hb hts inX5_pin_X5 hown hK hP 0 rfl rfl 3 (by decide) (hts _ mX5_pin_fieldLink_RX5_32_PinBarrel_barrel_LPinBarrel_Barrel) (fun _ h9 => h9) rfl dX5_pin_15 ?_
  refine lv_iload_n hx hb dX5_pin_18 rfl (lv_at hl 1 rfl) ?_
  refine lv_iload_n hx hb dX5_pin_19 rfl (lv_at hl 2 rfl) ?_
  refine lv_iload_n hx hb dX5_pin_20 rfl (lv_at hl 3 rfl) ?_
  refine xm_i (As := [.ref h0, .int (nI tu), .int (nI ln), .int hi]) (rest := []) (q := (RX5, TX5, 7)) ⟨hx, hb, hml, hown, hts⟩ (kX5_pinTune l dC dI cyI cyZ cyJ cyD cyB p0 t0 t1 t2 g0 g1 g2 h0 h1 h2 w0 h0 s0 v0 kn tcn siz no g3 g4 g5 cnt pit bro plc wea tu ln hi (by omega) (by omega) (by omega) hno hsz) (cwV 4 hts gX5_pin_X5_pinTune rfl rfl rfl (by decide +kernel) ⟨Nat.le_of_ble_eq_true rfl, Nat.le_of_ble_eq_true rfl⟩) hK hP hD hS [0, 1, 2, 3, 4, 5, 6, 7, 8, 9] rfl (by decide) 0 7 rfl rfl rfl hl.1 rfl (Nat.le_of_ble_eq_true rfl) dX5_pin_21 ⟨Nat.zero_le _, Nat.zero_le _⟩ (fun r_4 u_5 H1 locs hw hP1 hD1 hk1 hS => ?_)
  have hw : r_4 = nI ((ptF pit bro cnt no (tu * 30) ln hi plc wea (siz tu)).2.2) := hw
  rw [hw]
  obtain ⟨hP, hD⟩ := xW_join (wr := []) (w1 := [(p0, .inr (7, [.ref t0, .ref w0, .ref g0, .ref h0, .ref s0, .ref v0, .int (nI kn)])), (t0, .inr (5, [.ref t1, .ref t2, .int (nI tcn)])), (t1, .inl (cyI, 4, .inl (fun k => nI (siz k)))), (t2, .inl (cyI, 120, .inl (fun k => nI (no k)))), (g0, .inr (3, [.ref g1, .ref g2, .ref g3, .ref g4, .ref g5, .int (nI cnt)])), (g1, .inl (cyI, 24, .inl (fun k => nI (pit k)))), (g2, .inl (cyZ, 24, .inl (fun k => xb (bro k)))), (h0, .inr (2, [.ref h1, .ref h2])), (h1, .inl (cyJ, 72, .inr (.inl ((ptF pit bro cnt no (tu * 30) ln hi plc wea (siz tu)).1)))), (h2, .inl (cyI, 4608, .inl (fun k => nI (((ptF pit bro cnt no (tu * 30) ln hi plc wea (siz tu)).2.1) k))))]) (wN := [(p0, .inr (7, [.ref t0, .ref w0, .ref g0, .ref h0, .ref s0, .ref v0, .int (nI kn)])), (t0, .inr (5, [.ref t1, .ref t2, .int (nI tcn)])), (t1, .inl (cyI, 4, .inl (fun k => nI (siz k)))), (t2, .inl (cyI, 120, .inl (fun k => nI (no k)))), (g0, .inr (3, [.ref g1, .ref g2, .ref g3, .ref g4, .ref g5, .int (nI cnt)])), (g1, .inl (cyI, 24, .inl (fun k => nI (pit k)))), (g2, .inl (cyZ, 24, .inl (fun k => xb (bro k)))), (h0, .inr (2, [.ref h1, .ref h2])), (h1, .inl (cyJ, 72, .inr (.inl ((ptF pit bro cnt no (tu * 30) ln hi plc wea (siz tu)).1)))), (h2, .inl (cyI, 4608, .inl (fun k => nI (((ptF pit bro cnt no (tu * 30) ln hi plc wea (siz tu)).2.1) k))))]) hP hD [0, 1, 2, 3, 4, 5, 6, 7, 8, 9] [] [0, 1, 2, 3, 4, 5, 6, 7, 8, 9] rfl rfl (by decide) (by decide) hk1 hP1 hD1 (by decide) rfl
  clear hP1 hD1 hk1
  generalize H1 = H at hP hS ⊢
  have hP9 : va_P (dC, dI) vwCl [(p0, .inr (7, [.ref t0, .ref w0, .ref g0, .ref h0, .ref s0, .ref v0, .int (nI kn)])), (t0, .inr (5, [.ref t1, .ref t2, .int (nI tcn)])), (t1, .inl (cyI, 4, .inl (fun k => nI (siz k)))), (t2, .inl (cyI, 120, .inl (fun k => nI (no k)))), (g0, .inr (3, [.ref g1, .ref g2, .ref g3, .ref g4, .ref g5, .int (nI cnt)])), (g1, .inl (cyI, 24, .inl (fun k => nI (pit k)))), (g2, .inl (cyZ, 24, .inl (fun k => xb (bro k)))), (h0, .inr (2, [.ref h1, .ref h2])), (h1, .inl (cyJ, 72, .inr (.inl ((ptF pit bro cnt no (tu * 30) ln hi plc wea (siz tu)).1)))), (h2, .inl (cyI, 4608, .inl (fun k => nI (((ptF pit bro cnt no (tu * 30) ln hi plc wea (siz tu)).2.1) k))))] _ := hP
  have hD9 : va_D A [(p0, .inr (7, [.ref t0, .ref w0, .ref g0, .ref h0, .ref s0, .ref v0, .int (nI kn)])), (t0, .inr (5, [.ref t1, .ref t2, .int (nI tcn)])), (t1, .inl (cyI, 4, .inl (fun k => nI (siz k)))), (t2, .inl (cyI, 120, .inl (fun k => nI (no k)))), (g0, .inr (3, [.ref g1, .ref g2, .ref g3, .ref g4, .ref g5, .int (nI cnt)])), (g1, .inl (cyI, 24, .inl (fun k => nI (pit k)))), (g2, .inl (cyZ, 24, .inl (fun k => xb (bro k)))), (h0, .inr (2, [.ref h1, .ref h2])), (h1, .inl (cyJ, 72, .inr (.inl ((ptF pit bro cnt no (tu * 30) ln hi plc wea (siz tu)).1)))), (h2, .inl (cyI, 4608, .inl (fun k => nI (((ptF pit bro cnt no (tu * 30) ln hi plc wea (siz tu)).2.1) k))))] := hD
  exact W.iret (v := nI ((ptF pit bro cnt no (tu * 30) ln hi plc wea (siz tu)).2.2)) hx hb hr (fun t ht hW => ⟨⟨nI ((ptF pit bro cnt no (tu * 30) ln hi plc wea (siz tu)).2.2), (), rfl, rfl, ⟨by rw [ht]; exact hP9, hD9⟩⟩, hS.F ht⟩) hS.2.2 dX5_pin_24
