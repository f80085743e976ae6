theorem inX3_timeOf_X3 : ∀ w ∈ wsX30, w ∈ wsX3_timeOf := by decide +kernel
theorem mX3_timeOf_fieldLink_RX3_15_PinBarrel_Tunes_notes_I : Cond.fieldLink RX3 15 "PinBarrel$Tunes" "notes" "[I" ∈ wsX3_timeOf := List.mem_of_getElem? (i := 1) (by decide +kernel)
set_option maxHeartbeats 4000000 in
set_option maxRecDepth 100000 in
/-- its TIME -/
theorem kX3_timeOf (l : Launch) (dC : Nat → ClassId) (dI : Nat → Nat → Nat) (cyI cyZ cyJ cyD cyB : ClassId) (t0 t2 : Nat) (t1 : Nat) (tcn : Nat) (tu : Nat) (i0 : Nat) (no : Nat → Nat) (htu : tu < 4) (hi0 : i0 < 30) (hno : ∀ k, no k < 3072) : Met l yX3_timeOf wsX3_timeOf ({ frames := 0, cells := 0, slots := 0, locals := 0 }) (va_Pc [.ref t0, .int (nI tu), .int (nI i0)] (xP (dC, dI) vwCl (xT cyI cyZ cyJ cyD cyB) [(t0, .inr (5, [.ref t1, .ref t2, .int (nI tcn)])), (t2, .inl (cyI, 120, .inl (fun k => nI (no k))))])) (va_Qi (fun (r : Int32) (u : Unit) => r = nI (no (tu * 30 + i0) / 48)) (fun _ _ => True) (fun _ => False)) 0 0 (fun _ => False) := by
  refine Met.ofW (cc := cX3_timeOf) (maxL := 3) (ret := (some .int)) (by decide) rfl ?_
  intro p e s m args below meth c s₁ B hml hv
  obtain ⟨rfl, hP, hK⟩ := hv
  have hx := B.exec
  have hb := B.bytes
  have hr := B.returns
  have hts := atoms_spec (ws := wsX3_timeOf) B.pre
  have hown : s.vm.findClass RX3 = some m.cls := findClass_of_methodNamed B.named
  have hlocks := B.notSynchronized
  have hS : va_S (fun _ => False) s.heap s.heap [] := va_S.rf
  have hP : va_P (dC, dI) vwCl [(t0, .inr (5, [.ref t1, .ref t2, .int (nI tcn)])), (t2, .inl (cyI, 120, .inl (fun k => nI (no k))))] s.heap := hP
  have hl := lv_entry ([.ref t0, .int (nI tu), .int (nI i0)]) (n := 3) (Nat.le_of_ble_eq_true rfl)
  rw [lg_entry_eq]
  generalize (lg_sl ([.ref t0, .int (nI tu), .int (nI i0)]) ++ List.replicate (3 - (lg_sl ([.ref t0, .int (nI tu), .int (nI i0)])).length) Slot.unset).toArray = ls at hl ⊢
  have hl : lv_has ls 3 [(0, .ref t0), (1, .int (nI tu)), (2, .int (nI i0))] := hl
  have hno1 := hno (tu * 30 + i0)
  refine lv_aload_n hx hb dX3_timeOf_0 rfl (lv_at hl 0 rfl) ?_
  refine va_get (D := (dC, dI)) (ci := 5) (v := .ref t2) (C := RX3) (T := TX3) (N := 3) hx hb hts inX3_timeOf_X3 hown hK hP 0 rfl rfl 1 (by decide) (hts _ mX3_timeOf_fieldLink_RX3_15_PinBarrel_Tunes_notes_I) (fun _ h9 => h9) rfl dX3_timeOf_1 ?_
  refine lv_iload_n hx hb dX3_timeOf_4 rfl (lv_at hl 1 rfl) ?_
  refine lv_bipush (v := nI 30) hx hb dX3_timeOf_5 (by decide) ?_
  refine xi_mul hx hb dX3_timeOf_7 ?_
  refine lv_iload_n hx hb dX3_timeOf_8 rfl (lv_at hl 2 rfl) ?_
  refine xi_add hx hb dX3_timeOf_9 ?_
  refine xl_I (f := no) hx hb hK hP 1 0 rfl rfl (by omega) (by decide) dX3_timeOf_10 ?_
  refine lv_bipush (v := nI 48) hx hb dX3_timeOf_11 (by decide) ?_
  refine xi_div hx hb dX3_timeOf_13 (by omega) (by omega) (by omega) ?_
  exact W.iret (v := nI ((no ((tu * 30) + i0)) / 48)) hx hb hr (fun t ht hW => ⟨⟨nI ((no ((tu * 30) + i0)) / 48), (), rfl, rfl, trivial⟩, hS.F ht⟩) hS.2.2 dX3_timeOf_14

theorem inX3_pitchOf_X3 : ∀ w ∈ wsX30, w ∈ wsX3_pitchOf := by decide +kernel
theorem mX3_pitchOf_fieldLink_RX3_15_PinBarrel_Tunes_notes_I : Cond.fieldLink RX3 15 "PinBarrel$Tunes" "notes" "[I" ∈ wsX3_pitchOf := List.mem_of_getElem? (i := 1) (by decide +kernel)
set_option maxHeartbeats 4000000 in
set_option maxRecDepth 100000 in
/-- its PITCH -/
theorem kX3_pitchOf (l : Launch) (dC : Nat → ClassId) (dI : Nat → Nat → Nat) (cyI cyZ cyJ cyD cyB : ClassId) (t0 t2 : Nat) (t1 : Nat) (tcn : Nat) (tu : Nat) (i0 : Nat) (no : Nat → Nat) (htu : tu < 4) (hi0 : i0 < 30) (hno : ∀ k, no k < 3072) : Met l yX3_pitchOf wsX3_pitchOf ({ frames := 0, cells := 0, slots := 0, locals := 0 }) (va_Pc [.ref t0, .int (nI tu), .int (nI i0)] (xP (dC, dI) vwCl (xT cyI cyZ cyJ cyD cyB) [(t0, .inr (5, [.ref t1, .ref t2, .int (nI tcn)])), (t2, .inl (cyI, 120, .inl (fun k => nI (no k))))])) (va_Qi (fun (r : Int32) (u : Unit) => r = nI (no (tu * 30 + i0) % 48)) (fun _ _ => True) (fun _ => False)) 0 0 (fun _ => False) := by
  refine Met.ofW (cc := cX3_pitchOf) (maxL := 3) (ret := (some .int)) (by decide) rfl ?_
  intro p e s m args below meth c s₁ B hml hv
  obtain ⟨rfl, hP, hK⟩ := hv
  have hx := B.exec
  have hb := B.bytes
  have hr := B.returns
  have hts := atoms_spec (ws := wsX3_pitchOf) B.pre
  have hown : s.vm.findClass RX3 = some m.cls := findClass_of_methodNamed B.named
  have hlocks := B.notSynchronized
  have hS : va_S (fun _ => False) s.heap s.heap [] := va_S.rf
  have hP : va_P (dC, dI) vwCl [(t0, .inr (5, [.ref t1, .ref t2, .int (nI tcn)])), (t2, .inl (cyI, 120, .inl (fun k => nI (no k))))] s.heap := hP
  have hl := lv_entry ([.ref t0, .int (nI tu), .int (nI i0)]) (n := 3) (Nat.le_of_ble_eq_true rfl)
  rw [lg_entry_eq]
  generalize (lg_sl ([.ref t0, .int (nI tu), .int (nI i0)]) ++ List.replicate (3 - (lg_sl ([.ref t0, .int (nI tu), .int (nI i0)])).length) Slot.unset).toArray = ls at hl ⊢
  have hl : lv_has ls 3 [(0, .ref t0), (1, .int (nI tu)), (2, .int (nI i0))] := hl
  have hno1 := hno (tu * 30 + i0)
  refine lv_aload_n hx hb dX3_pitchOf_0 rfl (lv_at hl 0 rfl) ?_
  refine va_get (D := (dC, dI)) (ci := 5) (v := .ref t2) (C := RX3) (T := TX3) (N := 3) hx hb hts inX3_pitchOf_X3 hown hK hP 0 rfl rfl 1 (by decide) (hts _ mX3_pitchOf_fieldLink_RX3_15_PinBarrel_Tunes_notes_I) (fun _ h9 => h9) rfl dX3_pitchOf_1 ?_
  refine lv_iload_n hx hb dX3_pitchOf_4 rfl (lv_at hl 1 rfl) ?_
  refine lv_bipush (v := nI 30) hx hb dX3_pitchOf_5 (by decide) ?_
  refine xi_mul hx hb dX3_pitchOf_7 ?_
  refine lv_iload_n hx hb dX3_pitchOf_8 rfl (lv_at hl 2 rfl) ?_
  refine xi_add hx hb dX3_pitchOf_9 ?_
  refine xl_I (f := no) hx hb hK hP 1 0 rfl rfl (by omega) (by decide) dX3_pitchOf_10 ?_
  refine lv_bipush (v := nI 48) hx hb dX3_pitchOf_11 (by decide) ?_
  refine xi_rem hx hb dX3_pitchOf_13 (by omega) (by omega) (by omega) ?_
  exact W.iret (v := nI ((no ((tu * 30) + i0)) % 48)) hx hb hr (fun t ht hW => ⟨⟨nI ((no ((tu * 30) + i0)) % 48), (), rfl, rfl, trivial⟩, hS.F ht⟩) hS.2.2 dX3_pitchOf_14

theorem inX3_rankOf_X3 : ∀ w ∈ wsX30, w ∈ wsX3_rankOf := by decide +kernel
theorem mX3_rankOf_fieldLink_RX3_9_PinBarrel_Tunes_size_I : Cond.fieldLink RX3 9 "PinBarrel$Tunes" "size" "[I" ∈ wsX3_rankOf := List.mem_of_getElem? (i := 1) (by decide +kernel)
theorem mX3_rankOf_fieldLink_RX3_15_PinBarrel_Tunes_notes_I : Cond.fieldLink RX3 15 "PinBarrel$Tunes" "notes" "[I" ∈ wsX3_rankOf := List.mem_of_getElem? (i := 2) (by decide +kernel)
set_option maxHeartbeats 4000000 in
set_option maxRecDepth 100000 in
/-- how many are ahead -/
theorem kX3_rankOf (l : Launch) (dC : Nat → ClassId) (dI : Nat → Nat → Nat) (cyI cyZ cyJ cyD cyB : ClassId) (t0 t1 t2 : Nat) (siz : Nat → Nat) (no : Nat → Nat) (tcn : Nat) (tu : Nat) (nt : Nat) (htu : tu < 4) (hnt : nt < 2 ^ 30) (hno : ∀ k, no k < 3072) (hsz : ∀ k, siz k ≤ 30) : Met l yX3_rankOf wsX3_rankOf ({ frames := 0, cells := 0, slots := 0, locals := 0 }) (va_Pc [.ref t0, .int (nI tu), .int (nI nt)] (xP (dC, dI) vwCl (xT cyI cyZ cyJ cyD cyB) [(t0, .inr (5, [.ref t1, .ref t2, .int (nI tcn)])), (t1, .inl (cyI, 4, .inl (fun k => nI (siz k)))), (t2, .inl (cyI, 120, .inl (fun k => nI (no k))))])) (va_Qi (fun (r : Int32) (u : Unit) => r = nI (rkF no (tu * 30) nt (siz tu))) (fun _ _ => True) (fun _ => False)) 0 0 (fun _ => False) := by
  refine Met.ofW (cc := cX3_rankOf) (maxL := 4) (ret := (some .int)) (by decide) rfl ?_
  intro p e s m args below meth c s₁ B hml hv
  obtain ⟨rfl, hP, hK⟩ := hv
  have hx := B.exec
  have hb := B.bytes
  have hr := B.returns
  have hts := atoms_spec (ws := wsX3_rankOf) B.pre
  have hown : s.vm.findClass RX3 = some m.cls := findClass_of_methodNamed B.named
  have hlocks := B.notSynchronized
  have hS : va_S (fun _ => False) s.heap s.heap [] := va_S.rf
  have hP : va_P (dC, dI) vwCl [(t0, .inr (5, [.ref t1, .ref t2, .int (nI tcn)])), (t1, .inl (cyI, 4, .inl (fun k => nI (siz k)))), (t2, .inl (cyI, 120, .inl (fun k => nI (no k))))] s.heap := hP
  have hl := lv_entry ([.ref t0, .int (nI tu), .int (nI nt)]) (n := 4) (Nat.le_of_ble_eq_true rfl)
  rw [lg_entry_eq]
  generalize (lg_sl ([.ref t0, .int (nI tu), .int (nI nt)]) ++ List.replicate (4 - (lg_sl ([.ref t0, .int (nI tu), .int (nI nt)])).length) Slot.unset).toArray = ls at hl ⊢
  have hl : lv_has ls 4 [(0, .ref t0), (1, .int (nI tu)), (2, .int (nI nt))] := hl
  have hsz1 := hsz tu
  refine lv_iconst (v := nI 0) hx hb dX3_rankOf_0 (by decide) ?_
  refine lv_istore_n (lv' := [(3, .int (nI 0)), (0, .ref t0), (1, .int (nI tu)), (2, .int (nI nt))]) hx hb dX3_rankOf_1 rfl hl (by decide) rfl (fun ls hl => ?_)
  refine (?_ : ∀ (n_1 i_2 : Nat), i_2 + n_1 = siz tu → ∀ (hrk : rkF no (tu * 30) nt i_2 = i_2) (H : Heap) (locs : List Loc) (hP : va_P (dC, dI) vwCl [(t0, .inr (5, [.ref t1, .ref t2, .int (nI tcn)])), (t1, .inl (cyI, 4, .inl (fun k => nI (siz k)))), (t2, .inl (cyI, 120, .inl (fun k => nI (no k))))] H) (hS : va_S (fun _ => False) s.heap H locs) (ls : Array Slot) (hl : lv_has ls 4 [(3, .int (nI i_2)), (0, .ref t0), (1, .int (nI tu)), (2, .int (nI nt))]), W p l e _ s m _ below meth c H locs 0 0 _ (F0 m 2 ls [])) ((siz tu) - 0) 0 (by omega) rfl _ _ hP hS _ (lv_sub hl [0, 1, 2, 3] rfl)
  clear hl hP hS
  intro n_1
  induction n_1 with
  | zero =>
    intro i_2 hi_3 hrk H locs hP hS ls hl
    have hsz1 := hsz tu
    have hno1 := hno (tu * 30 + i_2)
    refine lv_iload_n hx hb dX3_rankOf_2 rfl (lv_at hl 0 rfl) ?_
    refine lv_aload_n hx hb dX3_rankOf_3 rfl (lv_at hl 1 rfl) ?_
    refine va_get (D := (dC, dI)) (ci := 5) (v := .ref t1) (C := RX3) (T := TX3) (N := 3) hx hb hts inX3_rankOf_X3 hown hK hP 0 rfl rfl 0 (by decide) (hts _ mX3_rankOf_fieldLink_RX3_9_PinBarrel_Tunes_size_I) (fun _ h9 => h9) rfl dX3_rankOf_4 ?_
    refine lv_iload_n hx hb dX3_rankOf_7 rfl (lv_at hl 2 rfl) ?_
    refine xl_I (f := siz) hx hb hK hP 1 0 rfl rfl (by omega) (by decide) dX3_rankOf_8 ?_
    refine xc_ge (tgt := 33) hx hb dX3_rankOf_9 (by decide) (by omega) (by omega) (fun c_6 => ?_) (fun c_6 => by omega)
    refine lv_iload_n hx hb dX3_rankOf_33 rfl (lv_at hl 0 rfl) ?_
    exact W.iret (v := nI i_2) hx hb hr (fun t ht hW => ⟨⟨nI i_2, (), rfl, (by have h9 : i_2 = siz tu := (by omega); rw [← h9, hrk]), trivial⟩, hS.F ht⟩) hS.2.2 dX3_rankOf_34
  | succ n_1 ih_4 =>
    intro i_2 hi_3 hrk H locs hP hS ls hl
    have hsz1 := hsz tu
    have hno1 := hno (tu * 30 + i_2)
    refine lv_iload_n hx hb dX3_rankOf_2 rfl (lv_at hl 0 rfl) ?_
    refine lv_aload_n hx hb dX3_rankOf_3 rfl (lv_at hl 1 rfl) ?_
    refine va_get (D := (dC, dI)) (ci := 5) (v := .ref t1) (C := RX3) (T := TX3) (N := 3) hx hb hts inX3_rankOf_X3 hown hK hP 0 rfl rfl 0 (by decide) (hts _ mX3_rankOf_fieldLink_RX3_9_PinBarrel_Tunes_size_I) (fun _ h9 => h9) rfl dX3_rankOf_4 ?_
    refine lv_iload_n hx hb dX3_rankOf_7 rfl (lv_at hl 2 rfl) ?_
    refine xl_I (f := siz) hx hb hK hP 1 0 rfl rfl (by omega) (by decide) dX3_rankOf_8 ?_
    refine xc_ge (tgt := 33) hx hb dX3_rankOf_9 (by decide) (by omega) (by omega) (fun c_7 => by omega) (fun c_7 => ?_)
    refine lv_aload_n hx hb dX3_rankOf_12 rfl (lv_at hl 1 rfl) ?_
    refine va_get (D := (dC, dI)) (ci := 5) (v := .ref t2) (C := RX3) (T := TX3) (N := 3) hx hb hts inX3_rankOf_X3 hown hK hP 0 rfl rfl 1 (by decide) (hts _ mX3_rankOf_fieldLink_RX3_15_PinBarrel_Tunes_notes_I) (fun _ h9 => h9) rfl dX3_rankOf_13 ?_
    refine lv_iload_n hx hb dX3_rankOf_16 rfl (lv_at hl 2 rfl) ?_
    refine lv_bipush (v := nI 30) hx hb dX3_rankOf_17 (by decide) ?_
    refine xi_mul hx hb dX3_rankOf_19 ?_
    refine lv_iload_n hx hb dX3_rankOf_20 rfl (lv_at hl 0 rfl) ?_
    refine xi_add hx hb dX3_rankOf_21 ?_
    refine xl_I (f := no) hx hb hK hP 2 0 rfl rfl (by omega) (by decide) dX3_rankOf_22 ?_
    refine lv_iload_n hx hb dX3_rankOf_23 rfl (lv_at hl 3 rfl) ?_
    refine xc_ge (tgt := 33) hx hb dX3_rankOf_24 (by decide) (by omega) (by omega) (fun c_8 => ?_) (fun c_8 => ?_)
    · refine lv_iload_n hx hb dX3_rankOf_33 rfl (lv_at hl 0 rfl) ?_
      exact W.iret (v := nI i_2) hx hb hr (fun t ht hW => ⟨⟨nI i_2, (), rfl, (congrArg nI (rkF_stop hrk (by omega) (siz tu) (by omega)).symm), trivial⟩, hS.F ht⟩) hS.2.2 dX3_rankOf_34
    · refine xi_inc (k := 0) (lv' := [(3, .int (nI (i_2 + 1))), (0, .ref t0), (1, .int (nI tu)), (2, .int (nI nt))]) hx hb dX3_rankOf_27 hl rfl (by decide) rfl (fun ls hl => ?_)
      refine lv_goto (tgt := 2) hx hb dX3_rankOf_30 (by decide) ?_
      exact ih_4 (i_2 + 1) (by omega) (rkF_go hrk (by omega)) _ _ hP hS _ (lv_sub hl [0, 1, 2, 3] rfl)

theorem inX3_holds_X3 : ∀ w ∈ wsX30, w ∈ wsX3_holds := by decide +kernel
theorem mX3_holds_fieldLink_RX3_9_PinBarrel_Tunes_size_I : Cond.fieldLink RX3 9 "PinBarrel$Tunes" "size" "[I" ∈ wsX3_holds := List.mem_of_getElem? (i := 1) (by decide +kernel)
theorem mX3_holds_fieldLink_RX3_15_PinBarrel_Tunes_notes_I : Cond.fieldLink RX3 15 "PinBarrel$Tunes" "notes" "[I" ∈ wsX3_holds := List.mem_of_getElem? (i := 2) (by decide +kernel)
set_option maxHeartbeats 4000000 in
set_option maxRecDepth 100000 in
/-- whether a NOTE is there -/
theorem kX3_holds (l : Launch) (dC : Nat → ClassId) (dI : Nat → Nat → Nat) (cyI cyZ cyJ cyD cyB : ClassId) (t0 t1 t2 : Nat) (siz : Nat → Nat) (no : Nat → Nat) (tcn : Nat) (tu : Nat) (ti : Nat) (pi : Nat) (htu : tu < 4) (hti : ti < 64) (hpi : pi < 48) (hno : ∀ k, no k < 3072) (hsz : ∀ k, siz k ≤ 30) : Met l yX3_holds wsX3_holds ({ frames := 1, cells := 0, slots := 0, locals := 23 }) (va_Pc [.ref t0, .int (nI tu), .int (nI ti), .int (nI pi)] (xP (dC, dI) vwCl (xT cyI cyZ cyJ cyD cyB) [(t0, .inr (5, [.ref t1, .ref t2, .int (nI tcn)])), (t1, .inl (cyI, 4, .inl (fun k => nI (siz k)))), (t2, .inl (cyI, 120, .inl (fun k => nI (no k))))])) (va_Qi (fun (r : Int32) (u : Unit) => r = xb (hdF no (tu * 30) (ti * 48 + pi) (siz tu))) (fun _ _ => True) (fun _ => False)) 0 0 (fun _ => False) := by
  refine Met.ofW (cc := cX3_holds) (maxL := 6) (ret := (some .boolean)) (by decide) rfl ?_
  intro p e s m args below meth c s₁ B hml hv
  obtain ⟨rfl, hP, hK⟩ := hv
  have hx := B.exec
  have hb := B.bytes
  have hr := B.returns
  have hts := atoms_spec (ws := wsX3_holds) B.pre
  have hown : s.vm.findClass RX3 = some m.cls := findClass_of_methodNamed B.named
  have hlocks := B.notSynchronized
  have hS : va_S (fun _ => False) s.heap s.heap [] := va_S.rf
  have hP : va_P (dC, dI) vwCl [(t0, .inr (5, [.ref t1, .ref t2, .int (nI tcn)])), (t1, .inl (cyI, 4, .inl (fun k => nI (siz k)))), (t2, .inl (cyI, 120, .inl (fun k => nI (no k))))] s.heap := hP
  have hl := lv_entry ([.ref t0, .int (nI tu), .int (nI ti), .int (nI pi)]) (n := 6) (Nat.le_of_ble_eq_true rfl)
  rw [lg_entry_eq]
  generalize (lg_sl ([.ref t0, .int (nI tu), .int (nI ti), .int (nI pi)]) ++ List.replicate (6 - (lg_sl ([.ref t0, .int (nI tu), .int (nI ti), .int (nI pi)])).length) Slot.unset).toArray = ls at hl ⊢
  have hl : lv_has ls 6 [(0, .ref t0), (1, .int (nI tu)), (2, .int (nI ti)), (3, .int (nI pi))] := hl
  have hsz1 := hsz tu
  have hrk1 := rkF_le no (tu * 30) (ti * 48 + pi) (siz tu)
  have hno1 := hno (tu * 30 + rkF no (tu * 30) (ti * 48 + pi) (siz tu))
  refine lv_iload_n hx hb dX3_holds_0 rfl (lv_at hl 2 rfl) ?_
  refine lv_bipush (v := nI 48) hx hb dX3_holds_1 (by decide) ?_
  refine xi_mul hx hb dX3_holds_3 ?_
  refine lv_iload_n hx hb dX3_holds_4 rfl (lv_at hl 3 rfl) ?_
  refine xi_add hx hb dX3_holds_5 ?_
  refine lv_istore (lv' := [(4, .int (nI ((ti * 48) + pi))), (0, .ref t0), (1, .int (nI tu)), (2, .int (nI ti)), (3, .int (nI pi))]) hx hb dX3_holds_6 hl (by decide) rfl (fun ls hl => ?_)
  refine lv_aload_n hx hb dX3_holds_8 rfl (lv_at hl 1 rfl) ?_
  refine lv_iload_n hx hb dX3_holds_9 rfl (lv_at hl 2 rfl) ?_
  refine lv_iload hx hb dX3_holds_10 (lv_at hl 0 rfl) ?_
  refine xv_i (As := [.int (nI tu), .int (nI ((ti * 48) + pi))]) (rest := []) (q := (RX3, TX3, 3)) ⟨hx, hb, hml, hown, hts⟩ (kX3_rankOf l dC dI cyI cyZ cyJ cyD cyB t0 t1 t2 siz no tcn tu ((ti * 48) + pi) (by omega) (by omega) hno hsz) (cwV 2 hts gX3_holds_X3_rankOf rfl rfl rfl (by decide +kernel) ⟨Nat.le_of_ble_eq_true rfl, Nat.le_of_ble_eq_true rfl⟩) hK hP hS [0, 1, 2] rfl 0 5 rfl rfl rfl hl.1 rfl (Nat.le_of_ble_eq_true rfl) dX3_holds_12 ⟨Nat.zero_le _, Nat.zero_le _⟩ (fun r_1 H locs hw hP hS => ?_)
  have hw : r_1 = nI (rkF no (tu * 30) ((ti * 48) + pi) (siz tu)) := hw
  subst hw
  refine lv_istore (lv' := [(5, .int (nI (rkF no (tu * 30) ((ti * 48) + pi) (siz tu)))), (4, .int (nI ((ti * 48) + pi))), (0, .ref t0), (1, .int (nI tu)), (2, .int (nI ti)), (3, .int (nI pi))]) hx hb dX3_holds_15 hl (by decide) rfl (fun ls hl => ?_)
  refine lv_iload hx hb dX3_holds_17 (lv_at hl 0 rfl) ?_
  refine lv_aload_n hx hb dX3_holds_19 rfl (lv_at hl 2 rfl) ?_
  refine va_get (D := (dC, dI)) (ci := 5) (v := .ref t1) (C := RX3) (T := TX3) (N := 3) hx hb hts inX3_holds_X3 hown hK hP 0 rfl rfl 0 (by decide) (hts _ mX3_holds_fieldLink_RX3_9_PinBarrel_Tunes_size_I) (fun _ h9 => h9) rfl dX3_holds_20 ?_
  refine lv_iload_n hx hb dX3_holds_23 rfl (lv_at hl 3 rfl) ?_
  refine xl_I (f := siz) hx hb hK hP 1 0 rfl rfl (by omega) (by decide) dX3_holds_24 ?_
  refine xc_ge (tgt := 49) hx hb dX3_holds_25 (by decide) (by omega) (by omega) (fun c_2 => ?_) (fun c_2 => ?_)
  · refine lv_iconst (v := nI 0) hx hb dX3_holds_49 (by decide) ?_
    exact W.zret (v := nI 0) (ty := .boolean) hx hb hr rfl (fun t ht hW => ⟨⟨nI 0, (), rfl, (xb_f (by unfold hdF; rw [decide_eq_false (show ¬ rkF no (tu * 30) (ti * 48 + pi) (siz tu) < siz tu from by omega)]; rfl)).symm, trivial⟩, hS.F ht⟩) hS.2.2 dX3_holds_50
  · refine lv_aload_n hx hb dX3_holds_28 rfl (lv_at hl 2 rfl) ?_
    refine va_get (D := (dC, dI)) (ci := 5) (v := .ref t2) (C := RX3) (T := TX3) (N := 3) hx hb hts inX3_holds_X3 hown hK hP 0 rfl rfl 1 (by decide) (hts _ mX3_holds_fieldLink_RX3_15_PinBarrel_Tunes_notes_I) (fun _ h9 => h9) rfl dX3_holds_29 ?_
    refine lv_iload_n hx hb dX3_holds_32 rfl (lv_at hl 3 rfl) ?_
    refine lv_bipush (v := nI 30) hx hb dX3_holds_33 (by decide) ?_
    refine xi_mul hx hb dX3_holds_35 ?_
    refine lv_iload hx hb dX3_holds_36 (lv_at hl 0 rfl) ?_
    refine xi_add hx hb dX3_holds_38 ?_
    refine xl_I (f := no) hx hb hK hP 2 0 rfl rfl (by omega) (by decide) dX3_holds_39 ?_
    refine lv_iload hx hb dX3_holds_40 (lv_at hl 1 rfl) ?_
    refine xc_ne (tgt := 49) hx hb dX3_holds_42 (by decide) (by omega) (by omega) (fun c_3 => ?_) (fun c_3 => ?_)
    · refine lv_iconst (v := nI 0) hx hb dX3_holds_49 (by decide) ?_
      exact W.zret (v := nI 0) (ty := .boolean) hx hb hr rfl (fun t ht hW => ⟨⟨nI 0, (), rfl, (xb_f (by unfold hdF; rw [decide_eq_false (p := no (tu * 30 + rkF no (tu * 30) (ti * 48 + pi) (siz tu)) = ti * 48 + pi) (by omega), Bool.and_false])).symm, trivial⟩, hS.F ht⟩) hS.2.2 dX3_holds_50
    · refine lv_iconst (v := nI 1) hx hb dX3_holds_45 (by decide) ?_
      refine lv_goto (tgt := 50) hx hb dX3_holds_46 (by decide) ?_
      exact W.zret (v := nI 1) (ty := .boolean) hx hb hr rfl (fun t ht hW => ⟨⟨nI 1, (), rfl, (xb_t (by unfold hdF; rw [decide_eq_true (show rkF no (tu * 30) (ti * 48 + pi) (siz tu) < siz tu from by omega), decide_eq_true (show no (tu * 30 + rkF no (tu * 30) (ti * 48 + pi) (siz tu)) = ti * 48 + pi from by omega)]; rfl)).symm, trivial⟩, hS.F ht⟩) hS.2.2 dX3_holds_50

theorem inX3_write_X3 : ∀ w ∈ wsX30, w ∈ wsX3_write := by decide +kernel
theorem mX3_write_fieldLink_RX3_9_PinBarrel_Tunes_size_I : Cond.fieldLink RX3 9 "PinBarrel$Tunes" "size" "[I" ∈ wsX3_write := List.mem_of_getElem? (i := 1) (by decide +kernel)
theorem mX3_write_fieldLink_RX3_15_PinBarrel_Tunes_notes_I : Cond.fieldLink RX3 15 "PinBarrel$Tunes" "notes" "[I" ∈ wsX3_write := List.mem_of_getElem? (i := 2) (by decide +kernel)
set_option maxHeartbeats 4000000 in
set_option maxRecDepth 100000 in
/-- a NOTE written -/
theorem kX3_write (l : Launch) (dC : Nat → ClassId) (dI : Nat → Nat → Nat) (cyI cyZ cyJ cyD cyB : ClassId) (t0 t1 t2 : Nat) (siz : Nat → Nat) (no : Nat → Nat) (tcn : Nat) (tu : Nat) (ti : Nat) (pi : Nat) (htu : tu < 4) (hti : ti < 64) (hpi : pi < 48) (hno : ∀ k, no k < 3072) (hsz : ∀ k, siz k ≤ 30) (hfree : siz tu < 30) : Met l yX3_write wsX3_write ({ frames := 1, cells := 0, slots := 0, locals := 23 }) (va_Pc [.ref t0, .int (nI tu), .int (nI ti), .int (nI pi)] (xM (dC, dI) vwCl (xT cyI cyZ cyJ cyD cyB) [(t0, .inr (5, [.ref t1, .ref t2, .int (nI tcn)])), (t1, .inl (cyI, 4, .inl (fun k => nI (siz k)))), (t2, .inl (cyI, 120, .inl (fun k => nI (no k))))])) (va_Qv (fun (u : Unit) => True) (fun u t => va_P (dC, dI) vwCl [(t0, .inr (5, [.ref t1, .ref t2, .int (nI tcn)])), (t1, .inl (cyI, 4, .inl (fun k => nI ((va_up siz tu (siz tu + 1)) k)))), (t2, .inl (cyI, 120, .inl (fun k => nI ((wrF no (tu * 30) (ti * 48 + pi) (siz tu)) k))))] t.heap ∧ va_D (xA [(t0, .inr (5, [.ref t1, .ref t2, .int (nI tcn)])), (t1, .inl (cyI, 4, .inl (fun k => nI (siz k)))), (t2, .inl (cyI, 120, .inl (fun k => nI (no k))))]) [(t0, .inr (5, [.ref t1, .ref t2, .int (nI tcn)])), (t1, .inl (cyI, 4, .inl (fun k => nI ((va_up siz tu (siz tu + 1)) k)))), (t2, .inl (cyI, 120, .inl (fun k => nI ((wrF no (tu * 30) (ti * 48 + pi) (siz tu)) k))))]) (xA [(t0, .inr (5, [.ref t1, .ref t2, .int (nI tcn)])), (t1, .inl (cyI, 4, .inl (fun k => nI (siz k)))), (t2, .inl (cyI, 120, .inl (fun k => nI (no k))))])) 0 0 (xA [(t0, .inr (5, [.ref t1, .ref t2, .int (nI tcn)])), (t1, .inl (cyI, 4, .inl (fun k => nI (siz k)))), (t2, .inl (cyI, 120, .inl (fun k => nI (no k))))]) := by
  refine Met.ofW (cc := cX3_write) (maxL := 8) (ret := none) (by decide) rfl ?_
  intro p e s m args below meth c s₁ B hml hv
  obtain ⟨rfl, hP, hK, hD0⟩ := hv
  have hx := B.exec
  have hb := B.bytes
  have hr := B.returns
  have hts := atoms_spec (ws := wsX3_write) B.pre
  have hown : s.vm.findClass RX3 = some m.cls := findClass_of_methodNamed B.named
  have hlocks := B.notSynchronized
  have hD := xA_self hD0
  clear hD0
  generalize hAe : xA [(t0, .inr (5, [.ref t1, .ref t2, .int (nI tcn)])), (t1, .inl (cyI, 4, .inl (fun k => nI (siz k)))), (t2, .inl (cyI, 120, .inl (fun k => nI (no k))))] = A at hD ⊢
  have hS : va_S A s.heap s.heap [] := va_S.rf
  have hP : va_P (dC, dI) vwCl [(t0, .inr (5, [.ref t1, .ref t2, .int (nI tcn)])), (t1, .inl (cyI, 4, .inl (fun k => nI (siz k)))), (t2, .inl (cyI, 120, .inl (fun k => nI (no k))))] s.heap := hP
  have hl := lv_entry ([.ref t0, .int (nI tu), .int (nI ti), .int (nI pi)]) (n := 8) (Nat.le_of_ble_eq_true rfl)
  rw [lg_entry_eq]
  generalize (lg_sl ([.ref t0, .int (nI tu), .int (nI ti), .int (nI pi)]) ++ List.replicate (8 - (lg_sl ([.ref t0, .int (nI tu), .int (nI ti), .int (nI pi)])).length) Slot.unset).toArray = ls at hl ⊢
  have hl : lv_has ls 8 [(0, .ref t0), (1, .int (nI tu)), (2, .int (nI ti)), (3, .int (nI pi))] := hl
  have hsz1 := hsz tu
  have hrk1 := rkF_le no (tu * 30) (ti * 48 + pi) (siz tu)
  refine lv_iload_n hx hb dX3_write_0 rfl (lv_at hl 2 rfl) ?_
  refine lv_bipush (v := nI 48) hx hb dX3_write_1 (by decide) ?_
  refine xi_mul hx hb dX3_write_3 ?_
  refine lv_iload_n hx hb dX3_write_4 rfl (lv_at hl 3 rfl) ?_
  refine xi_add hx hb dX3_write_5 ?_
  refine lv_istore (lv' := [(4, .int (nI ((ti * 48) + pi))), (0, .ref t0), (1, .int (nI tu)), (2, .int (nI ti)), (3, .int (nI pi))]) hx hb dX3_write_6 hl (by decide) rfl (fun ls hl => ?_)
  refine lv_iload_n hx hb dX3_write_8 rfl (lv_at hl 2 rfl) ?_
  refine lv_bipush (v := nI 30) hx hb dX3_write_9 (by decide) ?_
  refine xi_mul hx hb dX3_write_11 ?_
  refine lv_istore (lv' := [(5, .int (nI (tu * 30))), (4, .int (nI ((ti * 48) + pi))), (0, .ref t0), (1, .int (nI tu)), (2, .int (nI ti)), (3, .int (nI pi))]) hx hb dX3_write_12 hl (by decide) rfl (fun ls hl => ?_)
  refine lv_aload_n hx hb dX3_write_14 rfl (lv_at hl 2 rfl) ?_
  refine lv_iload_n hx hb dX3_write_15 rfl (lv_at hl 3 rfl) ?_
  refine lv_iload hx hb dX3_write_16 (lv_at hl 1 rfl) ?_
  refine xv_i (As := [.int (nI tu), .int (nI ((ti * 48) + pi))]) (rest := []) (q := (RX3, TX3, 3)) ⟨hx, hb, hml, hown, hts⟩ (kX3_rankOf l dC dI cyI cyZ cyJ cyD cyB t0 t1 t2 siz no tcn tu ((ti * 48) + pi) (by omega) (by omega) hno hsz) (cwV 2 hts gX3_write_X3_rankOf rfl rfl rfl (by decide +kernel) ⟨Nat.le_of_ble_eq_true rfl, Nat.le_of_ble_eq_true rfl⟩) hK hP hS [0, 1, 2] rfl 0 5 rfl rfl rfl hl.1 rfl (Nat.le_of_ble_eq_true rfl) dX3_write_18 ⟨Nat.zero_le _, Nat.zero_le _⟩ (fun r_1 H locs hw hP hS => ?_)
  have hw : r_1 = nI (rkF no (tu * 30) ((ti * 48) + pi) (siz tu)) := hw
  subst hw
  refine lv_istore (lv' := [(6, .int (nI (rkF no (tu * 30) ((ti * 48) + pi) (siz tu)))), (5, .int (nI (tu * 30))), (4, .int (nI ((ti * 48) + pi))), (0, .ref t0), (1, .int (nI tu)), (2, .int (nI ti)), (3, .int (nI pi))]) hx hb dX3_write_21 hl (by decide) rfl (fun ls hl => ?_)
  refine lv_aload_n hx hb dX3_write_23 rfl (lv_at hl 3 rfl) ?_
  refine va_get (D := (dC, dI)) (ci := 5) (v := .ref t1) (C := RX3) (T := TX3) (N := 3) hx hb hts inX3_write_X3 hown hK hP 0 rfl rfl 0 (by decide) (hts _ mX3_write_fieldLink_RX3_9_PinBarrel_Tunes_size_I) (fun _ h9 => h9) rfl dX3_write_24 ?_
  refine lv_iload_n hx hb dX3_write_27 rfl (lv_at hl 4 rfl) ?_
  refine xl_I (f := siz) hx hb hK hP 1 0 rfl rfl (by omega) (by decide) dX3_write_28 ?_
  refine lv_istore (lv' := [(7, .int (nI (siz tu))), (6, .int (nI (rkF no (tu * 30) ((ti * 48) + pi) (siz tu)))), (5, .int (nI (tu * 30))), (4, .int (nI ((ti * 48) + pi))), (0, .ref t0), (1, .int (nI tu)), (2, .int (nI ti)), (3, .int (nI pi))]) hx hb dX3_write_29 hl (by decide) rfl (fun ls hl => ?_)
  have e0 := shF_0 no (tu * 30) (siz tu)
  have e4 : siz tu - 0 = siz tu := rfl
  refine (?_ : ∀ (n_2 i_3 : Nat), i_3 + n_2 = (siz tu - rkF no (tu * 30) (ti * 48 + pi) (siz tu)) → ∀ (H : Heap) (locs : List Loc) (hP : va_P (dC, dI) vwCl [(t0, .inr (5, [.ref t1, .ref t2, .int (nI tcn)])), (t1, .inl (cyI, 4, .inl (fun k => nI (siz k)))), (t2, .inl (cyI, 120, .inl (fun k => nI ((shF no (tu * 30) (siz tu) i_3) k))))] H) (hD : va_D A [(t0, .inr (5, [.ref t1, .ref t2, .int (nI tcn)])), (t1, .inl (cyI, 4, .inl (fun k => nI (siz k)))), (t2, .inl (cyI, 120, .inl (fun k => nI ((shF no (tu * 30) (siz tu) i_3) k))))]) (hS : va_S A s.heap H locs) (ls : Array Slot) (hl : lv_has ls 8 [(7, .int (nI (siz tu - i_3))), (6, .int (nI (rkF no (tu * 30) ((ti * 48) + pi) (siz tu)))), (5, .int (nI (tu * 30))), (4, .int (nI ((ti * 48) + pi))), (0, .ref t0), (1, .int (nI tu)), (2, .int (nI ti)), (3, .int (nI pi))]), W p l e _ s m _ below meth c H locs 0 0 _ (F0 m 31 ls [])) ((siz tu - rkF no (tu * 30) (ti * 48 + pi) (siz tu)) - 0) 0 (by omega) _ _ (by first | exact hP | (simp only [e0, e4]; exact hP)) (by first | exact hD | (simp only [e0, e4]; exact hD)) hS _ (by first | exact (lv_sub hl [0, 1, 2, 3, 4, 5, 6, 7] rfl) | (simp only [e0, e4]; exact (lv_sub hl [0, 1, 2, 3, 4, 5, 6, 7] rfl)))
  clear hl hP hS hD
  intro n_2
  induction n_2 with
  | zero =>
    intro i_3 hi_4 H locs hP hD hS ls hl
    refine lv_iload hx hb dX3_write_31 (lv_at hl 0 rfl) ?_
    refine lv_iload hx hb dX3_write_33 (lv_at hl 1 rfl) ?_
    refine xc_le (tgt := 66) hx hb dX3_write_35 (by decide) (by omega) (by omega) (fun c_7 => ?_) (fun c_7 => by omega)
    refine lv_aload_n hx hb dX3_write_66 rfl (lv_at hl 4 rfl) ?_
    refine va_get (D := (dC, dI)) (ci := 5) (v := .ref t2) (C := RX3) (T := TX3) (N := 3) hx hb hts inX3_write_X3 hown hK hP 0 rfl rfl 1 (by decide) (hts _ mX3_write_fieldLink_RX3_15_PinBarrel_Tunes_notes_I) (fun _ h9 => h9) rfl dX3_write_67 ?_
    refine lv_iload hx hb dX3_write_70 (lv_at hl 2 rfl) ?_
    refine lv_iload hx hb dX3_write_72 (lv_at hl 1 rfl) ?_
    refine xi_add hx hb dX3_write_74 ?_
    refine lv_iload hx hb dX3_write_75 (lv_at hl 3 rfl) ?_
    refine xt_I (f := (shF no (tu * 30) (siz tu) i_3)) (x := ((ti * 48) + pi)) hx hb hK hP hD hS 2 0 rfl rfl (by omega) (by decide) dX3_write_77 (fun H locs hP hD hS => ?_)
    have hP : va_P (dC, dI) vwCl [(t0, .inr (5, [.ref t1, .ref t2, .int (nI tcn)])), (t1, .inl (cyI, 4, .inl (fun k => nI (siz k)))), (t2, .inl (cyI, 120, .inl (fun k => nI ((va_up (shF no (tu * 30) (siz tu) i_3) ((tu * 30) + (rkF no (tu * 30) ((ti * 48) + pi) (siz tu))) ((ti * 48) + pi)) k))))] H := hP
    have hD : va_D A [(t0, .inr (5, [.ref t1, .ref t2, .int (nI tcn)])), (t1, .inl (cyI, 4, .inl (fun k => nI (siz k)))), (t2, .inl (cyI, 120, .inl (fun k => nI ((va_up (shF no (tu * 30) (siz tu) i_3) ((tu * 30) + (rkF no (tu * 30) ((ti * 48) + pi) (siz tu))) ((ti * 48) + pi)) k))))] := hD
    refine lv_aload_n hx hb dX3_write_78 rfl (lv_at hl 4 rfl) ?_
    refine va_get (D := (dC, dI)) (ci := 5) (v := .ref t1) (C := RX3) (T := TX3) (N := 3) hx hb hts inX3_write_X3 hown hK hP 0 rfl rfl 0 (by decide) (hts _ mX3_write_fieldLink_RX3_9_PinBarrel_Tunes_size_I) (fun _ h9 => h9) rfl dX3_write_79 ?_
    refine lv_iload_n hx hb dX3_write_82 rfl (lv_at hl 5 rfl) ?_
    refine lv_dup2_11 hx hb dX3_write_83 rfl rfl ?_
    refine xl_I (f := siz) hx hb hK hP 1 0 rfl rfl (by omega) (by decide) dX3_write_84 ?_
    refine lv_iconst (v := nI 1) hx hb dX3_write_85 (by decide) ?_
    refine xi_add hx hb dX3_write_86 ?_
    refine xt_I (f := siz) (x := ((siz tu) + 1)) hx hb hK hP hD hS 1 0 rfl rfl (by omega) (by decide) dX3_write_87 (fun H locs hP hD hS => ?_)
    have hP : va_P (dC, dI) vwCl [(t0, .inr (5, [.ref t1, .ref t2, .int (nI tcn)])), (t1, .inl (cyI, 4, .inl (fun k => nI ((va_up siz tu ((siz tu) + 1)) k)))), (t2, .inl (cyI, 120, .inl (fun k => nI ((va_up (shF no (tu * 30) (siz tu) i_3) ((tu * 30) + (rkF no (tu * 30) ((ti * 48) + pi) (siz tu))) ((ti * 48) + pi)) k))))] H := hP
    have hD : va_D A [(t0, .inr (5, [.ref t1, .ref t2, .int (nI tcn)])), (t1, .inl (cyI, 4, .inl (fun k => nI ((va_up siz tu ((siz tu) + 1)) k)))), (t2, .inl (cyI, 120, .inl (fun k => nI ((va_up (shF no (tu * 30) (siz tu) i_3) ((tu * 30) + (rkF no (tu * 30) ((ti * 48) + pi) (siz tu))) ((ti * 48) + pi)) k))))] := hD
    have h9 : i_3 = siz tu - rkF no (tu * 30) (ti * 48 + pi) (siz tu) := by omega
    rw [h9] at hP hD
    have hP9 : va_P (dC, dI) vwCl [(t0, .inr (5, [.ref t1, .ref t2, .int (nI tcn)])), (t1, .inl (cyI, 4, .inl (fun k => nI ((va_up siz tu (siz tu + 1)) k)))), (t2, .inl (cyI, 120, .inl (fun k => nI ((wrF no (tu * 30) (ti * 48 + pi) (siz tu)) k))))] _ := hP
    have hD9 : va_D A [(t0, .inr (5, [.ref t1, .ref t2, .int (nI tcn)])), (t1, .inl (cyI, 4, .inl (fun k => nI ((va_up siz tu (siz tu + 1)) k)))), (t2, .inl (cyI, 120, .inl (fun k => nI ((wrF no (tu * 30) (ti * 48 + pi) (siz tu)) k))))] := hD
    exact W.vret hx hb hr (fun t ht hW => ⟨⟨(), rfl, trivial, ⟨by rw [ht]; exact hP9, hD9⟩⟩, hS.F ht⟩) hS.2.2 dX3_write_88
  | succ n_2 ih_5 =>
    intro i_3 hi_4 H locs hP hD hS ls hl
    refine lv_iload hx hb dX3_write_31 (lv_at hl 0 rfl) ?_
    refine lv_iload hx hb dX3_write_33 (lv_at hl 1 rfl) ?_
    refine xc_le (tgt := 66) hx hb dX3_write_35 (by decide) (by omega) (by omega) (fun c_8 => by omega) (fun c_8 => ?_)
    refine lv_aload_n hx hb dX3_write_38 rfl (lv_at hl 4 rfl) ?_
    refine va_get (D := (dC, dI)) (ci := 5) (v := .ref t2) (C := RX3) (T := TX3) (N := 3) hx hb hts inX3_write_X3 hown hK hP 0 rfl rfl 1 (by decide) (hts _ mX3_write_fieldLink_RX3_15_PinBarrel_Tunes_notes_I) (fun _ h9 => h9) rfl dX3_write_39 ?_
    refine lv_iload hx hb dX3_write_42 (lv_at hl 2 rfl) ?_
    refine lv_iload hx hb dX3_write_44 (lv_at hl 0 rfl) ?_
    refine xi_add hx hb dX3_write_46 ?_
    refine lv_aload_n hx hb dX3_write_47 rfl (lv_at hl 4 rfl) ?_
    refine va_get (D := (dC, dI)) (ci := 5) (v := .ref t2) (C := RX3) (T := TX3) (N := 3) hx hb hts inX3_write_X3 hown hK hP 0 rfl rfl 1 (by decide) (hts _ mX3_write_fieldLink_RX3_15_PinBarrel_Tunes_notes_I) (fun _ h9 => h9) rfl dX3_write_48 ?_
    refine lv_iload hx hb dX3_write_51 (lv_at hl 2 rfl) ?_
    refine lv_iload hx hb dX3_write_53 (lv_at hl 0 rfl) ?_
    refine xi_add hx hb dX3_write_55 ?_
    refine lv_iconst (v := nI 1) hx hb dX3_write_56 (by decide) ?_
    refine xi_sub hx hb dX3_write_57 (by omega) ?_
    refine xl_I (f := (shF no (tu * 30) (siz tu) i_3)) hx hb hK hP 2 0 rfl rfl (by omega) (by decide) dX3_write_58 ?_
    refine xt_I (f := (shF no (tu * 30) (siz tu) i_3)) (x := ((shF no (tu * 30) (siz tu) i_3) (((tu * 30) + (siz tu - i_3)) - 1))) hx hb hK hP hD hS 2 0 rfl rfl (by omega) (by decide) dX3_write_59 (fun H locs hP hD hS => ?_)
    have hP : va_P (dC, dI) vwCl [(t0, .inr (5, [.ref t1, .ref t2, .int (nI tcn)])), (t1, .inl (cyI, 4, .inl (fun k => nI (siz k)))), (t2, .inl (cyI, 120, .inl (fun k => nI ((va_up (shF no (tu * 30) (siz tu) i_3) ((tu * 30) + (siz tu - i_3)) ((shF no (tu * 30) (siz tu) i_3) (((tu * 30) + (siz tu - i_3)) - 1))) k))))] H := hP
    have hD : va_D A [(t0, .inr (5, [.ref t1, .ref t2, .int (nI tcn)])), (t1, .inl (cyI, 4, .inl (fun k => nI (siz k)))), (t2, .inl (cyI, 120, .inl (fun k => nI ((va_up (shF no (tu * 30) (siz tu) i_3) ((tu * 30) + (siz tu - i_3)) ((shF no (tu * 30) (siz tu) i_3) (((tu * 30) + (siz tu - i_3)) - 1))) k))))] := hD
    refine xi_dec (k := 0) (lv' := [(7, .int (nI ((siz tu - i_3) - 1))), (6, .int (nI (rkF no (tu * 30) ((ti * 48) + pi) (siz tu)))), (5, .int (nI (tu * 30))), (4, .int (nI ((ti * 48) + pi))), (0, .ref t0), (1, .int (nI tu)), (2, .int (nI ti)), (3, .int (nI pi))]) hx hb dX3_write_60 hl rfl (by omega) (by decide) rfl (fun ls hl => ?_)
    refine lv_goto (tgt := 31) hx hb dX3_write_63 (by decide) ?_
    have e1 : shF no (tu * 30) (siz tu) (i_3 + 1) = va_up (shF no (tu * 30) (siz tu) i_3) (tu * 30 + (siz tu - i_3)) (shF no (tu * 30) (siz tu) i_3 (tu * 30 + (siz tu - i_3) - 1)) := (shF_succ no (by omega)).symm
    have e2 : siz tu - (i_3 + 1) = siz tu - i_3 - 1 := by omega
    exact ih_5 (i_3 + 1) (by omega)  _ _ (by first | exact hP | (simp only [e1, e2]; exact hP) | (simp only [e1, e2] at hP ⊢; exact hP)) (by first | exact hD | (simp only [e1, e2]; exact hD) | (simp only [e1, e2] at hD ⊢; exact hD)) hS _ (by first | exact (lv_sub hl [0, 1, 2, 3, 4, 5, 6, 7] rfl) | (simp only [e1, e2]; exact (lv_sub hl [0, 1, 2, 3, 4, 5, 6, 7] rfl)) | (simp only [e1, e2] at hl ⊢; exact (lv_sub hl [0, 1, 2, 3, 4, 5, 6, 7] rfl)))

theorem inX3_strike_X3 : ∀ w ∈ wsX30, w ∈ wsX3_strike := by decide +kernel
theorem mX3_strike_fieldLink_RX3_9_PinBarrel_Tunes_size_I : Cond.fieldLink RX3 9 "PinBarrel$Tunes" "size" "[I" ∈ wsX3_strike := List.mem_of_getElem? (i := 1) (by decide +kernel)
theorem mX3_strike_fieldLink_RX3_15_PinBarrel_Tunes_notes_I : Cond.fieldLink RX3 15 "PinBarrel$Tunes" "notes" "[I" ∈ wsX3_strike := List.mem_of_getElem? (i := 2) (by decide +kernel)
set_option maxHeartbeats 4000000 in
set_option maxRecDepth 100000 in
/-- a NOTE struck out -/
theorem kX3_strike (l : Launch) (dC : Nat → ClassId) (dI : Nat → Nat → Nat) (cyI cyZ cyJ cyD cyB : ClassId) (t0 t1 t2 : Nat) (siz : Nat → Nat) (no : Nat → Nat) (tcn : Nat) (tu : Nat) (ti : Nat) (pi : Nat) (htu : tu < 4) (hti : ti < 64) (hpi : pi < 48) (hno : ∀ k, no k < 3072) (hsz : ∀ k, siz k ≤ 30) (hpos : 0 < siz tu) : Met l yX3_strike wsX3_strike ({ frames := 1, cells := 0, slots := 0, locals := 23 }) (va_Pc [.ref t0, .int (nI tu), .int (nI ti), .int (nI pi)] (xM (dC, dI) vwCl (xT cyI cyZ cyJ cyD cyB) [(t0, .inr (5, [.ref t1, .ref t2, .int (nI tcn)])), (t1, .inl (cyI, 4, .inl (fun k => nI (siz k)))), (t2, .inl (cyI, 120, .inl (fun k => nI (no k))))])) (va_Qv (fun (u : Unit) => True) (fun u t => va_P (dC, dI) vwCl [(t0, .inr (5, [.ref t1, .ref t2, .int (nI tcn)])), (t1, .inl (cyI, 4, .inl (fun k => nI ((va_up siz tu (siz tu - 1)) k)))), (t2, .inl (cyI, 120, .inl (fun k => nI ((stF no (tu * 30) (ti * 48 + pi) (siz tu - 1)) k))))] t.heap ∧ va_D (xA [(t0, .inr (5, [.ref t1, .ref t2, .int (nI tcn)])), (t1, .inl (cyI, 4, .inl (fun k => nI (siz k)))), (t2, .inl (cyI, 120, .inl (fun k => nI (no k))))]) [(t0, .inr (5, [.ref t1, .ref t2, .int (nI tcn)])), (t1, .inl (cyI, 4, .inl (fun k => nI ((va_up siz tu (siz tu - 1)) k)))), (t2, .inl (cyI, 120, .inl (fun k => nI ((stF no (tu * 30) (ti * 48 + pi) (siz tu - 1)) k))))]) (xA [(t0, .inr (5, [.ref t1, .ref t2, .int (nI tcn)])), (t1, .inl (cyI, 4, .inl (fun k => nI (siz k)))), (t2, .inl (cyI, 120, .inl (fun k => nI (no k))))])) 0 0 (xA [(t0, .inr (5, [.ref t1, .ref t2, .int (nI tcn)])), (t1, .inl (cyI, 4, .inl (fun k => nI (siz k)))), (t2, .inl (cyI, 120, .inl (fun k => nI (no k))))]) := by
  refine Met.ofW (cc := cX3_strike) (maxL := 6) (ret := none) (by decide) rfl ?_
  intro p e s m args below meth c s₁ B hml hv
  obtain ⟨rfl, hP, hK, hD0⟩ := hv
  have hx := B.exec
  have hb := B.bytes
  have hr := B.returns
  have hts := atoms_spec (ws := wsX3_strike) B.pre
  have hown : s.vm.findClass RX3 = some m.cls := findClass_of_methodNamed B.named
  have hlocks := B.notSynchronized
  have hD := xA_self hD0
  clear hD0
  generalize hAe : xA [(t0, .inr (5, [.ref t1, .ref t2, .int (nI tcn)])), (t1, .inl (cyI, 4, .inl (fun k => nI (siz k)))), (t2, .inl (cyI, 120, .inl (fun k => nI (no k))))] = A at hD ⊢
  have hS : va_S A s.heap s.heap [] := va_S.rf
  have hP : va_P (dC, dI) vwCl [(t0, .inr (5, [.ref t1, .ref t2, .int (nI tcn)])), (t1, .inl (cyI, 4, .inl (fun k => nI (siz k)))), (t2, .inl (cyI, 120, .inl (fun k => nI (no k))))] s.heap := hP
  have hl := lv_entry ([.ref t0, .int (nI tu), .int (nI ti), .int (nI pi)]) (n := 6) (Nat.le_of_ble_eq_true rfl)
  rw [lg_entry_eq]
  generalize (lg_sl ([.ref t0, .int (nI tu), .int (nI ti), .int (nI pi)]) ++ List.replicate (6 - (lg_sl ([.ref t0, .int (nI tu), .int (nI ti), .int (nI pi)])).length) Slot.unset).toArray = ls at hl ⊢
  have hl : lv_has ls 6 [(0, .ref t0), (1, .int (nI tu)), (2, .int (nI ti)), (3, .int (nI pi))] := hl
  have hsz1 := hsz tu
  have hrk1 := rkF_le no (tu * 30) (ti * 48 + pi) (siz tu - 1)
  refine lv_iload_n hx hb dX3_strike_0 rfl (lv_at hl 1 rfl) ?_
  refine lv_bipush (v := nI 30) hx hb dX3_strike_1 (by decide) ?_
  refine xi_mul hx hb dX3_strike_3 ?_
  refine lv_istore (lv' := [(4, .int (nI (tu * 30))), (0, .ref t0), (1, .int (nI tu)), (2, .int (nI ti)), (3, .int (nI pi))]) hx hb dX3_strike_4 hl (by decide) rfl (fun ls hl => ?_)
  refine lv_aload_n hx hb dX3_strike_6 rfl (lv_at hl 1 rfl) ?_
  refine va_get (D := (dC, dI)) (ci := 5) (v := .ref t1) (C := RX3) (T := TX3) (N := 3) hx hb hts inX3_strike_X3 hown hK hP 0 rfl rfl 0 (by decide) (hts _ mX3_strike_fieldLink_RX3_9_PinBarrel_Tunes_size_I) (fun _ h9 => h9) rfl dX3_strike_7 ?_
  refine lv_iload_n hx hb dX3_strike_10 rfl (lv_at hl 2 rfl) ?_
  refine lv_dup2_11 hx hb dX3_strike_11 rfl rfl ?_
  refine xl_I (f := siz) hx hb hK hP 1 0 rfl rfl (by omega) (by decide) dX3_strike_12 ?_
  refine lv_iconst (v := nI 1) hx hb dX3_strike_13 (by decide) ?_
  refine xi_sub hx hb dX3_strike_14 (by omega) ?_
  refine xt_I (f := siz) (x := ((siz tu) - 1)) hx hb hK hP hD hS 1 0 rfl rfl (by omega) (by decide) dX3_strike_15 (fun H locs hP hD hS => ?_)
  have hP : va_P (dC, dI) vwCl [(t0, .inr (5, [.ref t1, .ref t2, .int (nI tcn)])), (t1, .inl (cyI, 4, .inl (fun k => nI ((va_up siz tu ((siz tu) - 1)) k)))), (t2, .inl (cyI, 120, .inl (fun k => nI (no k))))] H := hP
  have hD : va_D A [(t0, .inr (5, [.ref t1, .ref t2, .int (nI tcn)])), (t1, .inl (cyI, 4, .inl (fun k => nI ((va_up siz tu ((siz tu) - 1)) k)))), (t2, .inl (cyI, 120, .inl (fun k => nI (no k))))] := hD
  refine lv_aload_n hx hb dX3_strike_16 rfl (lv_at hl 1 rfl) ?_
  refine lv_iload_n hx hb dX3_strike_17 rfl (lv_at hl 2 rfl) ?_
  refine lv_iload_n hx hb dX3_strike_18 rfl (lv_at hl 3 rfl) ?_
  refine lv_bipush (v := nI 48) hx hb dX3_strike_19 (by decide) ?_
  refine xi_mul hx hb dX3_strike_21 ?_
  refine lv_iload_n hx hb dX3_strike_22 rfl (lv_at hl 4 rfl) ?_
  refine xi_add hx hb dX3_strike_23 ?_
  refine xv_i (As := [.int (nI tu), .int (nI ((ti * 48) + pi))]) (rest := []) (q := (RX3, TX3, 3)) ⟨hx, hb, hml, hown, hts⟩ (kX3_rankOf l dC dI cyI cyZ cyJ cyD cyB t0 t1 t2 (va_up siz tu ((siz tu) - 1)) no tcn tu ((ti * 48) + pi) (by omega) (by omega) hno (fun k => Nat.le_of_lt_succ (va_up_lt (fun k => Nat.lt_succ_of_le (hsz k)) (by omega) tu k))) (cwV 2 hts gX3_strike_X3_rankOf rfl rfl rfl (by decide +kernel) ⟨Nat.le_of_ble_eq_true rfl, Nat.le_of_ble_eq_true rfl⟩) hK hP hS [0, 1, 2] rfl 0 5 rfl rfl rfl hl.1 rfl (Nat.le_of_ble_eq_true rfl) dX3_strike_24 ⟨Nat.zero_le _, Nat.zero_le _⟩ (fun r_1 H locs hw hP hS => ?_)
  have hw : r_1 = nI (rkF no (tu * 30) ((ti * 48) + pi) ((va_up siz tu ((siz tu) - 1)) tu)) := hw
  subst hw
  rw [xu_self]
  refine lv_istore (lv' := [(5, .int (nI (rkF no (tu * 30) (ti * 48 + pi) (siz tu - 1)))), (4, .int (nI (tu * 30))), (0, .ref t0), (1, .int (nI tu)), (2, .int (nI ti)), (3, .int (nI pi))]) hx hb dX3_strike_27 hl (by decide) rfl (fun ls hl => ?_)
  have e0 := dlF_0 no (tu * 30 + rkF no (tu * 30) (ti * 48 + pi) (siz tu - 1))
  refine (?_ : ∀ (n_2 i_3 : Nat), i_3 + n_2 = (siz tu - 1) → ∀ (hlo : rkF no (tu * 30) (ti * 48 + pi) (siz tu - 1) ≤ i_3) (H : Heap) (locs : List Loc) (hP : va_P (dC, dI) vwCl [(t0, .inr (5, [.ref t1, .ref t2, .int (nI tcn)])), (t1, .inl (cyI, 4, .inl (fun k => nI ((va_up siz tu ((siz tu) - 1)) k)))), (t2, .inl (cyI, 120, .inl (fun k => nI ((dlF no (tu * 30 + rkF no (tu * 30) (ti * 48 + pi) (siz tu - 1)) (tu * 30 + i_3)) k))))] H) (hD : va_D A [(t0, .inr (5, [.ref t1, .ref t2, .int (nI tcn)])), (t1, .inl (cyI, 4, .inl (fun k => nI ((va_up siz tu ((siz tu) - 1)) k)))), (t2, .inl (cyI, 120, .inl (fun k => nI ((dlF no (tu * 30 + rkF no (tu * 30) (ti * 48 + pi) (siz tu - 1)) (tu * 30 + i_3)) k))))]) (hS : va_S A s.heap H locs) (ls : Array Slot) (hl : lv_has ls 6 [(5, .int (nI i_3)), (4, .int (nI (tu * 30))), (0, .ref t0), (1, .int (nI tu)), (2, .int (nI ti)), (3, .int (nI pi))]), W p l e _ s m _ below meth c H locs 0 0 _ (F0 m 29 ls [])) ((siz tu - 1) - (rkF no (tu * 30) (ti * 48 + pi) (siz tu - 1))) (rkF no (tu * 30) (ti * 48 + pi) (siz tu - 1)) (by omega) (Nat.le_refl _) _ _ (by first | exact hP | (simp only [e0]; exact hP)) (by first | exact hD | (simp only [e0]; exact hD)) hS _ (by first | exact (lv_sub hl [0, 1, 2, 3, 4, 5] rfl) | (simp only [e0]; exact (lv_sub hl [0, 1, 2, 3, 4, 5] rfl)))
  clear hl hP hS hD
  intro n_2
  induction n_2 with
  | zero =>
    intro i_3 hi_4 hlo H locs hP hD hS ls hl
    refine lv_iload hx hb dX3_strike_29 (lv_at hl 0 rfl) ?_
    refine lv_aload_n hx hb dX3_strike_31 rfl (lv_at hl 2 rfl) ?_
    refine va_get (D := (dC, dI)) (ci := 5) (v := .ref t1) (C := RX3) (T := TX3) (N := 3) hx hb hts inX3_strike_X3 hown hK hP 0 rfl rfl 0 (by decide) (hts _ mX3_strike_fieldLink_RX3_9_PinBarrel_Tunes_size_I) (fun _ h9 => h9) rfl dX3_strike_32 ?_
    refine lv_iload_n hx hb dX3_strike_35 rfl (lv_at hl 3 rfl) ?_
    refine xl_I (f := (va_up siz tu ((siz tu) - 1))) hx hb hK hP 1 0 rfl rfl (by omega) (by decide) dX3_strike_36 ?_
    rw [xu_self]
    refine xc_ge (tgt := 68) hx hb dX3_strike_37 (by decide) (by omega) (by omega) (fun c_7 => ?_) (fun c_7 => by omega)
    have h9 : i_3 = siz tu - 1 := by omega
    rw [h9] at hP hD
    have hP9 : va_P (dC, dI) vwCl [(t0, .inr (5, [.ref t1, .ref t2, .int (nI tcn)])), (t1, .inl (cyI, 4, .inl (fun k => nI ((va_up siz tu (siz tu - 1)) k)))), (t2, .inl (cyI, 120, .inl (fun k => nI ((stF no (tu * 30) (ti * 48 + pi) (siz tu - 1)) k))))] _ := hP
    have hD9 : va_D A [(t0, .inr (5, [.ref t1, .ref t2, .int (nI tcn)])), (t1, .inl (cyI, 4, .inl (fun k => nI ((va_up siz tu (siz tu - 1)) k)))), (t2, .inl (cyI, 120, .inl (fun k => nI ((stF no (tu * 30) (ti * 48 + pi) (siz tu - 1)) k))))] := hD
    exact W.vret hx hb hr (fun t ht hW => ⟨⟨(), rfl, trivial, ⟨by rw [ht]; exact hP9, hD9⟩⟩, hS.F ht⟩) hS.2.2 dX3_strike_68
  | succ n_2 ih_5 =>
    intro i_3 hi_4 hlo H locs hP hD hS ls hl
    refine lv_iload hx hb dX3_strike_29 (lv_at hl 0 rfl) ?_
    refine lv_aload_n hx hb dX3_strike_31 rfl (lv_at hl 2 rfl) ?_
    refine va_get (D := (dC, dI)) (ci := 5) (v := .ref t1) (C := RX3) (T := TX3) (N := 3) hx hb hts inX3_strike_X3 hown hK hP 0 rfl rfl 0 (by decide) (hts _ mX3_strike_fieldLink_RX3_9_PinBarrel_Tunes_size_I) (fun _ h9 => h9) rfl dX3_strike_32 ?_
    refine lv_iload_n hx hb dX3_strike_35 rfl (lv_at hl 3 rfl) ?_
    refine xl_I (f := (va_up siz tu ((siz tu) - 1))) hx hb hK hP 1 0 rfl rfl (by omega) (by decide) dX3_strike_36 ?_
    rw [xu_self]
    refine xc_ge (tgt := 68) hx hb dX3_strike_37 (by decide) (by omega) (by omega) (fun c_8 => by omega) (fun c_8 => ?_)
    refine lv_aload_n hx hb dX3_strike_40 rfl (lv_at hl 2 rfl) ?_
    refine va_get (D := (dC, dI)) (ci := 5) (v := .ref t2) (C := RX3) (T := TX3) (N := 3) hx hb hts inX3_strike_X3 hown hK hP 0 rfl rfl 1 (by decide) (hts _ mX3_strike_fieldLink_RX3_15_PinBarrel_Tunes_notes_I) (fun _ h9 => h9) rfl dX3_strike_41 ?_
    refine lv_iload hx hb dX3_strike_44 (lv_at hl 1 rfl) ?_
    refine lv_iload hx hb dX3_strike_46 (lv_at hl 0 rfl) ?_
    refine xi_add hx hb dX3_strike_48 ?_
    refine lv_aload_n hx hb dX3_strike_49 rfl (lv_at hl 2 rfl) ?_
    refine va_get (D := (dC, dI)) (ci := 5) (v := .ref t2) (C := RX3) (T := TX3) (N := 3) hx hb hts inX3_strike_X3 hown hK hP 0 rfl rfl 1 (by decide) (hts _ mX3_strike_fieldLink_RX3_15_PinBarrel_Tunes_notes_I) (fun _ h9 => h9) rfl dX3_strike_50 ?_
    refine lv_iload hx hb dX3_strike_53 (lv_at hl 1 rfl) ?_
    refine lv_iload hx hb dX3_strike_55 (lv_at hl 0 rfl) ?_
    refine xi_add hx hb dX3_strike_57 ?_
    refine lv_iconst (v := nI 1) hx hb dX3_strike_58 (by decide) ?_
    refine xi_add hx hb dX3_strike_59 ?_
    refine xl_I (f := (dlF no (tu * 30 + rkF no (tu * 30) (ti * 48 + pi) (siz tu - 1)) (tu * 30 + i_3))) hx hb hK hP 2 0 rfl rfl (by omega) (by decide) dX3_strike_60 ?_
    refine xt_I (f := (dlF no (tu * 30 + rkF no (tu * 30) (ti * 48 + pi) (siz tu - 1)) (tu * 30 + i_3))) (x := ((dlF no (tu * 30 + rkF no (tu * 30) (ti * 48 + pi) (siz tu - 1)) (tu * 30 + i_3)) (((tu * 30) + i_3) + 1))) hx hb hK hP hD hS 2 0 rfl rfl (by omega) (by decide) dX3_strike_61 (fun H locs hP hD hS => ?_)
    have hP : va_P (dC, dI) vwCl [(t0, .inr (5, [.ref t1, .ref t2, .int (nI tcn)])), (t1, .inl (cyI, 4, .inl (fun k => nI ((va_up siz tu ((siz tu) - 1)) k)))), (t2, .inl (cyI, 120, .inl (fun k => nI ((va_up (dlF no (tu * 30 + rkF no (tu * 30) (ti * 48 + pi) (siz tu - 1)) (tu * 30 + i_3)) ((tu * 30) + i_3) ((dlF no (tu * 30 + rkF no (tu * 30) (ti * 48 + pi) (siz tu - 1)) (tu * 30 + i_3)) (((tu * 30) + i_3) + 1))) k))))] H := hP
    have hD : va_D A [(t0, .inr (5, [.ref t1, .ref t2, .int (nI tcn)])), (t1, .inl (cyI, 4, .inl (fun k => nI ((va_up siz tu ((siz tu) - 1)) k)))), (t2, .inl (cyI, 120, .inl (fun k => nI ((va_up (dlF no (tu * 30 + rkF no (tu * 30) (ti * 48 + pi) (siz tu - 1)) (tu * 30 + i_3)) ((tu * 30) + i_3) ((dlF no (tu * 30 + rkF no (tu * 30) (ti * 48 + pi) (siz tu - 1)) (tu * 30 + i_3)) (((tu * 30) + i_3) + 1))) k))))] := hD
    refine xi_inc (k := 0) (lv' := [(5, .int (nI (i_3 + 1))), (4, .int (nI (tu * 30))), (0, .ref t0), (1, .int (nI tu)), (2, .int (nI ti)), (3, .int (nI pi))]) hx hb dX3_strike_62 hl rfl (by decide) rfl (fun ls hl => ?_)
    refine lv_goto (tgt := 29) hx hb dX3_strike_65 (by decide) ?_
    have e1 : dlF no (tu * 30 + rkF no (tu * 30) (ti * 48 + pi) (siz tu - 1)) (tu * 30 + (i_3 + 1)) = va_up (dlF no (tu * 30 + rkF no (tu * 30) (ti * 48 + pi) (siz tu - 1)) (tu * 30 + i_3)) (tu * 30 + i_3) (dlF no (tu * 30 + rkF no (tu * 30) (ti * 48 + pi) (siz tu - 1)) (tu * 30 + i_3) (tu * 30 + i_3 + 1)) := (dlF_succ (b := tu * 30 + rkF no (tu * 30) (ti * 48 + pi) (siz tu - 1)) (c := tu * 30 + i_3) no (by omega)).symm
    exact ih_5 (i_3 + 1) (by omega) (by omega) _ _ (by first | exact hP | (simp only [e1]; exact hP) | (simp only [e1] at hP ⊢; exact hP)) (by first | exact hD | (simp only [e1]; exact hD) | (simp only [e1] at hD ⊢; exact hD)) hS _ (by first | exact (lv_sub hl [0, 1, 2, 3, 4, 5] rfl) | (simp only [e1]; exact (lv_sub hl [0, 1, 2, 3, 4, 5] rfl)) | (simp only [e1] at hl ⊢; exact (lv_sub hl [0, 1, 2, 3, 4, 5] rfl)))

theorem inX3_lowest_X3 : ∀ w ∈ wsX30, w ∈ wsX3_lowest := by decide +kernel
theorem mX3_lowest_fieldLink_RX3_9_PinBarrel_Tunes_size_I : Cond.fieldLink RX3 9 "PinBarrel$Tunes" "size" "[I" ∈ wsX3_lowest := List.mem_of_getElem? (i := 1) (by decide +kernel)
set_option maxHeartbeats 4000000 in
set_option maxRecDepth 100000 in
/-- the lowest PITCH -/
theorem kX3_lowest (l : Launch) (dC : Nat → ClassId) (dI : Nat → Nat → Nat) (cyI cyZ cyJ cyD cyB : ClassId) (t0 t1 t2 : Nat) (siz : Nat → Nat) (no : Nat → Nat) (tcn : Nat) (tu : Nat) (htu : tu < 4) (hno : ∀ k, no k < 3072) (hsz : ∀ k, siz k ≤ 30) : Met l yX3_lowest wsX3_lowest ({ frames := 1, cells := 0, slots := 0, locals := 22 }) (va_Pc [.ref t0, .int (nI tu)] (xP (dC, dI) vwCl (xT cyI cyZ cyJ cyD cyB) [(t0, .inr (5, [.ref t1, .ref t2, .int (nI tcn)])), (t1, .inl (cyI, 4, .inl (fun k => nI (siz k)))), (t2, .inl (cyI, 120, .inl (fun k => nI (no k))))])) (va_Qi (fun (r : Int32) (u : Unit) => r = lwF no (tu * 30) (siz tu)) (fun _ _ => True) (fun _ => False)) 0 0 (fun _ => False) := by
  refine Met.ofW (cc := cX3_lowest) (maxL := 5) (ret := (some .int)) (by decide) rfl ?_
  intro p e s m args below meth c s₁ B hml hv
  obtain ⟨rfl, hP, hK⟩ := hv
  have hx := B.exec
  have hb := B.bytes
  have hr := B.returns
  have hts := atoms_spec (ws := wsX3_lowest) B.pre
  have hown : s.vm.findClass RX3 = some m.cls := findClass_of_methodNamed B.named
  have hlocks := B.notSynchronized
  have hS : va_S (fun _ => False) s.heap s.heap [] := va_S.rf
  have hP : va_P (dC, dI) vwCl [(t0, .inr (5, [.ref t1, .ref t2, .int (nI tcn)])), (t1, .inl (cyI, 4, .inl (fun k => nI (siz k)))), (t2, .inl (cyI, 120, .inl (fun k => nI (no k))))] s.heap := hP
  have hl := lv_entry ([.ref t0, .int (nI tu)]) (n := 5) (Nat.le_of_ble_eq_true rfl)
  rw [lg_entry_eq]
  generalize (lg_sl ([.ref t0, .int (nI tu)]) ++ List.replicate (5 - (lg_sl ([.ref t0, .int (nI tu)])).length) Slot.unset).toArray = ls at hl ⊢
  have hl : lv_has ls 5 [(0, .ref t0), (1, .int (nI tu))] := hl
  have hsz1 := hsz tu
  refine lv_iconst (v := (-1)) hx hb dX3_lowest_0 (by decide) ?_
  refine lv_istore_n (lv' := [(2, .int (-1)), (0, .ref t0), (1, .int (nI tu))]) hx hb dX3_lowest_1 rfl hl (by decide) rfl (fun ls hl => ?_)
  refine lv_iconst (v := nI 0) hx hb dX3_lowest_2 (by decide) ?_
  refine lv_istore_n (lv' := [(3, .int (nI 0)), (2, .int (-1)), (0, .ref t0), (1, .int (nI tu))]) hx hb dX3_lowest_3 rfl hl (by decide) rfl (fun ls hl => ?_)
  have e0 : lwF no (tu * 30) 0 = (-1) := rfl
  refine (?_ : ∀ (n_1 i_2 : Nat), i_2 + n_1 = siz tu → ∀ (H : Heap) (locs : List Loc) (hP : va_P (dC, dI) vwCl [(t0, .inr (5, [.ref t1, .ref t2, .int (nI tcn)])), (t1, .inl (cyI, 4, .inl (fun k => nI (siz k)))), (t2, .inl (cyI, 120, .inl (fun k => nI (no k))))] H) (hS : va_S (fun _ => False) s.heap H locs) (ls : Array Slot) (hl : lv_has ls 5 [(3, .int (nI i_2)), (2, .int (lwF no (tu * 30) i_2)), (0, .ref t0), (1, .int (nI tu))]), W p l e _ s m _ below meth c H locs 0 0 _ (F0 m 4 ls [])) ((siz tu) - 0) 0 (by omega) _ _ (by first | exact hP | (simp only [e0]; exact hP)) hS _ (by first | exact (lv_sub hl [0, 1, 2, 3] rfl) | (simp only [e0]; exact (lv_sub hl [0, 1, 2, 3] rfl)))
  clear hl hP hS
  intro n_1
  induction n_1 with
  | zero =>
    intro i_2 hi_3 H locs hP hS ls hl
    have hsz1 := hsz tu
    have hno1 := hno (tu * 30 + i_2)
    refine lv_iload_n hx hb dX3_lowest_4 rfl (lv_at hl 0 rfl) ?_
    refine lv_aload_n hx hb dX3_lowest_5 rfl (lv_at hl 2 rfl) ?_
    refine va_get (D := (dC, dI)) (ci := 5) (v := .ref t1) (C := RX3) (T := TX3) (N := 3) hx hb hts inX3_lowest_X3 hown hK hP 0 rfl rfl 0 (by decide) (hts _ mX3_lowest_fieldLink_RX3_9_PinBarrel_Tunes_size_I) (fun _ h9 => h9) rfl dX3_lowest_6 ?_
    refine lv_iload_n hx hb dX3_lowest_9 rfl (lv_at hl 3 rfl) ?_
    refine xl_I (f := siz) hx hb hK hP 1 0 rfl rfl (by omega) (by decide) dX3_lowest_10 ?_
    refine xc_ge (tgt := 42) hx hb dX3_lowest_11 (by decide) (by omega) (by omega) (fun c_6 => ?_) (fun c_6 => by omega)
    refine lv_iload_n hx hb dX3_lowest_42 rfl (lv_at hl 1 rfl) ?_
    exact W.iret (v := lwF no (tu * 30) i_2) hx hb hr (fun t ht hW => ⟨⟨lwF no (tu * 30) i_2, (), rfl, (by rw [show i_2 = siz tu from by omega]), trivial⟩, hS.F ht⟩) hS.2.2 dX3_lowest_43
  | succ n_1 ih_4 =>
    intro i_2 hi_3 H locs hP hS ls hl
    have hsz1 := hsz tu
    have hno1 := hno (tu * 30 + i_2)
    refine lv_iload_n hx hb dX3_lowest_4 rfl (lv_at hl 0 rfl) ?_
    refine lv_aload_n hx hb dX3_lowest_5 rfl (lv_at hl 2 rfl) ?_
    refine va_get (D := (dC, dI)) (ci := 5) (v := .ref t1) (C := RX3) (T := TX3) (N := 3) hx hb hts inX3_lowest_X3 hown hK hP 0 rfl rfl 0 (by decide) (hts _ mX3_lowest_fieldLink_RX3_9_PinBarrel_Tunes_size_I) (fun _ h9 => h9) rfl dX3_lowest_6 ?_
    refine lv_iload_n hx hb dX3_lowest_9 rfl (lv_at hl 3 rfl) ?_
    refine xl_I (f := siz) hx hb hK hP 1 0 rfl rfl (by omega) (by decide) dX3_lowest_10 ?_
    refine xc_ge (tgt := 42) hx hb dX3_lowest_11 (by decide) (by omega) (by omega) (fun c_7 => by omega) (fun c_7 => ?_)
    refine lv_aload_n hx hb dX3_lowest_14 rfl (lv_at hl 2 rfl) ?_
    refine lv_iload_n hx hb dX3_lowest_15 rfl (lv_at hl 3 rfl) ?_
    refine lv_iload_n hx hb dX3_lowest_16 rfl (lv_at hl 0 rfl) ?_
    refine xv_i (As := [.int (nI tu), .int (nI i_2)]) (rest := []) (q := (RX3, TX3, 3)) ⟨hx, hb, hml, hown, hts⟩ (kX3_pitchOf l dC dI cyI cyZ cyJ cyD cyB t0 t2 t1 tcn tu i_2 no (by omega) (by omega) hno) (cwV 2 hts gX3_lowest_X3_pitchOf rfl rfl rfl (by decide +kernel) ⟨Nat.le_of_ble_eq_true rfl, Nat.le_of_ble_eq_true rfl⟩) hK hP hS [0, 2] rfl 0 5 rfl rfl rfl hl.1 rfl (Nat.le_of_ble_eq_true rfl) dX3_lowest_17 ⟨Nat.zero_le _, Nat.zero_le _⟩ (fun r_8 H locs hw hP hS => ?_)
    have hw : r_8 = nI (no (tu * 30 + i_2) % 48) := hw
    subst hw
    refine lv_istore (lv' := [(4, .int (nI (no (tu * 30 + i_2) % 48))), (3, .int (nI i_2)), (2, .int (lwF no (tu * 30) i_2)), (0, .ref t0), (1, .int (nI tu))]) hx hb dX3_lowest_20 hl (by decide) rfl (fun ls hl => ?_)
    refine lv_iload_n hx hb dX3_lowest_22 rfl (lv_at hl 2 rfl) ?_
    refine lv_iconst (v := (-1)) hx hb dX3_lowest_23 (by decide) ?_
    refine lv_icmp_eq (tgt := 33) hx hb dX3_lowest_24 (by decide) (fun c_9 => ?_) (fun c_9 => ?_)
    · refine lv_iload hx hb dX3_lowest_33 (lv_at hl 0 rfl) ?_
      refine lv_istore_n (lv' := [(2, .int (nI (no (tu * 30 + i_2) % 48))), (4, .int (nI (no (tu * 30 + i_2) % 48))), (3, .int (nI i_2)), (0, .ref t0), (1, .int (nI tu))]) hx hb dX3_lowest_35 rfl hl (by decide) rfl (fun ls hl => ?_)
      refine xi_inc (k := 2) (lv' := [(3, .int (nI (i_2 + 1))), (2, .int (nI (no (tu * 30 + i_2) % 48))), (4, .int (nI (no (tu * 30 + i_2) % 48))), (0, .ref t0), (1, .int (nI tu))]) hx hb dX3_lowest_36 hl rfl (by decide) rfl (fun ls hl => ?_)
      refine lv_goto (tgt := 4) hx hb dX3_lowest_39 (by decide) ?_
      have e1 : lwF no (tu * 30) (i_2 + 1) = nI (no (tu * 30 + i_2) % 48) := if_pos (by first | exact Or.inl c_9 | exact Or.inr c_9 | exact Or.inr (Int32.not_le.mp c_9))
      exact ih_4 (i_2 + 1) (by omega)  _ _ (by first | exact hP | (simp only [e1]; exact hP) | (simp only [e1] at hP ⊢; exact hP)) hS _ (by first | exact (lv_sub hl [0, 1, 3, 4] rfl) | (simp only [e1]; exact (lv_sub hl [0, 1, 3, 4] rfl)) | (simp only [e1] at hl ⊢; exact (lv_sub hl [0, 1, 3, 4] rfl)))
    · refine lv_iload hx hb dX3_lowest_27 (lv_at hl 0 rfl) ?_
      refine lv_iload_n hx hb dX3_lowest_29 rfl (lv_at hl 2 rfl) ?_
      refine lv_icmp_ge (tgt := 36) hx hb dX3_lowest_30 (by decide) (fun c_10 => ?_) (fun c_10 => ?_)
      · refine xi_inc (k := 1) (lv' := [(3, .int (nI (i_2 + 1))), (4, .int (nI (no (tu * 30 + i_2) % 48))), (2, .int (lwF no (tu * 30) i_2)), (0, .ref t0), (1, .int (nI tu))]) hx hb dX3_lowest_36 hl rfl (by decide) rfl (fun ls hl => ?_)
        refine lv_goto (tgt := 4) hx hb dX3_lowest_39 (by decide) ?_
        have e1 : lwF no (tu * 30) (i_2 + 1) = lwF no (tu * 30) i_2 := if_neg (fun hq => hq.elim (fun h => c_9 h) (fun h => absurd h (Int32.not_lt.mpr c_10))) 
        exact ih_4 (i_2 + 1) (by omega)  _ _ (by first | exact hP | (simp only [e1]; exact hP) | (simp only [e1] at hP ⊢; exact hP)) hS _ (by first | exact (lv_sub hl [0, 2, 3, 4] rfl) | (simp only [e1]; exact (lv_sub hl [0, 2, 3, 4] rfl)) | (simp only [e1] at hl ⊢; exact (lv_sub hl [0, 2, 3, 4] rfl)))
      · refine lv_iload hx hb dX3_lowest_33 (lv_at hl 0 rfl) ?_
        refine lv_istore_n (lv' := [(2, .int (nI (no (tu * 30 + i_2) % 48))), (4, .int (nI (no (tu * 30 + i_2) % 48))), (3, .int (nI i_2)), (0, .ref t0), (1, .int (nI tu))]) hx hb dX3_lowest_35 rfl hl (by decide) rfl (fun ls hl => ?_)
        refine xi_inc (k := 2) (lv' := [(3, .int (nI (i_2 + 1))), (2, .int (nI (no (tu * 30 + i_2) % 48))), (4, .int (nI (no (tu * 30 + i_2) % 48))), (0, .ref t0), (1, .int (nI tu))]) hx hb dX3_lowest_36 hl rfl (by decide) rfl (fun ls hl => ?_)
        refine lv_goto (tgt := 4) hx hb dX3_lowest_39 (by decide) ?_
        have e1 : lwF no (tu * 30) (i_2 + 1) = nI (no (tu * 30 + i_2) % 48) := if_pos (by first | exact Or.inl c_10 | exact Or.inr c_10 | exact Or.inr (Int32.not_le.mp c_10))
        exact ih_4 (i_2 + 1) (by omega)  _ _ (by first | exact hP | (simp only [e1]; exact hP) | (simp only [e1] at hP ⊢; exact hP)) hS _ (by first | exact (lv_sub hl [0, 1, 3, 4] rfl) | (simp only [e1]; exact (lv_sub hl [0, 1, 3, 4] rfl)) | (simp only [e1] at hl ⊢; exact (lv_sub hl [0, 1, 3, 4] rfl)))

theorem inX3_highest_X3 : ∀ w ∈ wsX30, w ∈ wsX3_highest := by decide +kernel
theorem mX3_highest_fieldLink_RX3_9_PinBarrel_Tunes_size_I : Cond.fieldLink RX3 9 "PinBarrel$Tunes" "size" "[I" ∈ wsX3_highest := List.mem_of_getElem? (i := 1) (by decide +kernel)
theorem mX3_highest_methodLink_RX3_25_Lib_Math_max_name : Cond.methodLink RX3 25 Lib.Math.max.name ∈ wsX3_highest := List.mem_of_getElem? (i := 2) (by decide +kernel)
theorem mX3_highest_static_Lib_Math_max_name : Cond.static Lib.Math.max.name ∈ wsX3_highest := List.mem_of_getElem? (i := 3) (by decide +kernel)
theorem mX3_highest_initialized_java_lang_Math : Cond.initialized "java/lang/Math" ∈ wsX3_highest := List.mem_of_getElem? (i := 4) (by decide +kernel)
theorem mX3_highest_code_Lib_Math_max_name_Lib_Math_max_code_2_some_int : Cond.code Lib.Math.max.name Lib.Math.max.code 2 (some .int) ∈ wsX3_highest := List.mem_of_getElem? (i := 5) (by decide +kernel)
set_option maxHeartbeats 4000000 in
set_option maxRecDepth 100000 in
/-- the highest PITCH -/
theorem kX3_highest (l : Launch) (dC : Nat → ClassId) (dI : Nat → Nat → Nat) (cyI cyZ cyJ cyD cyB : ClassId) (t0 t1 t2 : Nat) (siz : Nat → Nat) (no : Nat → Nat) (tcn : Nat) (tu : Nat) (htu : tu < 4) (hno : ∀ k, no k < 3072) (hsz : ∀ k, siz k ≤ 30) : Met l yX3_highest wsX3_highest ({ frames := 1, cells := 0, slots := 0, locals := 22 }) (va_Pc [.ref t0, .int (nI tu)] (xP (dC, dI) vwCl (xT cyI cyZ cyJ cyD cyB) [(t0, .inr (5, [.ref t1, .ref t2, .int (nI tcn)])), (t1, .inl (cyI, 4, .inl (fun k => nI (siz k)))), (t2, .inl (cyI, 120, .inl (fun k => nI (no k))))])) (va_Qi (fun (r : Int32) (u : Unit) => r = hiF no (tu * 30) (siz tu)) (fun _ _ => True) (fun _ => False)) 0 0 (fun _ => False) := by
  refine Met.ofW (cc := cX3_highest) (maxL := 4) (ret := (some .int)) (by decide) rfl ?_
  intro p e s m args below meth c s₁ B hml hv
  obtain ⟨rfl, hP, hK⟩ := hv
  have hx := B.exec
  have hb := B.bytes
  have hr := B.returns
  have hts := atoms_spec (ws := wsX3_highest) B.pre
  have hown : s.vm.findClass RX3 = some m.cls := findClass_of_methodNamed B.named
  have hlocks := B.notSynchronized
  have hS : va_S (fun _ => False) s.heap s.heap [] := va_S.rf
  have hP : va_P (dC, dI) vwCl [(t0, .inr (5, [.ref t1, .ref t2, .int (nI tcn)])), (t1, .inl (cyI, 4, .inl (fun k => nI (siz k)))), (t2, .inl (cyI, 120, .inl (fun k => nI (no k))))] s.heap := hP
  have hl := lv_entry ([.ref t0, .int (nI tu)]) (n := 4) (Nat.le_of_ble_eq_true rfl)
  rw [lg_entry_eq]
  generalize (lg_sl ([.ref t0, .int (nI tu)]) ++ List.replicate (4 - (lg_sl ([.ref t0, .int (nI tu)])).length) Slot.unset).toArray = ls at hl ⊢
  have hl : lv_has ls 4 [(0, .ref t0), (1, .int (nI tu))] := hl
  have hsz1 := hsz tu
  refine lv_iconst (v := (-1)) hx hb dX3_highest_0 (by decide) ?_
  refine lv_istore_n (lv' := [(2, .int (-1)), (0, .ref t0), (1, .int (nI tu))]) hx hb dX3_highest_1 rfl hl (by decide) rfl (fun ls hl => ?_)
  refine lv_iconst (v := nI 0) hx hb dX3_highest_2 (by decide) ?_
  refine lv_istore_n (lv' := [(3, .int (nI 0)), (2, .int (-1)), (0, .ref t0), (1, .int (nI tu))]) hx hb dX3_highest_3 rfl hl (by decide) rfl (fun ls hl => ?_)
  have e0 : hiF no (tu * 30) 0 = (-1) := rfl
  refine (?_ : ∀ (n_1 i_2 : Nat), i_2 + n_1 = siz tu → ∀ (H : Heap) (locs : List Loc) (hP : va_P (dC, dI) vwCl [(t0, .inr (5, [.ref t1, .ref t2, .int (nI tcn)])), (t1, .inl (cyI, 4, .inl (fun k => nI (siz k)))), (t2, .inl (cyI, 120, .inl (fun k => nI (no k))))] H) (hS : va_S (fun _ => False) s.heap H locs) (ls : Array Slot) (hl : lv_has ls 4 [(3, .int (nI i_2)), (2, .int (hiF no (tu * 30) i_2)), (0, .ref t0), (1, .int (nI tu))]), W p l e _ s m _ below meth c H locs 0 0 _ (F0 m 4 ls [])) ((siz tu) - 0) 0 (by omega) _ _ (by first | exact hP | (simp only [e0]; exact hP)) hS _ (by first | exact (lv_sub hl [0, 1, 2, 3] rfl) | (simp only [e0]; exact (lv_sub hl [0, 1, 2, 3] rfl)))
  clear hl hP hS
  intro n_1
  induction n_1 with
  | zero =>
    intro i_2 hi_3 H locs hP hS ls hl
    have hsz1 := hsz tu
    have hno1 := hno (tu * 30 + i_2)
    refine lv_iload_n hx hb dX3_highest_4 rfl (lv_at hl 0 rfl) ?_
    refine lv_aload_n hx hb dX3_highest_5 rfl (lv_at hl 2 rfl) ?_
    refine va_get (D := (dC, dI)) (ci := 5) (v := .ref t1) (C := RX3) (T := TX3) (N := 3) hx hb hts inX3_highest_X3 hown hK hP 0 rfl rfl 0 (by decide) (hts _ mX3_highest_fieldLink_RX3_9_PinBarrel_Tunes_size_I) (fun _ h9 => h9) rfl dX3_highest_6 ?_
    refine lv_iload_n hx hb dX3_highest_9 rfl (lv_at hl 3 rfl) ?_
    refine xl_I (f := siz) hx hb hK hP 1 0 rfl rfl (by omega) (by decide) dX3_highest_10 ?_
    refine xc_ge (tgt := 31) hx hb dX3_highest_11 (by decide) (by omega) (by omega) (fun c_6 => ?_) (fun c_6 => by omega)
    refine lv_iload_n hx hb dX3_highest_31 rfl (lv_at hl 1 rfl) ?_
    exact W.iret (v := hiF no (tu * 30) i_2) hx hb hr (fun t ht hW => ⟨⟨hiF no (tu * 30) i_2, (), rfl, (by rw [show i_2 = siz tu from by omega]), trivial⟩, hS.F ht⟩) hS.2.2 dX3_highest_32
  | succ n_1 ih_4 =>
    intro i_2 hi_3 H locs hP hS ls hl
    have hsz1 := hsz tu
    have hno1 := hno (tu * 30 + i_2)
    refine lv_iload_n hx hb dX3_highest_4 rfl (lv_at hl 0 rfl) ?_
    refine lv_aload_n hx hb dX3_highest_5 rfl (lv_at hl 2 rfl) ?_
    refine va_get (D := (dC, dI)) (ci := 5) (v := .ref t1) (C := RX3) (T := TX3) (N := 3) hx hb hts inX3_highest_X3 hown hK hP 0 rfl rfl 0 (by decide) (hts _ mX3_highest_fieldLink_RX3_9_PinBarrel_Tunes_size_I) (fun _ h9 => h9) rfl dX3_highest_6 ?_
    refine lv_iload_n hx hb dX3_highest_9 rfl (lv_at hl 3 rfl) ?_
    refine xl_I (f := siz) hx hb hK hP 1 0 rfl rfl (by omega) (by decide) dX3_highest_10 ?_
    refine xc_ge (tgt := 31) hx hb dX3_highest_11 (by decide) (by omega) (by omega) (fun c_7 => by omega) (fun c_7 => ?_)
    refine lv_iload_n hx hb dX3_highest_14 rfl (lv_at hl 1 rfl) ?_
    refine lv_aload_n hx hb dX3_highest_15 rfl (lv_at hl 2 rfl) ?_
    refine lv_iload_n hx hb dX3_highest_16 rfl (lv_at hl 3 rfl) ?_
    refine lv_iload_n hx hb dX3_highest_17 rfl (lv_at hl 0 rfl) ?_
    refine xv_i (As := [.int (nI tu), .int (nI i_2)]) (rest := [.int (hiF no (tu * 30) i_2)]) (q := (RX3, TX3, 3)) ⟨hx, hb, hml, hown, hts⟩ (kX3_pitchOf l dC dI cyI cyZ cyJ cyD cyB t0 t2 t1 tcn tu i_2 no (by omega) (by omega) hno) (cwV 2 hts gX3_highest_X3_pitchOf rfl rfl rfl (by decide +kernel) ⟨Nat.le_of_ble_eq_true rfl, Nat.le_of_ble_eq_true rfl⟩) hK hP hS [0, 2] rfl 0 5 rfl rfl rfl hl.1 rfl (Nat.le_of_ble_eq_true rfl) dX3_highest_18 ⟨Nat.zero_le _, Nat.zero_le _⟩ (fun r_8 H locs hw hP hS => ?_)
    have hw : r_8 = nI (no (tu * 30 + i_2) % 48) := hw
    subst hw
    refine va_mmax hx hb (hml.trans hl.1.symm) hown (hts _ mX3_highest_methodLink_RX3_25_Lib_Math_max_name) (hts _ mX3_highest_static_Lib_Math_max_name) (hts _ mX3_highest_initialized_java_lang_Math) (hts _ mX3_highest_code_Lib_Math_max_name_Lib_Math_max_code_2_some_int) (Nat.le_of_ble_eq_true rfl) (Nat.le_of_ble_eq_true rfl) (Nat.zero_le _) ( Nat.zero_le _) dX3_highest_21 ?_
    refine lv_istore_n (lv' := [(2, .int (if hiF no (tu * 30) i_2 < (nI (no (tu * 30 + i_2) % 48)) then nI (no (tu * 30 + i_2) % 48) else hiF no (tu * 30) i_2)), (3, .int (nI i_2)), (0, .ref t0), (1, .int (nI tu))]) hx hb dX3_highest_24 rfl hl (by decide) rfl (fun ls hl => ?_)
    refine xi_inc (k := 1) (lv' := [(3, .int (nI (i_2 + 1))), (2, .int (if hiF no (tu * 30) i_2 < (nI (no (tu * 30 + i_2) % 48)) then nI (no (tu * 30 + i_2) % 48) else hiF no (tu * 30) i_2)), (0, .ref t0), (1, .int (nI tu))]) hx hb dX3_highest_25 hl rfl (by decide) rfl (fun ls hl => ?_)
    refine lv_goto (tgt := 4) hx hb dX3_highest_28 (by decide) ?_
    exact ih_4 (i_2 + 1) (by omega)  _ _ hP hS _ (lv_sub hl [0, 1, 2, 3] rfl)

theorem inX3_times_X3 : ∀ w ∈ wsX30, w ∈ wsX3_times := by decide +kernel
theorem mX3_times_fieldLink_RX3_9_PinBarrel_Tunes_size_I : Cond.fieldLink RX3 9 "PinBarrel$Tunes" "size" "[I" ∈ wsX3_times := List.mem_of_getElem? (i := 1) (by decide +kernel)
set_option maxHeartbeats 4000000 in
set_option maxRecDepth 100000 in
/-- how many TIMES -/
theorem kX3_times (l : Launch) (dC : Nat → ClassId) (dI : Nat → Nat → Nat) (cyI cyZ cyJ cyD cyB : ClassId) (t0 t1 t2 : Nat) (siz : Nat → Nat) (no : Nat → Nat) (tcn : Nat) (tu : Nat) (htu : tu < 4) (hno : ∀ k, no k < 3072) (hsz : ∀ k, siz k ≤ 30) : Met l yX3_times wsX3_times ({ frames := 1, cells := 0, slots := 0, locals := 22 }) (va_Pc [.ref t0, .int (nI tu)] (xP (dC, dI) vwCl (xT cyI cyZ cyJ cyD cyB) [(t0, .inr (5, [.ref t1, .ref t2, .int (nI tcn)])), (t1, .inl (cyI, 4, .inl (fun k => nI (siz k)))), (t2, .inl (cyI, 120, .inl (fun k => nI (no k))))])) (va_Qi (fun (r : Int32) (u : Unit) => r = nI (tmF no (tu * 30) (siz tu))) (fun _ _ => True) (fun _ => False)) 0 0 (fun _ => False) := by
  refine Met.ofW (cc := cX3_times) (maxL := 4) (ret := (some .int)) (by decide) rfl ?_
  intro p e s m args below meth c s₁ B hml hv
  obtain ⟨rfl, hP, hK⟩ := hv
  have hx := B.exec
  have hb := B.bytes
  have hr := B.returns
  have hts := atoms_spec (ws := wsX3_times) B.pre
  have hown : s.vm.findClass RX3 = some m.cls := findClass_of_methodNamed B.named
  have hlocks := B.notSynchronized
  have hS : va_S (fun _ => False) s.heap s.heap [] := va_S.rf
  have hP : va_P (dC, dI) vwCl [(t0, .inr (5, [.ref t1, .ref t2, .int (nI tcn)])), (t1, .inl (cyI, 4, .inl (fun k => nI (siz k)))), (t2, .inl (cyI, 120, .inl (fun k => nI (no k))))] s.heap := hP
  have hl := lv_entry ([.ref t0, .int (nI tu)]) (n := 4) (Nat.le_of_ble_eq_true rfl)
  rw [lg_entry_eq]
  generalize (lg_sl ([.ref t0, .int (nI tu)]) ++ List.replicate (4 - (lg_sl ([.ref t0, .int (nI tu)])).length) Slot.unset).toArray = ls at hl ⊢
  have hl : lv_has ls 4 [(0, .ref t0), (1, .int (nI tu))] := hl
  have hsz1 := hsz tu
  refine lv_iconst (v := nI 0) hx hb dX3_times_0 (by decide) ?_
  refine lv_istore_n (lv' := [(2, .int (nI 0)), (0, .ref t0), (1, .int (nI tu))]) hx hb dX3_times_1 rfl hl (by decide) rfl (fun ls hl => ?_)
  refine lv_iconst (v := nI 0) hx hb dX3_times_2 (by decide) ?_
  refine lv_istore_n (lv' := [(3, .int (nI 0)), (2, .int (nI 0)), (0, .ref t0), (1, .int (nI tu))]) hx hb dX3_times_3 rfl hl (by decide) rfl (fun ls hl => ?_)
  have e0 : tmF no (tu * 30) 0 = 0 := rfl
  refine (?_ : ∀ (n_1 i_2 : Nat), i_2 + n_1 = siz tu → ∀ (H : Heap) (locs : List Loc) (hP : va_P (dC, dI) vwCl [(t0, .inr (5, [.ref t1, .ref t2, .int (nI tcn)])), (t1, .inl (cyI, 4, .inl (fun k => nI (siz k)))), (t2, .inl (cyI, 120, .inl (fun k => nI (no k))))] H) (hS : va_S (fun _ => False) s.heap H locs) (ls : Array Slot) (hl : lv_has ls 4 [(3, .int (nI i_2)), (2, .int (nI (tmF no (tu * 30) i_2))), (0, .ref t0), (1, .int (nI tu))]), W p l e _ s m _ below meth c H locs 0 0 _ (F0 m 4 ls [])) ((siz tu) - 0) 0 (by omega) _ _ (by first | exact hP | (simp only [e0]; exact hP)) hS _ (by first | exact (lv_sub hl [0, 1, 2, 3] rfl) | (simp only [e0]; exact (lv_sub hl [0, 1, 2, 3] rfl)))
  clear hl hP hS
  intro n_1
  induction n_1 with
  | zero =>
    intro i_2 hi_3 H locs hP hS ls hl
    have hsz1 := hsz tu
    have hno1 := hno (tu * 30 + i_2)
    have hno2 := hno (tu * 30 + (i_2 - 1))
    have hmo1 := moF_le no (tu * 30) i_2
    refine lv_iload_n hx hb dX3_times_4 rfl (lv_at hl 0 rfl) ?_
    refine lv_aload_n hx hb dX3_times_5 rfl (lv_at hl 2 rfl) ?_
    refine va_get (D := (dC, dI)) (ci := 5) (v := .ref t1) (C := RX3) (T := TX3) (N := 3) hx hb hts inX3_times_X3 hown hK hP 0 rfl rfl 0 (by decide) (hts _ mX3_times_fieldLink_RX3_9_PinBarrel_Tunes_size_I) (fun _ h9 => h9) rfl dX3_times_6 ?_
    refine lv_iload_n hx hb dX3_times_9 rfl (lv_at hl 3 rfl) ?_
    refine xl_I (f := siz) hx hb hK hP 1 0 rfl rfl (by omega) (by decide) dX3_times_10 ?_
    refine xc_ge (tgt := 44) hx hb dX3_times_11 (by decide) (by omega) (by omega) (fun c_6 => ?_) (fun c_6 => by omega)
    refine lv_iload_n hx hb dX3_times_44 rfl (lv_at hl 1 rfl) ?_
    exact W.iret (v := nI (tmF no (tu * 30) i_2)) hx hb hr (fun t ht hW => ⟨⟨nI (tmF no (tu * 30) i_2), (), rfl, (by rw [show i_2 = siz tu from by omega]), trivial⟩, hS.F ht⟩) hS.2.2 dX3_times_45
  | succ n_1 ih_4 =>
    intro i_2 hi_3 H locs hP hS ls hl
    have hsz1 := hsz tu
    have hno1 := hno (tu * 30 + i_2)
    have hno2 := hno (tu * 30 + (i_2 - 1))
    have hmo1 := moF_le no (tu * 30) i_2
    refine lv_iload_n hx hb dX3_times_4 rfl (lv_at hl 0 rfl) ?_
    refine lv_aload_n hx hb dX3_times_5 rfl (lv_at hl 2 rfl) ?_
    refine va_get (D := (dC, dI)) (ci := 5) (v := .ref t1) (C := RX3) (T := TX3) (N := 3) hx hb hts inX3_times_X3 hown hK hP 0 rfl rfl 0 (by decide) (hts _ mX3_times_fieldLink_RX3_9_PinBarrel_Tunes_size_I) (fun _ h9 => h9) rfl dX3_times_6 ?_
    refine lv_iload_n hx hb dX3_times_9 rfl (lv_at hl 3 rfl) ?_
    refine xl_I (f := siz) hx hb hK hP 1 0 rfl rfl (by omega) (by decide) dX3_times_10 ?_
    refine xc_ge (tgt := 44) hx hb dX3_times_11 (by decide) (by omega) (by omega) (fun c_7 => by omega) (fun c_7 => ?_)
    refine lv_iload_n hx hb dX3_times_14 rfl (lv_at hl 0 rfl) ?_
    refine xz_eq (tgt := 35) hx hb dX3_times_15 (by decide) (by omega) (fun c_8 => ?_) (fun c_8 => ?_)
    · refine xi_inc (k := 1) (lv' := [(2, .int (nI ((tmF no (tu * 30) i_2) + 1))), (3, .int (nI i_2)), (0, .ref t0), (1, .int (nI tu))]) hx hb dX3_times_35 hl rfl (by decide) rfl (fun ls hl => ?_)
      refine xi_inc (k := 1) (lv' := [(3, .int (nI (i_2 + 1))), (2, .int (nI ((tmF no (tu * 30) i_2) + 1))), (0, .ref t0), (1, .int (nI tu))]) hx hb dX3_times_38 hl rfl (by decide) rfl (fun ls hl => ?_)
      refine lv_goto (tgt := 4) hx hb dX3_times_41 (by decide) ?_
      have e1 : tmF no (tu * 30) (i_2 + 1) = tmF no (tu * 30) i_2 + 1 := if_pos (by omega)
      exact ih_4 (i_2 + 1) (by omega)  _ _ (by first | exact hP | (simp only [e1]; exact hP) | (simp only [e1] at hP ⊢; exact hP)) hS _ (by first | exact (lv_sub hl [0, 1, 2, 3] rfl) | (simp only [e1]; exact (lv_sub hl [0, 1, 2, 3] rfl)) | (simp only [e1] at hl ⊢; exact (lv_sub hl [0, 1, 2, 3] rfl)))
    · refine lv_aload_n hx hb dX3_times_18 rfl (lv_at hl 2 rfl) ?_
      refine lv_iload_n hx hb dX3_times_19 rfl (lv_at hl 3 rfl) ?_
      refine lv_iload_n hx hb dX3_times_20 rfl (lv_at hl 0 rfl) ?_
      refine xv_i (As := [.int (nI tu), .int (nI i_2)]) (rest := []) (q := (RX3, TX3, 3)) ⟨hx, hb, hml, hown, hts⟩ (kX3_timeOf l dC dI cyI cyZ cyJ cyD cyB t0 t2 t1 tcn tu i_2 no (by omega) (by omega) hno) (cwV 2 hts gX3_times_X3_timeOf rfl rfl rfl (by decide +kernel) ⟨Nat.le_of_ble_eq_true rfl, Nat.le_of_ble_eq_true rfl⟩) hK hP hS [0, 2] rfl 0 5 rfl rfl rfl hl.1 rfl (Nat.le_of_ble_eq_true rfl) dX3_times_21 ⟨Nat.zero_le _, Nat.zero_le _⟩ (fun r_9 H locs hw hP hS => ?_)
      have hw : r_9 = nI (no (tu * 30 + i_2) / 48) := hw
      subst hw
      refine lv_aload_n hx hb dX3_times_24 rfl (lv_at hl 2 rfl) ?_
      refine lv_iload_n hx hb dX3_times_25 rfl (lv_at hl 3 rfl) ?_
      refine lv_iload_n hx hb dX3_times_26 rfl (lv_at hl 0 rfl) ?_
      refine lv_iconst (v := nI 1) hx hb dX3_times_27 (by decide) ?_
      refine xi_sub hx hb dX3_times_28 (by omega) ?_
      refine xv_i (As := [.int (nI tu), .int (nI (i_2 - 1))]) (rest := [.int (nI (no (tu * 30 + i_2) / 48))]) (q := (RX3, TX3, 3)) ⟨hx, hb, hml, hown, hts⟩ (kX3_timeOf l dC dI cyI cyZ cyJ cyD cyB t0 t2 t1 tcn tu (i_2 - 1) no (by omega) (by omega) hno) (cwV 2 hts gX3_times_X3_timeOf rfl rfl rfl (by decide +kernel) ⟨Nat.le_of_ble_eq_true rfl, Nat.le_of_ble_eq_true rfl⟩) hK hP hS [0, 2] rfl 0 5 rfl rfl rfl hl.1 rfl (Nat.le_of_ble_eq_true rfl) dX3_times_29 ⟨Nat.zero_le _, Nat.zero_le _⟩ (fun r_10 H locs hw hP hS => ?_)
      have hw : r_10 = nI (no (tu * 30 + (i_2 - 1)) / 48) := hw
      subst hw
      refine xc_eq (tgt := 38) hx hb dX3_times_32 (by decide) (by omega) (by omega) (fun c_11 => ?_) (fun c_11 => ?_)
      · refine xi_inc (k := 0) (lv' := [(3, .int (nI (i_2 + 1))), (2, .int (nI (tmF no (tu * 30) i_2))), (0, .ref t0), (1, .int (nI tu))]) hx hb dX3_times_38 hl rfl (by decide) rfl (fun ls hl => ?_)
        refine lv_goto (tgt := 4) hx hb dX3_times_41 (by decide) ?_
        have e1 : tmF no (tu * 30) (i_2 + 1) = tmF no (tu * 30) i_2 := if_neg (by omega)
        exact ih_4 (i_2 + 1) (by omega)  _ _ (by first | exact hP | (simp only [e1]; exact hP) | (simp only [e1] at hP ⊢; exact hP)) hS _ (by first | exact (lv_sub hl [0, 1, 2, 3] rfl) | (simp only [e1]; exact (lv_sub hl [0, 1, 2, 3] rfl)) | (simp only [e1] at hl ⊢; exact (lv_sub hl [0, 1, 2, 3] rfl)))
      · refine xi_inc (k := 1) (lv' := [(2, .int (nI ((tmF no (tu * 30) i_2) + 1))), (3, .int (nI i_2)), (0, .ref t0), (1, .int (nI tu))]) hx hb dX3_times_35 hl rfl (by decide) rfl (fun ls hl => ?_)
        refine xi_inc (k := 1) (lv' := [(3, .int (nI (i_2 + 1))), (2, .int (nI ((tmF no (tu * 30) i_2) + 1))), (0, .ref t0), (1, .int (nI tu))]) hx hb dX3_times_38 hl rfl (by decide) rfl (fun ls hl => ?_)
        refine lv_goto (tgt := 4) hx hb dX3_times_41 (by decide) ?_
        have e1 : tmF no (tu * 30) (i_2 + 1) = tmF no (tu * 30) i_2 + 1 := if_pos (by omega)
        exact ih_4 (i_2 + 1) (by omega)  _ _ (by first | exact hP | (simp only [e1]; exact hP) | (simp only [e1] at hP ⊢; exact hP)) hS _ (by first | exact (lv_sub hl [0, 1, 2, 3] rfl) | (simp only [e1]; exact (lv_sub hl [0, 1, 2, 3] rfl)) | (simp only [e1] at hl ⊢; exact (lv_sub hl [0, 1, 2, 3] rfl)))

theorem inX3_mostAtOnce_X3 : ∀ w ∈ wsX30, w ∈ wsX3_mostAtOnce := by decide +kernel
theorem mX3_mostAtOnce_fieldLink_RX3_9_PinBarrel_Tunes_size_I : Cond.fieldLink RX3 9 "PinBarrel$Tunes" "size" "[I" ∈ wsX3_mostAtOnce := List.mem_of_getElem? (i := 1) (by decide +kernel)
theorem mX3_mostAtOnce_methodLink_RX3_25_Lib_Math_max_name : Cond.methodLink RX3 25 Lib.Math.max.name ∈ wsX3_mostAtOnce := List.mem_of_getElem? (i := 2) (by decide +kernel)
theorem mX3_mostAtOnce_static_Lib_Math_max_name : Cond.static Lib.Math.max.name ∈ wsX3_mostAtOnce := List.mem_of_getElem? (i := 3) (by decide +kernel)
theorem mX3_mostAtOnce_initialized_java_lang_Math : Cond.initialized "java/lang/Math" ∈ wsX3_mostAtOnce := List.mem_of_getElem? (i := 4) (by decide +kernel)
theorem mX3_mostAtOnce_code_Lib_Math_max_name_Lib_Math_max_code_2_some_int : Cond.code Lib.Math.max.name Lib.Math.max.code 2 (some .int) ∈ wsX3_mostAtOnce := List.mem_of_getElem? (i := 5) (by decide +kernel)
set_option maxHeartbeats 4000000 in
set_option maxRecDepth 100000 in
/-- the most at once -/
theorem kX3_mostAtOnce (l : Launch) (dC : Nat → ClassId) (dI : Nat → Nat → Nat) (cyI cyZ cyJ cyD cyB : ClassId) (t0 t1 t2 : Nat) (siz : Nat → Nat) (no : Nat → Nat) (tcn : Nat) (tu : Nat) (htu : tu < 4) (hno : ∀ k, no k < 3072) (hsz : ∀ k, siz k ≤ 30) : Met l yX3_mostAtOnce wsX3_mostAtOnce ({ frames := 1, cells := 0, slots := 0, locals := 22 }) (va_Pc [.ref t0, .int (nI tu)] (xP (dC, dI) vwCl (xT cyI cyZ cyJ cyD cyB) [(t0, .inr (5, [.ref t1, .ref t2, .int (nI tcn)])), (t1, .inl (cyI, 4, .inl (fun k => nI (siz k)))), (t2, .inl (cyI, 120, .inl (fun k => nI (no k))))])) (va_Qi (fun (r : Int32) (u : Unit) => r = nI ((moF no (tu * 30) (siz tu)).1)) (fun _ _ => True) (fun _ => False)) 0 0 (fun _ => False) := by
  refine Met.ofW (cc := cX3_mostAtOnce) (maxL := 6) (ret := (some .int)) (by decide) rfl ?_
  intro p e s m args below meth c s₁ B hml hv
  obtain ⟨rfl, hP, hK⟩ := hv
  have hx := B.exec
  have hb := B.bytes
  have hr := B.returns
  have hts := atoms_spec (ws := wsX3_mostAtOnce) B.pre
  have hown : s.vm.findClass RX3 = some m.cls := findClass_of_methodNamed B.named
  have hlocks := B.notSynchronized
  have hS : va_S (fun _ => False) s.heap s.heap [] := va_S.rf
  have hP : va_P (dC, dI) vwCl [(t0, .inr (5, [.ref t1, .ref t2, .int (nI tcn)])), (t1, .inl (cyI, 4, .inl (fun k => nI (siz k)))), (t2, .inl (cyI, 120, .inl (fun k => nI (no k))))] s.heap := hP
  have hl := lv_entry ([.ref t0, .int (nI tu)]) (n := 6) (Nat.le_of_ble_eq_true rfl)
  rw [lg_entry_eq]
  generalize (lg_sl ([.ref t0, .int (nI tu)]) ++ List.replicate (6 - (lg_sl ([.ref t0, .int (nI tu)])).length) Slot.unset).toArray = ls at hl ⊢
  have hl : lv_has ls 6 [(0, .ref t0), (1, .int (nI tu))] := hl
  have hsz1 := hsz tu
  refine lv_iconst (v := nI 0) hx hb dX3_mostAtOnce_0 (by decide) ?_
  refine lv_istore_n (lv' := [(2, .int (nI 0)), (0, .ref t0), (1, .int (nI tu))]) hx hb dX3_mostAtOnce_1 rfl hl (by decide) rfl (fun ls hl => ?_)
  refine lv_iconst (v := nI 0) hx hb dX3_mostAtOnce_2 (by decide) ?_
  refine lv_istore_n (lv' := [(3, .int (nI 0)), (2, .int (nI 0)), (0, .ref t0), (1, .int (nI tu))]) hx hb dX3_mostAtOnce_3 rfl hl (by decide) rfl (fun ls hl => ?_)
  refine lv_iconst (v := nI 0) hx hb dX3_mostAtOnce_4 (by decide) ?_
  refine lv_istore (lv' := [(4, .int (nI 0)), (3, .int (nI 0)), (2, .int (nI 0)), (0, .ref t0), (1, .int (nI tu))]) hx hb dX3_mostAtOnce_5 hl (by decide) rfl (fun ls hl => ?_)
  have e0 : moF no (tu * 30) 0 = (0, 0) := rfl
  refine (?_ : ∀ (n_1 i_2 : Nat), i_2 + n_1 = siz tu → ∀ (H : Heap) (locs : List Loc) (hP : va_P (dC, dI) vwCl [(t0, .inr (5, [.ref t1, .ref t2, .int (nI tcn)])), (t1, .inl (cyI, 4, .inl (fun k => nI (siz k)))), (t2, .inl (cyI, 120, .inl (fun k => nI (no k))))] H) (hS : va_S (fun _ => False) s.heap H locs) (ls : Array Slot) (hl : lv_has ls 6 [(4, .int (nI i_2)), (3, .int (nI ((moF no (tu * 30) i_2).2))), (2, .int (nI ((moF no (tu * 30) i_2).1))), (0, .ref t0), (1, .int (nI tu))]), W p l e _ s m _ below meth c H locs 0 0 _ (F0 m 7 ls [])) ((siz tu) - 0) 0 (by omega) _ _ (by first | exact hP | (simp only [e0]; exact hP)) hS _ (by first | exact (lv_sub hl [0, 1, 2, 3, 4] rfl) | (simp only [e0]; exact (lv_sub hl [0, 1, 2, 3, 4] rfl)))
  clear hl hP hS
  intro n_1
  induction n_1 with
  | zero =>
    intro i_2 hi_3 H locs hP hS ls hl
    have hsz1 := hsz tu
    have hno1 := hno (tu * 30 + i_2)
    have hno2 := hno (tu * 30 + (i_2 - 1))
    have hmo1 := moF_le no (tu * 30) i_2
    refine lv_iload hx hb dX3_mostAtOnce_7 (lv_at hl 0 rfl) ?_
    refine lv_aload_n hx hb dX3_mostAtOnce_9 rfl (lv_at hl 3 rfl) ?_
    refine va_get (D := (dC, dI)) (ci := 5) (v := .ref t1) (C := RX3) (T := TX3) (N := 3) hx hb hts inX3_mostAtOnce_X3 hown hK hP 0 rfl rfl 0 (by decide) (hts _ mX3_mostAtOnce_fieldLink_RX3_9_PinBarrel_Tunes_size_I) (fun _ h9 => h9) rfl dX3_mostAtOnce_10 ?_
    refine lv_iload_n hx hb dX3_mostAtOnce_13 rfl (lv_at hl 4 rfl) ?_
    refine xl_I (f := siz) hx hb hK hP 1 0 rfl rfl (by omega) (by decide) dX3_mostAtOnce_14 ?_
    refine xc_ge (tgt := 74) hx hb dX3_mostAtOnce_15 (by decide) (by omega) (by omega) (fun c_6 => ?_) (fun c_6 => by omega)
    refine lv_iload_n hx hb dX3_mostAtOnce_74 rfl (lv_at hl 2 rfl) ?_
    exact W.iret (v := nI ((moF no (tu * 30) i_2).1)) hx hb hr (fun t ht hW => ⟨⟨nI ((moF no (tu * 30) i_2).1), (), rfl, (by rw [show i_2 = siz tu from by omega]), trivial⟩, hS.F ht⟩) hS.2.2 dX3_mostAtOnce_75
  | succ n_1 ih_4 =>
    intro i_2 hi_3 H locs hP hS ls hl
    have hsz1 := hsz tu
    have hno1 := hno (tu * 30 + i_2)
    have hno2 := hno (tu * 30 + (i_2 - 1))
    have hmo1 := moF_le no (tu * 30) i_2
    refine lv_iload hx hb dX3_mostAtOnce_7 (lv_at hl 0 rfl) ?_
    refine lv_aload_n hx hb dX3_mostAtOnce_9 rfl (lv_at hl 3 rfl) ?_
    refine va_get (D := (dC, dI)) (ci := 5) (v := .ref t1) (C := RX3) (T := TX3) (N := 3) hx hb hts inX3_mostAtOnce_X3 hown hK hP 0 rfl rfl 0 (by decide) (hts _ mX3_mostAtOnce_fieldLink_RX3_9_PinBarrel_Tunes_size_I) (fun _ h9 => h9) rfl dX3_mostAtOnce_10 ?_
    refine lv_iload_n hx hb dX3_mostAtOnce_13 rfl (lv_at hl 4 rfl) ?_
    refine xl_I (f := siz) hx hb hK hP 1 0 rfl rfl (by omega) (by decide) dX3_mostAtOnce_14 ?_
    refine xc_ge (tgt := 74) hx hb dX3_mostAtOnce_15 (by decide) (by omega) (by omega) (fun c_7 => by omega) (fun c_7 => ?_)
    refine lv_iload hx hb dX3_mostAtOnce_18 (lv_at hl 0 rfl) ?_
    refine xz_eq (tgt := 42) hx hb dX3_mostAtOnce_20 (by decide) (by omega) (fun c_8 => ?_) (fun c_8 => ?_)
    · refine lv_iconst (v := nI 1) hx hb dX3_mostAtOnce_42 (by decide) ?_
      refine lv_goto (tgt := 47) hx hb dX3_mostAtOnce_43 (by decide) ?_
      refine lv_istore (lv' := [(5, .int (nI 1)), (4, .int (nI i_2)), (3, .int (nI ((moF no (tu * 30) i_2).2))), (2, .int (nI ((moF no (tu * 30) i_2).1))), (0, .ref t0), (1, .int (nI tu))]) hx hb dX3_mostAtOnce_47 hl (by decide) rfl (fun ls hl => ?_)
      refine lv_iload hx hb dX3_mostAtOnce_49 (lv_at hl 0 rfl) ?_
      refine xz_eq (tgt := 58) hx hb dX3_mostAtOnce_51 (by decide) (by omega) (fun c_9 => by omega) (fun c_9 => ?_)
      refine lv_iconst (v := nI 1) hx hb dX3_mostAtOnce_54 (by decide) ?_
      refine lv_goto (tgt := 61) hx hb dX3_mostAtOnce_55 (by decide) ?_
      refine lv_istore_n (lv' := [(3, .int (nI 1)), (5, .int (nI 1)), (4, .int (nI i_2)), (2, .int (nI ((moF no (tu * 30) i_2).1))), (0, .ref t0), (1, .int (nI tu))]) hx hb dX3_mostAtOnce_61 rfl hl (by decide) rfl (fun ls hl => ?_)
      refine lv_iload_n hx hb dX3_mostAtOnce_62 rfl (lv_at hl 3 rfl) ?_
      refine lv_iload_n hx hb dX3_mostAtOnce_63 rfl (lv_at hl 0 rfl) ?_
      refine va_mmax hx hb (hml.trans hl.1.symm) hown (hts _ mX3_mostAtOnce_methodLink_RX3_25_Lib_Math_max_name) (hts _ mX3_mostAtOnce_static_Lib_Math_max_name) (hts _ mX3_mostAtOnce_initialized_java_lang_Math) (hts _ mX3_mostAtOnce_code_Lib_Math_max_name_Lib_Math_max_code_2_some_int) (Nat.le_of_ble_eq_true rfl) (Nat.le_of_ble_eq_true rfl) (Nat.zero_le _) ( Nat.zero_le _) dX3_mostAtOnce_64 ?_
      rw [xk_max (x := ((moF no (tu * 30) i_2).1)) (y := 1) (by omega) (by omega)]
      refine lv_istore_n (lv' := [(2, .int (nI (max ((moF no (tu * 30) i_2).1) 1))), (3, .int (nI 1)), (5, .int (nI 1)), (4, .int (nI i_2)), (0, .ref t0), (1, .int (nI tu))]) hx hb dX3_mostAtOnce_67 rfl hl (by decide) rfl (fun ls hl => ?_)
      refine xi_inc (k := 3) (lv' := [(4, .int (nI (i_2 + 1))), (2, .int (nI (max ((moF no (tu * 30) i_2).1) 1))), (3, .int (nI 1)), (5, .int (nI 1)), (0, .ref t0), (1, .int (nI tu))]) hx hb dX3_mostAtOnce_68 hl rfl (by decide) rfl (fun ls hl => ?_)
      refine lv_goto (tgt := 7) hx hb dX3_mostAtOnce_71 (by decide) ?_
      have e1 : moF no (tu * 30) (i_2 + 1) = (max (moF no (tu * 30) i_2).1 1, 1) := if_pos (by omega)
      exact ih_4 (i_2 + 1) (by omega)  _ _ (by first | exact hP | (simp only [e1]; exact hP) | (simp only [e1] at hP ⊢; exact hP)) hS _ (by first | exact (lv_sub hl [0, 2, 1, 4, 5] rfl) | (simp only [e1]; exact (lv_sub hl [0, 2, 1, 4, 5] rfl)) | (simp only [e1] at hl ⊢; exact (lv_sub hl [0, 2, 1, 4, 5] rfl)))
    · refine lv_aload_n hx hb dX3_mostAtOnce_23 rfl (lv_at hl 3 rfl) ?_
      refine lv_iload_n hx hb dX3_mostAtOnce_24 rfl (lv_at hl 4 rfl) ?_
      refine lv_iload hx hb dX3_mostAtOnce_25 (lv_at hl 0 rfl) ?_
      refine xv_i (As := [.int (nI tu), .int (nI i_2)]) (rest := []) (q := (RX3, TX3, 3)) ⟨hx, hb, hml, hown, hts⟩ (kX3_timeOf l dC dI cyI cyZ cyJ cyD cyB t0 t2 t1 tcn tu i_2 no (by omega) (by omega) hno) (cwV 2 hts gX3_mostAtOnce_X3_timeOf rfl rfl rfl (by decide +kernel) ⟨Nat.le_of_ble_eq_true rfl, Nat.le_of_ble_eq_true rfl⟩) hK hP hS [0, 2] rfl 0 5 rfl rfl rfl hl.1 rfl (Nat.le_of_ble_eq_true rfl) dX3_mostAtOnce_27 ⟨Nat.zero_le _, Nat.zero_le _⟩ (fun r_10 H locs hw hP hS => ?_)
      have hw : r_10 = nI (no (tu * 30 + i_2) / 48) := hw
      subst hw
      refine lv_aload_n hx hb dX3_mostAtOnce_30 rfl (lv_at hl 3 rfl) ?_
      refine lv_iload_n hx hb dX3_mostAtOnce_31 rfl (lv_at hl 4 rfl) ?_
      refine lv_iload hx hb dX3_mostAtOnce_32 (lv_at hl 0 rfl) ?_
      refine lv_iconst (v := nI 1) hx hb dX3_mostAtOnce_34 (by decide) ?_
      refine xi_sub hx hb dX3_mostAtOnce_35 (by omega) ?_
      refine xv_i (As := [.int (nI tu), .int (nI (i_2 - 1))]) (rest := [.int (nI (no (tu * 30 + i_2) / 48))]) (q := (RX3, TX3, 3)) ⟨hx, hb, hml, hown, hts⟩ (kX3_timeOf l dC dI cyI cyZ cyJ cyD cyB t0 t2 t1 tcn tu (i_2 - 1) no (by omega) (by omega) hno) (cwV 2 hts gX3_mostAtOnce_X3_timeOf rfl rfl rfl (by decide +kernel) ⟨Nat.le_of_ble_eq_true rfl, Nat.le_of_ble_eq_true rfl⟩) hK hP hS [0, 2] rfl 0 5 rfl rfl rfl hl.1 rfl (Nat.le_of_ble_eq_true rfl) dX3_mostAtOnce_36 ⟨Nat.zero_le _, Nat.zero_le _⟩ (fun r_11 H locs hw hP hS => ?_)
      have hw : r_11 = nI (no (tu * 30 + (i_2 - 1)) / 48) := hw
      subst hw
      refine xc_eq (tgt := 46) hx hb dX3_mostAtOnce_39 (by decide) (by omega) (by omega) (fun c_12 => ?_) (fun c_12 => ?_)
      · refine lv_iconst (v := nI 0) hx hb dX3_mostAtOnce_46 (by decide) ?_
        refine lv_istore (lv' := [(5, .int (nI 0)), (4, .int (nI i_2)), (3, .int (nI ((moF no (tu * 30) i_2).2))), (2, .int (nI ((moF no (tu * 30) i_2).1))), (0, .ref t0), (1, .int (nI tu))]) hx hb dX3_mostAtOnce_47 hl (by decide) rfl (fun ls hl => ?_)
        refine lv_iload hx hb dX3_mostAtOnce_49 (lv_at hl 0 rfl) ?_
        refine xz_eq (tgt := 58) hx hb dX3_mostAtOnce_51 (by decide) (by omega) (fun c_13 => ?_) (fun c_13 => by omega)
        refine lv_iload_n hx hb dX3_mostAtOnce_58 rfl (lv_at hl 2 rfl) ?_
        refine lv_iconst (v := nI 1) hx hb dX3_mostAtOnce_59 (by decide) ?_
        refine xi_add hx hb dX3_mostAtOnce_60 ?_
        refine lv_istore_n (lv' := [(3, .int (nI (((moF no (tu * 30) i_2).2) + 1))), (5, .int (nI 0)), (4, .int (nI i_2)), (2, .int (nI ((moF no (tu * 30) i_2).1))), (0, .ref t0), (1, .int (nI tu))]) hx hb dX3_mostAtOnce_61 rfl hl (by decide) rfl (fun ls hl => ?_)
        refine lv_iload_n hx hb dX3_mostAtOnce_62 rfl (lv_at hl 3 rfl) ?_
        refine lv_iload_n hx hb dX3_mostAtOnce_63 rfl (lv_at hl 0 rfl) ?_
        refine va_mmax hx hb (hml.trans hl.1.symm) hown (hts _ mX3_mostAtOnce_methodLink_RX3_25_Lib_Math_max_name) (hts _ mX3_mostAtOnce_static_Lib_Math_max_name) (hts _ mX3_mostAtOnce_initialized_java_lang_Math) (hts _ mX3_mostAtOnce_code_Lib_Math_max_name_Lib_Math_max_code_2_some_int) (Nat.le_of_ble_eq_true rfl) (Nat.le_of_ble_eq_true rfl) (Nat.zero_le _) ( Nat.zero_le _) dX3_mostAtOnce_64 ?_
        rw [xk_max (x := ((moF no (tu * 30) i_2).1)) (y := (((moF no (tu * 30) i_2).2) + 1)) (by omega) (by omega)]
        refine lv_istore_n (lv' := [(2, .int (nI (max ((moF no (tu * 30) i_2).1) (((moF no (tu * 30) i_2).2) + 1)))), (3, .int (nI (((moF no (tu * 30) i_2).2) + 1))), (5, .int (nI 0)), (4, .int (nI i_2)), (0, .ref t0), (1, .int (nI tu))]) hx hb dX3_mostAtOnce_67 rfl hl (by decide) rfl (fun ls hl => ?_)
        refine xi_inc (k := 3) (lv' := [(4, .int (nI (i_2 + 1))), (2, .int (nI (max ((moF no (tu * 30) i_2).1) (((moF no (tu * 30) i_2).2) + 1)))), (3, .int (nI (((moF no (tu * 30) i_2).2) + 1))), (5, .int (nI 0)), (0, .ref t0), (1, .int (nI tu))]) hx hb dX3_mostAtOnce_68 hl rfl (by decide) rfl (fun ls hl => ?_)
        refine lv_goto (tgt := 7) hx hb dX3_mostAtOnce_71 (by decide) ?_
        have e1 : moF no (tu * 30) (i_2 + 1) = (max (moF no (tu * 30) i_2).1 ((moF no (tu * 30) i_2).2 + 1), (moF no (tu * 30) i_2).2 + 1) := if_neg (by omega)
        exact ih_4 (i_2 + 1) (by omega)  _ _ (by first | exact hP | (simp only [e1]; exact hP) | (simp only [e1] at hP ⊢; exact hP)) hS _ (by first | exact (lv_sub hl [0, 2, 1, 4, 5] rfl) | (simp only [e1]; exact (lv_sub hl [0, 2, 1, 4, 5] rfl)) | (simp only [e1] at hl ⊢; exact (lv_sub hl [0, 2, 1, 4, 5] rfl)))
      · refine lv_iconst (v := nI 1) hx hb dX3_mostAtOnce_42 (by decide) ?_
        refine lv_goto (tgt := 47) hx hb dX3_mostAtOnce_43 (by decide) ?_
        refine lv_istore (lv' := [(5, .int (nI 1)), (4, .int (nI i_2)), (3, .int (nI ((moF no (tu * 30) i_2).2))), (2, .int (nI ((moF no (tu * 30) i_2).1))), (0, .ref t0), (1, .int (nI tu))]) hx hb dX3_mostAtOnce_47 hl (by decide) rfl (fun ls hl => ?_)
        refine lv_iload hx hb dX3_mostAtOnce_49 (lv_at hl 0 rfl) ?_
        refine xz_eq (tgt := 58) hx hb dX3_mostAtOnce_51 (by decide) (by omega) (fun c_14 => by omega) (fun c_14 => ?_)
        refine lv_iconst (v := nI 1) hx hb dX3_mostAtOnce_54 (by decide) ?_
        refine lv_goto (tgt := 61) hx hb dX3_mostAtOnce_55 (by decide) ?_
        refine lv_istore_n (lv' := [(3, .int (nI 1)), (5, .int (nI 1)), (4, .int (nI i_2)), (2, .int (nI ((moF no (tu * 30) i_2).1))), (0, .ref t0), (1, .int (nI tu))]) hx hb dX3_mostAtOnce_61 rfl hl (by decide) rfl (fun ls hl => ?_)
        refine lv_iload_n hx hb dX3_mostAtOnce_62 rfl (lv_at hl 3 rfl) ?_
        refine lv_iload_n hx hb dX3_mostAtOnce_63 rfl (lv_at hl 0 rfl) ?_
        refine va_mmax hx hb (hml.trans hl.1.symm) hown (hts _ mX3_mostAtOnce_methodLink_RX3_25_Lib_Math_max_name) (hts _ mX3_mostAtOnce_static_Lib_Math_max_name) (hts _ mX3_mostAtOnce_initialized_java_lang_Math) (hts _ mX3_mostAtOnce_code_Lib_Math_max_name_Lib_Math_max_code_2_some_int) (Nat.le_of_ble_eq_true rfl) (Nat.le_of_ble_eq_true rfl) (Nat.zero_le _) ( Nat.zero_le _) dX3_mostAtOnce_64 ?_
        rw [xk_max (x := ((moF no (tu * 30) i_2).1)) (y := 1) (by omega) (by omega)]
        refine lv_istore_n (lv' := [(2, .int (nI (max ((moF no (tu * 30) i_2).1) 1))), (3, .int (nI 1)), (5, .int (nI 1)), (4, .int (nI i_2)), (0, .ref t0), (1, .int (nI tu))]) hx hb dX3_mostAtOnce_67 rfl hl (by decide) rfl (fun ls hl => ?_)
        refine xi_inc (k := 3) (lv' := [(4, .int (nI (i_2 + 1))), (2, .int (nI (max ((moF no (tu * 30) i_2).1) 1))), (3, .int (nI 1)), (5, .int (nI 1)), (0, .ref t0), (1, .int (nI tu))]) hx hb dX3_mostAtOnce_68 hl rfl (by decide) rfl (fun ls hl => ?_)
        refine lv_goto (tgt := 7) hx hb dX3_mostAtOnce_71 (by decide) ?_
        have e1 : moF no (tu * 30) (i_2 + 1) = (max (moF no (tu * 30) i_2).1 1, 1) := if_pos (by omega)
        exact ih_4 (i_2 + 1) (by omega)  _ _ (by first | exact hP | (simp only [e1]; exact hP) | (simp only [e1] at hP ⊢; exact hP)) hS _ (by first | exact (lv_sub hl [0, 2, 1, 4, 5] rfl) | (simp only [e1]; exact (lv_sub hl [0, 2, 1, 4, 5] rfl)) | (simp only [e1] at hl ⊢; exact (lv_sub hl [0, 2, 1, 4, 5] rfl)))

theorem inX3_shared_X3 : ∀ w ∈ wsX30, w ∈ wsX3_shared := by decide +kernel
theorem mX3_shared_fieldLink_RX3_9_PinBarrel_Tunes_size_I : Cond.fieldLink RX3 9 "PinBarrel$Tunes" "size" "[I" ∈ wsX3_shared := List.mem_of_getElem? (i := 1) (by decide +kernel)
set_option maxHeartbeats 4000000 in
set_option maxRecDepth 100000 in
/-- NOTES of both -/
theorem kX3_shared (l : Launch) (dC : Nat → ClassId) (dI : Nat → Nat → Nat) (cyI cyZ cyJ cyD cyB : ClassId) (t0 t1 t2 : Nat) (siz : Nat → Nat) (no : Nat → Nat) (tcn : Nat) (on : Nat) (ot : Nat) (hi : Int32) (hon : on < 4) (hot : ot < 4) (hno : ∀ k, no k < 3072) (hsz : ∀ k, siz k ≤ 30) : Met l yX3_shared wsX3_shared ({ frames := 2, cells := 0, slots := 0, locals := 48 }) (va_Pc [.ref t0, .int (nI on), .int (nI ot), .int hi] (xP (dC, dI) vwCl (xT cyI cyZ cyJ cyD cyB) [(t0, .inr (5, [.ref t1, .ref t2, .int (nI tcn)])), (t1, .inl (cyI, 4, .inl (fun k => nI (siz k)))), (t2, .inl (cyI, 120, .inl (fun k => nI (no k))))])) (va_Qi (fun (r : Int32) (u : Unit) => r = nI (sdF no (on * 30) (ot * 30) (siz ot) hi (siz on))) (fun _ _ => True) (fun _ => False)) 0 0 (fun _ => False) := by
  refine Met.ofW (cc := cX3_shared) (maxL := 7) (ret := (some .int)) (by decide) rfl ?_
  intro p e s m args below meth c s₁ B hml hv
  obtain ⟨rfl, hP, hK⟩ := hv
  have hx := B.exec
  have hb := B.bytes
  have hr := B.returns
  have hts := atoms_spec (ws := wsX3_shared) B.pre
  have hown : s.vm.findClass RX3 = some m.cls := findClass_of_methodNamed B.named
  have hlocks := B.notSynchronized
  have hS : va_S (fun _ => False) s.heap s.heap [] := va_S.rf
  have hP : va_P (dC, dI) vwCl [(t0, .inr (5, [.ref t1, .ref t2, .int (nI tcn)])), (t1, .inl (cyI, 4, .inl (fun k => nI (siz k)))), (t2, .inl (cyI, 120, .inl (fun k => nI (no k))))] s.heap := hP
  have hl := lv_entry ([.ref t0, .int (nI on), .int (nI ot), .int hi]) (n := 7) (Nat.le_of_ble_eq_true rfl)
  rw [lg_entry_eq]
  generalize (lg_sl ([.ref t0, .int (nI on), .int (nI ot), .int hi]) ++ List.replicate (7 - (lg_sl ([.ref t0, .int (nI on), .int (nI ot), .int hi])).length) Slot.unset).toArray = ls at hl ⊢
  have hl : lv_has ls 7 [(0, .ref t0), (1, .int (nI on)), (2, .int (nI ot)), (3, .int hi)] := hl
  have hsz1 := hsz on
  refine lv_iconst (v := nI 0) hx hb dX3_shared_0 (by decide) ?_
  refine lv_istore (lv' := [(4, .int (nI 0)), (0, .ref t0), (1, .int (nI on)), (2, .int (nI ot)), (3, .int hi)]) hx hb dX3_shared_1 hl (by decide) rfl (fun ls hl => ?_)
  refine lv_iconst (v := nI 0) hx hb dX3_shared_3 (by decide) ?_
  refine lv_istore (lv' := [(5, .int (nI 0)), (4, .int (nI 0)), (0, .ref t0), (1, .int (nI on)), (2, .int (nI ot)), (3, .int hi)]) hx hb dX3_shared_4 hl (by decide) rfl (fun ls hl => ?_)
  have e0 : sdF no (on * 30) (ot * 30) (siz ot) hi 0 = 0 := rfl
  refine (?_ : ∀ (n_1 i_2 : Nat), i_2 + n_1 = siz on → ∀ (H : Heap) (locs : List Loc) (hP : va_P (dC, dI) vwCl [(t0, .inr (5, [.ref t1, .ref t2, .int (nI tcn)])), (t1, .inl (cyI, 4, .inl (fun k => nI (siz k)))), (t2, .inl (cyI, 120, .inl (fun k => nI (no k))))] H) (hS : va_S (fun _ => False) s.heap H locs) (ls : Array Slot) (hl : lv_has ls 7 [(5, .int (nI i_2)), (4, .int (nI (sdF no (on * 30) (ot * 30) (siz ot) hi i_2))), (0, .ref t0), (1, .int (nI on)), (2, .int (nI ot)), (3, .int hi)]), W p l e _ s m _ below meth c H locs 0 0 _ (F0 m 6 ls [])) ((siz on) - 0) 0 (by omega) _ _ (by first | exact hP | (simp only [e0]; exact hP)) hS _ (by first | exact (lv_sub hl [0, 1, 2, 3, 4, 5] rfl) | (simp only [e0]; exact (lv_sub hl [0, 1, 2, 3, 4, 5] rfl)))
  clear hl hP hS
  intro n_1
  induction n_1 with
  | zero =>
    intro i_2 hi_3 H locs hP hS ls hl
    have hsz1 := hsz on
    have hno1 := hno (on * 30 + i_2)
    refine lv_iload hx hb dX3_shared_6 (lv_at hl 0 rfl) ?_
    refine lv_aload_n hx hb dX3_shared_8 rfl (lv_at hl 2 rfl) ?_
    refine va_get (D := (dC, dI)) (ci := 5) (v := .ref t1) (C := RX3) (T := TX3) (N := 3) hx hb hts inX3_shared_X3 hown hK hP 0 rfl rfl 0 (by decide) (hts _ mX3_shared_fieldLink_RX3_9_PinBarrel_Tunes_size_I) (fun _ h9 => h9) rfl dX3_shared_9 ?_
    refine lv_iload_n hx hb dX3_shared_12 rfl (lv_at hl 3 rfl) ?_
    refine xl_I (f := siz) hx hb hK hP 1 0 rfl rfl (by omega) (by decide) dX3_shared_13 ?_
    refine xc_ge (tgt := 66) hx hb dX3_shared_14 (by decide) (by omega) (by omega) (fun c_6 => ?_) (fun c_6 => by omega)
    refine lv_iload hx hb dX3_shared_66 (lv_at hl 1 rfl) ?_
    exact W.iret (v := nI (sdF no (on * 30) (ot * 30) (siz ot) hi i_2)) hx hb hr (fun t ht hW => ⟨⟨nI (sdF no (on * 30) (ot * 30) (siz ot) hi i_2), (), rfl, (by rw [show i_2 = siz on from by omega]), trivial⟩, hS.F ht⟩) hS.2.2 dX3_shared_68
  | succ n_1 ih_4 =>
    intro i_2 hi_3 H locs hP hS ls hl
    have hsz1 := hsz on
    have hno1 := hno (on * 30 + i_2)
    refine lv_iload hx hb dX3_shared_6 (lv_at hl 0 rfl) ?_
    refine lv_aload_n hx hb dX3_shared_8 rfl (lv_at hl 2 rfl) ?_
    refine va_get (D := (dC, dI)) (ci := 5) (v := .ref t1) (C := RX3) (T := TX3) (N := 3) hx hb hts inX3_shared_X3 hown hK hP 0 rfl rfl 0 (by decide) (hts _ mX3_shared_fieldLink_RX3_9_PinBarrel_Tunes_size_I) (fun _ h9 => h9) rfl dX3_shared_9 ?_
    refine lv_iload_n hx hb dX3_shared_12 rfl (lv_at hl 3 rfl) ?_
    refine xl_I (f := siz) hx hb hK hP 1 0 rfl rfl (by omega) (by decide) dX3_shared_13 ?_
    refine xc_ge (tgt := 66) hx hb dX3_shared_14 (by decide) (by omega) (by omega) (fun c_7 => by omega) (fun c_7 => ?_)
    refine lv_aload_n hx hb dX3_shared_17 rfl (lv_at hl 2 rfl) ?_
    refine lv_iload_n hx hb dX3_shared_18 rfl (lv_at hl 3 rfl) ?_
    refine lv_iload hx hb dX3_shared_19 (lv_at hl 0 rfl) ?_
    refine xv_i (As := [.int (nI on), .int (nI i_2)]) (rest := []) (q := (RX3, TX3, 3)) ⟨hx, hb, hml, hown, hts⟩ (kX3_pitchOf l dC dI cyI cyZ cyJ cyD cyB t0 t2 t1 tcn on i_2 no (by omega) (by omega) hno) (cwV 2 hts gX3_shared_X3_pitchOf rfl rfl rfl (by decide +kernel) ⟨Nat.le_of_ble_eq_true rfl, Nat.le_of_ble_eq_true rfl⟩) hK hP hS [0, 2] rfl 0 5 rfl rfl rfl hl.1 rfl (Nat.le_of_ble_eq_true rfl) dX3_shared_21 ⟨Nat.zero_le _, Nat.zero_le _⟩ (fun r_8 H locs hw hP hS => ?_)
    have hw : r_8 = nI (no (on * 30 + i_2) % 48) := hw
    subst hw
    refine lv_iload_n hx hb dX3_shared_24 rfl (lv_at hl 5 rfl) ?_
    refine lv_isub hx hb dX3_shared_25 ?_
    refine lv_istore (lv' := [(6, .int ((nI (no (on * 30 + i_2) % 48)) - hi)), (5, .int (nI i_2)), (4, .int (nI (sdF no (on * 30) (ot * 30) (siz ot) hi i_2))), (0, .ref t0), (1, .int (nI on)), (2, .int (nI ot)), (3, .int hi)]) hx hb dX3_shared_26 hl (by decide) rfl (fun ls hl => ?_)
    refine lv_iload hx hb dX3_shared_28 (lv_at hl 0 rfl) ?_
    refine lv_if_lt (tgt := 60) hx hb dX3_shared_30 (by decide) (fun c_9 => ?_) (fun c_9 => ?_)
    · refine xi_inc (k := 1) (lv' := [(5, .int (nI (i_2 + 1))), (6, .int ((nI (no (on * 30 + i_2) % 48)) - hi)), (4, .int (nI (sdF no (on * 30) (ot * 30) (siz ot) hi i_2))), (0, .ref t0), (1, .int (nI on)), (2, .int (nI ot)), (3, .int hi)]) hx hb dX3_shared_60 hl rfl (by decide) rfl (fun ls hl => ?_)
      refine lv_goto (tgt := 6) hx hb dX3_shared_63 (by decide) ?_
      have e1 : sdF no (on * 30) (ot * 30) (siz ot) hi (i_2 + 1) = sdF no (on * 30) (ot * 30) (siz ot) hi i_2 := if_neg (fun hq => by first | exact hq.1 c_9 | exact hq.2.1 c_9 | (have h9 := hq.2.2; rw [hj2, nI_clamp (by omega)] at h9; exact absurd (h9.symm.trans c_9) (by decide)))
      exact ih_4 (i_2 + 1) (by omega)  _ _ (by first | exact hP | (simp only [e1]; exact hP) | (simp only [e1] at hP ⊢; exact hP)) hS _ (by first | exact (lv_sub hl [0, 2, 3, 4, 5, 6] rfl) | (simp only [e1]; exact (lv_sub hl [0, 2, 3, 4, 5, 6] rfl)) | (simp only [e1] at hl ⊢; exact (lv_sub hl [0, 2, 3, 4, 5, 6] rfl)))
    · refine lv_iload hx hb dX3_shared_33 (lv_at hl 0 rfl) ?_
      refine lv_bipush (v := nI 48) hx hb dX3_shared_35 (by decide) ?_
      refine lv_icmp_ge (tgt := 60) hx hb dX3_shared_37 (by decide) (fun c_10 => ?_) (fun c_10 => ?_)
      · refine xi_inc (k := 1) (lv' := [(5, .int (nI (i_2 + 1))), (6, .int ((nI (no (on * 30 + i_2) % 48)) - hi)), (4, .int (nI (sdF no (on * 30) (ot * 30) (siz ot) hi i_2))), (0, .ref t0), (1, .int (nI on)), (2, .int (nI ot)), (3, .int hi)]) hx hb dX3_shared_60 hl rfl (by decide) rfl (fun ls hl => ?_)
        refine lv_goto (tgt := 6) hx hb dX3_shared_63 (by decide) ?_
        have e1 : sdF no (on * 30) (ot * 30) (siz ot) hi (i_2 + 1) = sdF no (on * 30) (ot * 30) (siz ot) hi i_2 := if_neg (fun hq => by first | exact hq.1 c_10 | exact hq.2.1 c_10 | (have h9 := hq.2.2; rw [hj2, nI_clamp (by omega)] at h9; exact absurd (h9.symm.trans c_10) (by decide)))
        exact ih_4 (i_2 + 1) (by omega)  _ _ (by first | exact hP | (simp only [e1]; exact hP) | (simp only [e1] at hP ⊢; exact hP)) hS _ (by first | exact (lv_sub hl [0, 2, 3, 4, 5, 6] rfl) | (simp only [e1]; exact (lv_sub hl [0, 2, 3, 4, 5, 6] rfl)) | (simp only [e1] at hl ⊢; exact (lv_sub hl [0, 2, 3, 4, 5, 6] rfl)))
      · obtain ⟨j, hj, hj2⟩ := xk_rng c_9 c_10
        rw [hj2] at hl
        refine lv_aload_n hx hb dX3_shared_40 rfl (lv_at hl 3 rfl) ?_
        refine lv_iload_n hx hb dX3_shared_41 rfl (lv_at hl 5 rfl) ?_
        refine lv_aload_n hx hb dX3_shared_42 rfl (lv_at hl 3 rfl) ?_
        refine lv_iload_n hx hb dX3_shared_43 rfl (lv_at hl 4 rfl) ?_
        refine lv_iload hx hb dX3_shared_44 (lv_at hl 1 rfl) ?_
        refine xv_i (As := [.int (nI on), .int (nI i_2)]) (rest := [.int (nI ot), .ref t0]) (q := (RX3, TX3, 3)) ⟨hx, hb, hml, hown, hts⟩ (kX3_timeOf l dC dI cyI cyZ cyJ cyD cyB t0 t2 t1 tcn on i_2 no (by omega) (by omega) hno) (cwV 2 hts gX3_shared_X3_timeOf rfl rfl rfl (by decide +kernel) ⟨Nat.le_of_ble_eq_true rfl, Nat.le_of_ble_eq_true rfl⟩) hK hP hS [0, 2] rfl 0 5 rfl rfl rfl hl.1 rfl (Nat.le_of_ble_eq_true rfl) dX3_shared_46 ⟨Nat.zero_le _, Nat.zero_le _⟩ (fun r_11 H locs hw hP hS => ?_)
        have hw : r_11 = nI (no (on * 30 + i_2) / 48) := hw
        subst hw
        refine lv_iload hx hb dX3_shared_49 (lv_at hl 0 rfl) ?_
        refine xv_i (As := [.int (nI ot), .int (nI (no (on * 30 + i_2) / 48)), .int (nI j)]) (rest := []) (q := (RX3, TX3, 3)) ⟨hx, hb, hml, hown, hts⟩ (kX3_holds l dC dI cyI cyZ cyJ cyD cyB t0 t1 t2 siz no tcn ot (no (on * 30 + i_2) / 48) j (by omega) (by omega) (by omega) hno hsz) (cwV 3 hts gX3_shared_X3_holds rfl rfl rfl (by decide +kernel) ⟨Nat.le_of_ble_eq_true rfl, Nat.le_of_ble_eq_true rfl⟩) hK hP hS [0, 1, 2] rfl 0 5 rfl rfl rfl hl.1 rfl (Nat.le_of_ble_eq_true rfl) dX3_shared_51 ⟨Nat.zero_le _, Nat.zero_le _⟩ (fun r_12 H locs hw hP hS => ?_)
        have hw : r_12 = xb (hdF no (ot * 30) ((no (on * 30 + i_2) / 48) * 48 + j) (siz ot)) := hw
        subst hw
        refine xb_eq (tgt := 60) hx hb dX3_shared_54 (by decide) (fun c_13 => ?_) (fun c_13 => ?_)
        · refine xi_inc (k := 1) (lv' := [(5, .int (nI (i_2 + 1))), (6, .int (nI j)), (4, .int (nI (sdF no (on * 30) (ot * 30) (siz ot) hi i_2))), (0, .ref t0), (1, .int (nI on)), (2, .int (nI ot)), (3, .int hi)]) hx hb dX3_shared_60 hl rfl (by decide) rfl (fun ls hl => ?_)
          refine lv_goto (tgt := 6) hx hb dX3_shared_63 (by decide) ?_
          have e1 : sdF no (on * 30) (ot * 30) (siz ot) hi (i_2 + 1) = sdF no (on * 30) (ot * 30) (siz ot) hi i_2 := if_neg (fun hq => by first | exact hq.1 c_13 | exact hq.2.1 c_13 | (have h9 := hq.2.2; rw [hj2, nI_clamp (by omega)] at h9; exact absurd (h9.symm.trans c_13) (by decide)))
          exact ih_4 (i_2 + 1) (by omega)  _ _ (by first | exact hP | (simp only [e1]; exact hP) | (simp only [e1] at hP ⊢; exact hP)) hS _ (by first | exact (lv_sub hl [0, 2, 3, 4, 5, 6] rfl) | (simp only [e1]; exact (lv_sub hl [0, 2, 3, 4, 5, 6] rfl)) | (simp only [e1] at hl ⊢; exact (lv_sub hl [0, 2, 3, 4, 5, 6] rfl)))
        · refine xi_inc (k := 2) (lv' := [(4, .int (nI ((sdF no (on * 30) (ot * 30) (siz ot) hi i_2) + 1))), (6, .int (nI j)), (5, .int (nI i_2)), (0, .ref t0), (1, .int (nI on)), (2, .int (nI ot)), (3, .int hi)]) hx hb dX3_shared_57 hl rfl (by decide) rfl (fun ls hl => ?_)
          refine xi_inc (k := 2) (lv' := [(5, .int (nI (i_2 + 1))), (4, .int (nI ((sdF no (on * 30) (ot * 30) (siz ot) hi i_2) + 1))), (6, .int (nI j)), (0, .ref t0), (1, .int (nI on)), (2, .int (nI ot)), (3, .int hi)]) hx hb dX3_shared_60 hl rfl (by decide) rfl (fun ls hl => ?_)
          refine lv_goto (tgt := 6) hx hb dX3_shared_63 (by decide) ?_
          have e1 : sdF no (on * 30) (ot * 30) (siz ot) hi (i_2 + 1) = sdF no (on * 30) (ot * 30) (siz ot) hi i_2 + 1 := if_pos ⟨c_9, c_10, by rw [hj2, nI_clamp (by omega)]; exact c_13⟩
          exact ih_4 (i_2 + 1) (by omega)  _ _ (by first | exact hP | (simp only [e1]; exact hP) | (simp only [e1] at hP ⊢; exact hP)) hS _ (by first | exact (lv_sub hl [0, 1, 3, 4, 5, 6] rfl) | (simp only [e1]; exact (lv_sub hl [0, 1, 3, 4, 5, 6] rfl)) | (simp only [e1] at hl ⊢; exact (lv_sub hl [0, 1, 3, 4, 5, 6] rfl)))
