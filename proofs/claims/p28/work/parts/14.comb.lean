theorem inX1_addTooth_X1 : ∀ w ∈ wsX10, w ∈ wsX1_addTooth := by decide +kernel
theorem mX1_addTooth_fieldLink_RX1_9_PinBarrel_Comb_pitch_I : Cond.fieldLink RX1 9 "PinBarrel$Comb" "pitch" "[I" ∈ wsX1_addTooth := List.mem_of_getElem? (i := 1) (by decide +kernel)
theorem mX1_addTooth_fieldLink_RX1_28_PinBarrel_Comb_count_I : Cond.fieldLink RX1 28 "PinBarrel$Comb" "count" "I" ∈ wsX1_addTooth := List.mem_of_getElem? (i := 2) (by decide +kernel)
set_option maxHeartbeats 4000000 in
set_option maxRecDepth 100000 in
/-- a TOOTH more -/
theorem kX1_addTooth (l : Launch) (dC : Nat → ClassId) (dI : Nat → Nat → Nat) (cyI cyZ cyJ cyD cyB : ClassId) (g0 g1 : Nat) (g2 : Nat) (g3 : Nat) (g4 : Nat) (g5 : Nat) (pit : Nat → Nat) (cnt : Nat) (pi : Nat) (hcn : cnt < 24) : Met l yX1_addTooth wsX1_addTooth ({ frames := 0, cells := 0, slots := 0, locals := 0 }) (va_Pc [.ref g0, .int (nI pi)] (xM (dC, dI) vwCl (xT cyI cyZ cyJ cyD cyB) [(g0, .inr (3, [.ref g1, .ref g2, .ref g3, .ref g4, .ref g5, .int (nI cnt)])), (g1, .inl (cyI, 24, .inl (fun k => nI (pit k))))])) (va_Qi (fun (r : Int32) (u : Unit) => r = nI (cnt + 1 - 1)) (fun u t => va_P (dC, dI) vwCl [(g0, .inr (3, [.ref g1, .ref g2, .ref g3, .ref g4, .ref g5, .int (nI (cnt + 1))])), (g1, .inl (cyI, 24, .inl (fun k => nI ((va_up pit cnt pi) k))))] t.heap ∧ va_D (xA [(g0, .inr (3, [.ref g1, .ref g2, .ref g3, .ref g4, .ref g5, .int (nI cnt)])), (g1, .inl (cyI, 24, .inl (fun k => nI (pit k))))]) [(g0, .inr (3, [.ref g1, .ref g2, .ref g3, .ref g4, .ref g5, .int (nI (cnt + 1))])), (g1, .inl (cyI, 24, .inl (fun k => nI ((va_up pit cnt pi) k))))]) (xA [(g0, .inr (3, [.ref g1, .ref g2, .ref g3, .ref g4, .ref g5, .int (nI cnt)])), (g1, .inl (cyI, 24, .inl (fun k => nI (pit k))))])) 0 0 (xA [(g0, .inr (3, [.ref g1, .ref g2, .ref g3, .ref g4, .ref g5, .int (nI cnt)])), (g1, .inl (cyI, 24, .inl (fun k => nI (pit k))))]) := by
  refine Met.ofW (cc := cX1_addTooth) (maxL := 2) (ret := (some .int)) (by decide) rfl ?_
  intro p e s m args below meth c s₁ B hml hv
  obtain ⟨rfl, hP, hK, hD0⟩ := hv
  have hx := B.exec
  have hb := B.bytes
  have hr := B.returns
  have hts := atoms_spec (ws := wsX1_addTooth) B.pre
  have hown : s.vm.findClass RX1 = some m.cls := findClass_of_methodNamed B.named
  have hlocks := B.notSynchronized
  have hD := xA_self hD0
  clear hD0
  generalize hAe : xA [(g0, .inr (3, [.ref g1, .ref g2, .ref g3, .ref g4, .ref g5, .int (nI cnt)])), (g1, .inl (cyI, 24, .inl (fun k => nI (pit k))))] = A at hD ⊢
  have hS : va_S A s.heap s.heap [] := va_S.rf
  have hP : va_P (dC, dI) vwCl [(g0, .inr (3, [.ref g1, .ref g2, .ref g3, .ref g4, .ref g5, .int (nI cnt)])), (g1, .inl (cyI, 24, .inl (fun k => nI (pit k))))] s.heap := hP
  have hl := lv_entry ([.ref g0, .int (nI pi)]) (n := 2) (Nat.le_of_ble_eq_true rfl)
  rw [lg_entry_eq]
  generalize (lg_sl ([.ref g0, .int (nI pi)]) ++ List.replicate (2 - (lg_sl ([.ref g0, .int (nI pi)])).length) Slot.unset).toArray = ls at hl ⊢
  have hl : lv_has ls 2 [(0, .ref g0), (1, .int (nI pi))] := hl
  refine lv_aload_n hx hb dX1_addTooth_0 rfl (lv_at hl 0 rfl) ?_
  refine va_get (D := (dC, dI)) (ci := 3) (v := .ref g1) (C := RX1) (T := TX1) (N := 6) hx hb hts inX1_addTooth_X1 hown hK hP 0 rfl rfl 0 (by decide) (hts _ mX1_addTooth_fieldLink_RX1_9_PinBarrel_Comb_pitch_I) (fun _ h9 => h9) rfl dX1_addTooth_1 ?_
  refine lv_aload_n hx hb dX1_addTooth_4 rfl (lv_at hl 0 rfl) ?_
  refine va_get (D := (dC, dI)) (ci := 3) (v := .int (nI cnt)) (C := RX1) (T := TX1) (N := 6) hx hb hts inX1_addTooth_X1 hown hK hP 0 rfl rfl 5 (by decide) (hts _ mX1_addTooth_fieldLink_RX1_28_PinBarrel_Comb_count_I) (fun _ h9 => h9) rfl dX1_addTooth_5 ?_
  refine lv_iload_n hx hb dX1_addTooth_8 rfl (lv_at hl 1 rfl) ?_
  refine xt_I (f := pit) (x := pi) hx hb hK hP hD hS 1 0 rfl rfl (by omega) (by decide) dX1_addTooth_9 (fun H locs hP hD hS => ?_)
  have hP : va_P (dC, dI) vwCl [(g0, .inr (3, [.ref g1, .ref g2, .ref g3, .ref g4, .ref g5, .int (nI cnt)])), (g1, .inl (cyI, 24, .inl (fun k => nI ((va_up pit cnt pi) k))))] H := hP
  have hD : va_D A [(g0, .inr (3, [.ref g1, .ref g2, .ref g3, .ref g4, .ref g5, .int (nI cnt)])), (g1, .inl (cyI, 24, .inl (fun k => nI ((va_up pit cnt pi) k))))] := hD
  refine lv_aload_n hx hb dX1_addTooth_10 rfl (lv_at hl 0 rfl) ?_
  refine lv_dup hx hb dX1_addTooth_11 rfl ?_
  refine va_get (D := (dC, dI)) (ci := 3) (v := .int (nI cnt)) (C := RX1) (T := TX1) (N := 6) hx hb hts inX1_addTooth_X1 hown hK hP 0 rfl rfl 5 (by decide) (hts _ mX1_addTooth_fieldLink_RX1_28_PinBarrel_Comb_count_I) (fun _ h9 => h9) rfl dX1_addTooth_12 ?_
  refine lv_iconst (v := nI 1) hx hb dX1_addTooth_15 (by decide) ?_
  refine xi_add hx hb dX1_addTooth_16 ?_
  refine va_put (D := (dC, dI)) (ci := 3) (v := .int (nI (cnt + 1))) (ty := .int) (C := RX1) (T := TX1) (N := 6) hx hb hts inX1_addTooth_X1 tyX1 tyX1_ok nmX1 hown hK hP hD hS 0 rfl rfl 5 (by decide) (hts _ mX1_addTooth_fieldLink_RX1_28_PinBarrel_Comb_count_I) (fun _ h9 => h9) rfl (by decide +kernel) rfl rfl (Nat.le_of_ble_eq_true rfl) dX1_addTooth_17 (fun H locs hP hD hS => ?_)
  have hP : va_P (dC, dI) vwCl [(g0, .inr (3, [.ref g1, .ref g2, .ref g3, .ref g4, .ref g5, .int (nI (cnt + 1))])), (g1, .inl (cyI, 24, .inl (fun k => nI ((va_up pit cnt pi) k))))] H := hP
  have hD : va_D A [(g0, .inr (3, [.ref g1, .ref g2, .ref g3, .ref g4, .ref g5, .int (nI (cnt + 1))])), (g1, .inl (cyI, 24, .inl (fun k => nI ((va_up pit cnt pi) k))))] := hD
  refine lv_aload_n hx hb dX1_addTooth_20 rfl (lv_at hl 0 rfl) ?_
  refine va_get (D := (dC, dI)) (ci := 3) (v := .int (nI (cnt + 1))) (C := RX1) (T := TX1) (N := 6) hx hb hts inX1_addTooth_X1 hown hK hP 0 rfl rfl 5 (by decide) (hts _ mX1_addTooth_fieldLink_RX1_28_PinBarrel_Comb_count_I) (fun _ h9 => h9) rfl dX1_addTooth_21 ?_
  refine lv_iconst (v := nI 1) hx hb dX1_addTooth_24 (by decide) ?_
  refine xi_sub hx hb dX1_addTooth_25 (by omega) ?_
  have hP9 : va_P (dC, dI) vwCl [(g0, .inr (3, [.ref g1, .ref g2, .ref g3, .ref g4, .ref g5, .int (nI (cnt + 1))])), (g1, .inl (cyI, 24, .inl (fun k => nI ((va_up pit cnt pi) k))))] _ := hP
  have hD9 : va_D A [(g0, .inr (3, [.ref g1, .ref g2, .ref g3, .ref g4, .ref g5, .int (nI (cnt + 1))])), (g1, .inl (cyI, 24, .inl (fun k => nI ((va_up pit cnt pi) k))))] := hD
  exact W.iret (v := nI ((cnt + 1) - 1)) hx hb hr (fun t ht hW => ⟨⟨nI ((cnt + 1) - 1), (), rfl, rfl, ⟨by rw [ht]; exact hP9, hD9⟩⟩, hS.F ht⟩) hS.2.2 dX1_addTooth_26

theorem inX1_brokenTeeth_X1 : ∀ w ∈ wsX10, w ∈ wsX1_brokenTeeth := by decide +kernel
theorem mX1_brokenTeeth_fieldLink_RX1_28_PinBarrel_Comb_count_I : Cond.fieldLink RX1 28 "PinBarrel$Comb" "count" "I" ∈ wsX1_brokenTeeth := List.mem_of_getElem? (i := 1) (by decide +kernel)
theorem mX1_brokenTeeth_fieldLink_RX1_15_PinBarrel_Comb_broken_Z : Cond.fieldLink RX1 15 "PinBarrel$Comb" "broken" "[Z" ∈ wsX1_brokenTeeth := List.mem_of_getElem? (i := 2) (by decide +kernel)
set_option maxHeartbeats 4000000 in
set_option maxRecDepth 100000 in
/-- how many are BROKEN -/
theorem kX1_brokenTeeth (l : Launch) (dC : Nat → ClassId) (dI : Nat → Nat → Nat) (cyI cyZ cyJ cyD cyB : ClassId) (g0 g2 : Nat) (g1 : Nat) (g3 : Nat) (g4 : Nat) (g5 : Nat) (bro : Nat → Bool) (cnt : Nat) (hcn : cnt ≤ 24) : Met l yX1_brokenTeeth wsX1_brokenTeeth ({ frames := 0, cells := 0, slots := 0, locals := 0 }) (va_Pc [.ref g0] (xP (dC, dI) vwCl (xT cyI cyZ cyJ cyD cyB) [(g0, .inr (3, [.ref g1, .ref g2, .ref g3, .ref g4, .ref g5, .int (nI cnt)])), (g2, .inl (cyZ, 24, .inl (fun k => xb (bro k))))])) (va_Qi (fun (r : Int32) (u : Unit) => r = nI (brF bro cnt)) (fun _ _ => True) (fun _ => False)) 0 0 (fun _ => False) := by
  refine Met.ofW (cc := cX1_brokenTeeth) (maxL := 3) (ret := (some .int)) (by decide) rfl ?_
  intro p e s m args below meth c s₁ B hml hv
  obtain ⟨rfl, hP, hK⟩ := hv
  have hx := B.exec
  have hb := B.bytes
  have hr := B.returns
  have hts := atoms_spec (ws := wsX1_brokenTeeth) B.pre
  have hown : s.vm.findClass RX1 = some m.cls := findClass_of_methodNamed B.named
  have hlocks := B.notSynchronized
  have hS : va_S (fun _ => False) s.heap s.heap [] := va_S.rf
  have hP : va_P (dC, dI) vwCl [(g0, .inr (3, [.ref g1, .ref g2, .ref g3, .ref g4, .ref g5, .int (nI cnt)])), (g2, .inl (cyZ, 24, .inl (fun k => xb (bro k))))] s.heap := hP
  have hl := lv_entry ([.ref g0]) (n := 3) (Nat.le_of_ble_eq_true rfl)
  rw [lg_entry_eq]
  generalize (lg_sl ([.ref g0]) ++ List.replicate (3 - (lg_sl ([.ref g0])).length) Slot.unset).toArray = ls at hl ⊢
  have hl : lv_has ls 3 [(0, .ref g0)] := hl
  refine lv_iconst (v := nI 0) hx hb dX1_brokenTeeth_0 (by decide) ?_
  refine lv_istore_n (lv' := [(1, .int (nI 0)), (0, .ref g0)]) hx hb dX1_brokenTeeth_1 rfl hl (by decide) rfl (fun ls hl => ?_)
  refine lv_iconst (v := nI 0) hx hb dX1_brokenTeeth_2 (by decide) ?_
  refine lv_istore_n (lv' := [(2, .int (nI 0)), (1, .int (nI 0)), (0, .ref g0)]) hx hb dX1_brokenTeeth_3 rfl hl (by decide) rfl (fun ls hl => ?_)
  have e0 : brF bro 0 = 0 := rfl
  refine (?_ : ∀ (n_1 i_2 : Nat), i_2 + n_1 = cnt → ∀ (H : Heap) (locs : List Loc) (hP : va_P (dC, dI) vwCl [(g0, .inr (3, [.ref g1, .ref g2, .ref g3, .ref g4, .ref g5, .int (nI cnt)])), (g2, .inl (cyZ, 24, .inl (fun k => xb (bro k))))] H) (hS : va_S (fun _ => False) s.heap H locs) (ls : Array Slot) (hl : lv_has ls 3 [(2, .int (nI i_2)), (1, .int (nI (brF bro i_2))), (0, .ref g0)]), W p l e _ s m _ below meth c H locs 0 0 _ (F0 m 4 ls [])) (cnt - 0) 0 (by omega) _ _ (by first | exact hP | (simp only [e0]; exact hP)) hS _ (by first | exact (lv_sub hl [0, 1, 2] rfl) | (simp only [e0]; exact (lv_sub hl [0, 1, 2] rfl)))
  clear hl hP hS
  intro n_1
  induction n_1 with
  | zero =>
    intro i_2 hi_3 H locs hP hS ls hl
    refine lv_iload_n hx hb dX1_brokenTeeth_4 rfl (lv_at hl 0 rfl) ?_
    refine lv_aload_n hx hb dX1_brokenTeeth_5 rfl (lv_at hl 2 rfl) ?_
    refine va_get (D := (dC, dI)) (ci := 3) (v := .int (nI cnt)) (C := RX1) (T := TX1) (N := 6) hx hb hts inX1_brokenTeeth_X1 hown hK hP 0 rfl rfl 5 (by decide) (hts _ mX1_brokenTeeth_fieldLink_RX1_28_PinBarrel_Comb_count_I) (fun _ h9 => h9) rfl dX1_brokenTeeth_6 ?_
    refine xc_ge (tgt := 30) hx hb dX1_brokenTeeth_9 (by decide) (by omega) (by omega) (fun c_6 => ?_) (fun c_6 => by omega)
    refine lv_iload_n hx hb dX1_brokenTeeth_30 rfl (lv_at hl 1 rfl) ?_
    exact W.iret (v := nI (brF bro i_2)) hx hb hr (fun t ht hW => ⟨⟨nI (brF bro i_2), (), rfl, (by rw [show i_2 = cnt from by omega]), trivial⟩, hS.F ht⟩) hS.2.2 dX1_brokenTeeth_31
  | succ n_1 ih_4 =>
    intro i_2 hi_3 H locs hP hS ls hl
    refine lv_iload_n hx hb dX1_brokenTeeth_4 rfl (lv_at hl 0 rfl) ?_
    refine lv_aload_n hx hb dX1_brokenTeeth_5 rfl (lv_at hl 2 rfl) ?_
    refine va_get (D := (dC, dI)) (ci := 3) (v := .int (nI cnt)) (C := RX1) (T := TX1) (N := 6) hx hb hts inX1_brokenTeeth_X1 hown hK hP 0 rfl rfl 5 (by decide) (hts _ mX1_brokenTeeth_fieldLink_RX1_28_PinBarrel_Comb_count_I) (fun _ h9 => h9) rfl dX1_brokenTeeth_6 ?_
    refine xc_ge (tgt := 30) hx hb dX1_brokenTeeth_9 (by decide) (by omega) (by omega) (fun c_7 => by omega) (fun c_7 => ?_)
    refine lv_aload_n hx hb dX1_brokenTeeth_12 rfl (lv_at hl 2 rfl) ?_
    refine va_get (D := (dC, dI)) (ci := 3) (v := .ref g2) (C := RX1) (T := TX1) (N := 6) hx hb hts inX1_brokenTeeth_X1 hown hK hP 0 rfl rfl 1 (by decide) (hts _ mX1_brokenTeeth_fieldLink_RX1_15_PinBarrel_Comb_broken_Z) (fun _ h9 => h9) rfl dX1_brokenTeeth_13 ?_
    refine lv_iload_n hx hb dX1_brokenTeeth_16 rfl (lv_at hl 0 rfl) ?_
    refine xl_Z (f := bro) hx hb hK hP 1 1 rfl rfl (by omega) (by decide) dX1_brokenTeeth_17 ?_
    refine xb_eq (tgt := 24) hx hb dX1_brokenTeeth_18 (by decide) (fun c_8 => ?_) (fun c_8 => ?_)
    · refine xi_inc (k := 0) (lv' := [(2, .int (nI (i_2 + 1))), (1, .int (nI (brF bro i_2))), (0, .ref g0)]) hx hb dX1_brokenTeeth_24 hl rfl (by decide) rfl (fun ls hl => ?_)
      refine lv_goto (tgt := 4) hx hb dX1_brokenTeeth_27 (by decide) ?_
      have e1 : brF bro (i_2 + 1) = brF bro i_2 := if_neg (by rw [c_8]; decide)
      exact ih_4 (i_2 + 1) (by omega)  _ _ (by first | exact hP | (simp only [e1]; exact hP) | (simp only [e1] at hP ⊢; exact hP)) hS _ (by first | exact (lv_sub hl [0, 1, 2] rfl) | (simp only [e1]; exact (lv_sub hl [0, 1, 2] rfl)) | (simp only [e1] at hl ⊢; exact (lv_sub hl [0, 1, 2] rfl)))
    · refine xi_inc (k := 1) (lv' := [(1, .int (nI ((brF bro i_2) + 1))), (2, .int (nI i_2)), (0, .ref g0)]) hx hb dX1_brokenTeeth_21 hl rfl (by decide) rfl (fun ls hl => ?_)
      refine xi_inc (k := 1) (lv' := [(2, .int (nI (i_2 + 1))), (1, .int (nI ((brF bro i_2) + 1))), (0, .ref g0)]) hx hb dX1_brokenTeeth_24 hl rfl (by decide) rfl (fun ls hl => ?_)
      refine lv_goto (tgt := 4) hx hb dX1_brokenTeeth_27 (by decide) ?_
      have e1 : brF bro (i_2 + 1) = brF bro i_2 + 1 := if_pos c_8
      exact ih_4 (i_2 + 1) (by omega)  _ _ (by first | exact hP | (simp only [e1]; exact hP) | (simp only [e1] at hP ⊢; exact hP)) hS _ (by first | exact (lv_sub hl [0, 1, 2] rfl) | (simp only [e1]; exact (lv_sub hl [0, 1, 2] rfl)) | (simp only [e1] at hl ⊢; exact (lv_sub hl [0, 1, 2] rfl)))

theorem inX1_mendTooth_X1 : ∀ w ∈ wsX10, w ∈ wsX1_mendTooth := by decide +kernel
theorem mX1_mendTooth_fieldLink_RX1_15_PinBarrel_Comb_broken_Z : Cond.fieldLink RX1 15 "PinBarrel$Comb" "broken" "[Z" ∈ wsX1_mendTooth := List.mem_of_getElem? (i := 1) (by decide +kernel)
theorem mX1_mendTooth_fieldLink_RX1_19_PinBarrel_Comb_scratches_I : Cond.fieldLink RX1 19 "PinBarrel$Comb" "scratches" "[I" ∈ wsX1_mendTooth := List.mem_of_getElem? (i := 2) (by decide +kernel)
set_option maxHeartbeats 4000000 in
set_option maxRecDepth 100000 in
/-- a TOOTH mended -/
theorem kX1_mendTooth (l : Launch) (dC : Nat → ClassId) (dI : Nat → Nat → Nat) (cyI cyZ cyJ cyD cyB : ClassId) (g0 g2 g3 : Nat) (g1 : Nat) (g4 : Nat) (g5 : Nat) (bro : Nat → Bool) (scr : Nat → Nat) (cnt : Nat) (tn : Nat) (ht : tn < 24) : Met l yX1_mendTooth wsX1_mendTooth ({ frames := 0, cells := 0, slots := 0, locals := 0 }) (va_Pc [.ref g0, .int (nI tn)] (xM (dC, dI) vwCl (xT cyI cyZ cyJ cyD cyB) [(g0, .inr (3, [.ref g1, .ref g2, .ref g3, .ref g4, .ref g5, .int (nI cnt)])), (g2, .inl (cyZ, 24, .inl (fun k => xb (bro k)))), (g3, .inl (cyI, 24, .inl (fun k => nI (scr k))))])) (va_Qi (fun (r : Int32) (u : Unit) => r = nI (if bro tn then 1 else 0)) (fun u t => va_P (dC, dI) vwCl [(g0, .inr (3, [.ref g1, .ref g2, .ref g3, .ref g4, .ref g5, .int (nI cnt)])), (g2, .inl (cyZ, 24, .inl (fun k => xb ((va_up bro tn false) k)))), (g3, .inl (cyI, 24, .inl (fun k => nI ((va_up scr tn 0) k))))] t.heap ∧ va_D (xA [(g0, .inr (3, [.ref g1, .ref g2, .ref g3, .ref g4, .ref g5, .int (nI cnt)])), (g2, .inl (cyZ, 24, .inl (fun k => xb (bro k)))), (g3, .inl (cyI, 24, .inl (fun k => nI (scr k))))]) [(g0, .inr (3, [.ref g1, .ref g2, .ref g3, .ref g4, .ref g5, .int (nI cnt)])), (g2, .inl (cyZ, 24, .inl (fun k => xb ((va_up bro tn false) k)))), (g3, .inl (cyI, 24, .inl (fun k => nI ((va_up scr tn 0) k))))]) (xA [(g0, .inr (3, [.ref g1, .ref g2, .ref g3, .ref g4, .ref g5, .int (nI cnt)])), (g2, .inl (cyZ, 24, .inl (fun k => xb (bro k)))), (g3, .inl (cyI, 24, .inl (fun k => nI (scr k))))])) 0 0 (xA [(g0, .inr (3, [.ref g1, .ref g2, .ref g3, .ref g4, .ref g5, .int (nI cnt)])), (g2, .inl (cyZ, 24, .inl (fun k => xb (bro k)))), (g3, .inl (cyI, 24, .inl (fun k => nI (scr k))))]) := by
  refine Met.ofW (cc := cX1_mendTooth) (maxL := 3) (ret := (some .int)) (by decide) rfl ?_
  intro p e s m args below meth c s₁ B hml hv
  obtain ⟨rfl, hP, hK, hD0⟩ := hv
  have hx := B.exec
  have hb := B.bytes
  have hr := B.returns
  have hts := atoms_spec (ws := wsX1_mendTooth) B.pre
  have hown : s.vm.findClass RX1 = some m.cls := findClass_of_methodNamed B.named
  have hlocks := B.notSynchronized
  have hD := xA_self hD0
  clear hD0
  generalize hAe : xA [(g0, .inr (3, [.ref g1, .ref g2, .ref g3, .ref g4, .ref g5, .int (nI cnt)])), (g2, .inl (cyZ, 24, .inl (fun k => xb (bro k)))), (g3, .inl (cyI, 24, .inl (fun k => nI (scr k))))] = A at hD ⊢
  have hS : va_S A s.heap s.heap [] := va_S.rf
  have hP : va_P (dC, dI) vwCl [(g0, .inr (3, [.ref g1, .ref g2, .ref g3, .ref g4, .ref g5, .int (nI cnt)])), (g2, .inl (cyZ, 24, .inl (fun k => xb (bro k)))), (g3, .inl (cyI, 24, .inl (fun k => nI (scr k))))] s.heap := hP
  have hl := lv_entry ([.ref g0, .int (nI tn)]) (n := 3) (Nat.le_of_ble_eq_true rfl)
  rw [lg_entry_eq]
  generalize (lg_sl ([.ref g0, .int (nI tn)]) ++ List.replicate (3 - (lg_sl ([.ref g0, .int (nI tn)])).length) Slot.unset).toArray = ls at hl ⊢
  have hl : lv_has ls 3 [(0, .ref g0), (1, .int (nI tn))] := hl
  refine lv_aload_n hx hb dX1_mendTooth_0 rfl (lv_at hl 0 rfl) ?_
  refine va_get (D := (dC, dI)) (ci := 3) (v := .ref g2) (C := RX1) (T := TX1) (N := 6) hx hb hts inX1_mendTooth_X1 hown hK hP 0 rfl rfl 1 (by decide) (hts _ mX1_mendTooth_fieldLink_RX1_15_PinBarrel_Comb_broken_Z) (fun _ h9 => h9) rfl dX1_mendTooth_1 ?_
  refine lv_iload_n hx hb dX1_mendTooth_4 rfl (lv_at hl 1 rfl) ?_
  refine xl_Z (f := bro) hx hb hK hP 1 1 rfl rfl (by omega) (by decide) dX1_mendTooth_5 ?_
  refine xb_eq (tgt := 13) hx hb dX1_mendTooth_6 (by decide) (fun c_1 => ?_) (fun c_1 => ?_)
  · refine lv_iconst (v := nI 0) hx hb dX1_mendTooth_13 (by decide) ?_
    refine lv_istore_n (lv' := [(2, .int (nI 0)), (0, .ref g0), (1, .int (nI tn))]) hx hb dX1_mendTooth_14 rfl hl (by decide) rfl (fun ls hl => ?_)
    refine lv_aload_n hx hb dX1_mendTooth_15 rfl (lv_at hl 1 rfl) ?_
    refine va_get (D := (dC, dI)) (ci := 3) (v := .ref g2) (C := RX1) (T := TX1) (N := 6) hx hb hts inX1_mendTooth_X1 hown hK hP 0 rfl rfl 1 (by decide) (hts _ mX1_mendTooth_fieldLink_RX1_15_PinBarrel_Comb_broken_Z) (fun _ h9 => h9) rfl dX1_mendTooth_16 ?_
    refine lv_iload_n hx hb dX1_mendTooth_19 rfl (lv_at hl 2 rfl) ?_
    refine lv_iconst (v := nI 0) hx hb dX1_mendTooth_20 (by decide) ?_
    rw [show nI 0 = xb false from rfl]
    refine xt_Z (f := bro) (x := false) hx hb hK hP hD hS 1 1 rfl rfl (by omega) (by decide) dX1_mendTooth_21 (fun H locs hP hD hS => ?_)
    have hP : va_P (dC, dI) vwCl [(g0, .inr (3, [.ref g1, .ref g2, .ref g3, .ref g4, .ref g5, .int (nI cnt)])), (g2, .inl (cyZ, 24, .inl (fun k => xb ((va_up bro tn false) k)))), (g3, .inl (cyI, 24, .inl (fun k => nI (scr k))))] H := hP
    have hD : va_D A [(g0, .inr (3, [.ref g1, .ref g2, .ref g3, .ref g4, .ref g5, .int (nI cnt)])), (g2, .inl (cyZ, 24, .inl (fun k => xb ((va_up bro tn false) k)))), (g3, .inl (cyI, 24, .inl (fun k => nI (scr k))))] := hD
    refine lv_aload_n hx hb dX1_mendTooth_22 rfl (lv_at hl 1 rfl) ?_
    refine va_get (D := (dC, dI)) (ci := 3) (v := .ref g3) (C := RX1) (T := TX1) (N := 6) hx hb hts inX1_mendTooth_X1 hown hK hP 0 rfl rfl 2 (by decide) (hts _ mX1_mendTooth_fieldLink_RX1_19_PinBarrel_Comb_scratches_I) (fun _ h9 => h9) rfl dX1_mendTooth_23 ?_
    refine lv_iload_n hx hb dX1_mendTooth_26 rfl (lv_at hl 2 rfl) ?_
    refine lv_iconst (v := nI 0) hx hb dX1_mendTooth_27 (by decide) ?_
    refine xt_I (f := scr) (x := 0) hx hb hK hP hD hS 2 0 rfl rfl (by omega) (by decide) dX1_mendTooth_28 (fun H locs hP hD hS => ?_)
    have hP : va_P (dC, dI) vwCl [(g0, .inr (3, [.ref g1, .ref g2, .ref g3, .ref g4, .ref g5, .int (nI cnt)])), (g2, .inl (cyZ, 24, .inl (fun k => xb ((va_up bro tn false) k)))), (g3, .inl (cyI, 24, .inl (fun k => nI ((va_up scr tn 0) k))))] H := hP
    have hD : va_D A [(g0, .inr (3, [.ref g1, .ref g2, .ref g3, .ref g4, .ref g5, .int (nI cnt)])), (g2, .inl (cyZ, 24, .inl (fun k => xb ((va_up bro tn false) k)))), (g3, .inl (cyI, 24, .inl (fun k => nI ((va_up scr tn 0) k))))] := hD
    refine lv_iload_n hx hb dX1_mendTooth_29 rfl (lv_at hl 0 rfl) ?_
    have hP9 : va_P (dC, dI) vwCl [(g0, .inr (3, [.ref g1, .ref g2, .ref g3, .ref g4, .ref g5, .int (nI cnt)])), (g2, .inl (cyZ, 24, .inl (fun k => xb ((va_up bro tn false) k)))), (g3, .inl (cyI, 24, .inl (fun k => nI ((va_up scr tn 0) k))))] _ := hP
    have hD9 : va_D A [(g0, .inr (3, [.ref g1, .ref g2, .ref g3, .ref g4, .ref g5, .int (nI cnt)])), (g2, .inl (cyZ, 24, .inl (fun k => xb ((va_up bro tn false) k)))), (g3, .inl (cyI, 24, .inl (fun k => nI ((va_up scr tn 0) k))))] := hD
    exact W.iret (v := nI 0) hx hb hr (fun t ht hW => ⟨⟨nI 0, (), rfl, (by rw [c_1]; rfl), ⟨by rw [ht]; exact hP9, hD9⟩⟩, hS.F ht⟩) hS.2.2 dX1_mendTooth_30
  · refine lv_iconst (v := nI 1) hx hb dX1_mendTooth_9 (by decide) ?_
    refine lv_goto (tgt := 14) hx hb dX1_mendTooth_10 (by decide) ?_
    refine lv_istore_n (lv' := [(2, .int (nI 1)), (0, .ref g0), (1, .int (nI tn))]) hx hb dX1_mendTooth_14 rfl hl (by decide) rfl (fun ls hl => ?_)
    refine lv_aload_n hx hb dX1_mendTooth_15 rfl (lv_at hl 1 rfl) ?_
    refine va_get (D := (dC, dI)) (ci := 3) (v := .ref g2) (C := RX1) (T := TX1) (N := 6) hx hb hts inX1_mendTooth_X1 hown hK hP 0 rfl rfl 1 (by decide) (hts _ mX1_mendTooth_fieldLink_RX1_15_PinBarrel_Comb_broken_Z) (fun _ h9 => h9) rfl dX1_mendTooth_16 ?_
    refine lv_iload_n hx hb dX1_mendTooth_19 rfl (lv_at hl 2 rfl) ?_
    refine lv_iconst (v := nI 0) hx hb dX1_mendTooth_20 (by decide) ?_
    rw [show nI 0 = xb false from rfl]
    refine xt_Z (f := bro) (x := false) hx hb hK hP hD hS 1 1 rfl rfl (by omega) (by decide) dX1_mendTooth_21 (fun H locs hP hD hS => ?_)
    have hP : va_P (dC, dI) vwCl [(g0, .inr (3, [.ref g1, .ref g2, .ref g3, .ref g4, .ref g5, .int (nI cnt)])), (g2, .inl (cyZ, 24, .inl (fun k => xb ((va_up bro tn false) k)))), (g3, .inl (cyI, 24, .inl (fun k => nI (scr k))))] H := hP
    have hD : va_D A [(g0, .inr (3, [.ref g1, .ref g2, .ref g3, .ref g4, .ref g5, .int (nI cnt)])), (g2, .inl (cyZ, 24, .inl (fun k => xb ((va_up bro tn false) k)))), (g3, .inl (cyI, 24, .inl (fun k => nI (scr k))))] := hD
    refine lv_aload_n hx hb dX1_mendTooth_22 rfl (lv_at hl 1 rfl) ?_
    refine va_get (D := (dC, dI)) (ci := 3) (v := .ref g3) (C := RX1) (T := TX1) (N := 6) hx hb hts inX1_mendTooth_X1 hown hK hP 0 rfl rfl 2 (by decide) (hts _ mX1_mendTooth_fieldLink_RX1_19_PinBarrel_Comb_scratches_I) (fun _ h9 => h9) rfl dX1_mendTooth_23 ?_
    refine lv_iload_n hx hb dX1_mendTooth_26 rfl (lv_at hl 2 rfl) ?_
    refine lv_iconst (v := nI 0) hx hb dX1_mendTooth_27 (by decide) ?_
    refine xt_I (f := scr) (x := 0) hx hb hK hP hD hS 2 0 rfl rfl (by omega) (by decide) dX1_mendTooth_28 (fun H locs hP hD hS => ?_)
    have hP : va_P (dC, dI) vwCl [(g0, .inr (3, [.ref g1, .ref g2, .ref g3, .ref g4, .ref g5, .int (nI cnt)])), (g2, .inl (cyZ, 24, .inl (fun k => xb ((va_up bro tn false) k)))), (g3, .inl (cyI, 24, .inl (fun k => nI ((va_up scr tn 0) k))))] H := hP
    have hD : va_D A [(g0, .inr (3, [.ref g1, .ref g2, .ref g3, .ref g4, .ref g5, .int (nI cnt)])), (g2, .inl (cyZ, 24, .inl (fun k => xb ((va_up bro tn false) k)))), (g3, .inl (cyI, 24, .inl (fun k => nI ((va_up scr tn 0) k))))] := hD
    refine lv_iload_n hx hb dX1_mendTooth_29 rfl (lv_at hl 0 rfl) ?_
    have hP9 : va_P (dC, dI) vwCl [(g0, .inr (3, [.ref g1, .ref g2, .ref g3, .ref g4, .ref g5, .int (nI cnt)])), (g2, .inl (cyZ, 24, .inl (fun k => xb ((va_up bro tn false) k)))), (g3, .inl (cyI, 24, .inl (fun k => nI ((va_up scr tn 0) k))))] _ := hP
    have hD9 : va_D A [(g0, .inr (3, [.ref g1, .ref g2, .ref g3, .ref g4, .ref g5, .int (nI cnt)])), (g2, .inl (cyZ, 24, .inl (fun k => xb ((va_up bro tn false) k)))), (g3, .inl (cyI, 24, .inl (fun k => nI ((va_up scr tn 0) k))))] := hD
    exact W.iret (v := nI 1) hx hb hr (fun t ht hW => ⟨⟨nI 1, (), rfl, (by rw [c_1]; rfl), ⟨by rw [ht]; exact hP9, hD9⟩⟩, hS.F ht⟩) hS.2.2 dX1_mendTooth_30

theorem inX1_pluckTooth_X1 : ∀ w ∈ wsX10, w ∈ wsX1_pluckTooth := by decide +kernel
theorem mX1_pluckTooth_fieldLink_RX1_22_PinBarrel_Comb_plucks_I : Cond.fieldLink RX1 22 "PinBarrel$Comb" "plucks" "[I" ∈ wsX1_pluckTooth := List.mem_of_getElem? (i := 1) (by decide +kernel)
theorem mX1_pluckTooth_fieldLink_RX1_25_PinBarrel_Comb_lastPluck_I : Cond.fieldLink RX1 25 "PinBarrel$Comb" "lastPluck" "[I" ∈ wsX1_pluckTooth := List.mem_of_getElem? (i := 2) (by decide +kernel)
theorem mX1_pluckTooth_fieldLink_RX1_19_PinBarrel_Comb_scratches_I : Cond.fieldLink RX1 19 "PinBarrel$Comb" "scratches" "[I" ∈ wsX1_pluckTooth := List.mem_of_getElem? (i := 3) (by decide +kernel)
theorem mX1_pluckTooth_fieldLink_RX1_15_PinBarrel_Comb_broken_Z : Cond.fieldLink RX1 15 "PinBarrel$Comb" "broken" "[Z" ∈ wsX1_pluckTooth := List.mem_of_getElem? (i := 4) (by decide +kernel)
set_option maxHeartbeats 4000000 in
set_option maxRecDepth 100000 in
/-- a TOOTH plucked -/
theorem kX1_pluckTooth (l : Launch) (dC : Nat → ClassId) (dI : Nat → Nat → Nat) (cyI cyZ cyJ cyD cyB : ClassId) (g0 g2 g3 g4 g5 : Nat) (g1 : Nat) (bro : Nat → Bool) (scr : Nat → Nat) (plu : Nat → Nat) (las : Nat → Nat) (cnt : Nat) (tn : Nat) (st : Nat) (ht : tn < 24) (hsc : scr tn < 2 ^ 30) : Met l yX1_pluckTooth wsX1_pluckTooth ({ frames := 0, cells := 0, slots := 0, locals := 0 }) (va_Pc [.ref g0, .int (nI tn), .int (nI st)] (xM (dC, dI) vwCl (xT cyI cyZ cyJ cyD cyB) [(g0, .inr (3, [.ref g1, .ref g2, .ref g3, .ref g4, .ref g5, .int (nI cnt)])), (g2, .inl (cyZ, 24, .inl (fun k => xb (bro k)))), (g3, .inl (cyI, 24, .inl (fun k => nI (scr k)))), (g4, .inl (cyI, 24, .inl (fun k => nI (plu k)))), (g5, .inl (cyI, 24, .inl (fun k => nI (las k))))])) (va_Qi (fun (r : Int32) (u : Unit) => r = xb (isBz plu las tn st)) (fun u t => va_P (dC, dI) vwCl [(g0, .inr (3, [.ref g1, .ref g2, .ref g3, .ref g4, .ref g5, .int (nI cnt)])), (g2, .inl (cyZ, 24, .inl (fun k => xb ((if isBz plu las tn st then va_up bro tn (decide (4 ≤ scr tn + 1)) else bro) k)))), (g3, .inl (cyI, 24, .inl (fun k => nI ((if isBz plu las tn st then va_up scr tn (scr tn + 1) else scr) k)))), (g4, .inl (cyI, 24, .inl (fun k => nI ((va_up plu tn (plu tn + 1)) k)))), (g5, .inl (cyI, 24, .inl (fun k => nI ((va_up las tn st) k))))] t.heap ∧ va_D (xA [(g0, .inr (3, [.ref g1, .ref g2, .ref g3, .ref g4, .ref g5, .int (nI cnt)])), (g2, .inl (cyZ, 24, .inl (fun k => xb (bro k)))), (g3, .inl (cyI, 24, .inl (fun k => nI (scr k)))), (g4, .inl (cyI, 24, .inl (fun k => nI (plu k)))), (g5, .inl (cyI, 24, .inl (fun k => nI (las k))))]) [(g0, .inr (3, [.ref g1, .ref g2, .ref g3, .ref g4, .ref g5, .int (nI cnt)])), (g2, .inl (cyZ, 24, .inl (fun k => xb ((if isBz plu las tn st then va_up bro tn (decide (4 ≤ scr tn + 1)) else bro) k)))), (g3, .inl (cyI, 24, .inl (fun k => nI ((if isBz plu las tn st then va_up scr tn (scr tn + 1) else scr) k)))), (g4, .inl (cyI, 24, .inl (fun k => nI ((va_up plu tn (plu tn + 1)) k)))), (g5, .inl (cyI, 24, .inl (fun k => nI ((va_up las tn st) k))))]) (xA [(g0, .inr (3, [.ref g1, .ref g2, .ref g3, .ref g4, .ref g5, .int (nI cnt)])), (g2, .inl (cyZ, 24, .inl (fun k => xb (bro k)))), (g3, .inl (cyI, 24, .inl (fun k => nI (scr k)))), (g4, .inl (cyI, 24, .inl (fun k => nI (plu k)))), (g5, .inl (cyI, 24, .inl (fun k => nI (las k))))])) 0 0 (xA [(g0, .inr (3, [.ref g1, .ref g2, .ref g3, .ref g4, .ref g5, .int (nI cnt)])), (g2, .inl (cyZ, 24, .inl (fun k => xb (bro k)))), (g3, .inl (cyI, 24, .inl (fun k => nI (scr k)))), (g4, .inl (cyI, 24, .inl (fun k => nI (plu k)))), (g5, .inl (cyI, 24, .inl (fun k => nI (las k))))]) := by
  refine Met.ofW (cc := cX1_pluckTooth) (maxL := 4) (ret := (some .boolean)) (by decide) rfl ?_
  intro p e s m args below meth c s₁ B hml hv
  obtain ⟨rfl, hP, hK, hD0⟩ := hv
  have hx := B.exec
  have hb := B.bytes
  have hr := B.returns
  have hts := atoms_spec (ws := wsX1_pluckTooth) B.pre
  have hown : s.vm.findClass RX1 = some m.cls := findClass_of_methodNamed B.named
  have hlocks := B.notSynchronized
  have hD := xA_self hD0
  clear hD0
  generalize hAe : xA [(g0, .inr (3, [.ref g1, .ref g2, .ref g3, .ref g4, .ref g5, .int (nI cnt)])), (g2, .inl (cyZ, 24, .inl (fun k => xb (bro k)))), (g3, .inl (cyI, 24, .inl (fun k => nI (scr k)))), (g4, .inl (cyI, 24, .inl (fun k => nI (plu k)))), (g5, .inl (cyI, 24, .inl (fun k => nI (las k))))] = A at hD ⊢
  have hS : va_S A s.heap s.heap [] := va_S.rf
  have hP : va_P (dC, dI) vwCl [(g0, .inr (3, [.ref g1, .ref g2, .ref g3, .ref g4, .ref g5, .int (nI cnt)])), (g2, .inl (cyZ, 24, .inl (fun k => xb (bro k)))), (g3, .inl (cyI, 24, .inl (fun k => nI (scr k)))), (g4, .inl (cyI, 24, .inl (fun k => nI (plu k)))), (g5, .inl (cyI, 24, .inl (fun k => nI (las k))))] s.heap := hP
  have hl := lv_entry ([.ref g0, .int (nI tn), .int (nI st)]) (n := 4) (Nat.le_of_ble_eq_true rfl)
  rw [lg_entry_eq]
  generalize (lg_sl ([.ref g0, .int (nI tn), .int (nI st)]) ++ List.replicate (4 - (lg_sl ([.ref g0, .int (nI tn), .int (nI st)])).length) Slot.unset).toArray = ls at hl ⊢
  have hl : lv_has ls 4 [(0, .ref g0), (1, .int (nI tn)), (2, .int (nI st))] := hl
  refine lv_aload_n hx hb dX1_pluckTooth_0 rfl (lv_at hl 0 rfl) ?_
  refine va_get (D := (dC, dI)) (ci := 3) (v := .ref g4) (C := RX1) (T := TX1) (N := 6) hx hb hts inX1_pluckTooth_X1 hown hK hP 0 rfl rfl 3 (by decide) (hts _ mX1_pluckTooth_fieldLink_RX1_22_PinBarrel_Comb_plucks_I) (fun _ h9 => h9) rfl dX1_pluckTooth_1 ?_
  refine lv_iload_n hx hb dX1_pluckTooth_4 rfl (lv_at hl 1 rfl) ?_
  refine xl_I (f := plu) hx hb hK hP 3 0 rfl rfl (by omega) (by decide) dX1_pluckTooth_5 ?_
  refine lv_if_le (tgt := 26) hx hb dX1_pluckTooth_6 (by decide) (fun c_1 => ?_) (fun c_1 => ?_)
  · refine lv_iconst (v := nI 0) hx hb dX1_pluckTooth_26 (by decide) ?_
    refine lv_istore_n (lv' := [(3, .int (nI 0)), (0, .ref g0), (1, .int (nI tn)), (2, .int (nI st))]) hx hb dX1_pluckTooth_27 rfl hl (by decide) rfl (fun ls hl => ?_)
    refine lv_aload_n hx hb dX1_pluckTooth_28 rfl (lv_at hl 1 rfl) ?_
    refine va_get (D := (dC, dI)) (ci := 3) (v := .ref g4) (C := RX1) (T := TX1) (N := 6) hx hb hts inX1_pluckTooth_X1 hown hK hP 0 rfl rfl 3 (by decide) (hts _ mX1_pluckTooth_fieldLink_RX1_22_PinBarrel_Comb_plucks_I) (fun _ h9 => h9) rfl dX1_pluckTooth_29 ?_
    refine lv_iload_n hx hb dX1_pluckTooth_32 rfl (lv_at hl 2 rfl) ?_
    refine lv_dup2_11 hx hb dX1_pluckTooth_33 rfl rfl ?_
    refine xl_I (f := plu) hx hb hK hP 3 0 rfl rfl (by omega) (by decide) dX1_pluckTooth_34 ?_
    refine lv_iconst (v := nI 1) hx hb dX1_pluckTooth_35 (by decide) ?_
    refine xi_add hx hb dX1_pluckTooth_36 ?_
    refine xt_I (f := plu) (x := ((plu tn) + 1)) hx hb hK hP hD hS 3 0 rfl rfl (by omega) (by decide) dX1_pluckTooth_37 (fun H locs hP hD hS => ?_)
    have hP : va_P (dC, dI) vwCl [(g0, .inr (3, [.ref g1, .ref g2, .ref g3, .ref g4, .ref g5, .int (nI cnt)])), (g2, .inl (cyZ, 24, .inl (fun k => xb (bro k)))), (g3, .inl (cyI, 24, .inl (fun k => nI (scr k)))), (g4, .inl (cyI, 24, .inl (fun k => nI ((va_up plu tn ((plu tn) + 1)) k)))), (g5, .inl (cyI, 24, .inl (fun k => nI (las k))))] H := hP
    have hD : va_D A [(g0, .inr (3, [.ref g1, .ref g2, .ref g3, .ref g4, .ref g5, .int (nI cnt)])), (g2, .inl (cyZ, 24, .inl (fun k => xb (bro k)))), (g3, .inl (cyI, 24, .inl (fun k => nI (scr k)))), (g4, .inl (cyI, 24, .inl (fun k => nI ((va_up plu tn ((plu tn) + 1)) k)))), (g5, .inl (cyI, 24, .inl (fun k => nI (las k))))] := hD
    refine lv_aload_n hx hb dX1_pluckTooth_38 rfl (lv_at hl 1 rfl) ?_
    refine va_get (D := (dC, dI)) (ci := 3) (v := .ref g5) (C := RX1) (T := TX1) (N := 6) hx hb hts inX1_pluckTooth_X1 hown hK hP 0 rfl rfl 4 (by decide) (hts _ mX1_pluckTooth_fieldLink_RX1_25_PinBarrel_Comb_lastPluck_I) (fun _ h9 => h9) rfl dX1_pluckTooth_39 ?_
    refine lv_iload_n hx hb dX1_pluckTooth_42 rfl (lv_at hl 2 rfl) ?_
    refine lv_iload_n hx hb dX1_pluckTooth_43 rfl (lv_at hl 3 rfl) ?_
    refine xt_I (f := las) (x := st) hx hb hK hP hD hS 4 0 rfl rfl (by omega) (by decide) dX1_pluckTooth_44 (fun H locs hP hD hS => ?_)
    have hP : va_P (dC, dI) vwCl [(g0, .inr (3, [.ref g1, .ref g2, .ref g3, .ref g4, .ref g5, .int (nI cnt)])), (g2, .inl (cyZ, 24, .inl (fun k => xb (bro k)))), (g3, .inl (cyI, 24, .inl (fun k => nI (scr k)))), (g4, .inl (cyI, 24, .inl (fun k => nI ((va_up plu tn ((plu tn) + 1)) k)))), (g5, .inl (cyI, 24, .inl (fun k => nI ((va_up las tn st) k))))] H := hP
    have hD : va_D A [(g0, .inr (3, [.ref g1, .ref g2, .ref g3, .ref g4, .ref g5, .int (nI cnt)])), (g2, .inl (cyZ, 24, .inl (fun k => xb (bro k)))), (g3, .inl (cyI, 24, .inl (fun k => nI (scr k)))), (g4, .inl (cyI, 24, .inl (fun k => nI ((va_up plu tn ((plu tn) + 1)) k)))), (g5, .inl (cyI, 24, .inl (fun k => nI ((va_up las tn st) k))))] := hD
    refine lv_iload_n hx hb dX1_pluckTooth_45 rfl (lv_at hl 0 rfl) ?_
    refine xz_eq (tgt := 80) hx hb dX1_pluckTooth_46 (by decide) (by omega) (fun c_2 => ?_) (fun c_2 => by omega)
    refine lv_iload_n hx hb dX1_pluckTooth_80 rfl (lv_at hl 0 rfl) ?_
    have hz : isBz plu las tn st = false := by unfold isBz; rw [decide_eq_false (fun h => h c_1)]; rfl
    have e1 : (if isBz plu las tn st then va_up bro tn (decide (4 ≤ scr tn + 1)) else bro) = bro := by rw [hz]; rfl
    have e2 : (if isBz plu las tn st then va_up scr tn (scr tn + 1) else scr) = scr := by rw [hz]; rfl
    have hP := xW_eqP (w1 := [(g0, .inr (3, [.ref g1, .ref g2, .ref g3, .ref g4, .ref g5, .int (nI cnt)])), (g2, .inl (cyZ, 24, .inl (fun k => xb ((if isBz plu las tn st then va_up bro tn (decide (4 ≤ scr tn + 1)) else bro) k)))), (g3, .inl (cyI, 24, .inl (fun k => nI ((if isBz plu las tn st then va_up scr tn (scr tn + 1) else scr) k)))), (g4, .inl (cyI, 24, .inl (fun k => nI ((va_up plu tn (plu tn + 1)) k)))), (g5, .inl (cyI, 24, .inl (fun k => nI ((va_up las tn st) k))))]) hP (by rw [e1, e2])
    have hD := xW_eqD (w1 := [(g0, .inr (3, [.ref g1, .ref g2, .ref g3, .ref g4, .ref g5, .int (nI cnt)])), (g2, .inl (cyZ, 24, .inl (fun k => xb ((if isBz plu las tn st then va_up bro tn (decide (4 ≤ scr tn + 1)) else bro) k)))), (g3, .inl (cyI, 24, .inl (fun k => nI ((if isBz plu las tn st then va_up scr tn (scr tn + 1) else scr) k)))), (g4, .inl (cyI, 24, .inl (fun k => nI ((va_up plu tn (plu tn + 1)) k)))), (g5, .inl (cyI, 24, .inl (fun k => nI ((va_up las tn st) k))))]) hD (by rw [e1, e2])
    have hP9 : va_P (dC, dI) vwCl [(g0, .inr (3, [.ref g1, .ref g2, .ref g3, .ref g4, .ref g5, .int (nI cnt)])), (g2, .inl (cyZ, 24, .inl (fun k => xb ((if isBz plu las tn st then va_up bro tn (decide (4 ≤ scr tn + 1)) else bro) k)))), (g3, .inl (cyI, 24, .inl (fun k => nI ((if isBz plu las tn st then va_up scr tn (scr tn + 1) else scr) k)))), (g4, .inl (cyI, 24, .inl (fun k => nI ((va_up plu tn (plu tn + 1)) k)))), (g5, .inl (cyI, 24, .inl (fun k => nI ((va_up las tn st) k))))] _ := hP
    have hD9 : va_D A [(g0, .inr (3, [.ref g1, .ref g2, .ref g3, .ref g4, .ref g5, .int (nI cnt)])), (g2, .inl (cyZ, 24, .inl (fun k => xb ((if isBz plu las tn st then va_up bro tn (decide (4 ≤ scr tn + 1)) else bro) k)))), (g3, .inl (cyI, 24, .inl (fun k => nI ((if isBz plu las tn st then va_up scr tn (scr tn + 1) else scr) k)))), (g4, .inl (cyI, 24, .inl (fun k => nI ((va_up plu tn (plu tn + 1)) k)))), (g5, .inl (cyI, 24, .inl (fun k => nI ((va_up las tn st) k))))] := hD
    exact W.zret (v := nI 0) (ty := .boolean) hx hb hr rfl (fun t ht hW => ⟨⟨nI 0, (), rfl, (xb_f hz).symm, ⟨by rw [ht]; exact hP9, hD9⟩⟩, hS.F ht⟩) hS.2.2 dX1_pluckTooth_81
  · refine lv_iload_n hx hb dX1_pluckTooth_9 rfl (lv_at hl 2 rfl) ?_
    refine lv_aload_n hx hb dX1_pluckTooth_10 rfl (lv_at hl 0 rfl) ?_
    refine va_get (D := (dC, dI)) (ci := 3) (v := .ref g5) (C := RX1) (T := TX1) (N := 6) hx hb hts inX1_pluckTooth_X1 hown hK hP 0 rfl rfl 4 (by decide) (hts _ mX1_pluckTooth_fieldLink_RX1_25_PinBarrel_Comb_lastPluck_I) (fun _ h9 => h9) rfl dX1_pluckTooth_11 ?_
    refine lv_iload_n hx hb dX1_pluckTooth_14 rfl (lv_at hl 1 rfl) ?_
    refine xl_I (f := las) hx hb hK hP 4 0 rfl rfl (by omega) (by decide) dX1_pluckTooth_15 ?_
    refine lv_isub hx hb dX1_pluckTooth_16 ?_
    refine lv_bipush (v := nI 8) hx hb dX1_pluckTooth_17 (by decide) ?_
    refine lv_icmp_ge (tgt := 26) hx hb dX1_pluckTooth_19 (by decide) (fun c_3 => ?_) (fun c_3 => ?_)
    · refine lv_iconst (v := nI 0) hx hb dX1_pluckTooth_26 (by decide) ?_
      refine lv_istore_n (lv' := [(3, .int (nI 0)), (0, .ref g0), (1, .int (nI tn)), (2, .int (nI st))]) hx hb dX1_pluckTooth_27 rfl hl (by decide) rfl (fun ls hl => ?_)
      refine lv_aload_n hx hb dX1_pluckTooth_28 rfl (lv_at hl 1 rfl) ?_
      refine va_get (D := (dC, dI)) (ci := 3) (v := .ref g4) (C := RX1) (T := TX1) (N := 6) hx hb hts inX1_pluckTooth_X1 hown hK hP 0 rfl rfl 3 (by decide) (hts _ mX1_pluckTooth_fieldLink_RX1_22_PinBarrel_Comb_plucks_I) (fun _ h9 => h9) rfl dX1_pluckTooth_29 ?_
      refine lv_iload_n hx hb dX1_pluckTooth_32 rfl (lv_at hl 2 rfl) ?_
      refine lv_dup2_11 hx hb dX1_pluckTooth_33 rfl rfl ?_
      refine xl_I (f := plu) hx hb hK hP 3 0 rfl rfl (by omega) (by decide) dX1_pluckTooth_34 ?_
      refine lv_iconst (v := nI 1) hx hb dX1_pluckTooth_35 (by decide) ?_
      refine xi_add hx hb dX1_pluckTooth_36 ?_
      refine xt_I (f := plu) (x := ((plu tn) + 1)) hx hb hK hP hD hS 3 0 rfl rfl (by omega) (by decide) dX1_pluckTooth_37 (fun H locs hP hD hS => ?_)
      have hP : va_P (dC, dI) vwCl [(g0, .inr (3, [.ref g1, .ref g2, .ref g3, .ref g4, .ref g5, .int (nI cnt)])), (g2, .inl (cyZ, 24, .inl (fun k => xb (bro k)))), (g3, .inl (cyI, 24, .inl (fun k => nI (scr k)))), (g4, .inl (cyI, 24, .inl (fun k => nI ((va_up plu tn ((plu tn) + 1)) k)))), (g5, .inl (cyI, 24, .inl (fun k => nI (las k))))] H := hP
      have hD : va_D A [(g0, .inr (3, [.ref g1, .ref g2, .ref g3, .ref g4, .ref g5, .int (nI cnt)])), (g2, .inl (cyZ, 24, .inl (fun k => xb (bro k)))), (g3, .inl (cyI, 24, .inl (fun k => nI (scr k)))), (g4, .inl (cyI, 24, .inl (fun k => nI ((va_up plu tn ((plu tn) + 1)) k)))), (g5, .inl (cyI, 24, .inl (fun k => nI (las k))))] := hD
      refine lv_aload_n hx hb dX1_pluckTooth_38 rfl (lv_at hl 1 rfl) ?_
      refine va_get (D := (dC, dI)) (ci := 3) (v := .ref g5) (C := RX1) (T := TX1) (N := 6) hx hb hts inX1_pluckTooth_X1 hown hK hP 0 rfl rfl 4 (by decide) (hts _ mX1_pluckTooth_fieldLink_RX1_25_PinBarrel_Comb_lastPluck_I) (fun _ h9 => h9) rfl dX1_pluckTooth_39 ?_
      refine lv_iload_n hx hb dX1_pluckTooth_42 rfl (lv_at hl 2 rfl) ?_
      refine lv_iload_n hx hb dX1_pluckTooth_43 rfl (lv_at hl 3 rfl) ?_
      refine xt_I (f := las) (x := st) hx hb hK hP hD hS 4 0 rfl rfl (by omega) (by decide) dX1_pluckTooth_44 (fun H locs hP hD hS => ?_)
      have hP : va_P (dC, dI) vwCl [(g0, .inr (3, [.ref g1, .ref g2, .ref g3, .ref g4, .ref g5, .int (nI cnt)])), (g2, .inl (cyZ, 24, .inl (fun k => xb (bro k)))), (g3, .inl (cyI, 24, .inl (fun k => nI (scr k)))), (g4, .inl (cyI, 24, .inl (fun k => nI ((va_up plu tn ((plu tn) + 1)) k)))), (g5, .inl (cyI, 24, .inl (fun k => nI ((va_up las tn st) k))))] H := hP
      have hD : va_D A [(g0, .inr (3, [.ref g1, .ref g2, .ref g3, .ref g4, .ref g5, .int (nI cnt)])), (g2, .inl (cyZ, 24, .inl (fun k => xb (bro k)))), (g3, .inl (cyI, 24, .inl (fun k => nI (scr k)))), (g4, .inl (cyI, 24, .inl (fun k => nI ((va_up plu tn ((plu tn) + 1)) k)))), (g5, .inl (cyI, 24, .inl (fun k => nI ((va_up las tn st) k))))] := hD
      refine lv_iload_n hx hb dX1_pluckTooth_45 rfl (lv_at hl 0 rfl) ?_
      refine xz_eq (tgt := 80) hx hb dX1_pluckTooth_46 (by decide) (by omega) (fun c_4 => ?_) (fun c_4 => by omega)
      refine lv_iload_n hx hb dX1_pluckTooth_80 rfl (lv_at hl 0 rfl) ?_
      have hz : isBz plu las tn st = false := by unfold isBz; rw [decide_eq_false (p := ¬ nI 8 ≤ nI st - nI (las tn)) (fun h => h c_3), Bool.and_false]
      have e1 : (if isBz plu las tn st then va_up bro tn (decide (4 ≤ scr tn + 1)) else bro) = bro := by rw [hz]; rfl
      have e2 : (if isBz plu las tn st then va_up scr tn (scr tn + 1) else scr) = scr := by rw [hz]; rfl
      have hP := xW_eqP (w1 := [(g0, .inr (3, [.ref g1, .ref g2, .ref g3, .ref g4, .ref g5, .int (nI cnt)])), (g2, .inl (cyZ, 24, .inl (fun k => xb ((if isBz plu las tn st then va_up bro tn (decide (4 ≤ scr tn + 1)) else bro) k)))), (g3, .inl (cyI, 24, .inl (fun k => nI ((if isBz plu las tn st then va_up scr tn (scr tn + 1) else scr) k)))), (g4, .inl (cyI, 24, .inl (fun k => nI ((va_up plu tn (plu tn + 1)) k)))), (g5, .inl (cyI, 24, .inl (fun k => nI ((va_up las tn st) k))))]) hP (by rw [e1, e2])
      have hD := xW_eqD (w1 := [(g0, .inr (3, [.ref g1, .ref g2, .ref g3, .ref g4, .ref g5, .int (nI cnt)])), (g2, .inl (cyZ, 24, .inl (fun k => xb ((if isBz plu las tn st then va_up bro tn (decide (4 ≤ scr tn + 1)) else bro) k)))), (g3, .inl (cyI, 24, .inl (fun k => nI ((if isBz plu las tn st then va_up scr tn (scr tn + 1) else scr) k)))), (g4, .inl (cyI, 24, .inl (fun k => nI ((va_up plu tn (plu tn + 1)) k)))), (g5, .inl (cyI, 24, .inl (fun k => nI ((va_up las tn st) k))))]) hD (by rw [e1, e2])
      have hP9 : va_P (dC, dI) vwCl [(g0, .inr (3, [.ref g1, .ref g2, .ref g3, .ref g4, .ref g5, .int (nI cnt)])), (g2, .inl (cyZ, 24, .inl (fun k => xb ((if isBz plu las tn st then va_up bro tn (decide (4 ≤ scr tn + 1)) else bro) k)))), (g3, .inl (cyI, 24, .inl (fun k => nI ((if isBz plu las tn st then va_up scr tn (scr tn + 1) else scr) k)))), (g4, .inl (cyI, 24, .inl (fun k => nI ((va_up plu tn (plu tn + 1)) k)))), (g5, .inl (cyI, 24, .inl (fun k => nI ((va_up las tn st) k))))] _ := hP
      have hD9 : va_D A [(g0, .inr (3, [.ref g1, .ref g2, .ref g3, .ref g4, .ref g5, .int (nI cnt)])), (g2, .inl (cyZ, 24, .inl (fun k => xb ((if isBz plu las tn st then va_up bro tn (decide (4 ≤ scr tn + 1)) else bro) k)))), (g3, .inl (cyI, 24, .inl (fun k => nI ((if isBz plu las tn st then va_up scr tn (scr tn + 1) else scr) k)))), (g4, .inl (cyI, 24, .inl (fun k => nI ((va_up plu tn (plu tn + 1)) k)))), (g5, .inl (cyI, 24, .inl (fun k => nI ((va_up las tn st) k))))] := hD
      exact W.zret (v := nI 0) (ty := .boolean) hx hb hr rfl (fun t ht hW => ⟨⟨nI 0, (), rfl, (xb_f hz).symm, ⟨by rw [ht]; exact hP9, hD9⟩⟩, hS.F ht⟩) hS.2.2 dX1_pluckTooth_81
    · refine lv_iconst (v := nI 1) hx hb dX1_pluckTooth_22 (by decide) ?_
      refine lv_goto (tgt := 27) hx hb dX1_pluckTooth_23 (by decide) ?_
      refine lv_istore_n (lv' := [(3, .int (nI 1)), (0, .ref g0), (1, .int (nI tn)), (2, .int (nI st))]) hx hb dX1_pluckTooth_27 rfl hl (by decide) rfl (fun ls hl => ?_)
      refine lv_aload_n hx hb dX1_pluckTooth_28 rfl (lv_at hl 1 rfl) ?_
      refine va_get (D := (dC, dI)) (ci := 3) (v := .ref g4) (C := RX1) (T := TX1) (N := 6) hx hb hts inX1_pluckTooth_X1 hown hK hP 0 rfl rfl 3 (by decide) (hts _ mX1_pluckTooth_fieldLink_RX1_22_PinBarrel_Comb_plucks_I) (fun _ h9 => h9) rfl dX1_pluckTooth_29 ?_
      refine lv_iload_n hx hb dX1_pluckTooth_32 rfl (lv_at hl 2 rfl) ?_
      refine lv_dup2_11 hx hb dX1_pluckTooth_33 rfl rfl ?_
      refine xl_I (f := plu) hx hb hK hP 3 0 rfl rfl (by omega) (by decide) dX1_pluckTooth_34 ?_
      refine lv_iconst (v := nI 1) hx hb dX1_pluckTooth_35 (by decide) ?_
      refine xi_add hx hb dX1_pluckTooth_36 ?_
      refine xt_I (f := plu) (x := ((plu tn) + 1)) hx hb hK hP hD hS 3 0 rfl rfl (by omega) (by decide) dX1_pluckTooth_37 (fun H locs hP hD hS => ?_)
      have hP : va_P (dC, dI) vwCl [(g0, .inr (3, [.ref g1, .ref g2, .ref g3, .ref g4, .ref g5, .int (nI cnt)])), (g2, .inl (cyZ, 24, .inl (fun k => xb (bro k)))), (g3, .inl (cyI, 24, .inl (fun k => nI (scr k)))), (g4, .inl (cyI, 24, .inl (fun k => nI ((va_up plu tn ((plu tn) + 1)) k)))), (g5, .inl (cyI, 24, .inl (fun k => nI (las k))))] H := hP
      have hD : va_D A [(g0, .inr (3, [.ref g1, .ref g2, .ref g3, .ref g4, .ref g5, .int (nI cnt)])), (g2, .inl (cyZ, 24, .inl (fun k => xb (bro k)))), (g3, .inl (cyI, 24, .inl (fun k => nI (scr k)))), (g4, .inl (cyI, 24, .inl (fun k => nI ((va_up plu tn ((plu tn) + 1)) k)))), (g5, .inl (cyI, 24, .inl (fun k => nI (las k))))] := hD
      refine lv_aload_n hx hb dX1_pluckTooth_38 rfl (lv_at hl 1 rfl) ?_
      refine va_get (D := (dC, dI)) (ci := 3) (v := .ref g5) (C := RX1) (T := TX1) (N := 6) hx hb hts inX1_pluckTooth_X1 hown hK hP 0 rfl rfl 4 (by decide) (hts _ mX1_pluckTooth_fieldLink_RX1_25_PinBarrel_Comb_lastPluck_I) (fun _ h9 => h9) rfl dX1_pluckTooth_39 ?_
      refine lv_iload_n hx hb dX1_pluckTooth_42 rfl (lv_at hl 2 rfl) ?_
      refine lv_iload_n hx hb dX1_pluckTooth_43 rfl (lv_at hl 3 rfl) ?_
      refine xt_I (f := las) (x := st) hx hb hK hP hD hS 4 0 rfl rfl (by omega) (by decide) dX1_pluckTooth_44 (fun H locs hP hD hS => ?_)
      have hP : va_P (dC, dI) vwCl [(g0, .inr (3, [.ref g1, .ref g2, .ref g3, .ref g4, .ref g5, .int (nI cnt)])), (g2, .inl (cyZ, 24, .inl (fun k => xb (bro k)))), (g3, .inl (cyI, 24, .inl (fun k => nI (scr k)))), (g4, .inl (cyI, 24, .inl (fun k => nI ((va_up plu tn ((plu tn) + 1)) k)))), (g5, .inl (cyI, 24, .inl (fun k => nI ((va_up las tn st) k))))] H := hP
      have hD : va_D A [(g0, .inr (3, [.ref g1, .ref g2, .ref g3, .ref g4, .ref g5, .int (nI cnt)])), (g2, .inl (cyZ, 24, .inl (fun k => xb (bro k)))), (g3, .inl (cyI, 24, .inl (fun k => nI (scr k)))), (g4, .inl (cyI, 24, .inl (fun k => nI ((va_up plu tn ((plu tn) + 1)) k)))), (g5, .inl (cyI, 24, .inl (fun k => nI ((va_up las tn st) k))))] := hD
      refine lv_iload_n hx hb dX1_pluckTooth_45 rfl (lv_at hl 0 rfl) ?_
      refine xz_eq (tgt := 80) hx hb dX1_pluckTooth_46 (by decide) (by omega) (fun c_5 => by omega) (fun c_5 => ?_)
      refine lv_aload_n hx hb dX1_pluckTooth_49 rfl (lv_at hl 1 rfl) ?_
      refine va_get (D := (dC, dI)) (ci := 3) (v := .ref g3) (C := RX1) (T := TX1) (N := 6) hx hb hts inX1_pluckTooth_X1 hown hK hP 0 rfl rfl 2 (by decide) (hts _ mX1_pluckTooth_fieldLink_RX1_19_PinBarrel_Comb_scratches_I) (fun _ h9 => h9) rfl dX1_pluckTooth_50 ?_
      refine lv_iload_n hx hb dX1_pluckTooth_53 rfl (lv_at hl 2 rfl) ?_
      refine lv_dup2_11 hx hb dX1_pluckTooth_54 rfl rfl ?_
      refine xl_I (f := scr) hx hb hK hP 2 0 rfl rfl (by omega) (by decide) dX1_pluckTooth_55 ?_
      refine lv_iconst (v := nI 1) hx hb dX1_pluckTooth_56 (by decide) ?_
      refine xi_add hx hb dX1_pluckTooth_57 ?_
      refine xt_I (f := scr) (x := ((scr tn) + 1)) hx hb hK hP hD hS 2 0 rfl rfl (by omega) (by decide) dX1_pluckTooth_58 (fun H locs hP hD hS => ?_)
      have hP : va_P (dC, dI) vwCl [(g0, .inr (3, [.ref g1, .ref g2, .ref g3, .ref g4, .ref g5, .int (nI cnt)])), (g2, .inl (cyZ, 24, .inl (fun k => xb (bro k)))), (g3, .inl (cyI, 24, .inl (fun k => nI ((va_up scr tn ((scr tn) + 1)) k)))), (g4, .inl (cyI, 24, .inl (fun k => nI ((va_up plu tn ((plu tn) + 1)) k)))), (g5, .inl (cyI, 24, .inl (fun k => nI ((va_up las tn st) k))))] H := hP
      have hD : va_D A [(g0, .inr (3, [.ref g1, .ref g2, .ref g3, .ref g4, .ref g5, .int (nI cnt)])), (g2, .inl (cyZ, 24, .inl (fun k => xb (bro k)))), (g3, .inl (cyI, 24, .inl (fun k => nI ((va_up scr tn ((scr tn) + 1)) k)))), (g4, .inl (cyI, 24, .inl (fun k => nI ((va_up plu tn ((plu tn) + 1)) k)))), (g5, .inl (cyI, 24, .inl (fun k => nI ((va_up las tn st) k))))] := hD
      refine lv_aload_n hx hb dX1_pluckTooth_59 rfl (lv_at hl 1 rfl) ?_
      refine va_get (D := (dC, dI)) (ci := 3) (v := .ref g2) (C := RX1) (T := TX1) (N := 6) hx hb hts inX1_pluckTooth_X1 hown hK hP 0 rfl rfl 1 (by decide) (hts _ mX1_pluckTooth_fieldLink_RX1_15_PinBarrel_Comb_broken_Z) (fun _ h9 => h9) rfl dX1_pluckTooth_60 ?_
      refine lv_iload_n hx hb dX1_pluckTooth_63 rfl (lv_at hl 2 rfl) ?_
      refine lv_aload_n hx hb dX1_pluckTooth_64 rfl (lv_at hl 1 rfl) ?_
      refine va_get (D := (dC, dI)) (ci := 3) (v := .ref g3) (C := RX1) (T := TX1) (N := 6) hx hb hts inX1_pluckTooth_X1 hown hK hP 0 rfl rfl 2 (by decide) (hts _ mX1_pluckTooth_fieldLink_RX1_19_PinBarrel_Comb_scratches_I) (fun _ h9 => h9) rfl dX1_pluckTooth_65 ?_
      refine lv_iload_n hx hb dX1_pluckTooth_68 rfl (lv_at hl 2 rfl) ?_
      refine xl_I (f := (va_up scr tn ((scr tn) + 1))) hx hb hK hP 2 0 rfl rfl (by omega) (by decide) dX1_pluckTooth_69 ?_
      rw [xu_self]
      refine lv_iconst (v := nI 4) hx hb dX1_pluckTooth_70 (by decide) ?_
      refine xc_lt (tgt := 78) hx hb dX1_pluckTooth_71 (by decide) (by omega) (by omega) (fun c_6 => ?_) (fun c_6 => ?_)
      · refine lv_iconst (v := nI 0) hx hb dX1_pluckTooth_78 (by decide) ?_
        rw [show nI 0 = xb false from rfl]
        refine xt_Z (f := bro) (x := false) hx hb hK hP hD hS 1 1 rfl rfl (by omega) (by decide) dX1_pluckTooth_79 (fun H locs hP hD hS => ?_)
        have hP : va_P (dC, dI) vwCl [(g0, .inr (3, [.ref g1, .ref g2, .ref g3, .ref g4, .ref g5, .int (nI cnt)])), (g2, .inl (cyZ, 24, .inl (fun k => xb ((va_up bro tn false) k)))), (g3, .inl (cyI, 24, .inl (fun k => nI ((va_up scr tn ((scr tn) + 1)) k)))), (g4, .inl (cyI, 24, .inl (fun k => nI ((va_up plu tn ((plu tn) + 1)) k)))), (g5, .inl (cyI, 24, .inl (fun k => nI ((va_up las tn st) k))))] H := hP
        have hD : va_D A [(g0, .inr (3, [.ref g1, .ref g2, .ref g3, .ref g4, .ref g5, .int (nI cnt)])), (g2, .inl (cyZ, 24, .inl (fun k => xb ((va_up bro tn false) k)))), (g3, .inl (cyI, 24, .inl (fun k => nI ((va_up scr tn ((scr tn) + 1)) k)))), (g4, .inl (cyI, 24, .inl (fun k => nI ((va_up plu tn ((plu tn) + 1)) k)))), (g5, .inl (cyI, 24, .inl (fun k => nI ((va_up las tn st) k))))] := hD
        refine lv_iload_n hx hb dX1_pluckTooth_80 rfl (lv_at hl 0 rfl) ?_
        have hz : isBz plu las tn st = true := by unfold isBz; rw [decide_eq_true c_1, decide_eq_true c_3]; rfl
        have e1 : (if isBz plu las tn st then va_up bro tn (decide (4 ≤ scr tn + 1)) else bro) = va_up bro tn false := by rw [if_pos hz, decide_eq_false (by omega)]
        have e2 : (if isBz plu las tn st then va_up scr tn (scr tn + 1) else scr) = va_up scr tn (scr tn + 1) := if_pos hz
        rw [← e1, ← e2] at hP hD
        have hP9 : va_P (dC, dI) vwCl [(g0, .inr (3, [.ref g1, .ref g2, .ref g3, .ref g4, .ref g5, .int (nI cnt)])), (g2, .inl (cyZ, 24, .inl (fun k => xb ((if isBz plu las tn st then va_up bro tn (decide (4 ≤ scr tn + 1)) else bro) k)))), (g3, .inl (cyI, 24, .inl (fun k => nI ((if isBz plu las tn st then va_up scr tn (scr tn + 1) else scr) k)))), (g4, .inl (cyI, 24, .inl (fun k => nI ((va_up plu tn (plu tn + 1)) k)))), (g5, .inl (cyI, 24, .inl (fun k => nI ((va_up las tn st) k))))] _ := hP
        have hD9 : va_D A [(g0, .inr (3, [.ref g1, .ref g2, .ref g3, .ref g4, .ref g5, .int (nI cnt)])), (g2, .inl (cyZ, 24, .inl (fun k => xb ((if isBz plu las tn st then va_up bro tn (decide (4 ≤ scr tn + 1)) else bro) k)))), (g3, .inl (cyI, 24, .inl (fun k => nI ((if isBz plu las tn st then va_up scr tn (scr tn + 1) else scr) k)))), (g4, .inl (cyI, 24, .inl (fun k => nI ((va_up plu tn (plu tn + 1)) k)))), (g5, .inl (cyI, 24, .inl (fun k => nI ((va_up las tn st) k))))] := hD
        exact W.zret (v := nI 1) (ty := .boolean) hx hb hr rfl (fun t ht hW => ⟨⟨nI 1, (), rfl, (xb_t hz).symm, ⟨by rw [ht]; exact hP9, hD9⟩⟩, hS.F ht⟩) hS.2.2 dX1_pluckTooth_81
      · refine lv_iconst (v := nI 1) hx hb dX1_pluckTooth_74 (by decide) ?_
        refine lv_goto (tgt := 79) hx hb dX1_pluckTooth_75 (by decide) ?_
        rw [show nI 1 = xb true from rfl]
        refine xt_Z (f := bro) (x := true) hx hb hK hP hD hS 1 1 rfl rfl (by omega) (by decide) dX1_pluckTooth_79 (fun H locs hP hD hS => ?_)
        have hP : va_P (dC, dI) vwCl [(g0, .inr (3, [.ref g1, .ref g2, .ref g3, .ref g4, .ref g5, .int (nI cnt)])), (g2, .inl (cyZ, 24, .inl (fun k => xb ((va_up bro tn true) k)))), (g3, .inl (cyI, 24, .inl (fun k => nI ((va_up scr tn ((scr tn) + 1)) k)))), (g4, .inl (cyI, 24, .inl (fun k => nI ((va_up plu tn ((plu tn) + 1)) k)))), (g5, .inl (cyI, 24, .inl (fun k => nI ((va_up las tn st) k))))] H := hP
        have hD : va_D A [(g0, .inr (3, [.ref g1, .ref g2, .ref g3, .ref g4, .ref g5, .int (nI cnt)])), (g2, .inl (cyZ, 24, .inl (fun k => xb ((va_up bro tn true) k)))), (g3, .inl (cyI, 24, .inl (fun k => nI ((va_up scr tn ((scr tn) + 1)) k)))), (g4, .inl (cyI, 24, .inl (fun k => nI ((va_up plu tn ((plu tn) + 1)) k)))), (g5, .inl (cyI, 24, .inl (fun k => nI ((va_up las tn st) k))))] := hD
        refine lv_iload_n hx hb dX1_pluckTooth_80 rfl (lv_at hl 0 rfl) ?_
        have hz : isBz plu las tn st = true := by unfold isBz; rw [decide_eq_true c_1, decide_eq_true c_3]; rfl
        have e1 : (if isBz plu las tn st then va_up bro tn (decide (4 ≤ scr tn + 1)) else bro) = va_up bro tn true := by rw [if_pos hz, decide_eq_true (by omega)]
        have e2 : (if isBz plu las tn st then va_up scr tn (scr tn + 1) else scr) = va_up scr tn (scr tn + 1) := if_pos hz
        rw [← e1, ← e2] at hP hD
        have hP9 : va_P (dC, dI) vwCl [(g0, .inr (3, [.ref g1, .ref g2, .ref g3, .ref g4, .ref g5, .int (nI cnt)])), (g2, .inl (cyZ, 24, .inl (fun k => xb ((if isBz plu las tn st then va_up bro tn (decide (4 ≤ scr tn + 1)) else bro) k)))), (g3, .inl (cyI, 24, .inl (fun k => nI ((if isBz plu las tn st then va_up scr tn (scr tn + 1) else scr) k)))), (g4, .inl (cyI, 24, .inl (fun k => nI ((va_up plu tn (plu tn + 1)) k)))), (g5, .inl (cyI, 24, .inl (fun k => nI ((va_up las tn st) k))))] _ := hP
        have hD9 : va_D A [(g0, .inr (3, [.ref g1, .ref g2, .ref g3, .ref g4, .ref g5, .int (nI cnt)])), (g2, .inl (cyZ, 24, .inl (fun k => xb ((if isBz plu las tn st then va_up bro tn (decide (4 ≤ scr tn + 1)) else bro) k)))), (g3, .inl (cyI, 24, .inl (fun k => nI ((if isBz plu las tn st then va_up scr tn (scr tn + 1) else scr) k)))), (g4, .inl (cyI, 24, .inl (fun k => nI ((va_up plu tn (plu tn + 1)) k)))), (g5, .inl (cyI, 24, .inl (fun k => nI ((va_up las tn st) k))))] := hD
        exact W.zret (v := nI 1) (ty := .boolean) hx hb hr rfl (fun t ht hW => ⟨⟨nI 1, (), rfl, (xb_t hz).symm, ⟨by rw [ht]; exact hP9, hD9⟩⟩, hS.F ht⟩) hS.2.2 dX1_pluckTooth_81

theorem inX2_roomOf_X2 : ∀ w ∈ wsX20, w ∈ wsX2_roomOf := by decide +kernel
theorem mX2_roomOf_fieldLink_RX2_19_PinBarrel_Sounds_oldest_I : Cond.fieldLink RX2 19 "PinBarrel$Sounds" "oldest" "I" ∈ wsX2_roomOf := List.mem_of_getElem? (i := 1) (by decide +kernel)
set_option maxHeartbeats 4000000 in
set_option maxRecDepth 100000 in
/-- where a SOUND is -/
theorem kX2_roomOf (l : Launch) (dC : Nat → ClassId) (dI : Nat → Nat → Nat) (cyI cyZ cyJ cyD cyB : ClassId) (s0 : Nat) (s1 : Nat) (s2 : Nat) (old : Nat) (kep : Nat) (evr : Nat) (sn : Nat) (hol : old < 40) (hsn : sn ≤ 40) : Met l yX2_roomOf wsX2_roomOf ({ frames := 0, cells := 0, slots := 0, locals := 0 }) (va_Pc [.ref s0, .int (nI sn)] (xP (dC, dI) vwCl (xT cyI cyZ cyJ cyD cyB) [(s0, .inr (4, [.ref s1, .ref s2, .int (nI old), .int (nI kep), .int (nI evr)]))])) (va_Qi (fun (r : Int32) (u : Unit) => r = nI ((old + sn) % 40)) (fun _ _ => True) (fun _ => False)) 0 0 (fun _ => False) := by
  refine Met.ofW (cc := cX2_roomOf) (maxL := 2) (ret := (some .int)) (by decide) rfl ?_
  intro p e s m args below meth c s₁ B hml hv
  obtain ⟨rfl, hP, hK⟩ := hv
  have hx := B.exec
  have hb := B.bytes
  have hr := B.returns
  have hts := atoms_spec (ws := wsX2_roomOf) B.pre
  have hown : s.vm.findClass RX2 = some m.cls := findClass_of_methodNamed B.named
  have hlocks := B.notSynchronized
  have hS : va_S (fun _ => False) s.heap s.heap [] := va_S.rf
  have hP : va_P (dC, dI) vwCl [(s0, .inr (4, [.ref s1, .ref s2, .int (nI old), .int (nI kep), .int (nI evr)]))] s.heap := hP
  have hl := lv_entry ([.ref s0, .int (nI sn)]) (n := 2) (Nat.le_of_ble_eq_true rfl)
  rw [lg_entry_eq]
  generalize (lg_sl ([.ref s0, .int (nI sn)]) ++ List.replicate (2 - (lg_sl ([.ref s0, .int (nI sn)])).length) Slot.unset).toArray = ls at hl ⊢
  have hl : lv_has ls 2 [(0, .ref s0), (1, .int (nI sn))] := hl
  refine lv_aload_n hx hb dX2_roomOf_0 rfl (lv_at hl 0 rfl) ?_
  refine va_get (D := (dC, dI)) (ci := 4) (v := .int (nI old)) (C := RX2) (T := TX2) (N := 5) hx hb hts inX2_roomOf_X2 hown hK hP 0 rfl rfl 2 (by decide) (hts _ mX2_roomOf_fieldLink_RX2_19_PinBarrel_Sounds_oldest_I) (fun _ h9 => h9) rfl dX2_roomOf_1 ?_
  refine lv_iload_n hx hb dX2_roomOf_4 rfl (lv_at hl 1 rfl) ?_
  refine xi_add hx hb dX2_roomOf_5 ?_
  refine lv_bipush (v := nI 40) hx hb dX2_roomOf_6 (by decide) ?_
  refine xi_rem hx hb dX2_roomOf_8 (by omega) (by omega) (by omega) ?_
  exact W.iret (v := nI ((old + sn) % 40)) hx hb hr (fun t ht hW => ⟨⟨nI ((old + sn) % 40), (), rfl, rfl, trivial⟩, hS.F ht⟩) hS.2.2 dX2_roomOf_9

theorem inX2_pitchOf_X2 : ∀ w ∈ wsX20, w ∈ wsX2_pitchOf := by decide +kernel
theorem mX2_pitchOf_fieldLink_RX2_9_PinBarrel_Sounds_pitches_I : Cond.fieldLink RX2 9 "PinBarrel$Sounds" "pitches" "[I" ∈ wsX2_pitchOf := List.mem_of_getElem? (i := 1) (by decide +kernel)
set_option maxHeartbeats 4000000 in
set_option maxRecDepth 100000 in
/-- its PITCH -/
theorem kX2_pitchOf (l : Launch) (dC : Nat → ClassId) (dI : Nat → Nat → Nat) (cyI cyZ cyJ cyD cyB : ClassId) (s0 s1 : Nat) (s2 : Nat) (old : Nat) (kep : Nat) (evr : Nat) (sn : Nat) (pts : Nat → Nat) (hol : old < 40) (hsn : sn ≤ 40) : Met l yX2_pitchOf wsX2_pitchOf ({ frames := 1, cells := 0, slots := 0, locals := 21 }) (va_Pc [.ref s0, .int (nI sn)] (xP (dC, dI) vwCl (xT cyI cyZ cyJ cyD cyB) [(s0, .inr (4, [.ref s1, .ref s2, .int (nI old), .int (nI kep), .int (nI evr)])), (s1, .inl (cyI, 40, .inl (fun k => nI (pts k))))])) (va_Qi (fun (r : Int32) (u : Unit) => r = nI (pts ((old + sn) % 40))) (fun _ _ => True) (fun _ => False)) 0 0 (fun _ => False) := by
  refine Met.ofW (cc := cX2_pitchOf) (maxL := 2) (ret := (some .int)) (by decide) rfl ?_
  intro p e s m args below meth c s₁ B hml hv
  obtain ⟨rfl, hP, hK⟩ := hv
  have hx := B.exec
  have hb := B.bytes
  have hr := B.returns
  have hts := atoms_spec (ws := wsX2_pitchOf) B.pre
  have hown : s.vm.findClass RX2 = some m.cls := findClass_of_methodNamed B.named
  have hlocks := B.notSynchronized
  have hS : va_S (fun _ => False) s.heap s.heap [] := va_S.rf
  have hP : va_P (dC, dI) vwCl [(s0, .inr (4, [.ref s1, .ref s2, .int (nI old), .int (nI kep), .int (nI evr)])), (s1, .inl (cyI, 40, .inl (fun k => nI (pts k))))] s.heap := hP
  have hl := lv_entry ([.ref s0, .int (nI sn)]) (n := 2) (Nat.le_of_ble_eq_true rfl)
  rw [lg_entry_eq]
  generalize (lg_sl ([.ref s0, .int (nI sn)]) ++ List.replicate (2 - (lg_sl ([.ref s0, .int (nI sn)])).length) Slot.unset).toArray = ls at hl ⊢
  have hl : lv_has ls 2 [(0, .ref s0), (1, .int (nI sn))] := hl
  refine lv_aload_n hx hb dX2_pitchOf_0 rfl (lv_at hl 0 rfl) ?_
  refine va_get (D := (dC, dI)) (ci := 4) (v := .ref s1) (C := RX2) (T := TX2) (N := 5) hx hb hts inX2_pitchOf_X2 hown hK hP 0 rfl rfl 0 (by decide) (hts _ mX2_pitchOf_fieldLink_RX2_9_PinBarrel_Sounds_pitches_I) (fun _ h9 => h9) rfl dX2_pitchOf_1 ?_
  refine lv_aload_n hx hb dX2_pitchOf_4 rfl (lv_at hl 0 rfl) ?_
  refine lv_iload_n hx hb dX2_pitchOf_5 rfl (lv_at hl 1 rfl) ?_
  refine xv_i (As := [.int (nI sn)]) (rest := [.ref s1]) (q := (RX2, TX2, 5)) ⟨hx, hb, hml, hown, hts⟩ (kX2_roomOf l dC dI cyI cyZ cyJ cyD cyB s0 s1 s2 old kep evr sn (by omega) (by omega)) (cwV 1 hts gX2_pitchOf_X2_roomOf rfl rfl rfl (by decide +kernel) ⟨Nat.le_of_ble_eq_true rfl, Nat.le_of_ble_eq_true rfl⟩) hK hP hS [0] rfl 0 4 rfl rfl rfl hl.1 rfl (Nat.le_of_ble_eq_true rfl) dX2_pitchOf_6 ⟨Nat.zero_le _, Nat.zero_le _⟩ (fun r_1 H locs hw hP hS => ?_)
  have hw : r_1 = nI ((old + sn) % 40) := hw
  subst hw
  refine xl_I (f := pts) hx hb hK hP 1 0 rfl rfl (by omega) (by decide) dX2_pitchOf_9 ?_
  exact W.iret (v := nI (pts ((old + sn) % 40))) hx hb hr (fun t ht hW => ⟨⟨nI (pts ((old + sn) % 40)), (), rfl, rfl, trivial⟩, hS.F ht⟩) hS.2.2 dX2_pitchOf_10

theorem inX2_clockOf_X2 : ∀ w ∈ wsX20, w ∈ wsX2_clockOf := by decide +kernel
theorem mX2_clockOf_fieldLink_RX2_15_PinBarrel_Sounds_clocks_D : Cond.fieldLink RX2 15 "PinBarrel$Sounds" "clocks" "[D" ∈ wsX2_clockOf := List.mem_of_getElem? (i := 1) (by decide +kernel)
set_option maxHeartbeats 4000000 in
set_option maxRecDepth 100000 in
/-- when it was -/
theorem kX2_clockOf (l : Launch) (dC : Nat → ClassId) (dI : Nat → Nat → Nat) (cyI cyZ cyJ cyD cyB : ClassId) (s0 s2 : Nat) (s1 : Nat) (old : Nat) (kep : Nat) (evr : Nat) (sn : Nat) (clk : Nat → UInt64) (hol : old < 40) (hsn : sn ≤ 40) : Met l yX2_clockOf wsX2_clockOf ({ frames := 1, cells := 0, slots := 0, locals := 21 }) (va_Pc [.ref s0, .int (nI sn)] (xP (dC, dI) vwCl (xT cyI cyZ cyJ cyD cyB) [(s0, .inr (4, [.ref s1, .ref s2, .int (nI old), .int (nI kep), .int (nI evr)])), (s2, .inl (cyD, 40, .inr (.inr (.inr (.inl clk)))))])) (va_Qd (fun (r : UInt64) (u : Unit) => r = clk ((old + sn) % 40)) (fun _ _ => True) (fun _ => False)) 0 0 (fun _ => False) := by
  refine Met.ofW (cc := cX2_clockOf) (maxL := 2) (ret := (some .double)) (by decide) rfl ?_
  intro p e s m args below meth c s₁ B hml hv
  obtain ⟨rfl, hP, hK⟩ := hv
  have hx := B.exec
  have hb := B.bytes
  have hr := B.returns
  have hts := atoms_spec (ws := wsX2_clockOf) B.pre
  have hown : s.vm.findClass RX2 = some m.cls := findClass_of_methodNamed B.named
  have hlocks := B.notSynchronized
  have hS : va_S (fun _ => False) s.heap s.heap [] := va_S.rf
  have hP : va_P (dC, dI) vwCl [(s0, .inr (4, [.ref s1, .ref s2, .int (nI old), .int (nI kep), .int (nI evr)])), (s2, .inl (cyD, 40, .inr (.inr (.inr (.inl clk)))))] s.heap := hP
  have hl := lv_entry ([.ref s0, .int (nI sn)]) (n := 2) (Nat.le_of_ble_eq_true rfl)
  rw [lg_entry_eq]
  generalize (lg_sl ([.ref s0, .int (nI sn)]) ++ List.replicate (2 - (lg_sl ([.ref s0, .int (nI sn)])).length) Slot.unset).toArray = ls at hl ⊢
  have hl : lv_has ls 2 [(0, .ref s0), (1, .int (nI sn))] := hl
  refine lv_aload_n hx hb dX2_clockOf_0 rfl (lv_at hl 0 rfl) ?_
  refine va_get (D := (dC, dI)) (ci := 4) (v := .ref s2) (C := RX2) (T := TX2) (N := 5) hx hb hts inX2_clockOf_X2 hown hK hP 0 rfl rfl 1 (by decide) (hts _ mX2_clockOf_fieldLink_RX2_15_PinBarrel_Sounds_clocks_D) (fun _ h9 => h9) rfl dX2_clockOf_1 ?_
  refine lv_aload_n hx hb dX2_clockOf_4 rfl (lv_at hl 0 rfl) ?_
  refine lv_iload_n hx hb dX2_clockOf_5 rfl (lv_at hl 1 rfl) ?_
  refine xv_i (As := [.int (nI sn)]) (rest := [.ref s2]) (q := (RX2, TX2, 5)) ⟨hx, hb, hml, hown, hts⟩ (kX2_roomOf l dC dI cyI cyZ cyJ cyD cyB s0 s1 s2 old kep evr sn (by omega) (by omega)) (cwV 1 hts gX2_clockOf_X2_roomOf rfl rfl rfl (by decide +kernel) ⟨Nat.le_of_ble_eq_true rfl, Nat.le_of_ble_eq_true rfl⟩) hK hP hS [0] rfl 0 4 rfl rfl rfl hl.1 rfl (Nat.le_of_ble_eq_true rfl) dX2_clockOf_6 ⟨Nat.zero_le _, Nat.zero_le _⟩ (fun r_1 H locs hw hP hS => ?_)
  have hw : r_1 = nI ((old + sn) % 40) := hw
  subst hw
  refine xl_D (f := clk) hx hb hK hP 1 3 rfl rfl (by omega) (by decide) dX2_clockOf_9 ?_
  exact W.dret (v := clk ((old + sn) % 40)) hx hb hr (fun t ht hW => ⟨⟨clk ((old + sn) % 40), (), rfl, rfl, trivial⟩, hS.F ht⟩) hS.2.2 dX2_clockOf_10

theorem inX2_addSound_X2 : ∀ w ∈ wsX20, w ∈ wsX2_addSound := by decide +kernel
theorem mX2_addSound_fieldLink_RX2_27_PinBarrel_Sounds_kept_I : Cond.fieldLink RX2 27 "PinBarrel$Sounds" "kept" "I" ∈ wsX2_addSound := List.mem_of_getElem? (i := 1) (by decide +kernel)
theorem mX2_addSound_fieldLink_RX2_9_PinBarrel_Sounds_pitches_I : Cond.fieldLink RX2 9 "PinBarrel$Sounds" "pitches" "[I" ∈ wsX2_addSound := List.mem_of_getElem? (i := 2) (by decide +kernel)
theorem mX2_addSound_fieldLink_RX2_15_PinBarrel_Sounds_clocks_D : Cond.fieldLink RX2 15 "PinBarrel$Sounds" "clocks" "[D" ∈ wsX2_addSound := List.mem_of_getElem? (i := 3) (by decide +kernel)
theorem mX2_addSound_fieldLink_RX2_30_PinBarrel_Sounds_ever_I : Cond.fieldLink RX2 30 "PinBarrel$Sounds" "ever" "I" ∈ wsX2_addSound := List.mem_of_getElem? (i := 4) (by decide +kernel)
theorem mX2_addSound_fieldLink_RX2_19_PinBarrel_Sounds_oldest_I : Cond.fieldLink RX2 19 "PinBarrel$Sounds" "oldest" "I" ∈ wsX2_addSound := List.mem_of_getElem? (i := 5) (by decide +kernel)
set_option maxHeartbeats 4000000 in
set_option maxRecDepth 100000 in
/-- a SOUND more -/
theorem kX2_addSound (l : Launch) (dC : Nat → ClassId) (dI : Nat → Nat → Nat) (cyI cyZ cyJ cyD cyB : ClassId) (s0 s1 s2 : Nat) (pts : Nat → Nat) (clk : Nat → UInt64) (old : Nat) (kep : Nat) (evr : Nat) (pi : Nat) (ck : UInt64) (hol : old < 40) (hke : kep ≤ 40) : Met l yX2_addSound wsX2_addSound ({ frames := 1, cells := 0, slots := 0, locals := 21 }) (va_Pc [.ref s0, .int (nI pi), .double ck] (xM (dC, dI) vwCl (xT cyI cyZ cyJ cyD cyB) [(s0, .inr (4, [.ref s1, .ref s2, .int (nI old), .int (nI kep), .int (nI evr)])), (s1, .inl (cyI, 40, .inl (fun k => nI (pts k)))), (s2, .inl (cyD, 40, .inr (.inr (.inr (.inl clk)))))])) (va_Qv (fun (u : Unit) => True) (fun u t => va_P (dC, dI) vwCl [(s0, .inr (4, [.ref s1, .ref s2, .int (nI (if kep < 40 then old else (old + 1) % 40)), .int (nI (if kep < 40 then kep + 1 else kep)), .int (nI (evr + 1))])), (s1, .inl (cyI, 40, .inl (fun k => nI ((va_up pts ((old + kep) % 40) pi) k)))), (s2, .inl (cyD, 40, .inr (.inr (.inr (.inl (va_up clk ((old + kep) % 40) ck))))))] t.heap ∧ va_D (xA [(s0, .inr (4, [.ref s1, .ref s2, .int (nI old), .int (nI kep), .int (nI evr)])), (s1, .inl (cyI, 40, .inl (fun k => nI (pts k)))), (s2, .inl (cyD, 40, .inr (.inr (.inr (.inl clk)))))]) [(s0, .inr (4, [.ref s1, .ref s2, .int (nI (if kep < 40 then old else (old + 1) % 40)), .int (nI (if kep < 40 then kep + 1 else kep)), .int (nI (evr + 1))])), (s1, .inl (cyI, 40, .inl (fun k => nI ((va_up pts ((old + kep) % 40) pi) k)))), (s2, .inl (cyD, 40, .inr (.inr (.inr (.inl (va_up clk ((old + kep) % 40) ck))))))]) (xA [(s0, .inr (4, [.ref s1, .ref s2, .int (nI old), .int (nI kep), .int (nI evr)])), (s1, .inl (cyI, 40, .inl (fun k => nI (pts k)))), (s2, .inl (cyD, 40, .inr (.inr (.inr (.inl clk)))))])) 0 0 (xA [(s0, .inr (4, [.ref s1, .ref s2, .int (nI old), .int (nI kep), .int (nI evr)])), (s1, .inl (cyI, 40, .inl (fun k => nI (pts k)))), (s2, .inl (cyD, 40, .inr (.inr (.inr (.inl clk)))))]) := by
  refine Met.ofW (cc := cX2_addSound) (maxL := 5) (ret := none) (by decide) rfl ?_
  intro p e s m args below meth c s₁ B hml hv
  obtain ⟨rfl, hP, hK, hD0⟩ := hv
  have hx := B.exec
  have hb := B.bytes
  have hr := B.returns
  have hts := atoms_spec (ws := wsX2_addSound) B.pre
  have hown : s.vm.findClass RX2 = some m.cls := findClass_of_methodNamed B.named
  have hlocks := B.notSynchronized
  have hD := xA_self hD0
  clear hD0
  generalize hAe : xA [(s0, .inr (4, [.ref s1, .ref s2, .int (nI old), .int (nI kep), .int (nI evr)])), (s1, .inl (cyI, 40, .inl (fun k => nI (pts k)))), (s2, .inl (cyD, 40, .inr (.inr (.inr (.inl clk)))))] = A at hD ⊢
  have hS : va_S A s.heap s.heap [] := va_S.rf
  have hP : va_P (dC, dI) vwCl [(s0, .inr (4, [.ref s1, .ref s2, .int (nI old), .int (nI kep), .int (nI evr)])), (s1, .inl (cyI, 40, .inl (fun k => nI (pts k)))), (s2, .inl (cyD, 40, .inr (.inr (.inr (.inl clk)))))] s.heap := hP
  have hl := lv_entry ([.ref s0, .int (nI pi), .double ck]) (n := 5) (Nat.le_of_ble_eq_true rfl)
  rw [lg_entry_eq]
  generalize (lg_sl ([.ref s0, .int (nI pi), .double ck]) ++ List.replicate (5 - (lg_sl ([.ref s0, .int (nI pi), .double ck])).length) Slot.unset).toArray = ls at hl ⊢
  have hl : lv_has ls 5 [(0, .ref s0), (1, .int (nI pi)), (2, .double ck)] := hl
  refine lv_aload_n hx hb dX2_addSound_0 rfl (lv_at hl 0 rfl) ?_
  refine lv_aload_n hx hb dX2_addSound_1 rfl (lv_at hl 0 rfl) ?_
  refine va_get (D := (dC, dI)) (ci := 4) (v := .int (nI kep)) (C := RX2) (T := TX2) (N := 5) hx hb hts inX2_addSound_X2 hown hK hP 0 rfl rfl 3 (by decide) (hts _ mX2_addSound_fieldLink_RX2_27_PinBarrel_Sounds_kept_I) (fun _ h9 => h9) rfl dX2_addSound_2 ?_
  refine xv_i (As := [.int (nI kep)]) (rest := []) (q := (RX2, TX2, 5)) ⟨hx, hb, hml, hown, hts⟩ (kX2_roomOf l dC dI cyI cyZ cyJ cyD cyB s0 s1 s2 old kep evr kep (by omega) (by omega)) (cwV 1 hts gX2_addSound_X2_roomOf rfl rfl rfl (by decide +kernel) ⟨Nat.le_of_ble_eq_true rfl, Nat.le_of_ble_eq_true rfl⟩) hK hP hS [0] rfl 0 4 rfl rfl rfl hl.1 rfl (Nat.le_of_ble_eq_true rfl) dX2_addSound_5 ⟨Nat.zero_le _, Nat.zero_le _⟩ (fun r_1 H locs hw hP hS => ?_)
  have hw : r_1 = nI ((old + kep) % 40) := hw
  subst hw
  refine lv_istore (lv' := [(4, .int (nI ((old + kep) % 40))), (0, .ref s0), (1, .int (nI pi)), (2, .double ck)]) hx hb dX2_addSound_8 hl (by decide) rfl (fun ls hl => ?_)
  refine lv_aload_n hx hb dX2_addSound_10 rfl (lv_at hl 1 rfl) ?_
  refine va_get (D := (dC, dI)) (ci := 4) (v := .ref s1) (C := RX2) (T := TX2) (N := 5) hx hb hts inX2_addSound_X2 hown hK hP 0 rfl rfl 0 (by decide) (hts _ mX2_addSound_fieldLink_RX2_9_PinBarrel_Sounds_pitches_I) (fun _ h9 => h9) rfl dX2_addSound_11 ?_
  refine lv_iload hx hb dX2_addSound_14 (lv_at hl 0 rfl) ?_
  refine lv_iload_n hx hb dX2_addSound_16 rfl (lv_at hl 2 rfl) ?_
  refine xt_I (f := pts) (x := pi) hx hb hK hP hD hS 1 0 rfl rfl (by omega) (by decide) dX2_addSound_17 (fun H locs hP hD hS => ?_)
  have hP : va_P (dC, dI) vwCl [(s0, .inr (4, [.ref s1, .ref s2, .int (nI old), .int (nI kep), .int (nI evr)])), (s1, .inl (cyI, 40, .inl (fun k => nI ((va_up pts ((old + kep) % 40) pi) k)))), (s2, .inl (cyD, 40, .inr (.inr (.inr (.inl clk)))))] H := hP
  have hD : va_D A [(s0, .inr (4, [.ref s1, .ref s2, .int (nI old), .int (nI kep), .int (nI evr)])), (s1, .inl (cyI, 40, .inl (fun k => nI ((va_up pts ((old + kep) % 40) pi) k)))), (s2, .inl (cyD, 40, .inr (.inr (.inr (.inl clk)))))] := hD
  refine lv_aload_n hx hb dX2_addSound_18 rfl (lv_at hl 1 rfl) ?_
  refine va_get (D := (dC, dI)) (ci := 4) (v := .ref s2) (C := RX2) (T := TX2) (N := 5) hx hb hts inX2_addSound_X2 hown hK hP 0 rfl rfl 1 (by decide) (hts _ mX2_addSound_fieldLink_RX2_15_PinBarrel_Sounds_clocks_D) (fun _ h9 => h9) rfl dX2_addSound_19 ?_
  refine lv_iload hx hb dX2_addSound_22 (lv_at hl 0 rfl) ?_
  refine lv_dload_n hx hb dX2_addSound_24 rfl (lv_at hl 3 rfl) ?_
  refine xt_D (f := clk) (x := ck) hx hb hK hP hD hS 2 3 rfl rfl (by omega) (by decide) dX2_addSound_25 (fun H locs hP hD hS => ?_)
  have hP : va_P (dC, dI) vwCl [(s0, .inr (4, [.ref s1, .ref s2, .int (nI old), .int (nI kep), .int (nI evr)])), (s1, .inl (cyI, 40, .inl (fun k => nI ((va_up pts ((old + kep) % 40) pi) k)))), (s2, .inl (cyD, 40, .inr (.inr (.inr (.inl (va_up clk ((old + kep) % 40) ck))))))] H := hP
  have hD : va_D A [(s0, .inr (4, [.ref s1, .ref s2, .int (nI old), .int (nI kep), .int (nI evr)])), (s1, .inl (cyI, 40, .inl (fun k => nI ((va_up pts ((old + kep) % 40) pi) k)))), (s2, .inl (cyD, 40, .inr (.inr (.inr (.inl (va_up clk ((old + kep) % 40) ck))))))] := hD
  refine lv_aload_n hx hb dX2_addSound_26 rfl (lv_at hl 1 rfl) ?_
  refine lv_dup hx hb dX2_addSound_27 rfl ?_
  refine va_get (D := (dC, dI)) (ci := 4) (v := .int (nI evr)) (C := RX2) (T := TX2) (N := 5) hx hb hts inX2_addSound_X2 hown hK hP 0 rfl rfl 4 (by decide) (hts _ mX2_addSound_fieldLink_RX2_30_PinBarrel_Sounds_ever_I) (fun _ h9 => h9) rfl dX2_addSound_28 ?_
  refine lv_iconst (v := nI 1) hx hb dX2_addSound_31 (by decide) ?_
  refine xi_add hx hb dX2_addSound_32 ?_
  refine va_put (D := (dC, dI)) (ci := 4) (v := .int (nI (evr + 1))) (ty := .int) (C := RX2) (T := TX2) (N := 5) hx hb hts inX2_addSound_X2 tyX2 tyX2_ok nmX2 hown hK hP hD hS 0 rfl rfl 4 (by decide) (hts _ mX2_addSound_fieldLink_RX2_30_PinBarrel_Sounds_ever_I) (fun _ h9 => h9) rfl (by decide +kernel) rfl rfl (Nat.le_of_ble_eq_true rfl) dX2_addSound_33 (fun H locs hP hD hS => ?_)
  have hP : va_P (dC, dI) vwCl [(s0, .inr (4, [.ref s1, .ref s2, .int (nI old), .int (nI kep), .int (nI (evr + 1))])), (s1, .inl (cyI, 40, .inl (fun k => nI ((va_up pts ((old + kep) % 40) pi) k)))), (s2, .inl (cyD, 40, .inr (.inr (.inr (.inl (va_up clk ((old + kep) % 40) ck))))))] H := hP
  have hD : va_D A [(s0, .inr (4, [.ref s1, .ref s2, .int (nI old), .int (nI kep), .int (nI (evr + 1))])), (s1, .inl (cyI, 40, .inl (fun k => nI ((va_up pts ((old + kep) % 40) pi) k)))), (s2, .inl (cyD, 40, .inr (.inr (.inr (.inl (va_up clk ((old + kep) % 40) ck))))))] := hD
  refine lv_aload_n hx hb dX2_addSound_36 rfl (lv_at hl 1 rfl) ?_
  refine va_get (D := (dC, dI)) (ci := 4) (v := .int (nI kep)) (C := RX2) (T := TX2) (N := 5) hx hb hts inX2_addSound_X2 hown hK hP 0 rfl rfl 3 (by decide) (hts _ mX2_addSound_fieldLink_RX2_27_PinBarrel_Sounds_kept_I) (fun _ h9 => h9) rfl dX2_addSound_37 ?_
  refine lv_bipush (v := nI 40) hx hb dX2_addSound_40 (by decide) ?_
  refine xc_ge (tgt := 58) hx hb dX2_addSound_42 (by decide) (by omega) (by omega) (fun c_2 => ?_) (fun c_2 => ?_)
  · refine lv_aload_n hx hb dX2_addSound_58 rfl (lv_at hl 1 rfl) ?_
    refine lv_aload_n hx hb dX2_addSound_59 rfl (lv_at hl 1 rfl) ?_
    refine lv_iconst (v := nI 1) hx hb dX2_addSound_60 (by decide) ?_
    refine xv_i (As := [.int (nI 1)]) (rest := [.ref s0]) (q := (RX2, TX2, 5)) ⟨hx, hb, hml, hown, hts⟩ (kX2_roomOf l dC dI cyI cyZ cyJ cyD cyB s0 s1 s2 old kep (evr + 1) 1 (by omega) (by omega)) (cwV 1 hts gX2_addSound_X2_roomOf rfl rfl rfl (by decide +kernel) ⟨Nat.le_of_ble_eq_true rfl, Nat.le_of_ble_eq_true rfl⟩) hK hP hS [0] rfl 0 4 rfl rfl rfl hl.1 rfl (Nat.le_of_ble_eq_true rfl) dX2_addSound_61 ⟨Nat.zero_le _, Nat.zero_le _⟩ (fun r_3 H locs hw hP hS => ?_)
    have hw : r_3 = nI ((old + 1) % 40) := hw
    subst hw
    refine va_put (D := (dC, dI)) (ci := 4) (v := .int (nI ((old + 1) % 40))) (ty := .int) (C := RX2) (T := TX2) (N := 5) hx hb hts inX2_addSound_X2 tyX2 tyX2_ok nmX2 hown hK hP hD hS 0 rfl rfl 2 (by decide) (hts _ mX2_addSound_fieldLink_RX2_19_PinBarrel_Sounds_oldest_I) (fun _ h9 => h9) rfl (by decide +kernel) rfl rfl (Nat.le_of_ble_eq_true rfl) dX2_addSound_64 (fun H locs hP hD hS => ?_)
    have hP : va_P (dC, dI) vwCl [(s0, .inr (4, [.ref s1, .ref s2, .int (nI ((old + 1) % 40)), .int (nI kep), .int (nI (evr + 1))])), (s1, .inl (cyI, 40, .inl (fun k => nI ((va_up pts ((old + kep) % 40) pi) k)))), (s2, .inl (cyD, 40, .inr (.inr (.inr (.inl (va_up clk ((old + kep) % 40) ck))))))] H := hP
    have hD : va_D A [(s0, .inr (4, [.ref s1, .ref s2, .int (nI ((old + 1) % 40)), .int (nI kep), .int (nI (evr + 1))])), (s1, .inl (cyI, 40, .inl (fun k => nI ((va_up pts ((old + kep) % 40) pi) k)))), (s2, .inl (cyD, 40, .inr (.inr (.inr (.inl (va_up clk ((old + kep) % 40) ck))))))] := hD
    have e1 : (if kep < 40 then kep + 1 else kep) = kep := if_neg (by omega)
    have e2 : (if kep < 40 then old else (old + 1) % 40) = (old + 1) % 40 := if_neg (by omega)
    have hP := xW_eqP (w1 := [(s0, .inr (4, [.ref s1, .ref s2, .int (nI (if kep < 40 then old else (old + 1) % 40)), .int (nI (if kep < 40 then kep + 1 else kep)), .int (nI (evr + 1))])), (s1, .inl (cyI, 40, .inl (fun k => nI ((va_up pts ((old + kep) % 40) pi) k)))), (s2, .inl (cyD, 40, .inr (.inr (.inr (.inl (va_up clk ((old + kep) % 40) ck))))))]) hP (by rw [e1, e2])
    have hD := xW_eqD (w1 := [(s0, .inr (4, [.ref s1, .ref s2, .int (nI (if kep < 40 then old else (old + 1) % 40)), .int (nI (if kep < 40 then kep + 1 else kep)), .int (nI (evr + 1))])), (s1, .inl (cyI, 40, .inl (fun k => nI ((va_up pts ((old + kep) % 40) pi) k)))), (s2, .inl (cyD, 40, .inr (.inr (.inr (.inl (va_up clk ((old + kep) % 40) ck))))))]) hD (by rw [e1, e2])
    have hP9 : va_P (dC, dI) vwCl [(s0, .inr (4, [.ref s1, .ref s2, .int (nI (if kep < 40 then old else (old + 1) % 40)), .int (nI (if kep < 40 then kep + 1 else kep)), .int (nI (evr + 1))])), (s1, .inl (cyI, 40, .inl (fun k => nI ((va_up pts ((old + kep) % 40) pi) k)))), (s2, .inl (cyD, 40, .inr (.inr (.inr (.inl (va_up clk ((old + kep) % 40) ck))))))] _ := hP
    have hD9 : va_D A [(s0, .inr (4, [.ref s1, .ref s2, .int (nI (if kep < 40 then old else (old + 1) % 40)), .int (nI (if kep < 40 then kep + 1 else kep)), .int (nI (evr + 1))])), (s1, .inl (cyI, 40, .inl (fun k => nI ((va_up pts ((old + kep) % 40) pi) k)))), (s2, .inl (cyD, 40, .inr (.inr (.inr (.inl (va_up clk ((old + kep) % 40) ck))))))] := hD
    exact W.vret hx hb hr (fun t ht hW => ⟨⟨(), rfl, trivial, ⟨by rw [ht]; exact hP9, hD9⟩⟩, hS.F ht⟩) hS.2.2 dX2_addSound_67
  · refine lv_aload_n hx hb dX2_addSound_45 rfl (lv_at hl 1 rfl) ?_
    refine lv_dup hx hb dX2_addSound_46 rfl ?_
    refine va_get (D := (dC, dI)) (ci := 4) (v := .int (nI kep)) (C := RX2) (T := TX2) (N := 5) hx hb hts inX2_addSound_X2 hown hK hP 0 rfl rfl 3 (by decide) (hts _ mX2_addSound_fieldLink_RX2_27_PinBarrel_Sounds_kept_I) (fun _ h9 => h9) rfl dX2_addSound_47 ?_
    refine lv_iconst (v := nI 1) hx hb dX2_addSound_50 (by decide) ?_
    refine xi_add hx hb dX2_addSound_51 ?_
    refine va_put (D := (dC, dI)) (ci := 4) (v := .int (nI (kep + 1))) (ty := .int) (C := RX2) (T := TX2) (N := 5) hx hb hts inX2_addSound_X2 tyX2 tyX2_ok nmX2 hown hK hP hD hS 0 rfl rfl 3 (by decide) (hts _ mX2_addSound_fieldLink_RX2_27_PinBarrel_Sounds_kept_I) (fun _ h9 => h9) rfl (by decide +kernel) rfl rfl (Nat.le_of_ble_eq_true rfl) dX2_addSound_52 (fun H locs hP hD hS => ?_)
    have hP : va_P (dC, dI) vwCl [(s0, .inr (4, [.ref s1, .ref s2, .int (nI old), .int (nI (kep + 1)), .int (nI (evr + 1))])), (s1, .inl (cyI, 40, .inl (fun k => nI ((va_up pts ((old + kep) % 40) pi) k)))), (s2, .inl (cyD, 40, .inr (.inr (.inr (.inl (va_up clk ((old + kep) % 40) ck))))))] H := hP
    have hD : va_D A [(s0, .inr (4, [.ref s1, .ref s2, .int (nI old), .int (nI (kep + 1)), .int (nI (evr + 1))])), (s1, .inl (cyI, 40, .inl (fun k => nI ((va_up pts ((old + kep) % 40) pi) k)))), (s2, .inl (cyD, 40, .inr (.inr (.inr (.inl (va_up clk ((old + kep) % 40) ck))))))] := hD
    refine lv_goto (tgt := 67) hx hb dX2_addSound_55 (by decide) ?_
    have e1 : (if kep < 40 then kep + 1 else kep) = kep + 1 := if_pos (by omega)
    have e2 : (if kep < 40 then old else (old + 1) % 40) = old := if_pos (by omega)
    have hP := xW_eqP (w1 := [(s0, .inr (4, [.ref s1, .ref s2, .int (nI (if kep < 40 then old else (old + 1) % 40)), .int (nI (if kep < 40 then kep + 1 else kep)), .int (nI (evr + 1))])), (s1, .inl (cyI, 40, .inl (fun k => nI ((va_up pts ((old + kep) % 40) pi) k)))), (s2, .inl (cyD, 40, .inr (.inr (.inr (.inl (va_up clk ((old + kep) % 40) ck))))))]) hP (by rw [e1, e2])
    have hD := xW_eqD (w1 := [(s0, .inr (4, [.ref s1, .ref s2, .int (nI (if kep < 40 then old else (old + 1) % 40)), .int (nI (if kep < 40 then kep + 1 else kep)), .int (nI (evr + 1))])), (s1, .inl (cyI, 40, .inl (fun k => nI ((va_up pts ((old + kep) % 40) pi) k)))), (s2, .inl (cyD, 40, .inr (.inr (.inr (.inl (va_up clk ((old + kep) % 40) ck))))))]) hD (by rw [e1, e2])
    have hP9 : va_P (dC, dI) vwCl [(s0, .inr (4, [.ref s1, .ref s2, .int (nI (if kep < 40 then old else (old + 1) % 40)), .int (nI (if kep < 40 then kep + 1 else kep)), .int (nI (evr + 1))])), (s1, .inl (cyI, 40, .inl (fun k => nI ((va_up pts ((old + kep) % 40) pi) k)))), (s2, .inl (cyD, 40, .inr (.inr (.inr (.inl (va_up clk ((old + kep) % 40) ck))))))] _ := hP
    have hD9 : va_D A [(s0, .inr (4, [.ref s1, .ref s2, .int (nI (if kep < 40 then old else (old + 1) % 40)), .int (nI (if kep < 40 then kep + 1 else kep)), .int (nI (evr + 1))])), (s1, .inl (cyI, 40, .inl (fun k => nI ((va_up pts ((old + kep) % 40) pi) k)))), (s2, .inl (cyD, 40, .inr (.inr (.inr (.inl (va_up clk ((old + kep) % 40) ck))))))] := hD
    exact W.vret hx hb hr (fun t ht hW => ⟨⟨(), rfl, trivial, ⟨by rw [ht]; exact hP9, hD9⟩⟩, hS.F ht⟩) hS.2.2 dX2_addSound_67
