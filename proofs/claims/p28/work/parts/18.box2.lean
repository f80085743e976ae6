theorem inX5_pull_X5 : ∀ w ∈ wsX50, w ∈ wsX5_pull := by decide +kernel
theorem mX5_pull_fieldLink_RX5_27_PinBarrel_comb_LPinBarrel_Comb : Cond.fieldLink RX5 27 "PinBarrel" "comb" "LPinBarrel$Comb;" ∈ wsX5_pull := List.mem_of_getElem? (i := 1) (by decide +kernel)
theorem inX5_pull_X1 : ∀ w ∈ wsX10, w ∈ wsX5_pull := by decide +kernel
theorem mX5_pull_fieldLink_RX5_45_PinBarrel_Comb_count_I : Cond.fieldLink RX5 45 "PinBarrel$Comb" "count" "I" ∈ wsX5_pull := List.mem_of_getElem? (i := 2) (by decide +kernel)
theorem mX5_pull_fieldLink_RX5_32_PinBarrel_barrel_LPinBarrel_Barrel : Cond.fieldLink RX5 32 "PinBarrel" "barrel" "LPinBarrel$Barrel;" ∈ wsX5_pull := List.mem_of_getElem? (i := 3) (by decide +kernel)
set_option maxHeartbeats 4000000 in
set_option maxRecDepth 100000 in
theorem kX5_pull (l : Launch) (dC : Nat → ClassId) (dI : Nat → Nat → Nat) (cyI cyZ cyJ cyD cyB : ClassId) (p0 g0 h0 h1 h2 : Nat) (t0 : Nat) (w0 : Nat) (s0 : Nat) (v0 : Nat) (kn : Nat) (g1 : Nat) (g2 : Nat) (g3 : Nat) (g4 : Nat) (g5 : Nat) (cnt : Nat) (plc : Nat → Int64) (wea : Nat → Nat) (ln : Nat) (isw : Bool) (hcn : cnt ≤ 24) (hln : ln < 3) (hwea : ∀ k, wea k < 2 ^ 30) : Met l yX5_pull wsX5_pull ({ frames := 3, cells := 0, slots := 0, locals := 70 }) (va_Pc [.ref p0, .int (nI ln), .int (xb isw)] (xM (dC, dI) vwCl (xT cyI cyZ cyJ cyD cyB) [(p0, .inr (7, [.ref t0, .ref w0, .ref g0, .ref h0, .ref s0, .ref v0, .int (nI kn)])), (g0, .inr (3, [.ref g1, .ref g2, .ref g3, .ref g4, .ref g5, .int (nI cnt)])), (h0, .inr (2, [.ref h1, .ref h2])), (h1, .inl (cyJ, 72, .inr (.inl plc))), (h2, .inl (cyI, 4608, .inl (fun k => nI (wea k))))])) (va_Qi (fun (r : Int32) (u : Unit) => r = nI ((plF plc wea ln (if isw then 3 else 0) cnt).2)) (fun u t => va_P (dC, dI) vwCl [(p0, .inr (7, [.ref t0, .ref w0, .ref g0, .ref h0, .ref s0, .ref v0, .int (nI kn)])), (g0, .inr (3, [.ref g1, .ref g2, .ref g3, .ref g4, .ref g5, .int (nI cnt)])), (h0, .inr (2, [.ref h1, .ref h2])), (h1, .inl (cyJ, 72, .inr (.inl ((plF plc wea ln (if isw then 3 else 0) cnt).1)))), (h2, .inl (cyI, 4608, .inl (fun k => nI (wea k))))] t.heap ∧ va_D (xA [(p0, .inr (7, [.ref t0, .ref w0, .ref g0, .ref h0, .ref s0, .ref v0, .int (nI kn)])), (g0, .inr (3, [.ref g1, .ref g2, .ref g3, .ref g4, .ref g5, .int (nI cnt)])), (h0, .inr (2, [.ref h1, .ref h2])), (h1, .inl (cyJ, 72, .inr (.inl plc))), (h2, .inl (cyI, 4608, .inl (fun k => nI (wea k))))]) [(p0, .inr (7, [.ref t0, .ref w0, .ref g0, .ref h0, .ref s0, .ref v0, .int (nI kn)])), (g0, .inr (3, [.ref g1, .ref g2, .ref g3, .ref g4, .ref g5, .int (nI cnt)])), (h0, .inr (2, [.ref h1, .ref h2])), (h1, .inl (cyJ, 72, .inr (.inl ((plF plc wea ln (if isw then 3 else 0) cnt).1)))), (h2, .inl (cyI, 4608, .inl (fun k => nI (wea k))))]) (xA [(p0, .inr (7, [.ref t0, .ref w0, .ref g0, .ref h0, .ref s0, .ref v0, .int (nI kn)])), (g0, .inr (3, [.ref g1, .ref g2, .ref g3, .ref g4, .ref g5, .int (nI cnt)])), (h0, .inr (2, [.ref h1, .ref h2])), (h1, .inl (cyJ, 72, .inr (.inl plc))), (h2, .inl (cyI, 4608, .inl (fun k => nI (wea k))))])) 0 0 (xA [(p0, .inr (7, [.ref t0, .ref w0, .ref g0, .ref h0, .ref s0, .ref v0, .int (nI kn)])), (g0, .inr (3, [.ref g1, .ref g2, .ref g3, .ref g4, .ref g5, .int (nI cnt)])), (h0, .inr (2, [.ref h1, .ref h2])), (h1, .inl (cyJ, 72, .inr (.inl plc))), (h2, .inl (cyI, 4608, .inl (fun k => nI (wea k))))]) := by
  refine Met.ofW (cc := cX5_pull) (maxL := 5) (ret := (some .int)) (by decide) rfl ?_
  intro p e s m args below meth c s₁ B hml hv
  obtain ⟨rfl, hP, hK, hD0⟩ := hv
  have hx := B.exec
  have hb := B.bytes
  have hr := B.returns
  have hts := atoms_spec (ws := wsX5_pull) B.pre
  have hown : s.vm.findClass RX5 = some m.cls := findClass_of_methodNamed B.named
  have hlocks := B.notSynchronized
  have hD := xA_self hD0
  clear hD0
  generalize hAe : xA [(p0, .inr (7, [.ref t0, .ref w0, .ref g0, .ref h0, .ref s0, .ref v0, .int (nI kn)])), (g0, .inr (3, [.ref g1, .ref g2, .ref g3, .ref g4, .ref g5, .int (nI cnt)])), (h0, .inr (2, [.ref h1, .ref h2])), (h1, .inl (cyJ, 72, .inr (.inl plc))), (h2, .inl (cyI, 4608, .inl (fun k => nI (wea k))))] = A at hD ⊢
  have hS : va_S A s.heap s.heap [] := va_S.rf
  have hP : va_P (dC, dI) vwCl [(p0, .inr (7, [.ref t0, .ref w0, .ref g0, .ref h0, .ref s0, .ref v0, .int (nI kn)])), (g0, .inr (3, [.ref g1, .ref g2, .ref g3, .ref g4, .ref g5, .int (nI cnt)])), (h0, .inr (2, [.ref h1, .ref h2])), (h1, .inl (cyJ, 72, .inr (.inl plc))), (h2, .inl (cyI, 4608, .inl (fun k => nI (wea k))))] s.heap := hP
  have hl := lv_entry ([.ref p0, .int (nI ln), .int (xb isw)]) (n := 5) (Nat.le_of_ble_eq_true rfl)
  rw [lg_entry_eq]
  generalize (lg_sl ([.ref p0, .int (nI ln), .int (xb isw)]) ++ List.replicate (5 - (lg_sl ([.ref p0, .int (nI ln), .int (xb isw)])).length) Slot.unset).toArray = ls at hl ⊢
  have hl : lv_has ls 5 [(0, .ref p0), (1, .int (nI ln)), (2, .int (xb isw))] := hl
  refine lv_iload_n hx hb dX5_pull_0 rfl (lv_at hl 1 rfl) ?_
  refine xs_v (As := [.int (nI ln)]) (rest := []) ⟨hx, hb, hml, hown, hts⟩ (kX5_needLine l ln (by omega)) (va_cwS 1 hts gX5_pull_X5_needLine rfl rfl rfl (by decide +kernel) ⟨Nat.le_of_ble_eq_true rfl, Nat.le_of_ble_eq_true rfl⟩) hP hS rfl hl.1 rfl (Nat.le_of_ble_eq_true rfl) dX5_pull_1 ⟨Nat.zero_le _, Nat.zero_le _⟩ (fun H locs hP hS => ?_)
  refine lv_iconst (v := nI 0) hx hb dX5_pull_4 (by decide) ?_
  refine lv_istore_n (lv' := [(3, .int (nI 0)), (0, .ref p0), (1, .int (nI ln)), (2, .int (xb isw))]) hx hb dX5_pull_5 rfl hl (by decide) rfl (fun ls hl => ?_)
  refine lv_iconst (v := nI 0) hx hb dX5_pull_6 (by decide) ?_
  refine lv_istore (lv' := [(4, .int (nI 0)), (3, .int (nI 0)), (0, .ref p0), (1, .int (nI ln)), (2, .int (xb isw))]) hx hb dX5_pull_7 hl (by decide) rfl (fun ls hl => ?_)
  refine (?_ : ∀ (n_2 i_3 : Nat), i_3 + n_2 = cnt → ∀ (plcq : Nat → Int64) (pulq : Nat) (hq : (plcq, pulq) = plF plc wea ln (if isw then 3 else 0) i_3) (H : Heap) (locs : List Loc) (hP : va_P (dC, dI) vwCl [(p0, .inr (7, [.ref t0, .ref w0, .ref g0, .ref h0, .ref s0, .ref v0, .int (nI kn)])), (g0, .inr (3, [.ref g1, .ref g2, .ref g3, .ref g4, .ref g5, .int (nI cnt)])), (h0, .inr (2, [.ref h1, .ref h2])), (h1, .inl (cyJ, 72, .inr (.inl plcq))), (h2, .inl (cyI, 4608, .inl (fun k => nI (wea k))))] H) (hD : va_D A [(p0, .inr (7, [.ref t0, .ref w0, .ref g0, .ref h0, .ref s0, .ref v0, .int (nI kn)])), (g0, .inr (3, [.ref g1, .ref g2, .ref g3, .ref g4, .ref g5, .int (nI cnt)])), (h0, .inr (2, [.ref h1, .ref h2])), (h1, .inl (cyJ, 72, .inr (.inl plcq))), (h2, .inl (cyI, 4608, .inl (fun k => nI (wea k))))]) (hS : va_S A s.heap H locs) (ls : Array Slot) (hl : lv_has ls 5 [(4, .int (nI i_3)), (3, .int (nI pulq)), (0, .ref p0), (1, .int (nI ln)), (2, .int (xb isw))]), W p l e _ s m _ below meth c H locs 0 0 _ (F0 m 9 ls [])) (cnt - 0) 0 (by omega) plc 0 rfl _ _ hP hD hS _ (lv_sub hl [0, 1, 2, 3, 4] rfl)
  clear hl hP hS hD
  intro n_2
  induction n_2 with
  | zero =>
    intro i_3 hi_4 plcq pulq hq H locs hP hD hS ls hl
    refine lv_iload hx hb dX5_pull_9 (lv_at hl 0 rfl) ?_
    refine lv_aload_n hx hb dX5_pull_11 rfl (lv_at hl 2 rfl) ?_
    refine va_get (D := (dC, dI)) (ci := 7) (v := .ref g0) (C := RX5) (T := TX5) (N := 7) hx hb hts inX5_pull_X5 hown hK hP 0 rfl rfl 2 (by decide) (hts _ mX5_pull_fieldLink_RX5_27_PinBarrel_comb_LPinBarrel_Comb) (fun _ h9 => h9) rfl dX5_pull_12 ?_
    refine va_get (D := (dC, dI)) (ci := 3) (v := .int (nI cnt)) (C := RX1) (T := TX1) (N := 6) hx hb hts inX5_pull_X1 hown hK hP 1 rfl rfl 5 (by decide) (hts _ mX5_pull_fieldLink_RX5_45_PinBarrel_Comb_count_I) (fun _ h9 => h9) rfl dX5_pull_15 ?_
    refine xc_ge (tgt := 49) hx hb dX5_pull_18 (by decide) (by omega) (by omega) (fun c_7 => ?_) (fun c_7 => by omega)
    refine lv_iload_n hx hb dX5_pull_49 rfl (lv_at hl 1 rfl) ?_
    have h8 : i_3 = cnt := by omega
    rw [h8] at hq
    have e1 : (plF plc wea ln (if isw then 3 else 0) cnt).1 = plcq := by rw [← hq]
    have hP := xW_eqP (w1 := [(p0, .inr (7, [.ref t0, .ref w0, .ref g0, .ref h0, .ref s0, .ref v0, .int (nI kn)])), (g0, .inr (3, [.ref g1, .ref g2, .ref g3, .ref g4, .ref g5, .int (nI cnt)])), (h0, .inr (2, [.ref h1, .ref h2])), (h1, .inl (cyJ, 72, .inr (.inl ((plF plc wea ln (if isw then 3 else 0) cnt).1)))), (h2, .inl (cyI, 4608, .inl (fun k => nI (wea k))))]) hP (by rw [e1])
    have hD := xW_eqD (w1 := [(p0, .inr (7, [.ref t0, .ref w0, .ref g0, .ref h0, .ref s0, .ref v0, .int (nI kn)])), (g0, .inr (3, [.ref g1, .ref g2, .ref g3, .ref g4, .ref g5, .int (nI cnt)])), (h0, .inr (2, [.ref h1, .ref h2])), (h1, .inl (cyJ, 72, .inr (.inl ((plF plc wea ln (if isw then 3 else 0) cnt).1)))), (h2, .inl (cyI, 4608, .inl (fun k => nI (wea k))))]) hD (by rw [e1])
    have hP9 : va_P (dC, dI) vwCl [(p0, .inr (7, [.ref t0, .ref w0, .ref g0, .ref h0, .ref s0, .ref v0, .int (nI kn)])), (g0, .inr (3, [.ref g1, .ref g2, .ref g3, .ref g4, .ref g5, .int (nI cnt)])), (h0, .inr (2, [.ref h1, .ref h2])), (h1, .inl (cyJ, 72, .inr (.inl ((plF plc wea ln (if isw then 3 else 0) cnt).1)))), (h2, .inl (cyI, 4608, .inl (fun k => nI (wea k))))] _ := hP
    have hD9 : va_D A [(p0, .inr (7, [.ref t0, .ref w0, .ref g0, .ref h0, .ref s0, .ref v0, .int (nI kn)])), (g0, .inr (3, [.ref g1, .ref g2, .ref g3, .ref g4, .ref g5, .int (nI cnt)])), (h0, .inr (2, [.ref h1, .ref h2])), (h1, .inl (cyJ, 72, .inr (.inl ((plF plc wea ln (if isw then 3 else 0) cnt).1)))), (h2, .inl (cyI, 4608, .inl (fun k => nI (wea k))))] := hD
    exact W.iret (v := nI pulq) hx hb hr (fun t ht hW => ⟨⟨nI pulq, (), rfl, (by rw [← hq]), ⟨by rw [ht]; exact hP9, hD9⟩⟩, hS.F ht⟩) hS.2.2 dX5_pull_50
  | succ n_2 ih_5 =>
    intro i_3 hi_4 plcq pulq hq H locs hP hD hS ls hl
    refine lv_iload hx hb dX5_pull_9 (lv_at hl 0 rfl) ?_
    refine lv_aload_n hx hb dX5_pull_11 rfl (lv_at hl 2 rfl) ?_
    refine va_get (D := (dC, dI)) (ci := 7) (v := .ref g0) (C := RX5) (T := TX5) (N := 7) hx hb hts inX5_pull_X5 hown hK hP 0 rfl rfl 2 (by decide) (hts _ mX5_pull_fieldLink_RX5_27_PinBarrel_comb_LPinBarrel_Comb) (fun _ h9 => h9) rfl dX5_pull_12 ?_
    refine va_get (D := (dC, dI)) (ci := 3) (v := .int (nI cnt)) (C := RX1) (T := TX1) (N := 6) hx hb hts inX5_pull_X1 hown hK hP 1 rfl rfl 5 (by decide) (hts _ mX5_pull_fieldLink_RX5_45_PinBarrel_Comb_count_I) (fun _ h9 => h9) rfl dX5_pull_15 ?_
    refine xc_ge (tgt := 49) hx hb dX5_pull_18 (by decide) (by omega) (by omega) (fun c_8 => by omega) (fun c_8 => ?_)
    refine lv_iload_n hx hb dX5_pull_21 rfl (lv_at hl 1 rfl) ?_
    refine lv_aload_n hx hb dX5_pull_22 rfl (lv_at hl 2 rfl) ?_
    refine va_get (D := (dC, dI)) (ci := 7) (v := .ref h0) (C := RX5) (T := TX5) (N := 7) hx hb hts inX5_pull_X5 hown hK hP 0 rfl rfl 3 (by decide) (hts _ mX5_pull_fieldLink_RX5_32_PinBarrel_barrel_LPinBarrel_Barrel) (fun _ h9 => h9) rfl dX5_pull_23 ?_
    refine lv_iload hx hb dX5_pull_26 (lv_at hl 0 rfl) ?_
    refine lv_iload_n hx hb dX5_pull_28 rfl (lv_at hl 3 rfl) ?_
    refine lv_iload_n hx hb dX5_pull_29 rfl (lv_at hl 4 rfl) ?_
    refine xb_eq (tgt := 37) hx hb dX5_pull_30 (by decide) (fun c_9 => ?_) (fun c_9 => ?_)
    · refine lv_iconst (v := nI 0) hx hb dX5_pull_37 (by decide) ?_
      refine xm_i (As := [.int (nI i_3), .int (nI ln), .int (nI 0)]) (rest := [.int (nI pulq)]) (q := (RX0, TX0, 2)) ⟨hx, hb, hml, hown, hts⟩ (kX0_pullFrom l dC dI cyI cyZ cyJ cyD cyB h0 h1 h2 plcq wea i_3 ln 0 (by omega) (by omega) (by omega) hwea) (cwV 3 hts gX5_pull_X0_pullFrom rfl rfl rfl (by decide +kernel) ⟨Nat.le_of_ble_eq_true rfl, Nat.le_of_ble_eq_true rfl⟩) hK hP hD hS [2, 3, 4] rfl (by decide) 2 2 rfl rfl rfl hl.1 rfl (Nat.le_of_ble_eq_true rfl) dX5_pull_38 ⟨Nat.zero_le _, Nat.zero_le _⟩ (fun r_10 u_11 H1 locs hw hP1 hD1 hk1 hS => ?_)
      have hw : r_10 = nI ((puF (plcq (ln * 24 + i_3)) wea ((ln * 24 + i_3) * 64) 0 64).2) := hw
      rw [hw]
      obtain ⟨hP, hD⟩ := xW_join (wr := [(p0, .inr (7, [.ref t0, .ref w0, .ref g0, .ref h0, .ref s0, .ref v0, .int (nI kn)])), (g0, .inr (3, [.ref g1, .ref g2, .ref g3, .ref g4, .ref g5, .int (nI cnt)]))]) (w1 := [(h0, .inr (2, [.ref h1, .ref h2])), (h1, .inl (cyJ, 72, .inr (.inl (va_up plcq (ln * 24 + i_3) (puF (plcq (ln * 24 + i_3)) wea ((ln * 24 + i_3) * 64) 0 64).1)))), (h2, .inl (cyI, 4608, .inl (fun k => nI (wea k))))]) (wN := [(p0, .inr (7, [.ref t0, .ref w0, .ref g0, .ref h0, .ref s0, .ref v0, .int (nI kn)])), (g0, .inr (3, [.ref g1, .ref g2, .ref g3, .ref g4, .ref g5, .int (nI cnt)])), (h0, .inr (2, [.ref h1, .ref h2])), (h1, .inl (cyJ, 72, .inr (.inl (va_up plcq (ln * 24 + i_3) (puF (plcq (ln * 24 + i_3)) wea ((ln * 24 + i_3) * 64) 0 64).1)))), (h2, .inl (cyI, 4608, .inl (fun k => nI (wea k))))]) hP hD [2, 3, 4] [0, 1] [0, 1, 2, 3, 4] rfl rfl (by decide) (by decide) hk1 hP1 hD1 (by decide) rfl
      clear hP1 hD1 hk1
      generalize H1 = H at hP hS ⊢
      refine xi_add hx hb dX5_pull_41 ?_
      refine lv_istore_n (lv' := [(3, .int (nI (pulq + ((puF (plcq (ln * 24 + i_3)) wea ((ln * 24 + i_3) * 64) 0 64).2)))), (4, .int (nI i_3)), (0, .ref p0), (1, .int (nI ln)), (2, .int (xb isw))]) hx hb dX5_pull_42 rfl hl (by decide) rfl (fun ls hl => ?_)
      refine xi_inc (k := 1) (lv' := [(4, .int (nI (i_3 + 1))), (3, .int (nI (pulq + ((puF (plcq (ln * 24 + i_3)) wea ((ln * 24 + i_3) * 64) 0 64).2)))), (0, .ref p0), (1, .int (nI ln)), (2, .int (xb isw))]) hx hb dX5_pull_43 hl rfl (by decide) rfl (fun ls hl => ?_)
      refine lv_goto (tgt := 9) hx hb dX5_pull_46 (by decide) ?_
      exact ih_5 (i_3 + 1) (by omega) (va_up plcq (ln * 24 + i_3) (puF (plcq (ln * 24 + i_3)) wea ((ln * 24 + i_3) * 64) 0 64).1) (pulq + ((puF (plcq (ln * 24 + i_3)) wea ((ln * 24 + i_3) * 64) 0 64).2)) (by have h9 : plF plc wea ln (if isw then 3 else 0) (i_3 + 1) = (va_up (plF plc wea ln (if isw then 3 else 0) i_3).1 (ln * 24 + i_3) (puF ((plF plc wea ln (if isw then 3 else 0) i_3).1 (ln * 24 + i_3)) wea ((ln * 24 + i_3) * 64) (if isw then 3 else 0) 64).1, (plF plc wea ln (if isw then 3 else 0) i_3).2 + (puF ((plF plc wea ln (if isw then 3 else 0) i_3).1 (ln * 24 + i_3)) wea ((ln * 24 + i_3) * 64) (if isw then 3 else 0) 64).2) := rfl; rw [h9, ← hq, c_9]; rfl) _ _ hP hD hS _ (lv_sub hl [0, 1, 2, 3, 4] rfl)
    · refine lv_iconst (v := nI 3) hx hb dX5_pull_33 (by decide) ?_
      refine lv_goto (tgt := 38) hx hb dX5_pull_34 (by decide) ?_
      refine xm_i (As := [.int (nI i_3), .int (nI ln), .int (nI 3)]) (rest := [.int (nI pulq)]) (q := (RX0, TX0, 2)) ⟨hx, hb, hml, hown, hts⟩ (kX0_pullFrom l dC dI cyI cyZ cyJ cyD cyB h0 h1 h2 plcq wea i_3 ln 3 (by omega) (by omega) (by omega) hwea) (cwV 3 hts gX5_pull_X0_pullFrom rfl rfl rfl (by decide +kernel) ⟨Nat.le_of_ble_eq_true rfl, Nat.le_of_ble_eq_true rfl⟩) hK hP hD hS [2, 3, 4] rfl (by decide) 2 2 rfl rfl rfl hl.1 rfl (Nat.le_of_ble_eq_true rfl) dX5_pull_38 ⟨Nat.zero_le _, Nat.zero_le _⟩ (fun r_12 u_13 H1 locs hw hP1 hD1 hk1 hS => ?_)
      have hw : r_12 = nI ((puF (plcq (ln * 24 + i_3)) wea ((ln * 24 + i_3) * 64) 3 64).2) := hw
      rw [hw]
      obtain ⟨hP, hD⟩ := xW_join (wr := [(p0, .inr (7, [.ref t0, .ref w0, .ref g0, .ref h0, .ref s0, .ref v0, .int (nI kn)])), (g0, .inr (3, [.ref g1, .ref g2, .ref g3, .ref g4, .ref g5, .int (nI cnt)]))]) (w1 := [(h0, .inr (2, [.ref h1, .ref h2])), (h1, .inl (cyJ, 72, .inr (.inl (va_up plcq (ln * 24 + i_3) (puF (plcq (ln * 24 + i_3)) wea ((ln * 24 + i_3) * 64) 3 64).1)))), (h2, .inl (cyI, 4608, .inl (fun k => nI (wea k))))]) (wN := [(p0, .inr (7, [.ref t0, .ref w0, .ref g0, .ref h0, .ref s0, .ref v0, .int (nI kn)])), (g0, .inr (3, [.ref g1, .ref g2, .ref g3, .ref g4, .ref g5, .int (nI cnt)])), (h0, .inr (2, [.ref h1, .ref h2])), (h1, .inl (cyJ, 72, .inr (.inl (va_up plcq (ln * 24 + i_3) (puF (plcq (ln * 24 + i_3)) wea ((ln * 24 + i_3) * 64) 3 64).1)))), (h2, .inl (cyI, 4608, .inl (fun k => nI (wea k))))]) hP hD [2, 3, 4] [0, 1] [0, 1, 2, 3, 4] rfl rfl (by decide) (by decide) hk1 hP1 hD1 (by decide) rfl
      clear hP1 hD1 hk1
      generalize H1 = H at hP hS ⊢
      refine xi_add hx hb dX5_pull_41 ?_
      refine lv_istore_n (lv' := [(3, .int (nI (pulq + ((puF (plcq (ln * 24 + i_3)) wea ((ln * 24 + i_3) * 64) 3 64).2)))), (4, .int (nI i_3)), (0, .ref p0), (1, .int (nI ln)), (2, .int (xb isw))]) hx hb dX5_pull_42 rfl hl (by decide) rfl (fun ls hl => ?_)
      refine xi_inc (k := 1) (lv' := [(4, .int (nI (i_3 + 1))), (3, .int (nI (pulq + ((puF (plcq (ln * 24 + i_3)) wea ((ln * 24 + i_3) * 64) 3 64).2)))), (0, .ref p0), (1, .int (nI ln)), (2, .int (xb isw))]) hx hb dX5_pull_43 hl rfl (by decide) rfl (fun ls hl => ?_)
      refine lv_goto (tgt := 9) hx hb dX5_pull_46 (by decide) ?_
      exact ih_5 (i_3 + 1) (by omega) (va_up plcq (ln * 24 + i_3) (puF (plcq (ln * 24 + i_3)) wea ((ln * 24 + i_3) * 64) 3 64).1) (pulq + ((puF (plcq (ln * 24 + i_3)) wea ((ln * 24 + i_3) * 64) 3 64).2)) (by have h9 : plF plc wea ln (if isw then 3 else 0) (i_3 + 1) = (va_up (plF plc wea ln (if isw then 3 else 0) i_3).1 (ln * 24 + i_3) (puF ((plF plc wea ln (if isw then 3 else 0) i_3).1 (ln * 24 + i_3)) wea ((ln * 24 + i_3) * 64) (if isw then 3 else 0) 64).1, (plF plc wea ln (if isw then 3 else 0) i_3).2 + (puF ((plF plc wea ln (if isw then 3 else 0) i_3).1 (ln * 24 + i_3)) wea ((ln * 24 + i_3) * 64) (if isw then 3 else 0) 64).2) := rfl; rw [h9, ← hq, c_9]; rfl) _ _ hP hD hS _ (lv_sub hl [0, 1, 2, 3, 4] rfl)

theorem inX5_shift_X5 : ∀ w ∈ wsX50, w ∈ wsX5_shift := by decide +kernel
theorem mX5_shift_fieldLink_RX5_19_PinBarrel_works_LPinBarrel_Works : Cond.fieldLink RX5 19 "PinBarrel" "works" "LPinBarrel$Works;" ∈ wsX5_shift := List.mem_of_getElem? (i := 1) (by decide +kernel)
theorem inX5_shift_X4 : ∀ w ∈ wsX40, w ∈ wsX5_shift := by decide +kernel
theorem mX5_shift_fieldLink_RX5_112_PinBarrel_Works_shift_I : Cond.fieldLink RX5 112 "PinBarrel$Works" "shift" "I" ∈ wsX5_shift := List.mem_of_getElem? (i := 2) (by decide +kernel)
set_option maxHeartbeats 4000000 in
set_option maxRecDepth 100000 in
theorem kX5_shift (l : Launch) (dC : Nat → ClassId) (dI : Nat → Nat → Nat) (cyI cyZ cyJ cyD cyB : ClassId) (p0 w0 : Nat) (t0 : Nat) (g0 : Nat) (h0 : Nat) (s0 : Nat) (v0 : Nat) (kn : Nat) (wnd : Nat) (gov : Nat) (plo : Nat) (shf : Nat) (stp : Nat) (buz : Nat) (wor : Nat) (cks : UInt64) (ln : Nat) (hln : ln < 3) : Met l yX5_shift wsX5_shift ({ frames := 1, cells := 0, slots := 0, locals := 20 }) (va_Pc [.ref p0, .int (nI ln)] (xM (dC, dI) vwCl (xT cyI cyZ cyJ cyD cyB) [(p0, .inr (7, [.ref t0, .ref w0, .ref g0, .ref h0, .ref s0, .ref v0, .int (nI kn)])), (w0, .inr (6, [.ref g0, .ref h0, .ref s0, .int (nI wnd), .int (nI gov), .int (nI plo), .int (nI shf), .int (nI stp), .int (nI buz), .int (nI wor), .double cks]))])) (va_Qi (fun (r : Int32) (u : Unit) => r = nI shf) (fun u t => va_P (dC, dI) vwCl [(p0, .inr (7, [.ref t0, .ref w0, .ref g0, .ref h0, .ref s0, .ref v0, .int (nI kn)])), (w0, .inr (6, [.ref g0, .ref h0, .ref s0, .int (nI wnd), .int (nI gov), .int (nI plo), .int (nI ln), .int (nI stp), .int (nI buz), .int (nI wor), .double cks]))] t.heap ∧ va_D (xA [(p0, .inr (7, [.ref t0, .ref w0, .ref g0, .ref h0, .ref s0, .ref v0, .int (nI kn)])), (w0, .inr (6, [.ref g0, .ref h0, .ref s0, .int (nI wnd), .int (nI gov), .int (nI plo), .int (nI shf), .int (nI stp), .int (nI buz), .int (nI wor), .double cks]))]) [(p0, .inr (7, [.ref t0, .ref w0, .ref g0, .ref h0, .ref s0, .ref v0, .int (nI kn)])), (w0, .inr (6, [.ref g0, .ref h0, .ref s0, .int (nI wnd), .int (nI gov), .int (nI plo), .int (nI ln), .int (nI stp), .int (nI buz), .int (nI wor), .double cks]))]) (xA [(p0, .inr (7, [.ref t0, .ref w0, .ref g0, .ref h0, .ref s0, .ref v0, .int (nI kn)])), (w0, .inr (6, [.ref g0, .ref h0, .ref s0, .int (nI wnd), .int (nI gov), .int (nI plo), .int (nI shf), .int (nI stp), .int (nI buz), .int (nI wor), .double cks]))])) 0 0 (xA [(p0, .inr (7, [.ref t0, .ref w0, .ref g0, .ref h0, .ref s0, .ref v0, .int (nI kn)])), (w0, .inr (6, [.ref g0, .ref h0, .ref s0, .int (nI wnd), .int (nI gov), .int (nI plo), .int (nI shf), .int (nI stp), .int (nI buz), .int (nI wor), .double cks]))]) := by
  refine Met.ofW (cc := cX5_shift) (maxL := 3) (ret := (some .int)) (by decide) rfl ?_
  intro p e s m args below meth c s₁ B hml hv
  obtain ⟨rfl, hP, hK, hD0⟩ := hv
  have hx := B.exec
  have hb := B.bytes
  have hr := B.returns
  have hts := atoms_spec (ws := wsX5_shift) B.pre
  have hown : s.vm.findClass RX5 = some m.cls := findClass_of_methodNamed B.named
  have hlocks := B.notSynchronized
  have hD := xA_self hD0
  clear hD0
  generalize hAe : xA [(p0, .inr (7, [.ref t0, .ref w0, .ref g0, .ref h0, .ref s0, .ref v0, .int (nI kn)])), (w0, .inr (6, [.ref g0, .ref h0, .ref s0, .int (nI wnd), .int (nI gov), .int (nI plo), .int (nI shf), .int (nI stp), .int (nI buz), .int (nI wor), .double cks]))] = A at hD ⊢
  have hS : va_S A s.heap s.heap [] := va_S.rf
  have hP : va_P (dC, dI) vwCl [(p0, .inr (7, [.ref t0, .ref w0, .ref g0, .ref h0, .ref s0, .ref v0, .int (nI kn)])), (w0, .inr (6, [.ref g0, .ref h0, .ref s0, .int (nI wnd), .int (nI gov), .int (nI plo), .int (nI shf), .int (nI stp), .int (nI buz), .int (nI wor), .double cks]))] s.heap := hP
  have hl := lv_entry ([.ref p0, .int (nI ln)]) (n := 3) (Nat.le_of_ble_eq_true rfl)
  rw [lg_entry_eq]
  generalize (lg_sl ([.ref p0, .int (nI ln)]) ++ List.replicate (3 - (lg_sl ([.ref p0, .int (nI ln)])).length) Slot.unset).toArray = ls at hl ⊢
  have hl : lv_has ls 3 [(0, .ref p0), (1, .int (nI ln))] := hl
  refine lv_iload_n hx hb dX5_shift_0 rfl (lv_at hl 1 rfl) ?_
  refine xs_v (As := [.int (nI ln)]) (rest := []) ⟨hx, hb, hml, hown, hts⟩ (kX5_needLine l ln (by omega)) (va_cwS 1 hts gX5_shift_X5_needLine rfl rfl rfl (by decide +kernel) ⟨Nat.le_of_ble_eq_true rfl, Nat.le_of_ble_eq_true rfl⟩) hP hS rfl hl.1 rfl (Nat.le_of_ble_eq_true rfl) dX5_shift_1 ⟨Nat.zero_le _, Nat.zero_le _⟩ (fun H locs hP hS => ?_)
  refine lv_aload_n hx hb dX5_shift_4 rfl (lv_at hl 0 rfl) ?_
  refine va_get (D := (dC, dI)) (ci := 7) (v := .ref w0) (C := RX5) (T := TX5) (N := 7) hx hb hts inX5_shift_X5 hown hK hP 0 rfl rfl 1 (by decide) (hts _ mX5_shift_fieldLink_RX5_19_PinBarrel_works_LPinBarrel_Works) (fun _ h9 => h9) rfl dX5_shift_5 ?_
  refine va_get (D := (dC, dI)) (ci := 6) (v := .int (nI shf)) (C := RX4) (T := TX4) (N := 11) hx hb hts inX5_shift_X4 hown hK hP 1 rfl rfl 6 (by decide) (hts _ mX5_shift_fieldLink_RX5_112_PinBarrel_Works_shift_I) (fun _ h9 => h9) rfl dX5_shift_8 ?_
  refine lv_istore_n (lv' := [(2, .int (nI shf)), (0, .ref p0), (1, .int (nI ln))]) hx hb dX5_shift_11 rfl hl (by decide) rfl (fun ls hl => ?_)
  refine lv_aload_n hx hb dX5_shift_12 rfl (lv_at hl 1 rfl) ?_
  refine va_get (D := (dC, dI)) (ci := 7) (v := .ref w0) (C := RX5) (T := TX5) (N := 7) hx hb hts inX5_shift_X5 hown hK hP 0 rfl rfl 1 (by decide) (hts _ mX5_shift_fieldLink_RX5_19_PinBarrel_works_LPinBarrel_Works) (fun _ h9 => h9) rfl dX5_shift_13 ?_
  refine lv_iload_n hx hb dX5_shift_16 rfl (lv_at hl 2 rfl) ?_
  refine va_put (D := (dC, dI)) (ci := 6) (v := .int (nI ln)) (ty := .int) (C := RX4) (T := TX4) (N := 11) hx hb hts inX5_shift_X4 tyX4 tyX4_ok nmX4 hown hK hP hD hS 1 rfl rfl 6 (by decide) (hts _ mX5_shift_fieldLink_RX5_112_PinBarrel_Works_shift_I) (fun _ h9 => h9) rfl (by decide +kernel) rfl rfl (Nat.le_of_ble_eq_true rfl) dX5_shift_17 (fun H locs hP hD hS => ?_)
  have hP : va_P (dC, dI) vwCl [(p0, .inr (7, [.ref t0, .ref w0, .ref g0, .ref h0, .ref s0, .ref v0, .int (nI kn)])), (w0, .inr (6, [.ref g0, .ref h0, .ref s0, .int (nI wnd), .int (nI gov), .int (nI plo), .int (nI ln), .int (nI stp), .int (nI buz), .int (nI wor), .double cks]))] H := hP
  have hD : va_D A [(p0, .inr (7, [.ref t0, .ref w0, .ref g0, .ref h0, .ref s0, .ref v0, .int (nI kn)])), (w0, .inr (6, [.ref g0, .ref h0, .ref s0, .int (nI wnd), .int (nI gov), .int (nI plo), .int (nI ln), .int (nI stp), .int (nI buz), .int (nI wor), .double cks]))] := hD
  refine lv_iload_n hx hb dX5_shift_20 rfl (lv_at hl 0 rfl) ?_
  have hP9 : va_P (dC, dI) vwCl [(p0, .inr (7, [.ref t0, .ref w0, .ref g0, .ref h0, .ref s0, .ref v0, .int (nI kn)])), (w0, .inr (6, [.ref g0, .ref h0, .ref s0, .int (nI wnd), .int (nI gov), .int (nI plo), .int (nI ln), .int (nI stp), .int (nI buz), .int (nI wor), .double cks]))] _ := hP
  have hD9 : va_D A [(p0, .inr (7, [.ref t0, .ref w0, .ref g0, .ref h0, .ref s0, .ref v0, .int (nI kn)])), (w0, .inr (6, [.ref g0, .ref h0, .ref s0, .int (nI wnd), .int (nI gov), .int (nI plo), .int (nI ln), .int (nI stp), .int (nI buz), .int (nI wor), .double cks]))] := hD
  exact W.iret (v := nI shf) hx hb hr (fun t ht hW => ⟨⟨nI shf, (), rfl, rfl, ⟨by rw [ht]; exact hP9, hD9⟩⟩, hS.F ht⟩) hS.2.2 dX5_shift_21

theorem inX5_wind_X5 : ∀ w ∈ wsX50, w ∈ wsX5_wind := by decide +kernel
theorem mX5_wind_fieldLink_RX5_19_PinBarrel_works_LPinBarrel_Works : Cond.fieldLink RX5 19 "PinBarrel" "works" "LPinBarrel$Works;" ∈ wsX5_wind := List.mem_of_getElem? (i := 3) (by decide +kernel)
theorem inX5_wind_X4 : ∀ w ∈ wsX40, w ∈ wsX5_wind := by decide +kernel
theorem mX5_wind_fieldLink_RX5_117_PinBarrel_Works_wound_I : Cond.fieldLink RX5 117 "PinBarrel$Works" "wound" "I" ∈ wsX5_wind := List.mem_of_getElem? (i := 4) (by decide +kernel)
theorem mX5_wind_methodLink_RX5_123_Lib_Math_min_name : Cond.methodLink RX5 123 Lib.Math.min.name ∈ wsX5_wind := List.mem_of_getElem? (i := 6) (by decide +kernel)
theorem mX5_wind_static_Lib_Math_min_name : Cond.static Lib.Math.min.name ∈ wsX5_wind := List.mem_of_getElem? (i := 7) (by decide +kernel)
theorem mX5_wind_initialized_java_lang_Math : Cond.initialized "java/lang/Math" ∈ wsX5_wind := List.mem_of_getElem? (i := 8) (by decide +kernel)
theorem mX5_wind_code_Lib_Math_min_name_Lib_Math_min_code_2_some_int : Cond.code Lib.Math.min.name Lib.Math.min.code 2 (some .int) ∈ wsX5_wind := List.mem_of_getElem? (i := 9) (by decide +kernel)
theorem mX5_wind_fieldLink_RX5_120_PinBarrel_knocks_I : Cond.fieldLink RX5 120 "PinBarrel" "knocks" "I" ∈ wsX5_wind := List.mem_of_getElem? (i := 5) (by decide +kernel)
set_option maxHeartbeats 4000000 in
set_option maxRecDepth 100000 in
theorem kX5_wind (l : Launch) (dC : Nat → ClassId) (dI : Nat → Nat → Nat) (cyI cyZ cyJ cyD cyB : ClassId) (p0 w0 : Nat) (t0 : Nat) (g0 : Nat) (h0 : Nat) (s0 : Nat) (v0 : Nat) (kn : Nat) (wnd : Nat) (gov : Nat) (plo : Nat) (shf : Nat) (stp : Nat) (buz : Nat) (wor : Nat) (cks : UInt64) (mu : Nat) (hmu : 1 ≤ mu ∧ mu ≤ 500) (hwn : wnd ≤ 2000) : Met l yX5_wind wsX5_wind ({ frames := 1, cells := 0, slots := 0, locals := 21 }) (va_Pc [.ref p0, .int (nI mu)] (xM (dC, dI) vwCl (xT cyI cyZ cyJ cyD cyB) [(p0, .inr (7, [.ref t0, .ref w0, .ref g0, .ref h0, .ref s0, .ref v0, .int (nI kn)])), (w0, .inr (6, [.ref g0, .ref h0, .ref s0, .int (nI wnd), .int (nI gov), .int (nI plo), .int (nI shf), .int (nI stp), .int (nI buz), .int (nI wor), .double cks]))])) (va_Qi (fun (r : Int32) (u : Unit) => r = nI (min 2000 (wnd + mu))) (fun u t => va_P (dC, dI) vwCl [(p0, .inr (7, [.ref t0, .ref w0, .ref g0, .ref h0, .ref s0, .ref v0, .int (nI (if 2000 ≤ wnd then kn + 1 else kn))])), (w0, .inr (6, [.ref g0, .ref h0, .ref s0, .int (nI (min 2000 (wnd + mu))), .int (nI gov), .int (nI plo), .int (nI shf), .int (nI stp), .int (nI buz), .int (nI wor), .double cks]))] t.heap ∧ va_D (xA [(p0, .inr (7, [.ref t0, .ref w0, .ref g0, .ref h0, .ref s0, .ref v0, .int (nI kn)])), (w0, .inr (6, [.ref g0, .ref h0, .ref s0, .int (nI wnd), .int (nI gov), .int (nI plo), .int (nI shf), .int (nI stp), .int (nI buz), .int (nI wor), .double cks]))]) [(p0, .inr (7, [.ref t0, .ref w0, .ref g0, .ref h0, .ref s0, .ref v0, .int (nI (if 2000 ≤ wnd then kn + 1 else kn))])), (w0, .inr (6, [.ref g0, .ref h0, .ref s0, .int (nI (min 2000 (wnd + mu))), .int (nI gov), .int (nI plo), .int (nI shf), .int (nI stp), .int (nI buz), .int (nI wor), .double cks]))]) (xA [(p0, .inr (7, [.ref t0, .ref w0, .ref g0, .ref h0, .ref s0, .ref v0, .int (nI kn)])), (w0, .inr (6, [.ref g0, .ref h0, .ref s0, .int (nI wnd), .int (nI gov), .int (nI plo), .int (nI shf), .int (nI stp), .int (nI buz), .int (nI wor), .double cks]))])) 0 0 (xA [(p0, .inr (7, [.ref t0, .ref w0, .ref g0, .ref h0, .ref s0, .ref v0, .int (nI kn)])), (w0, .inr (6, [.ref g0, .ref h0, .ref s0, .int (nI wnd), .int (nI gov), .int (nI plo), .int (nI shf), .int (nI stp), .int (nI buz), .int (nI wor), .double cks]))]) := by
  refine Met.ofW (cc := cX5_wind) (maxL := 2) (ret := (some .int)) (by decide) rfl ?_
  intro p e s m args below meth c s₁ B hml hv
  obtain ⟨rfl, hP, hK, hD0⟩ := hv
  have hx := B.exec
  have hb := B.bytes
  have hr := B.returns
  have hts := atoms_spec (ws := wsX5_wind) B.pre
  have hown : s.vm.findClass RX5 = some m.cls := findClass_of_methodNamed B.named
  have hlocks := B.notSynchronized
  have hD := xA_self hD0
  clear hD0
  generalize hAe : xA [(p0, .inr (7, [.ref t0, .ref w0, .ref g0, .ref h0, .ref s0, .ref v0, .int (nI kn)])), (w0, .inr (6, [.ref g0, .ref h0, .ref s0, .int (nI wnd), .int (nI gov), .int (nI plo), .int (nI shf), .int (nI stp), .int (nI buz), .int (nI wor), .double cks]))] = A at hD ⊢
  have hS : va_S A s.heap s.heap [] := va_S.rf
  have hP : va_P (dC, dI) vwCl [(p0, .inr (7, [.ref t0, .ref w0, .ref g0, .ref h0, .ref s0, .ref v0, .int (nI kn)])), (w0, .inr (6, [.ref g0, .ref h0, .ref s0, .int (nI wnd), .int (nI gov), .int (nI plo), .int (nI shf), .int (nI stp), .int (nI buz), .int (nI wor), .double cks]))] s.heap := hP
  have hl := lv_entry ([.ref p0, .int (nI mu)]) (n := 2) (Nat.le_of_ble_eq_true rfl)
  rw [lg_entry_eq]
  generalize (lg_sl ([.ref p0, .int (nI mu)]) ++ List.replicate (2 - (lg_sl ([.ref p0, .int (nI mu)])).length) Slot.unset).toArray = ls at hl ⊢
  have hl : lv_has ls 2 [(0, .ref p0), (1, .int (nI mu))] := hl
  refine lv_iload_n hx hb dX5_wind_0 rfl (lv_at hl 1 rfl) ?_
  refine lv_iconst (v := nI 1) hx hb dX5_wind_1 (by decide) ?_
  refine xc_lt (tgt := 12) hx hb dX5_wind_2 (by decide) (by omega) (by omega) (fun c_1 => by omega) (fun c_1 => ?_)
  refine lv_iload_n hx hb dX5_wind_5 rfl (lv_at hl 1 rfl) ?_
  refine lv_sipush (v := nI 500) hx hb dX5_wind_6 (by decide) ?_
  refine xc_le (tgt := 22) hx hb dX5_wind_9 (by decide) (by omega) (by omega) (fun c_2 => ?_) (fun c_2 => by omega)
  refine lv_aload_n hx hb dX5_wind_22 rfl (lv_at hl 0 rfl) ?_
  refine va_get (D := (dC, dI)) (ci := 7) (v := .ref w0) (C := RX5) (T := TX5) (N := 7) hx hb hts inX5_wind_X5 hown hK hP 0 rfl rfl 1 (by decide) (hts _ mX5_wind_fieldLink_RX5_19_PinBarrel_works_LPinBarrel_Works) (fun _ h9 => h9) rfl dX5_wind_23 ?_
  refine va_get (D := (dC, dI)) (ci := 6) (v := .int (nI wnd)) (C := RX4) (T := TX4) (N := 11) hx hb hts inX5_wind_X4 hown hK hP 1 rfl rfl 3 (by decide) (hts _ mX5_wind_fieldLink_RX5_117_PinBarrel_Works_wound_I) (fun _ h9 => h9) rfl dX5_wind_26 ?_
  refine lv_sipush (v := nI 2000) hx hb dX5_wind_29 (by decide) ?_
  refine xc_lt (tgt := 48) hx hb dX5_wind_32 (by decide) (by omega) (by omega) (fun c_3 => ?_) (fun c_3 => ?_)
  · refine lv_aload_n hx hb dX5_wind_48 rfl (lv_at hl 0 rfl) ?_
    refine va_get (D := (dC, dI)) (ci := 7) (v := .ref w0) (C := RX5) (T := TX5) (N := 7) hx hb hts inX5_wind_X5 hown hK hP 0 rfl rfl 1 (by decide) (hts _ mX5_wind_fieldLink_RX5_19_PinBarrel_works_LPinBarrel_Works) (fun _ h9 => h9) rfl dX5_wind_49 ?_
    refine lv_sipush (v := nI 2000) hx hb dX5_wind_52 (by decide) ?_
    refine lv_aload_n hx hb dX5_wind_55 rfl (lv_at hl 0 rfl) ?_
    refine va_get (D := (dC, dI)) (ci := 7) (v := .ref w0) (C := RX5) (T := TX5) (N := 7) hx hb hts inX5_wind_X5 hown hK hP 0 rfl rfl 1 (by decide) (hts _ mX5_wind_fieldLink_RX5_19_PinBarrel_works_LPinBarrel_Works) (fun _ h9 => h9) rfl dX5_wind_56 ?_
    refine va_get (D := (dC, dI)) (ci := 6) (v := .int (nI wnd)) (C := RX4) (T := TX4) (N := 11) hx hb hts inX5_wind_X4 hown hK hP 1 rfl rfl 3 (by decide) (hts _ mX5_wind_fieldLink_RX5_117_PinBarrel_Works_wound_I) (fun _ h9 => h9) rfl dX5_wind_59 ?_
    refine lv_iload_n hx hb dX5_wind_62 rfl (lv_at hl 1 rfl) ?_
    refine xi_add hx hb dX5_wind_63 ?_
    refine va_mmin hx hb (hml.trans hl.1.symm) hown (hts _ mX5_wind_methodLink_RX5_123_Lib_Math_min_name) (hts _ mX5_wind_static_Lib_Math_min_name) (hts _ mX5_wind_initialized_java_lang_Math) (hts _ mX5_wind_code_Lib_Math_min_name_Lib_Math_min_code_2_some_int) (Nat.le_of_ble_eq_true rfl) (Nat.le_of_ble_eq_true rfl) (Nat.zero_le _) ( Nat.zero_le _) dX5_wind_64 ?_
    rw [xk_min (x := 2000) (y := (wnd + mu)) (by omega) (by omega)]
    refine va_put (D := (dC, dI)) (ci := 6) (v := .int (nI (min 2000 (wnd + mu)))) (ty := .int) (C := RX4) (T := TX4) (N := 11) hx hb hts inX5_wind_X4 tyX4 tyX4_ok nmX4 hown hK hP hD hS 1 rfl rfl 3 (by decide) (hts _ mX5_wind_fieldLink_RX5_117_PinBarrel_Works_wound_I) (fun _ h9 => h9) rfl (by decide +kernel) rfl rfl (Nat.le_of_ble_eq_true rfl) dX5_wind_67 (fun H locs hP hD hS => ?_)
    have hP : va_P (dC, dI) vwCl [(p0, .inr (7, [.ref t0, .ref w0, .ref g0, .ref h0, .ref s0, .ref v0, .int (nI kn)])), (w0, .inr (6, [.ref g0, .ref h0, .ref s0, .int (nI (min 2000 (wnd + mu))), .int (nI gov), .int (nI plo), .int (nI shf), .int (nI stp), .int (nI buz), .int (nI wor), .double cks]))] H := hP
    have hD : va_D A [(p0, .inr (7, [.ref t0, .ref w0, .ref g0, .ref h0, .ref s0, .ref v0, .int (nI kn)])), (w0, .inr (6, [.ref g0, .ref h0, .ref s0, .int (nI (min 2000 (wnd + mu))), .int (nI gov), .int (nI plo), .int (nI shf), .int (nI stp), .int (nI buz), .int (nI wor), .double cks]))] := hD
    refine lv_aload_n hx hb dX5_wind_70 rfl (lv_at hl 0 rfl) ?_
    refine va_get (D := (dC, dI)) (ci := 7) (v := .ref w0) (C := RX5) (T := TX5) (N := 7) hx hb hts inX5_wind_X5 hown hK hP 0 rfl rfl 1 (by decide) (hts _ mX5_wind_fieldLink_RX5_19_PinBarrel_works_LPinBarrel_Works) (fun _ h9 => h9) rfl dX5_wind_71 ?_
    refine va_get (D := (dC, dI)) (ci := 6) (v := .int (nI (min 2000 (wnd + mu)))) (C := RX4) (T := TX4) (N := 11) hx hb hts inX5_wind_X4 hown hK hP 1 rfl rfl 3 (by decide) (hts _ mX5_wind_fieldLink_RX5_117_PinBarrel_Works_wound_I) (fun _ h9 => h9) rfl dX5_wind_74 ?_
    have e1 : (if 2000 ≤ wnd then kn + 1 else kn) = kn := if_neg (by omega)
    have e2 : min 2000 (wnd + mu) = min 2000 (wnd + mu) := rfl
    have hP := xW_eqP (w1 := [(p0, .inr (7, [.ref t0, .ref w0, .ref g0, .ref h0, .ref s0, .ref v0, .int (nI (if 2000 ≤ wnd then kn + 1 else kn))])), (w0, .inr (6, [.ref g0, .ref h0, .ref s0, .int (nI (min 2000 (wnd + mu))), .int (nI gov), .int (nI plo), .int (nI shf), .int (nI stp), .int (nI buz), .int (nI wor), .double cks]))]) hP (by rw [e1])
    have hD := xW_eqD (w1 := [(p0, .inr (7, [.ref t0, .ref w0, .ref g0, .ref h0, .ref s0, .ref v0, .int (nI (if 2000 ≤ wnd then kn + 1 else kn))])), (w0, .inr (6, [.ref g0, .ref h0, .ref s0, .int (nI (min 2000 (wnd + mu))), .int (nI gov), .int (nI plo), .int (nI shf), .int (nI stp), .int (nI buz), .int (nI wor), .double cks]))]) hD (by rw [e1])
    have hP9 : va_P (dC, dI) vwCl [(p0, .inr (7, [.ref t0, .ref w0, .ref g0, .ref h0, .ref s0, .ref v0, .int (nI (if 2000 ≤ wnd then kn + 1 else kn))])), (w0, .inr (6, [.ref g0, .ref h0, .ref s0, .int (nI (min 2000 (wnd + mu))), .int (nI gov), .int (nI plo), .int (nI shf), .int (nI stp), .int (nI buz), .int (nI wor), .double cks]))] _ := hP
    have hD9 : va_D A [(p0, .inr (7, [.ref t0, .ref w0, .ref g0, .ref h0, .ref s0, .ref v0, .int (nI (if 2000 ≤ wnd then kn + 1 else kn))])), (w0, .inr (6, [.ref g0, .ref h0, .ref s0, .int (nI (min 2000 (wnd + mu))), .int (nI gov), .int (nI plo), .int (nI shf), .int (nI stp), .int (nI buz), .int (nI wor), .double cks]))] := hD
    exact W.iret (v := nI (min 2000 (wnd + mu))) hx hb hr (fun t ht hW => ⟨⟨nI (min 2000 (wnd + mu)), (), rfl, (congrArg nI e2.symm), ⟨by rw [ht]; exact hP9, hD9⟩⟩, hS.F ht⟩) hS.2.2 dX5_wind_77
  · refine lv_aload_n hx hb dX5_wind_35 rfl (lv_at hl 0 rfl) ?_
    refine lv_dup hx hb dX5_wind_36 rfl ?_
    refine va_get (D := (dC, dI)) (ci := 7) (v := .int (nI kn)) (C := RX5) (T := TX5) (N := 7) hx hb hts inX5_wind_X5 hown hK hP 0 rfl rfl 6 (by decide) (hts _ mX5_wind_fieldLink_RX5_120_PinBarrel_knocks_I) (fun _ h9 => h9) rfl dX5_wind_37 ?_
    refine lv_iconst (v := nI 1) hx hb dX5_wind_40 (by decide) ?_
    refine xi_add hx hb dX5_wind_41 ?_
    refine va_put (D := (dC, dI)) (ci := 7) (v := .int (nI (kn + 1))) (ty := .int) (C := RX5) (T := TX5) (N := 7) hx hb hts inX5_wind_X5 tyX5 tyX5_ok nmX5 hown hK hP hD hS 0 rfl rfl 6 (by decide) (hts _ mX5_wind_fieldLink_RX5_120_PinBarrel_knocks_I) (fun _ h9 => h9) rfl (by decide +kernel) rfl rfl (Nat.le_of_ble_eq_true rfl) dX5_wind_42 (fun H locs hP hD hS => ?_)
    have hP : va_P (dC, dI) vwCl [(p0, .inr (7, [.ref t0, .ref w0, .ref g0, .ref h0, .ref s0, .ref v0, .int (nI (kn + 1))])), (w0, .inr (6, [.ref g0, .ref h0, .ref s0, .int (nI wnd), .int (nI gov), .int (nI plo), .int (nI shf), .int (nI stp), .int (nI buz), .int (nI wor), .double cks]))] H := hP
    have hD : va_D A [(p0, .inr (7, [.ref t0, .ref w0, .ref g0, .ref h0, .ref s0, .ref v0, .int (nI (kn + 1))])), (w0, .inr (6, [.ref g0, .ref h0, .ref s0, .int (nI wnd), .int (nI gov), .int (nI plo), .int (nI shf), .int (nI stp), .int (nI buz), .int (nI wor), .double cks]))] := hD
    refine lv_goto (tgt := 70) hx hb dX5_wind_45 (by decide) ?_
    refine lv_aload_n hx hb dX5_wind_70 rfl (lv_at hl 0 rfl) ?_
    refine va_get (D := (dC, dI)) (ci := 7) (v := .ref w0) (C := RX5) (T := TX5) (N := 7) hx hb hts inX5_wind_X5 hown hK hP 0 rfl rfl 1 (by decide) (hts _ mX5_wind_fieldLink_RX5_19_PinBarrel_works_LPinBarrel_Works) (fun _ h9 => h9) rfl dX5_wind_71 ?_
    refine va_get (D := (dC, dI)) (ci := 6) (v := .int (nI wnd)) (C := RX4) (T := TX4) (N := 11) hx hb hts inX5_wind_X4 hown hK hP 1 rfl rfl 3 (by decide) (hts _ mX5_wind_fieldLink_RX5_117_PinBarrel_Works_wound_I) (fun _ h9 => h9) rfl dX5_wind_74 ?_
    have e1 : (if 2000 ≤ wnd then kn + 1 else kn) = kn + 1 := if_pos (by omega)
    have e2 : min 2000 (wnd + mu) = wnd := by omega
    have hP := xW_eqP (w1 := [(p0, .inr (7, [.ref t0, .ref w0, .ref g0, .ref h0, .ref s0, .ref v0, .int (nI (if 2000 ≤ wnd then kn + 1 else kn))])), (w0, .inr (6, [.ref g0, .ref h0, .ref s0, .int (nI (min 2000 (wnd + mu))), .int (nI gov), .int (nI plo), .int (nI shf), .int (nI stp), .int (nI buz), .int (nI wor), .double cks]))]) hP (by rw [e1, e2])
    have hD := xW_eqD (w1 := [(p0, .inr (7, [.ref t0, .ref w0, .ref g0, .ref h0, .ref s0, .ref v0, .int (nI (if 2000 ≤ wnd then kn + 1 else kn))])), (w0, .inr (6, [.ref g0, .ref h0, .ref s0, .int (nI (min 2000 (wnd + mu))), .int (nI gov), .int (nI plo), .int (nI shf), .int (nI stp), .int (nI buz), .int (nI wor), .double cks]))]) hD (by rw [e1, e2])
    have hP9 : va_P (dC, dI) vwCl [(p0, .inr (7, [.ref t0, .ref w0, .ref g0, .ref h0, .ref s0, .ref v0, .int (nI (if 2000 ≤ wnd then kn + 1 else kn))])), (w0, .inr (6, [.ref g0, .ref h0, .ref s0, .int (nI (min 2000 (wnd + mu))), .int (nI gov), .int (nI plo), .int (nI shf), .int (nI stp), .int (nI buz), .int (nI wor), .double cks]))] _ := hP
    have hD9 : va_D A [(p0, .inr (7, [.ref t0, .ref w0, .ref g0, .ref h0, .ref s0, .ref v0, .int (nI (if 2000 ≤ wnd then kn + 1 else kn))])), (w0, .inr (6, [.ref g0, .ref h0, .ref s0, .int (nI (min 2000 (wnd + mu))), .int (nI gov), .int (nI plo), .int (nI shf), .int (nI stp), .int (nI buz), .int (nI wor), .double cks]))] := hD
    exact W.iret (v := nI wnd) hx hb hr (fun t ht hW => ⟨⟨nI wnd, (), rfl, (congrArg nI e2.symm), ⟨by rw [ht]; exact hP9, hD9⟩⟩, hS.F ht⟩) hS.2.2 dX5_wind_77

theorem inX5_speed_X5 : ∀ w ∈ wsX50, w ∈ wsX5_speed := by decide +kernel
theorem mX5_speed_fieldLink_RX5_19_PinBarrel_works_LPinBarrel_Works : Cond.fieldLink RX5 19 "PinBarrel" "works" "LPinBarrel$Works;" ∈ wsX5_speed := List.mem_of_getElem? (i := 1) (by decide +kernel)
set_option maxHeartbeats 4000000 in
set_option maxRecDepth 100000 in
theorem kX5_speed (l : Launch) (dC : Nat → ClassId) (dI : Nat → Nat → Nat) (cyI cyZ cyJ cyD cyB : ClassId) (p0 w0 : Nat) (t0 : Nat) (g0 : Nat) (h0 : Nat) (s0 : Nat) (v0 : Nat) (kn : Nat) (wnd : Nat) (gov : Nat) (plo : Nat) (shf : Nat) (stp : Nat) (buz : Nat) (wor : Nat) (cks : UInt64) (hgv : 1 ≤ gov ∧ gov ≤ 8) (hwn : wnd ≤ 2000) : Met l yX5_speed wsX5_speed ({ frames := 1, cells := 0, slots := 0, locals := 21 }) (va_Pc [.ref p0] (xP (dC, dI) vwCl (xT cyI cyZ cyJ cyD cyB) [(p0, .inr (7, [.ref t0, .ref w0, .ref g0, .ref h0, .ref s0, .ref v0, .int (nI kn)])), (w0, .inr (6, [.ref g0, .ref h0, .ref s0, .int (nI wnd), .int (nI gov), .int (nI plo), .int (nI shf), .int (nI stp), .int (nI buz), .int (nI wor), .double cks]))])) (va_Qd (fun (r : UInt64) (u : Unit) => r = FP.f2d (spdF gov wnd)) (fun _ _ => True) (fun _ => False)) 0 0 (fun _ => False) := by
  refine Met.ofW (cc := cX5_speed) (maxL := 1) (ret := (some .double)) (by decide) rfl ?_
  intro p e s m args below meth c s₁ B hml hv
  obtain ⟨rfl, hP, hK⟩ := hv
  have hx := B.exec
  have hb := B.bytes
  have hr := B.returns
  have hts := atoms_spec (ws := wsX5_speed) B.pre
  have hown : s.vm.findClass RX5 = some m.cls := findClass_of_methodNamed B.named
  have hlocks := B.notSynchronized
  have hS : va_S (fun _ => False) s.heap s.heap [] := va_S.rf
  have hP : va_P (dC, dI) vwCl [(p0, .inr (7, [.ref t0, .ref w0, .ref g0, .ref h0, .ref s0, .ref v0, .int (nI kn)])), (w0, .inr (6, [.ref g0, .ref h0, .ref s0, .int (nI wnd), .int (nI gov), .int (nI plo), .int (nI shf), .int (nI stp), .int (nI buz), .int (nI wor), .double cks]))] s.heap := hP
  have hl := lv_entry ([.ref p0]) (n := 1) (Nat.le_of_ble_eq_true rfl)
  rw [lg_entry_eq]
  generalize (lg_sl ([.ref p0]) ++ List.replicate (1 - (lg_sl ([.ref p0])).length) Slot.unset).toArray = ls at hl ⊢
  have hl : lv_has ls 1 [(0, .ref p0)] := hl
  refine lv_aload_n hx hb dX5_speed_0 rfl (lv_at hl 0 rfl) ?_
  refine va_get (D := (dC, dI)) (ci := 7) (v := .ref w0) (C := RX5) (T := TX5) (N := 7) hx hb hts inX5_speed_X5 hown hK hP 0 rfl rfl 1 (by decide) (hts _ mX5_speed_fieldLink_RX5_19_PinBarrel_works_LPinBarrel_Works) (fun _ h9 => h9) rfl dX5_speed_1 ?_
  refine xv_f (As := []) (rest := []) (q := (RX4, TX4, 11)) ⟨hx, hb, hml, hown, hts⟩ (kX4_speedNow l dC dI cyI cyZ cyJ cyD cyB w0 g0 h0 s0 wnd gov plo shf stp buz wor cks (by omega) (by omega)) (cwV 0 hts gX5_speed_X4_speedNow rfl rfl rfl (by decide +kernel) ⟨Nat.le_of_ble_eq_true rfl, Nat.le_of_ble_eq_true rfl⟩) hK hP hS [1] rfl 1 6 rfl rfl rfl hl.1 rfl (Nat.le_of_ble_eq_true rfl) dX5_speed_4 ⟨Nat.zero_le _, Nat.zero_le _⟩ (fun r_1 H locs hw hP hS => ?_)
  have hw : r_1 = spdF gov wnd := hw
  subst hw
  refine lv_f2d hx hb dX5_speed_7 (spd_n4 gov wnd hgv hwn) ?_
  exact W.dret (v := FP.f2d (spdF gov wnd)) hx hb hr (fun t ht hW => ⟨⟨FP.f2d (spdF gov wnd), (), rfl, rfl, trivial⟩, hS.F ht⟩) hS.2.2 dX5_speed_8

theorem inX5_govern_X5 : ∀ w ∈ wsX50, w ∈ wsX5_govern := by decide +kernel
theorem mX5_govern_fieldLink_RX5_19_PinBarrel_works_LPinBarrel_Works : Cond.fieldLink RX5 19 "PinBarrel" "works" "LPinBarrel$Works;" ∈ wsX5_govern := List.mem_of_getElem? (i := 3) (by decide +kernel)
theorem inX5_govern_X4 : ∀ w ∈ wsX40, w ∈ wsX5_govern := by decide +kernel
theorem mX5_govern_fieldLink_RX5_131_PinBarrel_Works_governor_I : Cond.fieldLink RX5 131 "PinBarrel$Works" "governor" "I" ∈ wsX5_govern := List.mem_of_getElem? (i := 4) (by decide +kernel)
set_option maxHeartbeats 4000000 in
set_option maxRecDepth 100000 in
theorem kX5_govern (l : Launch) (dC : Nat → ClassId) (dI : Nat → Nat → Nat) (cyI cyZ cyJ cyD cyB : ClassId) (p0 w0 : Nat) (t0 : Nat) (g0 : Nat) (h0 : Nat) (s0 : Nat) (v0 : Nat) (kn : Nat) (wnd : Nat) (gov : Nat) (plo : Nat) (shf : Nat) (stp : Nat) (buz : Nat) (wor : Nat) (cks : UInt64) (gv : Nat) (hgv : 1 ≤ gv ∧ gv ≤ 8) (hwn : wnd ≤ 2000) : Met l yX5_govern wsX5_govern ({ frames := 2, cells := 0, slots := 0, locals := 41 }) (va_Pc [.ref p0, .int (nI gv)] (xM (dC, dI) vwCl (xT cyI cyZ cyJ cyD cyB) [(p0, .inr (7, [.ref t0, .ref w0, .ref g0, .ref h0, .ref s0, .ref v0, .int (nI kn)])), (w0, .inr (6, [.ref g0, .ref h0, .ref s0, .int (nI wnd), .int (nI gov), .int (nI plo), .int (nI shf), .int (nI stp), .int (nI buz), .int (nI wor), .double cks]))])) (va_Qd (fun (r : UInt64) (u : Unit) => r = FP.f2d (spdF gv wnd)) (fun u t => va_P (dC, dI) vwCl [(p0, .inr (7, [.ref t0, .ref w0, .ref g0, .ref h0, .ref s0, .ref v0, .int (nI kn)])), (w0, .inr (6, [.ref g0, .ref h0, .ref s0, .int (nI wnd), .int (nI gv), .int (nI plo), .int (nI shf), .int (nI stp), .int (nI buz), .int (nI wor), .double cks]))] t.heap ∧ va_D (xA [(p0, .inr (7, [.ref t0, .ref w0, .ref g0, .ref h0, .ref s0, .ref v0, .int (nI kn)])), (w0, .inr (6, [.ref g0, .ref h0, .ref s0, .int (nI wnd), .int (nI gov), .int (nI plo), .int (nI shf), .int (nI stp), .int (nI buz), .int (nI wor), .double cks]))]) [(p0, .inr (7, [.ref t0, .ref w0, .ref g0, .ref h0, .ref s0, .ref v0, .int (nI kn)])), (w0, .inr (6, [.ref g0, .ref h0, .ref s0, .int (nI wnd), .int (nI gv), .int (nI plo), .int (nI shf), .int (nI stp), .int (nI buz), .int (nI wor), .double cks]))]) (xA [(p0, .inr (7, [.ref t0, .ref w0, .ref g0, .ref h0, .ref s0, .ref v0, .int (nI kn)])), (w0, .inr (6, [.ref g0, .ref h0, .ref s0, .int (nI wnd), .int (nI gov), .int (nI plo), .int (nI shf), .int (nI stp), .int (nI buz), .int (nI wor), .double cks]))])) 0 0 (xA [(p0, .inr (7, [.ref t0, .ref w0, .ref g0, .ref h0, .ref s0, .ref v0, .int (nI kn)])), (w0, .inr (6, [.ref g0, .ref h0, .ref s0, .int (nI wnd), .int (nI gov), .int (nI plo), .int (nI shf), .int (nI stp), .int (nI buz), .int (nI wor), .double cks]))]) := by
  refine Met.ofW (cc := cX5_govern) (maxL := 2) (ret := (some .double)) (by decide) rfl ?_
  intro p e s m args below meth c s₁ B hml hv
  obtain ⟨rfl, hP, hK, hD0⟩ := hv
  have hx := B.exec
  have hb := B.bytes
  have hr := B.returns
  have hts := atoms_spec (ws := wsX5_govern) B.pre
  have hown : s.vm.findClass RX5 = some m.cls := findClass_of_methodNamed B.named
  have hlocks := B.notSynchronized
  have hD := xA_self hD0
  clear hD0
  generalize hAe : xA [(p0, .inr (7, [.ref t0, .ref w0, .ref g0, .ref h0, .ref s0, .ref v0, .int (nI kn)])), (w0, .inr (6, [.ref g0, .ref h0, .ref s0, .int (nI wnd), .int (nI gov), .int (nI plo), .int (nI shf), .int (nI stp), .int (nI buz), .int (nI wor), .double cks]))] = A at hD ⊢
  have hS : va_S A s.heap s.heap [] := va_S.rf
  have hP : va_P (dC, dI) vwCl [(p0, .inr (7, [.ref t0, .ref w0, .ref g0, .ref h0, .ref s0, .ref v0, .int (nI kn)])), (w0, .inr (6, [.ref g0, .ref h0, .ref s0, .int (nI wnd), .int (nI gov), .int (nI plo), .int (nI shf), .int (nI stp), .int (nI buz), .int (nI wor), .double cks]))] s.heap := hP
  have hl := lv_entry ([.ref p0, .int (nI gv)]) (n := 2) (Nat.le_of_ble_eq_true rfl)
  rw [lg_entry_eq]
  generalize (lg_sl ([.ref p0, .int (nI gv)]) ++ List.replicate (2 - (lg_sl ([.ref p0, .int (nI gv)])).length) Slot.unset).toArray = ls at hl ⊢
  have hl : lv_has ls 2 [(0, .ref p0), (1, .int (nI gv))] := hl
  refine lv_iload_n hx hb dX5_govern_0 rfl (lv_at hl 1 rfl) ?_
  refine lv_iconst (v := nI 1) hx hb dX5_govern_1 (by decide) ?_
  refine xc_lt (tgt := 11) hx hb dX5_govern_2 (by decide) (by omega) (by omega) (fun c_1 => by omega) (fun c_1 => ?_)
  refine lv_iload_n hx hb dX5_govern_5 rfl (lv_at hl 1 rfl) ?_
  refine lv_bipush (v := nI 8) hx hb dX5_govern_6 (by decide) ?_
  refine xc_le (tgt := 21) hx hb dX5_govern_8 (by decide) (by omega) (by omega) (fun c_2 => ?_) (fun c_2 => by omega)
  refine lv_aload_n hx hb dX5_govern_21 rfl (lv_at hl 0 rfl) ?_
  refine va_get (D := (dC, dI)) (ci := 7) (v := .ref w0) (C := RX5) (T := TX5) (N := 7) hx hb hts inX5_govern_X5 hown hK hP 0 rfl rfl 1 (by decide) (hts _ mX5_govern_fieldLink_RX5_19_PinBarrel_works_LPinBarrel_Works) (fun _ h9 => h9) rfl dX5_govern_22 ?_
  refine lv_iload_n hx hb dX5_govern_25 rfl (lv_at hl 1 rfl) ?_
  refine va_put (D := (dC, dI)) (ci := 6) (v := .int (nI gv)) (ty := .int) (C := RX4) (T := TX4) (N := 11) hx hb hts inX5_govern_X4 tyX4 tyX4_ok nmX4 hown hK hP hD hS 1 rfl rfl 4 (by decide) (hts _ mX5_govern_fieldLink_RX5_131_PinBarrel_Works_governor_I) (fun _ h9 => h9) rfl (by decide +kernel) rfl rfl (Nat.le_of_ble_eq_true rfl) dX5_govern_26 (fun H locs hP hD hS => ?_)
  have hP : va_P (dC, dI) vwCl [(p0, .inr (7, [.ref t0, .ref w0, .ref g0, .ref h0, .ref s0, .ref v0, .int (nI kn)])), (w0, .inr (6, [.ref g0, .ref h0, .ref s0, .int (nI wnd), .int (nI gv), .int (nI plo), .int (nI shf), .int (nI stp), .int (nI buz), .int (nI wor), .double cks]))] H := hP
  have hD : va_D A [(p0, .inr (7, [.ref t0, .ref w0, .ref g0, .ref h0, .ref s0, .ref v0, .int (nI kn)])), (w0, .inr (6, [.ref g0, .ref h0, .ref s0, .int (nI wnd), .int (nI gv), .int (nI plo), .int (nI shf), .int (nI stp), .int (nI buz), .int (nI wor), .double cks]))] := hD
  refine lv_aload_n hx hb dX5_govern_29 rfl (lv_at hl 0 rfl) ?_
  refine xv_d (As := []) (rest := []) (q := (RX5, TX5, 7)) ⟨hx, hb, hml, hown, hts⟩ (kX5_speed l dC dI cyI cyZ cyJ cyD cyB p0 w0 t0 g0 h0 s0 v0 kn wnd gv plo shf stp buz wor cks (by omega) (by omega)) (cwV 0 hts gX5_govern_X5_speed rfl rfl rfl (by decide +kernel) ⟨Nat.le_of_ble_eq_true rfl, Nat.le_of_ble_eq_true rfl⟩) hK hP hS [0, 1] rfl 0 7 rfl rfl rfl hl.1 rfl (Nat.le_of_ble_eq_true rfl) dX5_govern_30 ⟨Nat.zero_le _, Nat.zero_le _⟩ (fun r_3 H locs hw hP hS => ?_)
  have hw : r_3 = FP.f2d (spdF gv wnd) := hw
  subst hw
  have hP9 : va_P (dC, dI) vwCl [(p0, .inr (7, [.ref t0, .ref w0, .ref g0, .ref h0, .ref s0, .ref v0, .int (nI kn)])), (w0, .inr (6, [.ref g0, .ref h0, .ref s0, .int (nI wnd), .int (nI gv), .int (nI plo), .int (nI shf), .int (nI stp), .int (nI buz), .int (nI wor), .double cks]))] _ := hP
  have hD9 : va_D A [(p0, .inr (7, [.ref t0, .ref w0, .ref g0, .ref h0, .ref s0, .ref v0, .int (nI kn)])), (w0, .inr (6, [.ref g0, .ref h0, .ref s0, .int (nI wnd), .int (nI gv), .int (nI plo), .int (nI shf), .int (nI stp), .int (nI buz), .int (nI wor), .double cks]))] := hD
  exact W.dret (v := FP.f2d (spdF gv wnd)) hx hb hr (fun t ht hW => ⟨⟨FP.f2d (spdF gv wnd), (), rfl, rfl, ⟨by rw [ht]; exact hP9, hD9⟩⟩, hS.F ht⟩) hS.2.2 dX5_govern_33

theorem inX5_play_X5 : ∀ w ∈ wsX50, w ∈ wsX5_play := by decide +kernel
theorem mX5_play_fieldLink_RX5_37_PinBarrel_sounds_LPinBarrel_Sounds : Cond.fieldLink RX5 37 "PinBarrel" "sounds" "LPinBarrel$Sounds;" ∈ wsX5_play := List.mem_of_getElem? (i := 1) (by decide +kernel)
theorem inX5_play_X2 : ∀ w ∈ wsX20, w ∈ wsX5_play := by decide +kernel
theorem mX5_play_fieldLink_RX5_141_PinBarrel_Sounds_ever_I : Cond.fieldLink RX5 141 "PinBarrel$Sounds" "ever" "I" ∈ wsX5_play := List.mem_of_getElem? (i := 2) (by decide +kernel)
theorem mX5_play_fieldLink_RX5_19_PinBarrel_works_LPinBarrel_Works : Cond.fieldLink RX5 19 "PinBarrel" "works" "LPinBarrel$Works;" ∈ wsX5_play := List.mem_of_getElem? (i := 3) (by decide +kernel)
set_option maxHeartbeats 4000000 in
set_option maxRecDepth 100000 in
theorem kX5_play (l : Launch) (dC : Nat → ClassId) (dI : Nat → Nat → Nat) (cyI cyZ cyJ cyD cyB : ClassId) (p0 w0 g0 g1 g2 g3 g4 g5 h0 h1 h2 s0 s1 s2 : Nat) (t0 : Nat) (v0 : Nat) (kn : Nat) (wnd : Nat) (gov : Nat) (plo : Nat) (shf : Nat) (stp : Nat) (buz : Nat) (wor : Nat) (cks : UInt64) (cnt : Nat) (pit : Nat → Nat) (bro : Nat → Bool) (scr : Nat → Nat) (plu : Nat → Nat) (las : Nat → Nat) (plc : Nat → Int64) (wea : Nat → Nat) (old : Nat) (kep : Nat) (evr : Nat) (pts : Nat → Nat) (clk : Nat → UInt64) (mny : Nat) (nc : Nat) (hcn : cnt ≤ 24) (hsh : shf < 3) (hplo : plo < 64) (hgv : 1 ≤ gov ∧ gov ≤ 8) (hwn : wnd ≤ 2000) (hmn : 1 ≤ mny ∧ mny ≤ 128) (hnc : nc ≤ 90000) (hck : okC nc cks) (hok : okP cnt shf (bro, scr, plu, las, plc, wea, pts, clk, old, kep, evr, buz, wor)) : Met l yX5_play wsX5_play ({ frames := 5, cells := 0, slots := 0, locals := 111 }) (va_Pc [.ref p0, .int (nI mny)] (xM (dC, dI) vwCl (xT cyI cyZ cyJ cyD cyB) [(p0, .inr (7, [.ref t0, .ref w0, .ref g0, .ref h0, .ref s0, .ref v0, .int (nI kn)])), (w0, .inr (6, [.ref g0, .ref h0, .ref s0, .int (nI wnd), .int (nI gov), .int (nI plo), .int (nI shf), .int (nI stp), .int (nI buz), .int (nI wor), .double cks])), (g0, .inr (3, [.ref g1, .ref g2, .ref g3, .ref g4, .ref g5, .int (nI cnt)])), (g1, .inl (cyI, 24, .inl (fun k => nI (pit k)))), (g2, .inl (cyZ, 24, .inl (fun k => xb (bro k)))), (g3, .inl (cyI, 24, .inl (fun k => nI (scr k)))), (g4, .inl (cyI, 24, .inl (fun k => nI (plu k)))), (g5, .inl (cyI, 24, .inl (fun k => nI (las k)))), (h0, .inr (2, [.ref h1, .ref h2])), (h1, .inl (cyJ, 72, .inr (.inl plc))), (h2, .inl (cyI, 4608, .inl (fun k => nI (wea k)))), (s0, .inr (4, [.ref s1, .ref s2, .int (nI old), .int (nI kep), .int (nI evr)])), (s1, .inl (cyI, 40, .inl (fun k => nI (pts k)))), (s2, .inl (cyD, 40, .inr (.inr (.inr (.inl clk)))))])) (va_Qi (fun (r : Int32) (u : Wst) => r = nI u.1.2.2.2.2.2.2.2.2.2.2.1 - nI evr ∧ u = runW pit cnt shf gov mny ((bro, scr, plu, las, plc, wea, pts, clk, old, kep, evr, buz, wor), wnd, plo, stp, cks)) (fun u t => va_P (dC, dI) vwCl [(p0, .inr (7, [.ref t0, .ref w0, .ref g0, .ref h0, .ref s0, .ref v0, .int (nI kn)])), (w0, .inr (6, [.ref g0, .ref h0, .ref s0, .int (nI u.2.1), .int (nI gov), .int (nI u.2.2.1), .int (nI shf), .int (nI u.2.2.2.1), .int (nI u.1.2.2.2.2.2.2.2.2.2.2.2.1), .int (nI u.1.2.2.2.2.2.2.2.2.2.2.2.2), .double u.2.2.2.2])), (g0, .inr (3, [.ref g1, .ref g2, .ref g3, .ref g4, .ref g5, .int (nI cnt)])), (g1, .inl (cyI, 24, .inl (fun k => nI (pit k)))), (g2, .inl (cyZ, 24, .inl (fun k => xb (u.1.1 k)))), (g3, .inl (cyI, 24, .inl (fun k => nI (u.1.2.1 k)))), (g4, .inl (cyI, 24, .inl (fun k => nI (u.1.2.2.1 k)))), (g5, .inl (cyI, 24, .inl (fun k => nI (u.1.2.2.2.1 k)))), (h0, .inr (2, [.ref h1, .ref h2])), (h1, .inl (cyJ, 72, .inr (.inl u.1.2.2.2.2.1))), (h2, .inl (cyI, 4608, .inl (fun k => nI (u.1.2.2.2.2.2.1 k)))), (s0, .inr (4, [.ref s1, .ref s2, .int (nI u.1.2.2.2.2.2.2.2.2.1), .int (nI u.1.2.2.2.2.2.2.2.2.2.1), .int (nI u.1.2.2.2.2.2.2.2.2.2.2.1)])), (s1, .inl (cyI, 40, .inl (fun k => nI (u.1.2.2.2.2.2.2.1 k)))), (s2, .inl (cyD, 40, .inr (.inr (.inr (.inl u.1.2.2.2.2.2.2.2.1)))))] t.heap ∧ va_D (xA [(p0, .inr (7, [.ref t0, .ref w0, .ref g0, .ref h0, .ref s0, .ref v0, .int (nI kn)])), (w0, .inr (6, [.ref g0, .ref h0, .ref s0, .int (nI wnd), .int (nI gov), .int (nI plo), .int (nI shf), .int (nI stp), .int (nI buz), .int (nI wor), .double cks])), (g0, .inr (3, [.ref g1, .ref g2, .ref g3, .ref g4, .ref g5, .int (nI cnt)])), (g1, .inl (cyI, 24, .inl (fun k => nI (pit k)))), (g2, .inl (cyZ, 24, .inl (fun k => xb (bro k)))), (g3, .inl (cyI, 24, .inl (fun k => nI (scr k)))), (g4, .inl (cyI, 24, .inl (fun k => nI (plu k)))), (g5, .inl (cyI, 24, .inl (fun k => nI (las k)))), (h0, .inr (2, [.ref h1, .ref h2])), (h1, .inl (cyJ, 72, .inr (.inl plc))), (h2, .inl (cyI, 4608, .inl (fun k => nI (wea k)))), (s0, .inr (4, [.ref s1, .ref s2, .int (nI old), .int (nI kep), .int (nI evr)])), (s1, .inl (cyI, 40, .inl (fun k => nI (pts k)))), (s2, .inl (cyD, 40, .inr (.inr (.inr (.inl clk)))))]) [(p0, .inr (7, [.ref t0, .ref w0, .ref g0, .ref h0, .ref s0, .ref v0, .int (nI kn)])), (w0, .inr (6, [.ref g0, .ref h0, .ref s0, .int (nI u.2.1), .int (nI gov), .int (nI u.2.2.1), .int (nI shf), .int (nI u.2.2.2.1), .int (nI u.1.2.2.2.2.2.2.2.2.2.2.2.1), .int (nI u.1.2.2.2.2.2.2.2.2.2.2.2.2), .double u.2.2.2.2])), (g0, .inr (3, [.ref g1, .ref g2, .ref g3, .ref g4, .ref g5, .int (nI cnt)])), (g1, .inl (cyI, 24, .inl (fun k => nI (pit k)))), (g2, .inl (cyZ, 24, .inl (fun k => xb (u.1.1 k)))), (g3, .inl (cyI, 24, .inl (fun k => nI (u.1.2.1 k)))), (g4, .inl (cyI, 24, .inl (fun k => nI (u.1.2.2.1 k)))), (g5, .inl (cyI, 24, .inl (fun k => nI (u.1.2.2.2.1 k)))), (h0, .inr (2, [.ref h1, .ref h2])), (h1, .inl (cyJ, 72, .inr (.inl u.1.2.2.2.2.1))), (h2, .inl (cyI, 4608, .inl (fun k => nI (u.1.2.2.2.2.2.1 k)))), (s0, .inr (4, [.ref s1, .ref s2, .int (nI u.1.2.2.2.2.2.2.2.2.1), .int (nI u.1.2.2.2.2.2.2.2.2.2.1), .int (nI u.1.2.2.2.2.2.2.2.2.2.2.1)])), (s1, .inl (cyI, 40, .inl (fun k => nI (u.1.2.2.2.2.2.2.1 k)))), (s2, .inl (cyD, 40, .inr (.inr (.inr (.inl u.1.2.2.2.2.2.2.2.1)))))]) (xA [(p0, .inr (7, [.ref t0, .ref w0, .ref g0, .ref h0, .ref s0, .ref v0, .int (nI kn)])), (w0, .inr (6, [.ref g0, .ref h0, .ref s0, .int (nI wnd), .int (nI gov), .int (nI plo), .int (nI shf), .int (nI stp), .int (nI buz), .int (nI wor), .double cks])), (g0, .inr (3, [.ref g1, .ref g2, .ref g3, .ref g4, .ref g5, .int (nI cnt)])), (g1, .inl (cyI, 24, .inl (fun k => nI (pit k)))), (g2, .inl (cyZ, 24, .inl (fun k => xb (bro k)))), (g3, .inl (cyI, 24, .inl (fun k => nI (scr k)))), (g4, .inl (cyI, 24, .inl (fun k => nI (plu k)))), (g5, .inl (cyI, 24, .inl (fun k => nI (las k)))), (h0, .inr (2, [.ref h1, .ref h2])), (h1, .inl (cyJ, 72, .inr (.inl plc))), (h2, .inl (cyI, 4608, .inl (fun k => nI (wea k)))), (s0, .inr (4, [.ref s1, .ref s2, .int (nI old), .int (nI kep), .int (nI evr)])), (s1, .inl (cyI, 40, .inl (fun k => nI (pts k)))), (s2, .inl (cyD, 40, .inr (.inr (.inr (.inl clk)))))])) 0 0 (xA [(p0, .inr (7, [.ref t0, .ref w0, .ref g0, .ref h0, .ref s0, .ref v0, .int (nI kn)])), (w0, .inr (6, [.ref g0, .ref h0, .ref s0, .int (nI wnd), .int (nI gov), .int (nI plo), .int (nI shf), .int (nI stp), .int (nI buz), .int (nI wor), .double cks])), (g0, .inr (3, [.ref g1, .ref g2, .ref g3, .ref g4, .ref g5, .int (nI cnt)])), (g1, .inl (cyI, 24, .inl (fun k => nI (pit k)))), (g2, .inl (cyZ, 24, .inl (fun k => xb (bro k)))), (g3, .inl (cyI, 24, .inl (fun k => nI (scr k)))), (g4, .inl (cyI, 24, .inl (fun k => nI (plu k)))), (g5, .inl (cyI, 24, .inl (fun k => nI (las k)))), (h0, .inr (2, [.ref h1, .ref h2])), (h1, .inl (cyJ, 72, .inr (.inl plc))), (h2, .inl (cyI, 4608, .inl (fun k => nI (wea k)))), (s0, .inr (4, [.ref s1, .ref s2, .int (nI old), .int (nI kep), .int (nI evr)])), (s1, .inl (cyI, 40, .inl (fun k => nI (pts k)))), (s2, .inl (cyD, 40, .inr (.inr (.inr (.inl clk)))))]) := by
  refine Met.ofW (cc := cX5_play) (maxL := 3) (ret := (some .int)) (by decide) rfl ?_
  intro p e s m args below meth c s₁ B hml hv
  obtain ⟨rfl, hP, hK, hD0⟩ := hv
  have hx := B.exec
  have hb := B.bytes
  have hr := B.returns
  have hts := atoms_spec (ws := wsX5_play) B.pre
  have hown : s.vm.findClass RX5 = some m.cls := findClass_of_methodNamed B.named
  have hlocks := B.notSynchronized
  have hD := xA_self hD0
  clear hD0
  generalize hAe : xA [(p0, .inr (7, [.ref t0, .ref w0, .ref g0, .ref h0, .ref s0, .ref v0, .int (nI kn)])), (w0, .inr (6, [.ref g0, .ref h0, .ref s0, .int (nI wnd), .int (nI gov), .int (nI plo), .int (nI shf), .int (nI stp), .int (nI buz), .int (nI wor), .double cks])), (g0, .inr (3, [.ref g1, .ref g2, .ref g3, .ref g4, .ref g5, .int (nI cnt)])), (g1, .inl (cyI, 24, .inl (fun k => nI (pit k)))), (g2, .inl (cyZ, 24, .inl (fun k => xb (bro k)))), (g3, .inl (cyI, 24, .inl (fun k => nI (scr k)))), (g4, .inl (cyI, 24, .inl (fun k => nI (plu k)))), (g5, .inl (cyI, 24, .inl (fun k => nI (las k)))), (h0, .inr (2, [.ref h1, .ref h2])), (h1, .inl (cyJ, 72, .inr (.inl plc))), (h2, .inl (cyI, 4608, .inl (fun k => nI (wea k)))), (s0, .inr (4, [.ref s1, .ref s2, .int (nI old), .int (nI kep), .int (nI evr)])), (s1, .inl (cyI, 40, .inl (fun k => nI (pts k)))), (s2, .inl (cyD, 40, .inr (.inr (.inr (.inl clk)))))] = A at hD ⊢
  have hS : va_S A s.heap s.heap [] := va_S.rf
  have hP : va_P (dC, dI) vwCl [(p0, .inr (7, [.ref t0, .ref w0, .ref g0, .ref h0, .ref s0, .ref v0, .int (nI kn)])), (w0, .inr (6, [.ref g0, .ref h0, .ref s0, .int (nI wnd), .int (nI gov), .int (nI plo), .int (nI shf), .int (nI stp), .int (nI buz), .int (nI wor), .double cks])), (g0, .inr (3, [.ref g1, .ref g2, .ref g3, .ref g4, .ref g5, .int (nI cnt)])), (g1, .inl (cyI, 24, .inl (fun k => nI (pit k)))), (g2, .inl (cyZ, 24, .inl (fun k => xb (bro k)))), (g3, .inl (cyI, 24, .inl (fun k => nI (scr k)))), (g4, .inl (cyI, 24, .inl (fun k => nI (plu k)))), (g5, .inl (cyI, 24, .inl (fun k => nI (las k)))), (h0, .inr (2, [.ref h1, .ref h2])), (h1, .inl (cyJ, 72, .inr (.inl plc))), (h2, .inl (cyI, 4608, .inl (fun k => nI (wea k)))), (s0, .inr (4, [.ref s1, .ref s2, .int (nI old), .int (nI kep), .int (nI evr)])), (s1, .inl (cyI, 40, .inl (fun k => nI (pts k)))), (s2, .inl (cyD, 40, .inr (.inr (.inr (.inl clk)))))] s.heap := hP
  have hl := lv_entry ([.ref p0, .int (nI mny)]) (n := 3) (Nat.le_of_ble_eq_true rfl)
  rw [lg_entry_eq]
  generalize (lg_sl ([.ref p0, .int (nI mny)]) ++ List.replicate (3 - (lg_sl ([.ref p0, .int (nI mny)])).length) Slot.unset).toArray = ls at hl ⊢
  have hl : lv_has ls 3 [(0, .ref p0), (1, .int (nI mny))] := hl
  refine lv_iload_n hx hb dX5_play_0 rfl (lv_at hl 1 rfl) ?_
  refine xs_v (As := [.int (nI mny)]) (rest := []) ⟨hx, hb, hml, hown, hts⟩ (kX5_needSteps l mny (by omega)) (va_cwS 1 hts gX5_play_X5_needSteps rfl rfl rfl (by decide +kernel) ⟨Nat.le_of_ble_eq_true rfl, Nat.le_of_ble_eq_true rfl⟩) hP hS rfl hl.1 rfl (Nat.le_of_ble_eq_true rfl) dX5_play_1 ⟨Nat.zero_le _, Nat.zero_le _⟩ (fun H locs hP hS => ?_)
  refine lv_aload_n hx hb dX5_play_4 rfl (lv_at hl 0 rfl) ?_
  refine va_get (D := (dC, dI)) (ci := 7) (v := .ref s0) (C := RX5) (T := TX5) (N := 7) hx hb hts inX5_play_X5 hown hK hP 0 rfl rfl 4 (by decide) (hts _ mX5_play_fieldLink_RX5_37_PinBarrel_sounds_LPinBarrel_Sounds) (fun _ h9 => h9) rfl dX5_play_5 ?_
  refine va_get (D := (dC, dI)) (ci := 4) (v := .int (nI evr)) (C := RX2) (T := TX2) (N := 5) hx hb hts inX5_play_X2 hown hK hP 11 rfl rfl 4 (by decide) (hts _ mX5_play_fieldLink_RX5_141_PinBarrel_Sounds_ever_I) (fun _ h9 => h9) rfl dX5_play_8 ?_
  refine lv_istore_n (lv' := [(2, .int (nI evr)), (0, .ref p0), (1, .int (nI mny))]) hx hb dX5_play_11 rfl hl (by decide) rfl (fun ls hl => ?_)
  refine lv_aload_n hx hb dX5_play_12 rfl (lv_at hl 1 rfl) ?_
  refine va_get (D := (dC, dI)) (ci := 7) (v := .ref w0) (C := RX5) (T := TX5) (N := 7) hx hb hts inX5_play_X5 hown hK hP 0 rfl rfl 1 (by decide) (hts _ mX5_play_fieldLink_RX5_19_PinBarrel_works_LPinBarrel_Works) (fun _ h9 => h9) rfl dX5_play_13 ?_
  refine lv_iload_n hx hb dX5_play_16 rfl (lv_at hl 2 rfl) ?_
  refine xm_v (As := [.int (nI mny)]) (rest := []) (q := (RX4, TX4, 11)) ⟨hx, hb, hml, hown, hts⟩ (kX4_run l dC dI cyI cyZ cyJ cyD cyB w0 g0 g1 g2 g3 g4 g5 h0 h1 h2 s0 s1 s2 pit bro scr plu las plc wea pts clk old kep evr buz wor cnt wnd gov plo shf stp cks mny nc (by omega) (by omega) (by omega) (by omega) (by omega) (by omega) hck hok) (cwV 1 hts gX5_play_X4_run rfl rfl rfl (by decide +kernel) ⟨Nat.le_of_ble_eq_true rfl, Nat.le_of_ble_eq_true rfl⟩) hK hP hD hS [1, 2, 3, 4, 5, 6, 7, 8, 9, 10, 11, 12, 13] rfl (by decide) 1 6 rfl rfl rfl hl.1 rfl (Nat.le_of_ble_eq_true rfl) dX5_play_17 ⟨Nat.zero_le _, Nat.zero_le _⟩ (fun u_3 H1 locs hw hP1 hD1 hk1 hS => ?_)
  obtain ⟨⟨bro2_4, scr2_5, plu2_6, las2_7, plc2_8, wea2_9, pts2_10, clk2_11, old2_12, kep2_13, evr2_14, buz2_15, wor2_16⟩, wnd2_17, plo2_18, stp2_19, cks2_20⟩ := u_3
  have hu_21 : ((bro2_4, scr2_5, plu2_6, las2_7, plc2_8, wea2_9, pts2_10, clk2_11, old2_12, kep2_13, evr2_14, buz2_15, wor2_16), wnd2_17, plo2_18, stp2_19, cks2_20) = runW pit cnt shf gov mny ((bro, scr, plu, las, plc, wea, pts, clk, old, kep, evr, buz, wor), wnd, plo, stp, cks) := hw
  obtain ⟨hP, hD⟩ := xW_join (wr := [(p0, .inr (7, [.ref t0, .ref w0, .ref g0, .ref h0, .ref s0, .ref v0, .int (nI kn)]))]) (w1 := [(w0, .inr (6, [.ref g0, .ref h0, .ref s0, .int (nI wnd2_17), .int (nI gov), .int (nI plo2_18), .int (nI shf), .int (nI stp2_19), .int (nI buz2_15), .int (nI wor2_16), .double cks2_20])), (g0, .inr (3, [.ref g1, .ref g2, .ref g3, .ref g4, .ref g5, .int (nI cnt)])), (g1, .inl (cyI, 24, .inl (fun k => nI (pit k)))), (g2, .inl (cyZ, 24, .inl (fun k => xb (bro2_4 k)))), (g3, .inl (cyI, 24, .inl (fun k => nI (scr2_5 k)))), (g4, .inl (cyI, 24, .inl (fun k => nI (plu2_6 k)))), (g5, .inl (cyI, 24, .inl (fun k => nI (las2_7 k)))), (h0, .inr (2, [.ref h1, .ref h2])), (h1, .inl (cyJ, 72, .inr (.inl plc2_8))), (h2, .inl (cyI, 4608, .inl (fun k => nI (wea2_9 k)))), (s0, .inr (4, [.ref s1, .ref s2, .int (nI old2_12), .int (nI kep2_13), .int (nI evr2_14)])), (s1, .inl (cyI, 40, .inl (fun k => nI (pts2_10 k)))), (s2, .inl (cyD, 40, .inr (.inr (.inr (.inl clk2_11)))))]) (wN := [(p0, .inr (7, [.ref t0, .ref w0, .ref g0, .ref h0, .ref s0, .ref v0, .int (nI kn)])), (w0, .inr (6, [.ref g0, .ref h0, .ref s0, .int (nI wnd2_17), .int (nI gov), .int (nI plo2_18), .int (nI shf), .int (nI stp2_19), .int (nI buz2_15), .int (nI wor2_16), .double cks2_20])), (g0, .inr (3, [.ref g1, .ref g2, .ref g3, .ref g4, .ref g5, .int (nI cnt)])), (g1, .inl (cyI, 24, .inl (fun k => nI (pit k)))), (g2, .inl (cyZ, 24, .inl (fun k => xb (bro2_4 k)))), (g3, .inl (cyI, 24, .inl (fun k => nI (scr2_5 k)))), (g4, .inl (cyI, 24, .inl (fun k => nI (plu2_6 k)))), (g5, .inl (cyI, 24, .inl (fun k => nI (las2_7 k)))), (h0, .inr (2, [.ref h1, .ref h2])), (h1, .inl (cyJ, 72, .inr (.inl plc2_8))), (h2, .inl (cyI, 4608, .inl (fun k => nI (wea2_9 k)))), (s0, .inr (4, [.ref s1, .ref s2, .int (nI old2_12), .int (nI kep2_13), .int (nI evr2_14)])), (s1, .inl (cyI, 40, .inl (fun k => nI (pts2_10 k)))), (s2, .inl (cyD, 40, .inr (.inr (.inr (.inl clk2_11)))))]) hP hD [1, 2, 3, 4, 5, 6, 7, 8, 9, 10, 11, 12, 13] [0] [0, 1, 2, 3, 4, 5, 6, 7, 8, 9, 10, 11, 12, 13] rfl rfl (by decide) (by decide) hk1 hP1 hD1 (by decide) rfl
  clear hP1 hD1 hk1
  generalize H1 = H at hP hS ⊢
  refine lv_aload_n hx hb dX5_play_20 rfl (lv_at hl 1 rfl) ?_
  refine va_get (D := (dC, dI)) (ci := 7) (v := .ref s0) (C := RX5) (T := TX5) (N := 7) hx hb hts inX5_play_X5 hown hK hP 0 rfl rfl 4 (by decide) (hts _ mX5_play_fieldLink_RX5_37_PinBarrel_sounds_LPinBarrel_Sounds) (fun _ h9 => h9) rfl dX5_play_21 ?_
  refine va_get (D := (dC, dI)) (ci := 4) (v := .int (nI evr2_14)) (C := RX2) (T := TX2) (N := 5) hx hb hts inX5_play_X2 hown hK hP 11 rfl rfl 4 (by decide) (hts _ mX5_play_fieldLink_RX5_141_PinBarrel_Sounds_ever_I) (fun _ h9 => h9) rfl dX5_play_24 ?_
  refine lv_iload_n hx hb dX5_play_27 rfl (lv_at hl 0 rfl) ?_
  refine lv_isub hx hb dX5_play_28 ?_
  have hP9 : va_P (dC, dI) vwCl [(p0, .inr (7, [.ref t0, .ref w0, .ref g0, .ref h0, .ref s0, .ref v0, .int (nI kn)])), (w0, .inr (6, [.ref g0, .ref h0, .ref s0, .int (nI wnd2_17), .int (nI gov), .int (nI plo2_18), .int (nI shf), .int (nI stp2_19), .int (nI buz2_15), .int (nI wor2_16), .double cks2_20])), (g0, .inr (3, [.ref g1, .ref g2, .ref g3, .ref g4, .ref g5, .int (nI cnt)])), (g1, .inl (cyI, 24, .inl (fun k => nI (pit k)))), (g2, .inl (cyZ, 24, .inl (fun k => xb (bro2_4 k)))), (g3, .inl (cyI, 24, .inl (fun k => nI (scr2_5 k)))), (g4, .inl (cyI, 24, .inl (fun k => nI (plu2_6 k)))), (g5, .inl (cyI, 24, .inl (fun k => nI (las2_7 k)))), (h0, .inr (2, [.ref h1, .ref h2])), (h1, .inl (cyJ, 72, .inr (.inl plc2_8))), (h2, .inl (cyI, 4608, .inl (fun k => nI (wea2_9 k)))), (s0, .inr (4, [.ref s1, .ref s2, .int (nI old2_12), .int (nI kep2_13), .int (nI evr2_14)])), (s1, .inl (cyI, 40, .inl (fun k => nI (pts2_10 k)))), (s2, .inl (cyD, 40, .inr (.inr (.inr (.inl clk2_11)))))] _ := hP
  have hD9 : va_D A [(p0, .inr (7, [.ref t0, .ref w0, .ref g0, .ref h0, .ref s0, .ref v0, .int (nI kn)])), (w0, .inr (6, [.ref g0, .ref h0, .ref s0, .int (nI wnd2_17), .int (nI gov), .int (nI plo2_18), .int (nI shf), .int (nI stp2_19), .int (nI buz2_15), .int (nI wor2_16), .double cks2_20])), (g0, .inr (3, [.ref g1, .ref g2, .ref g3, .ref g4, .ref g5, .int (nI cnt)])), (g1, .inl (cyI, 24, .inl (fun k => nI (pit k)))), (g2, .inl (cyZ, 24, .inl (fun k => xb (bro2_4 k)))), (g3, .inl (cyI, 24, .inl (fun k => nI (scr2_5 k)))), (g4, .inl (cyI, 24, .inl (fun k => nI (plu2_6 k)))), (g5, .inl (cyI, 24, .inl (fun k => nI (las2_7 k)))), (h0, .inr (2, [.ref h1, .ref h2])), (h1, .inl (cyJ, 72, .inr (.inl plc2_8))), (h2, .inl (cyI, 4608, .inl (fun k => nI (wea2_9 k)))), (s0, .inr (4, [.ref s1, .ref s2, .int (nI old2_12), .int (nI kep2_13), .int (nI evr2_14)])), (s1, .inl (cyI, 40, .inl (fun k => nI (pts2_10 k)))), (s2, .inl (cyD, 40, .inr (.inr (.inr (.inl clk2_11)))))] := hD
  exact W.iret (v := (nI evr2_14) - (nI evr)) hx hb hr (fun t ht hW => ⟨⟨(nI evr2_14) - (nI evr), ((bro2_4, scr2_5, plu2_6, las2_7, plc2_8, wea2_9, pts2_10, clk2_11, old2_12, kep2_13, evr2_14, buz2_15, wor2_16), wnd2_17, plo2_18, stp2_19, cks2_20), rfl, ⟨rfl, hu_21⟩, ⟨by rw [ht]; exact hP9, hD9⟩⟩, hS.F ht⟩) hS.2.2 dX5_play_29

theorem inX5_ofTooth_X5 : ∀ w ∈ wsX50, w ∈ wsX5_ofTooth := by decide +kernel
theorem mX5_ofTooth_fieldLink_RX5_27_PinBarrel_comb_LPinBarrel_Comb : Cond.fieldLink RX5 27 "PinBarrel" "comb" "LPinBarrel$Comb;" ∈ wsX5_ofTooth := List.mem_of_getElem? (i := 1) (by decide +kernel)
theorem inX5_ofTooth_X1 : ∀ w ∈ wsX10, w ∈ wsX5_ofTooth := by decide +kernel
theorem mX5_ofTooth_fieldLink_RX5_65_PinBarrel_Comb_pitch_I : Cond.fieldLink RX5 65 "PinBarrel$Comb" "pitch" "[I" ∈ wsX5_ofTooth := List.mem_of_getElem? (i := 2) (by decide +kernel)
theorem mX5_ofTooth_fieldLink_RX5_159_PinBarrel_Comb_broken_Z : Cond.fieldLink RX5 159 "PinBarrel$Comb" "broken" "[Z" ∈ wsX5_ofTooth := List.mem_of_getElem? (i := 3) (by decide +kernel)
theorem mX5_ofTooth_fieldLink_RX5_163_PinBarrel_Comb_scratches_I : Cond.fieldLink RX5 163 "PinBarrel$Comb" "scratches" "[I" ∈ wsX5_ofTooth := List.mem_of_getElem? (i := 4) (by decide +kernel)
theorem mX5_ofTooth_fieldLink_RX5_166_PinBarrel_Comb_plucks_I : Cond.fieldLink RX5 166 "PinBarrel$Comb" "plucks" "[I" ∈ wsX5_ofTooth := List.mem_of_getElem? (i := 5) (by decide +kernel)
theorem mX5_ofTooth_fieldLink_RX5_32_PinBarrel_barrel_LPinBarrel_Barrel : Cond.fieldLink RX5 32 "PinBarrel" "barrel" "LPinBarrel$Barrel;" ∈ wsX5_ofTooth := List.mem_of_getElem? (i := 6) (by decide +kernel)
set_option maxHeartbeats 4000000 in
set_option maxRecDepth 100000 in
theorem kX5_ofTooth (l : Launch) (dC : Nat → ClassId) (dI : Nat → Nat → Nat) (cyI cyZ cyJ cyD cyB : ClassId) (p0 g0 g1 g2 g3 g4 h0 h1 : Nat) (t0 : Nat) (w0 : Nat) (s0 : Nat) (v0 : Nat) (kn : Nat) (g5 : Nat) (cnt : Nat) (pit : Nat → Nat) (bro : Nat → Bool) (scr : Nat → Nat) (plu : Nat → Nat) (h2 : Nat) (plc : Nat → Int64) (tn : Nat) (wh : Nat) (hcn : cnt ≤ 24) (ht : tn < cnt) (hwh : wh < 5) : Met l yX5_ofTooth wsX5_ofTooth ({ frames := 3, cells := 0, slots := 0, locals := 66 }) (va_Pc [.ref p0, .int (nI tn), .int (nI wh)] (xP (dC, dI) vwCl (xT cyI cyZ cyJ cyD cyB) [(p0, .inr (7, [.ref t0, .ref w0, .ref g0, .ref h0, .ref s0, .ref v0, .int (nI kn)])), (g0, .inr (3, [.ref g1, .ref g2, .ref g3, .ref g4, .ref g5, .int (nI cnt)])), (g1, .inl (cyI, 24, .inl (fun k => nI (pit k)))), (g2, .inl (cyZ, 24, .inl (fun k => xb (bro k)))), (g3, .inl (cyI, 24, .inl (fun k => nI (scr k)))), (g4, .inl (cyI, 24, .inl (fun k => nI (plu k)))), (h0, .inr (2, [.ref h1, .ref h2])), (h1, .inl (cyJ, 72, .inr (.inl plc)))])) (va_Qi (fun (r : Int32) (u : Unit) => r = nI (otF pit bro scr plu plc tn wh)) (fun _ _ => True) (fun _ => False)) 0 0 (fun _ => False) := by
  refine Met.ofW (cc := cX5_ofTooth) (maxL := 3) (ret := (some .int)) (by decide) rfl ?_
  intro p e s m args below meth c s₁ B hml hv
  obtain ⟨rfl, hP, hK⟩ := hv
  have hx := B.exec
  have hb := B.bytes
  have hr := B.returns
  have hts := atoms_spec (ws := wsX5_ofTooth) B.pre
  have hown : s.vm.findClass RX5 = some m.cls := findClass_of_methodNamed B.named
  have hlocks := B.notSynchronized
  have hS : va_S (fun _ => False) s.heap s.heap [] := va_S.rf
  have hP : va_P (dC, dI) vwCl [(p0, .inr (7, [.ref t0, .ref w0, .ref g0, .ref h0, .ref s0, .ref v0, .int (nI kn)])), (g0, .inr (3, [.ref g1, .ref g2, .ref g3, .ref g4, .ref g5, .int (nI cnt)])), (g1, .inl (cyI, 24, .inl (fun k => nI (pit k)))), (g2, .inl (cyZ, 24, .inl (fun k => xb (bro k)))), (g3, .inl (cyI, 24, .inl (fun k => nI (scr k)))), (g4, .inl (cyI, 24, .inl (fun k => nI (plu k)))), (h0, .inr (2, [.ref h1, .ref h2])), (h1, .inl (cyJ, 72, .inr (.inl plc)))] s.heap := hP
  have hl := lv_entry ([.ref p0, .int (nI tn), .int (nI wh)]) (n := 3) (Nat.le_of_ble_eq_true rfl)
  rw [lg_entry_eq]
  generalize (lg_sl ([.ref p0, .int (nI tn), .int (nI wh)]) ++ List.replicate (3 - (lg_sl ([.ref p0, .int (nI tn), .int (nI wh)])).length) Slot.unset).toArray = ls at hl ⊢
  have hl : lv_has ls 3 [(0, .ref p0), (1, .int (nI tn)), (2, .int (nI wh))] := hl
  refine lv_aload_n hx hb dX5_ofTooth_0 rfl (lv_at hl 0 rfl) ?_
  refine lv_iload_n hx hb dX5_ofTooth_1 rfl (lv_at hl 1 rfl) ?_
  refine xv_v (As := [.int (nI tn)]) (rest := []) (q := (RX5, TX5, 7)) ⟨hx, hb, hml, hown, hts⟩ (kX5_needTooth l dC dI cyI cyZ cyJ cyD cyB p0 g0 t0 w0 h0 s0 v0 kn g1 g2 g3 g4 g5 cnt tn (by omega) (by omega)) (cwV 1 hts gX5_ofTooth_X5_needTooth rfl rfl rfl (by decide +kernel) ⟨Nat.le_of_ble_eq_true rfl, Nat.le_of_ble_eq_true rfl⟩) hK hP hS [0, 1] rfl 0 7 rfl rfl rfl hl.1 rfl (Nat.le_of_ble_eq_true rfl) dX5_ofTooth_2 ⟨Nat.zero_le _, Nat.zero_le _⟩ (fun H locs hP hS => ?_)
  refine lv_iload_n hx hb dX5_ofTooth_5 rfl (lv_at hl 2 rfl) ?_
  refine lv_iconst (v := nI 5) hx hb dX5_ofTooth_6 (by decide) ?_
  refine xs_v (As := [.int (nI wh), .int (nI 5)]) (rest := []) ⟨hx, hb, hml, hown, hts⟩ (kX5_needQuestion l wh 5 (by omega) (by omega)) (va_cwS 2 hts gX5_ofTooth_X5_needQuestion rfl rfl rfl (by decide +kernel) ⟨Nat.le_of_ble_eq_true rfl, Nat.le_of_ble_eq_true rfl⟩) hP hS rfl hl.1 rfl (Nat.le_of_ble_eq_true rfl) dX5_ofTooth_7 ⟨Nat.zero_le _, Nat.zero_le _⟩ (fun H locs hP hS => ?_)
  refine lv_iload_n hx hb dX5_ofTooth_10 rfl (lv_at hl 2 rfl) ?_
  rcases (show wh = 0 ∨ wh = 1 ∨ wh = 2 ∨ wh = 3 ∨ wh = 4 from by omega) with rfl | rfl | rfl | rfl | rfl
  · refine lv_tableIn (tgt := 40) (off := 29) hx hb dX5_ofTooth_11 (by decide) (by decide) (by decide) (by decide) ?_
    refine lv_aload_n hx hb dX5_ofTooth_40 rfl (lv_at hl 0 rfl) ?_
    refine va_get (D := (dC, dI)) (ci := 7) (v := .ref g0) (C := RX5) (T := TX5) (N := 7) hx hb hts inX5_ofTooth_X5 hown hK hP 0 rfl rfl 2 (by decide) (hts _ mX5_ofTooth_fieldLink_RX5_27_PinBarrel_comb_LPinBarrel_Comb) (fun _ h9 => h9) rfl dX5_ofTooth_41 ?_
    refine va_get (D := (dC, dI)) (ci := 3) (v := .ref g1) (C := RX1) (T := TX1) (N := 6) hx hb hts inX5_ofTooth_X1 hown hK hP 1 rfl rfl 0 (by decide) (hts _ mX5_ofTooth_fieldLink_RX5_65_PinBarrel_Comb_pitch_I) (fun _ h9 => h9) rfl dX5_ofTooth_44 ?_
    refine lv_iload_n hx hb dX5_ofTooth_47 rfl (lv_at hl 1 rfl) ?_
    refine xl_I (f := pit) hx hb hK hP 2 0 rfl rfl (by omega) (by decide) dX5_ofTooth_48 ?_
    exact W.iret (v := nI (pit tn)) hx hb hr (fun t ht hW => ⟨⟨nI (pit tn), (), rfl, rfl, trivial⟩, hS.F ht⟩) hS.2.2 dX5_ofTooth_49
  · refine lv_tableIn (tgt := 50) (off := 39) hx hb dX5_ofTooth_11 (by decide) (by decide) (by decide) (by decide) ?_
    refine lv_aload_n hx hb dX5_ofTooth_50 rfl (lv_at hl 0 rfl) ?_
    refine va_get (D := (dC, dI)) (ci := 7) (v := .ref g0) (C := RX5) (T := TX5) (N := 7) hx hb hts inX5_ofTooth_X5 hown hK hP 0 rfl rfl 2 (by decide) (hts _ mX5_ofTooth_fieldLink_RX5_27_PinBarrel_comb_LPinBarrel_Comb) (fun _ h9 => h9) rfl dX5_ofTooth_51 ?_
    refine va_get (D := (dC, dI)) (ci := 3) (v := .ref g2) (C := RX1) (T := TX1) (N := 6) hx hb hts inX5_ofTooth_X1 hown hK hP 1 rfl rfl 1 (by decide) (hts _ mX5_ofTooth_fieldLink_RX5_159_PinBarrel_Comb_broken_Z) (fun _ h9 => h9) rfl dX5_ofTooth_54 ?_
    refine lv_iload_n hx hb dX5_ofTooth_57 rfl (lv_at hl 1 rfl) ?_
    refine xl_Z (f := bro) hx hb hK hP 3 1 rfl rfl (by omega) (by decide) dX5_ofTooth_58 ?_
    refine xb_eq (tgt := 66) hx hb dX5_ofTooth_59 (by decide) (fun c_3 => ?_) (fun c_3 => ?_)
    · refine lv_iconst (v := nI 0) hx hb dX5_ofTooth_66 (by decide) ?_
      exact W.iret (v := nI 0) hx hb hr (fun t ht hW => ⟨⟨nI 0, (), rfl, (by show nI 0 = nI (if bro tn then 1 else 0); rw [c_3]; rfl), trivial⟩, hS.F ht⟩) hS.2.2 dX5_ofTooth_67
    · refine lv_iconst (v := nI 1) hx hb dX5_ofTooth_62 (by decide) ?_
      refine lv_goto (tgt := 67) hx hb dX5_ofTooth_63 (by decide) ?_
      exact W.iret (v := nI 1) hx hb hr (fun t ht hW => ⟨⟨nI 1, (), rfl, (by show nI 1 = nI (if bro tn then 1 else 0); rw [c_3]; rfl), trivial⟩, hS.F ht⟩) hS.2.2 dX5_ofTooth_67
  · refine lv_tableIn (tgt := 68) (off := 57) hx hb dX5_ofTooth_11 (by decide) (by decide) (by decide) (by decide) ?_
    refine lv_aload_n hx hb dX5_ofTooth_68 rfl (lv_at hl 0 rfl) ?_
    refine va_get (D := (dC, dI)) (ci := 7) (v := .ref g0) (C := RX5) (T := TX5) (N := 7) hx hb hts inX5_ofTooth_X5 hown hK hP 0 rfl rfl 2 (by decide) (hts _ mX5_ofTooth_fieldLink_RX5_27_PinBarrel_comb_LPinBarrel_Comb) (fun _ h9 => h9) rfl dX5_ofTooth_69 ?_
    refine va_get (D := (dC, dI)) (ci := 3) (v := .ref g3) (C := RX1) (T := TX1) (N := 6) hx hb hts inX5_ofTooth_X1 hown hK hP 1 rfl rfl 2 (by decide) (hts _ mX5_ofTooth_fieldLink_RX5_163_PinBarrel_Comb_scratches_I) (fun _ h9 => h9) rfl dX5_ofTooth_72 ?_
    refine lv_iload_n hx hb dX5_ofTooth_75 rfl (lv_at hl 1 rfl) ?_
    refine xl_I (f := scr) hx hb hK hP 4 0 rfl rfl (by omega) (by decide) dX5_ofTooth_76 ?_
    exact W.iret (v := nI (scr tn)) hx hb hr (fun t ht hW => ⟨⟨nI (scr tn), (), rfl, rfl, trivial⟩, hS.F ht⟩) hS.2.2 dX5_ofTooth_77
  · refine lv_tableIn (tgt := 78) (off := 67) hx hb dX5_ofTooth_11 (by decide) (by decide) (by decide) (by decide) ?_
    refine lv_aload_n hx hb dX5_ofTooth_78 rfl (lv_at hl 0 rfl) ?_
    refine va_get (D := (dC, dI)) (ci := 7) (v := .ref g0) (C := RX5) (T := TX5) (N := 7) hx hb hts inX5_ofTooth_X5 hown hK hP 0 rfl rfl 2 (by decide) (hts _ mX5_ofTooth_fieldLink_RX5_27_PinBarrel_comb_LPinBarrel_Comb) (fun _ h9 => h9) rfl dX5_ofTooth_79 ?_
    refine va_get (D := (dC, dI)) (ci := 3) (v := .ref g4) (C := RX1) (T := TX1) (N := 6) hx hb hts inX5_ofTooth_X1 hown hK hP 1 rfl rfl 3 (by decide) (hts _ mX5_ofTooth_fieldLink_RX5_166_PinBarrel_Comb_plucks_I) (fun _ h9 => h9) rfl dX5_ofTooth_82 ?_
    refine lv_iload_n hx hb dX5_ofTooth_85 rfl (lv_at hl 1 rfl) ?_
    refine xl_I (f := plu) hx hb hK hP 5 0 rfl rfl (by omega) (by decide) dX5_ofTooth_86 ?_
    exact W.iret (v := nI (plu tn)) hx hb hr (fun t ht hW => ⟨⟨nI (plu tn), (), rfl, rfl, trivial⟩, hS.F ht⟩) hS.2.2 dX5_ofTooth_87
  · refine lv_tableOut (tgt := 88) hx hb dX5_ofTooth_11 (by decide) (by decide) ?_
    refine lv_aload_n hx hb dX5_ofTooth_88 rfl (lv_at hl 0 rfl) ?_
    refine va_get (D := (dC, dI)) (ci := 7) (v := .ref h0) (C := RX5) (T := TX5) (N := 7) hx hb hts inX5_ofTooth_X5 hown hK hP 0 rfl rfl 3 (by decide) (hts _ mX5_ofTooth_fieldLink_RX5_32_PinBarrel_barrel_LPinBarrel_Barrel) (fun _ h9 => h9) rfl dX5_ofTooth_89 ?_
    refine lv_iload_n hx hb dX5_ofTooth_92 rfl (lv_at hl 1 rfl) ?_
    refine xv_i (As := [.int (nI tn)]) (rest := []) (q := (RX0, TX0, 2)) ⟨hx, hb, hml, hown, hts⟩ (kX0_pinsOfTooth l dC dI cyI cyZ cyJ cyD cyB h0 h1 h2 plc tn (by omega)) (cwV 1 hts gX5_ofTooth_X0_pinsOfTooth rfl rfl rfl (by decide +kernel) ⟨Nat.le_of_ble_eq_true rfl, Nat.le_of_ble_eq_true rfl⟩) hK hP hS [6, 7] rfl 6 2 rfl rfl rfl hl.1 rfl (Nat.le_of_ble_eq_true rfl) dX5_ofTooth_93 ⟨Nat.zero_le _, Nat.zero_le _⟩ (fun r_4 H locs hw hP hS => ?_)
    have hw : r_4 = nI (pinsF plc tn) := hw
    subst hw
    exact W.iret (v := nI (pinsF plc tn)) hx hb hr (fun t ht hW => ⟨⟨nI (pinsF plc tn), (), rfl, rfl, trivial⟩, hS.F ht⟩) hS.2.2 dX5_ofTooth_96

theorem inX5_pins_X5 : ∀ w ∈ wsX50, w ∈ wsX5_pins := by decide +kernel
theorem mX5_pins_fieldLink_RX5_32_PinBarrel_barrel_LPinBarrel_Barrel : Cond.fieldLink RX5 32 "PinBarrel" "barrel" "LPinBarrel$Barrel;" ∈ wsX5_pins := List.mem_of_getElem? (i := 1) (by decide +kernel)
set_option maxHeartbeats 4000000 in
set_option maxRecDepth 100000 in
theorem kX5_pins (l : Launch) (dC : Nat → ClassId) (dI : Nat → Nat → Nat) (cyI cyZ cyJ cyD cyB : ClassId) (p0 g0 h0 h1 : Nat) (t0 : Nat) (w0 : Nat) (s0 : Nat) (v0 : Nat) (kn : Nat) (g1 : Nat) (g2 : Nat) (g3 : Nat) (g4 : Nat) (g5 : Nat) (cnt : Nat) (h2 : Nat) (plc : Nat → Int64) (tn : Nat) (ln : Nat) (hcn : cnt ≤ 24) (ht : tn < cnt) (hln : ln < 3) : Met l yX5_pins wsX5_pins ({ frames := 2, cells := 0, slots := 0, locals := 43 }) (va_Pc [.ref p0, .int (nI tn), .int (nI ln)] (xP (dC, dI) vwCl (xT cyI cyZ cyJ cyD cyB) [(p0, .inr (7, [.ref t0, .ref w0, .ref g0, .ref h0, .ref s0, .ref v0, .int (nI kn)])), (g0, .inr (3, [.ref g1, .ref g2, .ref g3, .ref g4, .ref g5, .int (nI cnt)])), (h0, .inr (2, [.ref h1, .ref h2])), (h1, .inl (cyJ, 72, .inr (.inl plc)))])) (va_Ql (fun (r : Int64) (u : Unit) => r = plc (ln * 24 + tn)) (fun _ _ => True) (fun _ => False)) 0 0 (fun _ => False) := by
  refine Met.ofW (cc := cX5_pins) (maxL := 3) (ret := (some .long)) (by decide) rfl ?_
  intro p e s m args below meth c s₁ B hml hv
  obtain ⟨rfl, hP, hK⟩ := hv
  have hx := B.exec
  have hb := B.bytes
  have hr := B.returns
  have hts := atoms_spec (ws := wsX5_pins) B.pre
  have hown : s.vm.findClass RX5 = some m.cls := findClass_of_methodNamed B.named
  have hlocks := B.notSynchronized
  have hS : va_S (fun _ => False) s.heap s.heap [] := va_S.rf
  have hP : va_P (dC, dI) vwCl [(p0, .inr (7, [.ref t0, .ref w0, .ref g0, .ref h0, .ref s0, .ref v0, .int (nI kn)])), (g0, .inr (3, [.ref g1, .ref g2, .ref g3, .ref g4, .ref g5, .int (nI cnt)])), (h0, .inr (2, [.ref h1, .ref h2])), (h1, .inl (cyJ, 72, .inr (.inl plc)))] s.heap := hP
  have hl := lv_entry ([.ref p0, .int (nI tn), .int (nI ln)]) (n := 3) (Nat.le_of_ble_eq_true rfl)
  rw [lg_entry_eq]
  generalize (lg_sl ([.ref p0, .int (nI tn), .int (nI ln)]) ++ List.replicate (3 - (lg_sl ([.ref p0, .int (nI tn), .int (nI ln)])).length) Slot.unset).toArray = ls at hl ⊢
  have hl : lv_has ls 3 [(0, .ref p0), (1, .int (nI tn)), (2, .int (nI ln))] := hl
  refine lv_aload_n hx hb dX5_pins_0 rfl (lv_at hl 0 rfl) ?_
  refine lv_iload_n hx hb dX5_pins_1 rfl (lv_at hl 1 rfl) ?_
  refine xv_v (As := [.int (nI tn)]) (rest := []) (q := (RX5, TX5, 7)) ⟨hx, hb, hml, hown, hts⟩ (kX5_needTooth l dC dI cyI cyZ cyJ cyD cyB p0 g0 t0 w0 h0 s0 v0 kn g1 g2 g3 g4 g5 cnt tn (by omega) (by omega)) (cwV 1 hts gX5_pins_X5_needTooth rfl rfl rfl (by decide +kernel) ⟨Nat.le_of_ble_eq_true rfl, Nat.le_of_ble_eq_true rfl⟩) hK hP hS [0, 1] rfl 0 7 rfl rfl rfl hl.1 rfl (Nat.le_of_ble_eq_true rfl) dX5_pins_2 ⟨Nat.zero_le _, Nat.zero_le _⟩ (fun H locs hP hS => ?_)
  refine lv_iload_n hx hb dX5_pins_5 rfl (lv_at hl 2 rfl) ?_
  refine xs_v (As := [.int (nI ln)]) (rest := []) ⟨hx, hb, hml, hown, hts⟩ (kX5_needLine l ln (by omega)) (va_cwS 1 hts gX5_pins_X5_needLine rfl rfl rfl (by decide +kernel) ⟨Nat.le_of_ble_eq_true rfl, Nat.le_of_ble_eq_true rfl⟩) hP hS rfl hl.1 rfl (Nat.le_of_ble_eq_true rfl) dX5_pins_6 ⟨Nat.zero_le _, Nat.zero_le _⟩ (fun H locs hP hS => ?_)
  refine lv_aload_n hx hb dX5_pins_9 rfl (lv_at hl 0 rfl) ?_
  refine va_get (D := (dC, dI)) (ci := 7) (v := .ref h0) (C := RX5) (T := TX5) (N := 7) hx hb hts inX5_pins_X5 hown hK hP 0 rfl rfl 3 (by decide) (hts _ mX5_pins_fieldLink_RX5_32_PinBarrel_barrel_LPinBarrel_Barrel) (fun _ h9 => h9) rfl dX5_pins_10 ?_
  refine lv_iload_n hx hb dX5_pins_13 rfl (lv_at hl 1 rfl) ?_
  refine lv_iload_n hx hb dX5_pins_14 rfl (lv_at hl 2 rfl) ?_
  refine xv_l (As := [.int (nI tn), .int (nI ln)]) (rest := []) (q := (RX0, TX0, 2)) ⟨hx, hb, hml, hown, hts⟩ (kX0_placesOf l dC dI cyI cyZ cyJ cyD cyB h0 h1 h2 plc tn ln (by omega) (by omega)) (cwV 2 hts gX5_pins_X0_placesOf rfl rfl rfl (by decide +kernel) ⟨Nat.le_of_ble_eq_true rfl, Nat.le_of_ble_eq_true rfl⟩) hK hP hS [2, 3] rfl 2 2 rfl rfl rfl hl.1 rfl (Nat.le_of_ble_eq_true rfl) dX5_pins_15 ⟨Nat.zero_le _, Nat.zero_le _⟩ (fun r_3 H locs hw hP hS => ?_)
  have hw : r_3 = plc (ln * 24 + tn) := hw
  subst hw
  exact W.lret (v := plc (ln * 24 + tn)) hx hb hr (fun t ht hW => ⟨⟨plc (ln * 24 + tn), (), rfl, rfl, trivial⟩, hS.F ht⟩) hS.2.2 dX5_pins_18

theorem inX5_wear_X5 : ∀ w ∈ wsX50, w ∈ wsX5_wear := by decide +kernel
theorem mX5_wear_fieldLink_RX5_32_PinBarrel_barrel_LPinBarrel_Barrel : Cond.fieldLink RX5 32 "PinBarrel" "barrel" "LPinBarrel$Barrel;" ∈ wsX5_wear := List.mem_of_getElem? (i := 1) (by decide +kernel)
set_option maxHeartbeats 4000000 in
set_option maxRecDepth 100000 in
theorem kX5_wear (l : Launch) (dC : Nat → ClassId) (dI : Nat → Nat → Nat) (cyI cyZ cyJ cyD cyB : ClassId) (p0 g0 h0 h1 h2 : Nat) (t0 : Nat) (w0 : Nat) (s0 : Nat) (v0 : Nat) (kn : Nat) (g1 : Nat) (g2 : Nat) (g3 : Nat) (g4 : Nat) (g5 : Nat) (cnt : Nat) (plc : Nat → Int64) (wea : Nat → Nat) (tn : Nat) (ln : Nat) (pl : Nat) (hcn : cnt ≤ 24) (ht : tn < cnt) (hln : ln < 3) (hpl : pl < 64) : Met l yX5_wear wsX5_wear ({ frames := 2, cells := 0, slots := 0, locals := 45 }) (va_Pc [.ref p0, .int (nI tn), .int (nI ln), .int (nI pl)] (xP (dC, dI) vwCl (xT cyI cyZ cyJ cyD cyB) [(p0, .inr (7, [.ref t0, .ref w0, .ref g0, .ref h0, .ref s0, .ref v0, .int (nI kn)])), (g0, .inr (3, [.ref g1, .ref g2, .ref g3, .ref g4, .ref g5, .int (nI cnt)])), (h0, .inr (2, [.ref h1, .ref h2])), (h1, .inl (cyJ, 72, .inr (.inl plc))), (h2, .inl (cyI, 4608, .inl (fun k => nI (wea k))))])) (va_Qi (fun (r : Int32) (u : Unit) => r = if bitL (plc (ln * 24 + tn)) pl then nI (wea ((ln * 24 + tn) * 64 + pl)) else (-1)) (fun _ _ => True) (fun _ => False)) 0 0 (fun _ => False) := by
  refine Met.ofW (cc := cX5_wear) (maxL := 4) (ret := (some .int)) (by decide) rfl ?_
  intro p e s m args below meth c s₁ B hml hv
  obtain ⟨rfl, hP, hK⟩ := hv
  have hx := B.exec
  have hb := B.bytes
  have hr := B.returns
  have hts := atoms_spec (ws := wsX5_wear) B.pre
  have hown : s.vm.findClass RX5 = some m.cls := findClass_of_methodNamed B.named
  have hlocks := B.notSynchronized
  have hS : va_S (fun _ => False) s.heap s.heap [] := va_S.rf
  have hP : va_P (dC, dI) vwCl [(p0, .inr (7, [.ref t0, .ref w0, .ref g0, .ref h0, .ref s0, .ref v0, .int (nI kn)])), (g0, .inr (3, [.ref g1, .ref g2, .ref g3, .ref g4, .ref g5, .int (nI cnt)])), (h0, .inr (2, [.ref h1, .ref h2])), (h1, .inl (cyJ, 72, .inr (.inl plc))), (h2, .inl (cyI, 4608, .inl (fun k => nI (wea k))))] s.heap := hP
  have hl := lv_entry ([.ref p0, .int (nI tn), .int (nI ln), .int (nI pl)]) (n := 4) (Nat.le_of_ble_eq_true rfl)
  rw [lg_entry_eq]
  generalize (lg_sl ([.ref p0, .int (nI tn), .int (nI ln), .int (nI pl)]) ++ List.replicate (4 - (lg_sl ([.ref p0, .int (nI tn), .int (nI ln), .int (nI pl)])).length) Slot.unset).toArray = ls at hl ⊢
  have hl : lv_has ls 4 [(0, .ref p0), (1, .int (nI tn)), (2, .int (nI ln)), (3, .int (nI pl))] := hl
  refine lv_aload_n hx hb dX5_wear_0 rfl (lv_at hl 0 rfl) ?_
  refine lv_iload_n hx hb dX5_wear_1 rfl (lv_at hl 1 rfl) ?_
  refine xv_v (As := [.int (nI tn)]) (rest := []) (q := (RX5, TX5, 7)) ⟨hx, hb, hml, hown, hts⟩ (kX5_needTooth l dC dI cyI cyZ cyJ cyD cyB p0 g0 t0 w0 h0 s0 v0 kn g1 g2 g3 g4 g5 cnt tn (by omega) (by omega)) (cwV 1 hts gX5_wear_X5_needTooth rfl rfl rfl (by decide +kernel) ⟨Nat.le_of_ble_eq_true rfl, Nat.le_of_ble_eq_true rfl⟩) hK hP hS [0, 1] rfl 0 7 rfl rfl rfl hl.1 rfl (Nat.le_of_ble_eq_true rfl) dX5_wear_2 ⟨Nat.zero_le _, Nat.zero_le _⟩ (fun H locs hP hS => ?_)
  refine lv_iload_n hx hb dX5_wear_5 rfl (lv_at hl 2 rfl) ?_
  refine xs_v (As := [.int (nI ln)]) (rest := []) ⟨hx, hb, hml, hown, hts⟩ (kX5_needLine l ln (by omega)) (va_cwS 1 hts gX5_wear_X5_needLine rfl rfl rfl (by decide +kernel) ⟨Nat.le_of_ble_eq_true rfl, Nat.le_of_ble_eq_true rfl⟩) hP hS rfl hl.1 rfl (Nat.le_of_ble_eq_true rfl) dX5_wear_6 ⟨Nat.zero_le _, Nat.zero_le _⟩ (fun H locs hP hS => ?_)
  refine lv_iload_n hx hb dX5_wear_9 rfl (lv_at hl 3 rfl) ?_
  refine xs_v (As := [.int (nI pl)]) (rest := []) ⟨hx, hb, hml, hown, hts⟩ (kX5_needPlace l pl (by omega)) (va_cwS 1 hts gX5_wear_X5_needPlace rfl rfl rfl (by decide +kernel) ⟨Nat.le_of_ble_eq_true rfl, Nat.le_of_ble_eq_true rfl⟩) hP hS rfl hl.1 rfl (Nat.le_of_ble_eq_true rfl) dX5_wear_10 ⟨Nat.zero_le _, Nat.zero_le _⟩ (fun H locs hP hS => ?_)
  refine lv_aload_n hx hb dX5_wear_13 rfl (lv_at hl 0 rfl) ?_
  refine va_get (D := (dC, dI)) (ci := 7) (v := .ref h0) (C := RX5) (T := TX5) (N := 7) hx hb hts inX5_wear_X5 hown hK hP 0 rfl rfl 3 (by decide) (hts _ mX5_wear_fieldLink_RX5_32_PinBarrel_barrel_LPinBarrel_Barrel) (fun _ h9 => h9) rfl dX5_wear_14 ?_
  refine lv_iload_n hx hb dX5_wear_17 rfl (lv_at hl 1 rfl) ?_
  refine lv_iload_n hx hb dX5_wear_18 rfl (lv_at hl 2 rfl) ?_
  refine lv_iload_n hx hb dX5_wear_19 rfl (lv_at hl 3 rfl) ?_
  refine xv_i (As := [.int (nI tn), .int (nI ln), .int (nI pl)]) (rest := []) (q := (RX0, TX0, 2)) ⟨hx, hb, hml, hown, hts⟩ (kX0_hasPin l dC dI cyI cyZ cyJ cyD cyB h0 h1 h2 plc tn ln pl (by omega) (by omega) (by omega)) (cwV 3 hts gX5_wear_X0_hasPin rfl rfl rfl (by decide +kernel) ⟨Nat.le_of_ble_eq_true rfl, Nat.le_of_ble_eq_true rfl⟩) hK hP hS [2, 3] rfl 2 2 rfl rfl rfl hl.1 rfl (Nat.le_of_ble_eq_true rfl) dX5_wear_20 ⟨Nat.zero_le _, Nat.zero_le _⟩ (fun r_4 H locs hw hP hS => ?_)
  have hw : r_4 = xb (bitL (plc (ln * 24 + tn)) pl) := hw
  subst hw
  refine xb_eq (tgt := 39) hx hb dX5_wear_23 (by decide) (fun c_5 => ?_) (fun c_5 => ?_)
  · refine lv_iconst (v := (-1)) hx hb dX5_wear_39 (by decide) ?_
    exact W.iret (v := (-1)) hx hb hr (fun t ht hW => ⟨⟨(-1), (), rfl, (by rw [c_5]; rfl), trivial⟩, hS.F ht⟩) hS.2.2 dX5_wear_40
  · refine lv_aload_n hx hb dX5_wear_26 rfl (lv_at hl 0 rfl) ?_
    refine va_get (D := (dC, dI)) (ci := 7) (v := .ref h0) (C := RX5) (T := TX5) (N := 7) hx hb hts inX5_wear_X5 hown hK hP 0 rfl rfl 3 (by decide) (hts _ mX5_wear_fieldLink_RX5_32_PinBarrel_barrel_LPinBarrel_Barrel) (fun _ h9 => h9) rfl dX5_wear_27 ?_
    refine lv_iload_n hx hb dX5_wear_30 rfl (lv_at hl 1 rfl) ?_
    refine lv_iload_n hx hb dX5_wear_31 rfl (lv_at hl 2 rfl) ?_
    refine lv_iload_n hx hb dX5_wear_32 rfl (lv_at hl 3 rfl) ?_
    refine xv_i (As := [.int (nI tn), .int (nI ln), .int (nI pl)]) (rest := []) (q := (RX0, TX0, 2)) ⟨hx, hb, hml, hown, hts⟩ (kX0_wearOf l dC dI cyI cyZ cyJ cyD cyB h0 h2 h1 wea tn ln pl (by omega) (by omega) (by omega)) (cwV 3 hts gX5_wear_X0_wearOf rfl rfl rfl (by decide +kernel) ⟨Nat.le_of_ble_eq_true rfl, Nat.le_of_ble_eq_true rfl⟩) hK hP hS [2, 4] rfl 2 2 rfl rfl rfl hl.1 rfl (Nat.le_of_ble_eq_true rfl) dX5_wear_33 ⟨Nat.zero_le _, Nat.zero_le _⟩ (fun r_6 H locs hw hP hS => ?_)
    have hw : r_6 = nI (wea ((ln * 24 + tn) * 64 + pl)) := hw
    subst hw
    refine lv_goto (tgt := 40) hx hb dX5_wear_36 (by decide) ?_
    exact W.iret (v := nI (wea ((ln * 24 + tn) * 64 + pl))) hx hb hr (fun t ht hW => ⟨⟨nI (wea ((ln * 24 + tn) * 64 + pl)), (), rfl, (by rw [c_5]; rfl), trivial⟩, hS.F ht⟩) hS.2.2 dX5_wear_40

theorem inX5_ofTune_X5 : ∀ w ∈ wsX50, w ∈ wsX5_ofTune := by decide +kernel
theorem mX5_ofTune_fieldLink_RX5_10_PinBarrel_tunes_LPinBarrel_Tunes : Cond.fieldLink RX5 10 "PinBarrel" "tunes" "LPinBarrel$Tunes;" ∈ wsX5_ofTune := List.mem_of_getElem? (i := 1) (by decide +kernel)
theorem inX5_ofTune_X3 : ∀ w ∈ wsX30, w ∈ wsX5_ofTune := by decide +kernel
theorem mX5_ofTune_fieldLink_RX5_84_PinBarrel_Tunes_size_I : Cond.fieldLink RX5 84 "PinBarrel$Tunes" "size" "[I" ∈ wsX5_ofTune := List.mem_of_getElem? (i := 2) (by decide +kernel)
set_option maxHeartbeats 4000000 in
set_option maxRecDepth 100000 in
theorem kX5_ofTune (l : Launch) (dC : Nat → ClassId) (dI : Nat → Nat → Nat) (cyI cyZ cyJ cyD cyB : ClassId) (p0 t0 t1 t2 : Nat) (w0 : Nat) (g0 : Nat) (h0 : Nat) (s0 : Nat) (v0 : Nat) (kn : Nat) (tcn : Nat) (siz : Nat → Nat) (no : Nat → Nat) (tu : Nat) (wh : Nat) (htc : tcn ≤ 4) (htu : tu < tcn) (hwh : wh < 5) (hno : ∀ k, no k < 3072) (hsz : ∀ k, siz k ≤ 30) : Met l yX5_ofTune wsX5_ofTune ({ frames := 2, cells := 0, slots := 0, locals := 47 }) (va_Pc [.ref p0, .int (nI tu), .int (nI wh)] (xP (dC, dI) vwCl (xT cyI cyZ cyJ cyD cyB) [(p0, .inr (7, [.ref t0, .ref w0, .ref g0, .ref h0, .ref s0, .ref v0, .int (nI kn)])), (t0, .inr (5, [.ref t1, .ref t2, .int (nI tcn)])), (t1, .inl (cyI, 4, .inl (fun k => nI (siz k)))), (t2, .inl (cyI, 120, .inl (fun k => nI (no k))))])) (va_Qi (fun (r : Int32) (u : Unit) => r = ouF siz no tu wh) (fun _ _ => True) (fun _ => False)) 0 0 (fun _ => False) := by
  refine Met.ofW (cc := cX5_ofTune) (maxL := 3) (ret := (some .int)) (by decide) rfl ?_
  intro p e s m args below meth c s₁ B hml hv
  obtain ⟨rfl, hP, hK⟩ := hv
  have hx := B.exec
  have hb := B.bytes
  have hr := B.returns
  have hts := atoms_spec (ws := wsX5_ofTune) B.pre
  have hown : s.vm.findClass RX5 = some m.cls := findClass_of_methodNamed B.named
  have hlocks := B.notSynchronized
  have hS : va_S (fun _ => False) s.heap s.heap [] := va_S.rf
  have hP : va_P (dC, dI) vwCl [(p0, .inr (7, [.ref t0, .ref w0, .ref g0, .ref h0, .ref s0, .ref v0, .int (nI kn)])), (t0, .inr (5, [.ref t1, .ref t2, .int (nI tcn)])), (t1, .inl (cyI, 4, .inl (fun k => nI (siz k)))), (t2, .inl (cyI, 120, .inl (fun k => nI (no k))))] s.heap := hP
  have hl := lv_entry ([.ref p0, .int (nI tu), .int (nI wh)]) (n := 3) (Nat.le_of_ble_eq_true rfl)
  rw [lg_entry_eq]
  generalize (lg_sl ([.ref p0, .int (nI tu), .int (nI wh)]) ++ List.replicate (3 - (lg_sl ([.ref p0, .int (nI tu), .int (nI wh)])).length) Slot.unset).toArray = ls at hl ⊢
  have hl : lv_has ls 3 [(0, .ref p0), (1, .int (nI tu)), (2, .int (nI wh))] := hl
  refine lv_aload_n hx hb dX5_ofTune_0 rfl (lv_at hl 0 rfl) ?_
  refine lv_iload_n hx hb dX5_ofTune_1 rfl (lv_at hl 1 rfl) ?_
  refine xv_v (As := [.int (nI tu)]) (rest := []) (q := (RX5, TX5, 7)) ⟨hx, hb, hml, hown, hts⟩ (kX5_needTune l dC dI cyI cyZ cyJ cyD cyB p0 t0 w0 g0 h0 s0 v0 kn t1 t2 tcn tu (by omega) (by omega)) (cwV 1 hts gX5_ofTune_X5_needTune rfl rfl rfl (by decide +kernel) ⟨Nat.le_of_ble_eq_true rfl, Nat.le_of_ble_eq_true rfl⟩) hK hP hS [0, 1] rfl 0 7 rfl rfl rfl hl.1 rfl (Nat.le_of_ble_eq_true rfl) dX5_ofTune_2 ⟨Nat.zero_le _, Nat.zero_le _⟩ (fun H locs hP hS => ?_)
  refine lv_iload_n hx hb dX5_ofTune_5 rfl (lv_at hl 2 rfl) ?_
  refine lv_iconst (v := nI 5) hx hb dX5_ofTune_6 (by decide) ?_
  refine xs_v (As := [.int (nI wh), .int (nI 5)]) (rest := []) ⟨hx, hb, hml, hown, hts⟩ (kX5_needQuestion l wh 5 (by omega) (by omega)) (va_cwS 2 hts gX5_ofTune_X5_needQuestion rfl rfl rfl (by decide +kernel) ⟨Nat.le_of_ble_eq_true rfl, Nat.le_of_ble_eq_true rfl⟩) hP hS rfl hl.1 rfl (Nat.le_of_ble_eq_true rfl) dX5_ofTune_7 ⟨Nat.zero_le _, Nat.zero_le _⟩ (fun H locs hP hS => ?_)
  refine lv_iload_n hx hb dX5_ofTune_10 rfl (lv_at hl 2 rfl) ?_
  rcases (show wh = 0 ∨ wh = 1 ∨ wh = 2 ∨ wh = 3 ∨ wh = 4 from by omega) with rfl | rfl | rfl | rfl | rfl
  · refine lv_tableIn (tgt := 40) (off := 29) hx hb dX5_ofTune_11 (by decide) (by decide) (by decide) (by decide) ?_
    refine lv_aload_n hx hb dX5_ofTune_40 rfl (lv_at hl 0 rfl) ?_
    refine va_get (D := (dC, dI)) (ci := 7) (v := .ref t0) (C := RX5) (T := TX5) (N := 7) hx hb hts inX5_ofTune_X5 hown hK hP 0 rfl rfl 0 (by decide) (hts _ mX5_ofTune_fieldLink_RX5_10_PinBarrel_tunes_LPinBarrel_Tunes) (fun _ h9 => h9) rfl dX5_ofTune_41 ?_
    refine va_get (D := (dC, dI)) (ci := 5) (v := .ref t1) (C := RX3) (T := TX3) (N := 3) hx hb hts inX5_ofTune_X3 hown hK hP 1 rfl rfl 0 (by decide) (hts _ mX5_ofTune_fieldLink_RX5_84_PinBarrel_Tunes_size_I) (fun _ h9 => h9) rfl dX5_ofTune_44 ?_
    refine lv_iload_n hx hb dX5_ofTune_47 rfl (lv_at hl 1 rfl) ?_
    refine xl_I (f := siz) hx hb hK hP 2 0 rfl rfl (by omega) (by decide) dX5_ofTune_48 ?_
    exact W.iret (v := nI (siz tu)) hx hb hr (fun t ht hW => ⟨⟨nI (siz tu), (), rfl, rfl, trivial⟩, hS.F ht⟩) hS.2.2 dX5_ofTune_49
  · refine lv_tableIn (tgt := 50) (off := 39) hx hb dX5_ofTune_11 (by decide) (by decide) (by decide) (by decide) ?_
    refine lv_aload_n hx hb dX5_ofTune_50 rfl (lv_at hl 0 rfl) ?_
    refine va_get (D := (dC, dI)) (ci := 7) (v := .ref t0) (C := RX5) (T := TX5) (N := 7) hx hb hts inX5_ofTune_X5 hown hK hP 0 rfl rfl 0 (by decide) (hts _ mX5_ofTune_fieldLink_RX5_10_PinBarrel_tunes_LPinBarrel_Tunes) (fun _ h9 => h9) rfl dX5_ofTune_51 ?_
    refine lv_iload_n hx hb dX5_ofTune_54 rfl (lv_at hl 1 rfl) ?_
    refine xv_i (As := [.int (nI tu)]) (rest := []) (q := (RX3, TX3, 3)) ⟨hx, hb, hml, hown, hts⟩ (kX3_lowest l dC dI cyI cyZ cyJ cyD cyB t0 t1 t2 siz no tcn tu (by omega) hno hsz) (cwV 1 hts gX5_ofTune_X3_lowest rfl rfl rfl (by decide +kernel) ⟨Nat.le_of_ble_eq_true rfl, Nat.le_of_ble_eq_true rfl⟩) hK hP hS [1, 2, 3] rfl 1 5 rfl rfl rfl hl.1 rfl (Nat.le_of_ble_eq_true rfl) dX5_ofTune_55 ⟨Nat.zero_le _, Nat.zero_le _⟩ (fun r_3 H locs hw hP hS => ?_)
    have hw : r_3 = lwF no (tu * 30) (siz tu) := hw
    subst hw
    exact W.iret (v := lwF no (tu * 30) (siz tu)) hx hb hr (fun t ht hW => ⟨⟨lwF no (tu * 30) (siz tu), (), rfl, rfl, trivial⟩, hS.F ht⟩) hS.2.2 dX5_ofTune_58
  · refine lv_tableIn (tgt := 59) (off := 48) hx hb dX5_ofTune_11 (by decide) (by decide) (by decide) (by decide) ?_
    refine lv_aload_n hx hb dX5_ofTune_59 rfl (lv_at hl 0 rfl) ?_
    refine va_get (D := (dC, dI)) (ci := 7) (v := .ref t0) (C := RX5) (T := TX5) (N := 7) hx hb hts inX5_ofTune_X5 hown hK hP 0 rfl rfl 0 (by decide) (hts _ mX5_ofTune_fieldLink_RX5_10_PinBarrel_tunes_LPinBarrel_Tunes) (fun _ h9 => h9) rfl dX5_ofTune_60 ?_
    refine lv_iload_n hx hb dX5_ofTune_63 rfl (lv_at hl 1 rfl) ?_
    refine xv_i (As := [.int (nI tu)]) (rest := []) (q := (RX3, TX3, 3)) ⟨hx, hb, hml, hown, hts⟩ (kX3_highest l dC dI cyI cyZ cyJ cyD cyB t0 t1 t2 siz no tcn tu (by omega) hno hsz) (cwV 1 hts gX5_ofTune_X3_highest rfl rfl rfl (by decide +kernel) ⟨Nat.le_of_ble_eq_true rfl, Nat.le_of_ble_eq_true rfl⟩) hK hP hS [1, 2, 3] rfl 1 5 rfl rfl rfl hl.1 rfl (Nat.le_of_ble_eq_true rfl) dX5_ofTune_64 ⟨Nat.zero_le _, Nat.zero_le _⟩ (fun r_4 H locs hw hP hS => ?_)
    have hw : r_4 = hiF no (tu * 30) (siz tu) := hw
    subst hw
    exact W.iret (v := hiF no (tu * 30) (siz tu)) hx hb hr (fun t ht hW => ⟨⟨hiF no (tu * 30) (siz tu), (), rfl, rfl, trivial⟩, hS.F ht⟩) hS.2.2 dX5_ofTune_67
  · refine lv_tableIn (tgt := 68) (off := 57) hx hb dX5_ofTune_11 (by decide) (by decide) (by decide) (by decide) ?_
    refine lv_aload_n hx hb dX5_ofTune_68 rfl (lv_at hl 0 rfl) ?_
    refine va_get (D := (dC, dI)) (ci := 7) (v := .ref t0) (C := RX5) (T := TX5) (N := 7) hx hb hts inX5_ofTune_X5 hown hK hP 0 rfl rfl 0 (by decide) (hts _ mX5_ofTune_fieldLink_RX5_10_PinBarrel_tunes_LPinBarrel_Tunes) (fun _ h9 => h9) rfl dX5_ofTune_69 ?_
    refine lv_iload_n hx hb dX5_ofTune_72 rfl (lv_at hl 1 rfl) ?_
    refine xv_i (As := [.int (nI tu)]) (rest := []) (q := (RX3, TX3, 3)) ⟨hx, hb, hml, hown, hts⟩ (kX3_times l dC dI cyI cyZ cyJ cyD cyB t0 t1 t2 siz no tcn tu (by omega) hno hsz) (cwV 1 hts gX5_ofTune_X3_times rfl rfl rfl (by decide +kernel) ⟨Nat.le_of_ble_eq_true rfl, Nat.le_of_ble_eq_true rfl⟩) hK hP hS [1, 2, 3] rfl 1 5 rfl rfl rfl hl.1 rfl (Nat.le_of_ble_eq_true rfl) dX5_ofTune_73 ⟨Nat.zero_le _, Nat.zero_le _⟩ (fun r_5 H locs hw hP hS => ?_)
    have hw : r_5 = nI (tmF no (tu * 30) (siz tu)) := hw
    subst hw
    exact W.iret (v := nI (tmF no (tu * 30) (siz tu))) hx hb hr (fun t ht hW => ⟨⟨nI (tmF no (tu * 30) (siz tu)), (), rfl, rfl, trivial⟩, hS.F ht⟩) hS.2.2 dX5_ofTune_76
  · refine lv_tableOut (tgt := 77) hx hb dX5_ofTune_11 (by decide) (by decide) ?_
    refine lv_aload_n hx hb dX5_ofTune_77 rfl (lv_at hl 0 rfl) ?_
    refine va_get (D := (dC, dI)) (ci := 7) (v := .ref t0) (C := RX5) (T := TX5) (N := 7) hx hb hts inX5_ofTune_X5 hown hK hP 0 rfl rfl 0 (by decide) (hts _ mX5_ofTune_fieldLink_RX5_10_PinBarrel_tunes_LPinBarrel_Tunes) (fun _ h9 => h9) rfl dX5_ofTune_78 ?_
    refine lv_iload_n hx hb dX5_ofTune_81 rfl (lv_at hl 1 rfl) ?_
    refine xv_i (As := [.int (nI tu)]) (rest := []) (q := (RX3, TX3, 3)) ⟨hx, hb, hml, hown, hts⟩ (kX3_mostAtOnce l dC dI cyI cyZ cyJ cyD cyB t0 t1 t2 siz no tcn tu (by omega) hno hsz) (cwV 1 hts gX5_ofTune_X3_mostAtOnce rfl rfl rfl (by decide +kernel) ⟨Nat.le_of_ble_eq_true rfl, Nat.le_of_ble_eq_true rfl⟩) hK hP hS [1, 2, 3] rfl 1 5 rfl rfl rfl hl.1 rfl (Nat.le_of_ble_eq_true rfl) dX5_ofTune_82 ⟨Nat.zero_le _, Nat.zero_le _⟩ (fun r_6 H locs hw hP hS => ?_)
    have hw : r_6 = nI ((moF no (tu * 30) (siz tu)).1) := hw
    subst hw
    exact W.iret (v := nI ((moF no (tu * 30) (siz tu)).1)) hx hb hr (fun t ht hW => ⟨⟨nI ((moF no (tu * 30) (siz tu)).1), (), rfl, rfl, trivial⟩, hS.F ht⟩) hS.2.2 dX5_ofTune_85

theorem inX5_likeness_X5 : ∀ w ∈ wsX50, w ∈ wsX5_likeness := by decide +kernel
theorem mX5_likeness_fieldLink_RX5_10_PinBarrel_tunes_LPinBarrel_Tunes : Cond.fieldLink RX5 10 "PinBarrel" "tunes" "LPinBarrel$Tunes;" ∈ wsX5_likeness := List.mem_of_getElem? (i := 1) (by decide +kernel)
theorem inX5_likeness_X3 : ∀ w ∈ wsX30, w ∈ wsX5_likeness := by decide +kernel
theorem mX5_likeness_fieldLink_RX5_84_PinBarrel_Tunes_size_I : Cond.fieldLink RX5 84 "PinBarrel$Tunes" "size" "[I" ∈ wsX5_likeness := List.mem_of_getElem? (i := 2) (by decide +kernel)
theorem mX5_likeness_methodLink_RX5_212_Lib_Math_max_name : Cond.methodLink RX5 212 Lib.Math.max.name ∈ wsX5_likeness := List.mem_of_getElem? (i := 3) (by decide +kernel)
theorem mX5_likeness_static_Lib_Math_max_name : Cond.static Lib.Math.max.name ∈ wsX5_likeness := List.mem_of_getElem? (i := 4) (by decide +kernel)
theorem mX5_likeness_initialized_java_lang_Math : Cond.initialized "java/lang/Math" ∈ wsX5_likeness := List.mem_of_getElem? (i := 5) (by decide +kernel)
theorem mX5_likeness_code_Lib_Math_max_name_Lib_Math_max_code_2_some_int : Cond.code Lib.Math.max.name Lib.Math.max.code 2 (some .int) ∈ wsX5_likeness := List.mem_of_getElem? (i := 6) (by decide +kernel)
set_option maxHeartbeats 4000000 in
set_option maxRecDepth 100000 in
theorem kX5_likeness (l : Launch) (dC : Nat → ClassId) (dI : Nat → Nat → Nat) (cyI cyZ cyJ cyD cyB : ClassId) (p0 t0 t1 t2 : Nat) (w0 : Nat) (g0 : Nat) (h0 : Nat) (s0 : Nat) (v0 : Nat) (kn : Nat) (tcn : Nat) (siz : Nat → Nat) (no : Nat → Nat) (on : Nat) (ot : Nat) (hi : Int32) (htc : tcn ≤ 4) (hon : on < tcn) (hot : ot < tcn) (hno : ∀ k, no k < 3072) (hsz : ∀ k, siz k ≤ 30) (hk1 : ¬ hi < (-24)) (hk2 : hi ≤ nI 24) : Met l yX5_likeness wsX5_likeness ({ frames := 3, cells := 0, slots := 0, locals := 74 }) (va_Pc [.ref p0, .int (nI on), .int (nI ot), .int hi] (xP (dC, dI) vwCl (xT cyI cyZ cyJ cyD cyB) [(p0, .inr (7, [.ref t0, .ref w0, .ref g0, .ref h0, .ref s0, .ref v0, .int (nI kn)])), (t0, .inr (5, [.ref t1, .ref t2, .int (nI tcn)])), (t1, .inl (cyI, 4, .inl (fun k => nI (siz k)))), (t2, .inl (cyI, 120, .inl (fun k => nI (no k))))])) (va_Qd (fun (r : UInt64) (u : Unit) => r = liF siz no on ot hi) (fun _ _ => True) (fun _ => False)) 0 0 (fun _ => False) := by
  refine Met.ofW (cc := cX5_likeness) (maxL := 5) (ret := (some .double)) (by decide) rfl ?_
  intro p e s m args below meth c s₁ B hml hv
  obtain ⟨rfl, hP, hK⟩ := hv
  have hx := B.exec
  have hb := B.bytes
  have hr := B.returns
  have hts := atoms_spec (ws := wsX5_likeness) B.pre
  have hown : s.vm.findClass RX5 = some m.cls := findClass_of_methodNamed B.named
  have hlocks := B.notSynchronized
  have hS : va_S (fun _ => False) s.heap s.heap [] := va_S.rf
  have hP : va_P (dC, dI) vwCl [(p0, .inr (7, [.ref t0, .ref w0, .ref g0, .ref h0, .ref s0, .ref v0, .int (nI kn)])), (t0, .inr (5, [.ref t1, .ref t2, .int (nI tcn)])), (t1, .inl (cyI, 4, .inl (fun k => nI (siz k)))), (t2, .inl (cyI, 120, .inl (fun k => nI (no k))))] s.heap := hP
  have hl := lv_entry ([.ref p0, .int (nI on), .int (nI ot), .int hi]) (n := 5) (Nat.le_of_ble_eq_true rfl)
  rw [lg_entry_eq]
  generalize (lg_sl ([.ref p0, .int (nI on), .int (nI ot), .int hi]) ++ List.replicate (5 - (lg_sl ([.ref p0, .int (nI on), .int (nI ot), .int hi])).length) Slot.unset).toArray = ls at hl ⊢
  have hl : lv_has ls 5 [(0, .ref p0), (1, .int (nI on)), (2, .int (nI ot)), (3, .int hi)] := hl
  have hsz1 := hsz on
  have hsz2 := hsz ot
  have hsd1 := sdF_le no (on * 30) (ot * 30) (siz ot) hi (siz on)
  refine lv_aload_n hx hb dX5_likeness_0 rfl (lv_at hl 0 rfl) ?_
  refine lv_iload_n hx hb dX5_likeness_1 rfl (lv_at hl 1 rfl) ?_
  refine xv_v (As := [.int (nI on)]) (rest := []) (q := (RX5, TX5, 7)) ⟨hx, hb, hml, hown, hts⟩ (kX5_needTune l dC dI cyI cyZ cyJ cyD cyB p0 t0 w0 g0 h0 s0 v0 kn t1 t2 tcn on (by omega) (by omega)) (cwV 1 hts gX5_likeness_X5_needTune rfl rfl rfl (by decide +kernel) ⟨Nat.le_of_ble_eq_true rfl, Nat.le_of_ble_eq_true rfl⟩) hK hP hS [0, 1] rfl 0 7 rfl rfl rfl hl.1 rfl (Nat.le_of_ble_eq_true rfl) dX5_likeness_2 ⟨Nat.zero_le _, Nat.zero_le _⟩ (fun H locs hP hS => ?_)
  refine lv_aload_n hx hb dX5_likeness_5 rfl (lv_at hl 0 rfl) ?_
  refine lv_iload_n hx hb dX5_likeness_6 rfl (lv_at hl 2 rfl) ?_
  refine xv_v (As := [.int (nI ot)]) (rest := []) (q := (RX5, TX5, 7)) ⟨hx, hb, hml, hown, hts⟩ (kX5_needTune l dC dI cyI cyZ cyJ cyD cyB p0 t0 w0 g0 h0 s0 v0 kn t1 t2 tcn ot (by omega) (by omega)) (cwV 1 hts gX5_likeness_X5_needTune rfl rfl rfl (by decide +kernel) ⟨Nat.le_of_ble_eq_true rfl, Nat.le_of_ble_eq_true rfl⟩) hK hP hS [0, 1] rfl 0 7 rfl rfl rfl hl.1 rfl (Nat.le_of_ble_eq_true rfl) dX5_likeness_7 ⟨Nat.zero_le _, Nat.zero_le _⟩ (fun H locs hP hS => ?_)
  refine lv_iload_n hx hb dX5_likeness_10 rfl (lv_at hl 3 rfl) ?_
  refine xs_v (As := [.int hi]) (rest := []) ⟨hx, hb, hml, hown, hts⟩ (kX5_needKey l hi (by omega) (by omega)) (va_cwS 1 hts gX5_likeness_X5_needKey rfl rfl rfl (by decide +kernel) ⟨Nat.le_of_ble_eq_true rfl, Nat.le_of_ble_eq_true rfl⟩) hP hS rfl hl.1 rfl (Nat.le_of_ble_eq_true rfl) dX5_likeness_11 ⟨Nat.zero_le _, Nat.zero_le _⟩ (fun H locs hP hS => ?_)
  refine lv_aload_n hx hb dX5_likeness_14 rfl (lv_at hl 0 rfl) ?_
  refine va_get (D := (dC, dI)) (ci := 7) (v := .ref t0) (C := RX5) (T := TX5) (N := 7) hx hb hts inX5_likeness_X5 hown hK hP 0 rfl rfl 0 (by decide) (hts _ mX5_likeness_fieldLink_RX5_10_PinBarrel_tunes_LPinBarrel_Tunes) (fun _ h9 => h9) rfl dX5_likeness_15 ?_
  refine va_get (D := (dC, dI)) (ci := 5) (v := .ref t1) (C := RX3) (T := TX3) (N := 3) hx hb hts inX5_likeness_X3 hown hK hP 1 rfl rfl 0 (by decide) (hts _ mX5_likeness_fieldLink_RX5_84_PinBarrel_Tunes_size_I) (fun _ h9 => h9) rfl dX5_likeness_18 ?_
  refine lv_iload_n hx hb dX5_likeness_21 rfl (lv_at hl 1 rfl) ?_
  refine xl_I (f := siz) hx hb hK hP 2 0 rfl rfl (by omega) (by decide) dX5_likeness_22 ?_
  refine lv_aload_n hx hb dX5_likeness_23 rfl (lv_at hl 0 rfl) ?_
  refine va_get (D := (dC, dI)) (ci := 7) (v := .ref t0) (C := RX5) (T := TX5) (N := 7) hx hb hts inX5_likeness_X5 hown hK hP 0 rfl rfl 0 (by decide) (hts _ mX5_likeness_fieldLink_RX5_10_PinBarrel_tunes_LPinBarrel_Tunes) (fun _ h9 => h9) rfl dX5_likeness_24 ?_
  refine va_get (D := (dC, dI)) (ci := 5) (v := .ref t1) (C := RX3) (T := TX3) (N := 3) hx hb hts inX5_likeness_X3 hown hK hP 1 rfl rfl 0 (by decide) (hts _ mX5_likeness_fieldLink_RX5_84_PinBarrel_Tunes_size_I) (fun _ h9 => h9) rfl dX5_likeness_27 ?_
  refine lv_iload_n hx hb dX5_likeness_30 rfl (lv_at hl 2 rfl) ?_
  refine xl_I (f := siz) hx hb hK hP 2 0 rfl rfl (by omega) (by decide) dX5_likeness_31 ?_
  refine va_mmax hx hb (hml.trans hl.1.symm) hown (hts _ mX5_likeness_methodLink_RX5_212_Lib_Math_max_name) (hts _ mX5_likeness_static_Lib_Math_max_name) (hts _ mX5_likeness_initialized_java_lang_Math) (hts _ mX5_likeness_code_Lib_Math_max_name_Lib_Math_max_code_2_some_int) (Nat.le_of_ble_eq_true rfl) (Nat.le_of_ble_eq_true rfl) (Nat.zero_le _) ( Nat.zero_le _) dX5_likeness_32 ?_
  rw [xk_max (x := (siz on)) (y := (siz ot)) (by omega) (by omega)]
  refine lv_istore (lv' := [(4, .int (nI (max (siz on) (siz ot)))), (0, .ref p0), (1, .int (nI on)), (2, .int (nI ot)), (3, .int hi)]) hx hb dX5_likeness_35 hl (by decide) rfl (fun ls hl => ?_)
  refine lv_iload hx hb dX5_likeness_37 (lv_at hl 0 rfl) ?_
  refine xz_ne (tgt := 44) hx hb dX5_likeness_39 (by decide) (by omega) (fun c_4 => ?_) (fun c_4 => ?_)
  · refine lv_aload_n hx hb dX5_likeness_44 rfl (lv_at hl 1 rfl) ?_
    refine va_get (D := (dC, dI)) (ci := 7) (v := .ref t0) (C := RX5) (T := TX5) (N := 7) hx hb hts inX5_likeness_X5 hown hK hP 0 rfl rfl 0 (by decide) (hts _ mX5_likeness_fieldLink_RX5_10_PinBarrel_tunes_LPinBarrel_Tunes) (fun _ h9 => h9) rfl dX5_likeness_45 ?_
    refine lv_iload_n hx hb dX5_likeness_48 rfl (lv_at hl 2 rfl) ?_
    refine lv_iload_n hx hb dX5_likeness_49 rfl (lv_at hl 3 rfl) ?_
    refine lv_iload_n hx hb dX5_likeness_50 rfl (lv_at hl 4 rfl) ?_
    refine xv_i (As := [.int (nI on), .int (nI ot), .int hi]) (rest := []) (q := (RX3, TX3, 3)) ⟨hx, hb, hml, hown, hts⟩ (kX3_shared l dC dI cyI cyZ cyJ cyD cyB t0 t1 t2 siz no tcn on ot hi (by omega) (by omega) hno hsz) (cwV 3 hts gX5_likeness_X3_shared rfl rfl rfl (by decide +kernel) ⟨Nat.le_of_ble_eq_true rfl, Nat.le_of_ble_eq_true rfl⟩) hK hP hS [1, 2, 3] rfl 1 5 rfl rfl rfl hl.1 rfl (Nat.le_of_ble_eq_true rfl) dX5_likeness_51 ⟨Nat.zero_le _, Nat.zero_le _⟩ (fun r_5 H locs hw hP hS => ?_)
    have hw : r_5 = nI (sdF no (on * 30) (ot * 30) (siz ot) hi (siz on)) := hw
    subst hw
    refine lv_i2d hx hb dX5_likeness_54 ?_
    refine lv_iload hx hb dX5_likeness_55 (lv_at hl 0 rfl) ?_
    refine lv_i2d hx hb dX5_likeness_57 ?_
    refine lv_ddiv hx hb dX5_likeness_58 (li_n (by omega) (by omega) (by omega)) ?_
    exact W.dret (v := FP.ddiv (FP.i2d (nI (sdF no (on * 30) (ot * 30) (siz ot) hi (siz on)))) (FP.i2d (nI (max (siz on) (siz ot))))) hx hb hr (fun t ht hW => ⟨⟨FP.ddiv (FP.i2d (nI (sdF no (on * 30) (ot * 30) (siz ot) hi (siz on)))) (FP.i2d (nI (max (siz on) (siz ot)))), (), rfl, (if_neg c_4).symm, trivial⟩, hS.F ht⟩) hS.2.2 dX5_likeness_59
  · refine lv_dconst0 hx hb dX5_likeness_42 ?_
    exact W.dret (v := FP.dconst0) hx hb hr (fun t ht hW => ⟨⟨FP.dconst0, (), rfl, (if_pos c_4).symm, trivial⟩, hS.F ht⟩) hS.2.2 dX5_likeness_43

theorem inX5_heard_X5 : ∀ w ∈ wsX50, w ∈ wsX5_heard := by decide +kernel
theorem mX5_heard_fieldLink_RX5_37_PinBarrel_sounds_LPinBarrel_Sounds : Cond.fieldLink RX5 37 "PinBarrel" "sounds" "LPinBarrel$Sounds;" ∈ wsX5_heard := List.mem_of_getElem? (i := 1) (by decide +kernel)
set_option maxHeartbeats 4000000 in
set_option maxRecDepth 100000 in
theorem kX5_heard (l : Launch) (dC : Nat → ClassId) (dI : Nat → Nat → Nat) (cyI cyZ cyJ cyD cyB : ClassId) (p0 s0 s1 : Nat) (t0 : Nat) (w0 : Nat) (g0 : Nat) (h0 : Nat) (v0 : Nat) (kn : Nat) (s2 : Nat) (old : Nat) (kep : Nat) (evr : Nat) (pts : Nat → Nat) (sn : Nat) (hol : old < 40) (hke : kep ≤ 40) (hsn : sn < kep) : Met l yX5_heard wsX5_heard ({ frames := 2, cells := 0, slots := 0, locals := 42 }) (va_Pc [.ref p0, .int (nI sn)] (xP (dC, dI) vwCl (xT cyI cyZ cyJ cyD cyB) [(p0, .inr (7, [.ref t0, .ref w0, .ref g0, .ref h0, .ref s0, .ref v0, .int (nI kn)])), (s0, .inr (4, [.ref s1, .ref s2, .int (nI old), .int (nI kep), .int (nI evr)])), (s1, .inl (cyI, 40, .inl (fun k => nI (pts k))))])) (va_Qi (fun (r : Int32) (u : Unit) => r = nI (pts ((old + sn) % 40))) (fun _ _ => True) (fun _ => False)) 0 0 (fun _ => False) := by
  refine Met.ofW (cc := cX5_heard) (maxL := 2) (ret := (some .int)) (by decide) rfl ?_
  intro p e s m args below meth c s₁ B hml hv
  obtain ⟨rfl, hP, hK⟩ := hv
  have hx := B.exec
  have hb := B.bytes
  have hr := B.returns
  have hts := atoms_spec (ws := wsX5_heard) B.pre
  have hown : s.vm.findClass RX5 = some m.cls := findClass_of_methodNamed B.named
  have hlocks := B.notSynchronized
  have hS : va_S (fun _ => False) s.heap s.heap [] := va_S.rf
  have hP : va_P (dC, dI) vwCl [(p0, .inr (7, [.ref t0, .ref w0, .ref g0, .ref h0, .ref s0, .ref v0, .int (nI kn)])), (s0, .inr (4, [.ref s1, .ref s2, .int (nI old), .int (nI kep), .int (nI evr)])), (s1, .inl (cyI, 40, .inl (fun k => nI (pts k))))] s.heap := hP
  have hl := lv_entry ([.ref p0, .int (nI sn)]) (n := 2) (Nat.le_of_ble_eq_true rfl)
  rw [lg_entry_eq]
  generalize (lg_sl ([.ref p0, .int (nI sn)]) ++ List.replicate (2 - (lg_sl ([.ref p0, .int (nI sn)])).length) Slot.unset).toArray = ls at hl ⊢
  have hl : lv_has ls 2 [(0, .ref p0), (1, .int (nI sn))] := hl
  refine lv_aload_n hx hb dX5_heard_0 rfl (lv_at hl 0 rfl) ?_
  refine lv_iload_n hx hb dX5_heard_1 rfl (lv_at hl 1 rfl) ?_
  refine xv_v (As := [.int (nI sn)]) (rest := []) (q := (RX5, TX5, 7)) ⟨hx, hb, hml, hown, hts⟩ (kX5_needSound l dC dI cyI cyZ cyJ cyD cyB p0 s0 t0 w0 g0 h0 v0 kn s1 s2 old kep evr sn (by omega) (by omega)) (cwV 1 hts gX5_heard_X5_needSound rfl rfl rfl (by decide +kernel) ⟨Nat.le_of_ble_eq_true rfl, Nat.le_of_ble_eq_true rfl⟩) hK hP hS [0, 1] rfl 0 7 rfl rfl rfl hl.1 rfl (Nat.le_of_ble_eq_true rfl) dX5_heard_2 ⟨Nat.zero_le _, Nat.zero_le _⟩ (fun H locs hP hS => ?_)
  refine lv_aload_n hx hb dX5_heard_5 rfl (lv_at hl 0 rfl) ?_
  refine va_get (D := (dC, dI)) (ci := 7) (v := .ref s0) (C := RX5) (T := TX5) (N := 7) hx hb hts inX5_heard_X5 hown hK hP 0 rfl rfl 4 (by decide) (hts _ mX5_heard_fieldLink_RX5_37_PinBarrel_sounds_LPinBarrel_Sounds) (fun _ h9 => h9) rfl dX5_heard_6 ?_
  refine lv_iload_n hx hb dX5_heard_9 rfl (lv_at hl 1 rfl) ?_
  refine xv_i (As := [.int (nI sn)]) (rest := []) (q := (RX2, TX2, 5)) ⟨hx, hb, hml, hown, hts⟩ (kX2_pitchOf l dC dI cyI cyZ cyJ cyD cyB s0 s1 s2 old kep evr sn pts (by omega) (by omega)) (cwV 1 hts gX5_heard_X2_pitchOf rfl rfl rfl (by decide +kernel) ⟨Nat.le_of_ble_eq_true rfl, Nat.le_of_ble_eq_true rfl⟩) hK hP hS [1, 2] rfl 1 4 rfl rfl rfl hl.1 rfl (Nat.le_of_ble_eq_true rfl) dX5_heard_10 ⟨Nat.zero_le _, Nat.zero_le _⟩ (fun r_2 H locs hw hP hS => ?_)
  have hw : r_2 = nI (pts ((old + sn) % 40)) := hw
  subst hw
  exact W.iret (v := nI (pts ((old + sn) % 40))) hx hb hr (fun t ht hW => ⟨⟨nI (pts ((old + sn) % 40)), (), rfl, rfl, trivial⟩, hS.F ht⟩) hS.2.2 dX5_heard_13

theorem mX5_nearestWhole_constantDouble_RX5_319_4602678819172646912 : Cond.constantDouble RX5 319 (4602678819172646912) ∈ wsX5_nearestWhole := List.mem_of_getElem? (i := 1) (by decide +kernel)
set_option maxHeartbeats 4000000 in
set_option maxRecDepth 100000 in
theorem kX5_nearestWhole (l : Launch) (xx : UInt64) (hn : vf_n64 (FP.dsub xx (FP.l2d (FP.d2l xx)))) : Met l yX5_nearestWhole wsX5_nearestWhole ({ frames := 0, cells := 0, slots := 0, locals := 0 }) (va_Pc [.double xx] (fun _ => True)) (va_Ql (fun (r : Int64) (u : Unit) => r = nwF xx) (fun _ _ => True) (fun _ => False)) 0 0 (fun _ => False) := by
  refine Met.ofW (cc := cX5_nearestWhole) (maxL := 6) (ret := (some .long)) (by decide) rfl ?_
  intro p e s m args below meth c s₁ B hml hv
  obtain ⟨rfl, -⟩ := hv
  have hx := B.exec
  have hb := B.bytes
  have hr := B.returns
  have hts := atoms_spec (ws := wsX5_nearestWhole) B.pre
  have hown : s.vm.findClass RX5 = some m.cls := findClass_of_methodNamed B.named
  have hlocks := B.notSynchronized
  have hS : va_S (fun _ => False) s.heap s.heap [] := va_S.rf
  have hl := lv_entry ([.double xx]) (n := 6) (Nat.le_of_ble_eq_true rfl)
  rw [lg_entry_eq]
  generalize (lg_sl ([.double xx]) ++ List.replicate (6 - (lg_sl ([.double xx])).length) Slot.unset).toArray = ls at hl ⊢
  have hl : lv_has ls 6 [(0, .double xx)] := hl
  refine lv_dload_n hx hb dX5_nearestWhole_0 rfl (lv_at hl 0 rfl) ?_
  refine lv_d2l hx hb dX5_nearestWhole_1 ?_
  refine lv_lstore_n (lv' := [(2, .long (FP.d2l xx)), (0, .double xx)]) hx hb dX5_nearestWhole_2 rfl hl (by decide) rfl (fun ls hl => ?_)
  refine lv_dload_n hx hb dX5_nearestWhole_3 rfl (lv_at hl 1 rfl) ?_
  refine lv_lload_n hx hb dX5_nearestWhole_4 rfl (lv_at hl 0 rfl) ?_
  refine lv_l2d hx hb dX5_nearestWhole_5 ?_
  refine lv_dsub hx hb dX5_nearestWhole_6 hn ?_
  refine lv_dstore (lv' := [(4, .double (FP.dsub xx (FP.l2d (FP.d2l xx)))), (2, .long (FP.d2l xx)), (0, .double xx)]) hx hb dX5_nearestWhole_7 hl (by decide) rfl (fun ls hl => ?_)
  refine lv_dload hx hb dX5_nearestWhole_9 (lv_at hl 0 rfl) ?_
  refine lv_ldc2d (v := (4602678819172646912)) hx hb hown (hts _ mX5_nearestWhole_constantDouble_RX5_319_4602678819172646912) dX5_nearestWhole_11 ?_
  refine lv_dcmp hx hb dX5_nearestWhole_14 ?_
  refine lv_if_gt (tgt := 35) hx hb dX5_nearestWhole_15 (by decide) (fun c_1 => ?_) (fun c_1 => ?_)
  · refine lv_lload_n hx hb dX5_nearestWhole_35 rfl (lv_at hl 1 rfl) ?_
    refine lv_lconst (v := 1) hx hb dX5_nearestWhole_36 (by decide) ?_
    refine lv_ladd hx hb dX5_nearestWhole_37 ?_
    exact W.lret (v := (FP.d2l xx) + (1 : Int64)) hx hb hr (fun t ht hW => ⟨⟨(FP.d2l xx) + (1 : Int64), (), rfl, (if_pos c_1).symm, trivial⟩, hS.F ht⟩) hS.2.2 dX5_nearestWhole_38
  · refine lv_dload hx hb dX5_nearestWhole_18 (lv_at hl 0 rfl) ?_
    refine lv_ldc2d (v := (4602678819172646912)) hx hb hown (hts _ mX5_nearestWhole_constantDouble_RX5_319_4602678819172646912) dX5_nearestWhole_20 ?_
    refine lv_dcmp hx hb dX5_nearestWhole_23 ?_
    refine lv_if_ne (tgt := 39) hx hb dX5_nearestWhole_24 (by decide) (fun c_2 => ?_) (fun c_2 => ?_)
    · refine lv_lload_n hx hb dX5_nearestWhole_39 rfl (lv_at hl 1 rfl) ?_
      exact W.lret (v := FP.d2l xx) hx hb hr (fun t ht hW => ⟨⟨FP.d2l xx, (), rfl, (by unfold nwF; rw [if_neg c_1, if_pos c_2]), trivial⟩, hS.F ht⟩) hS.2.2 dX5_nearestWhole_40
    · refine lv_lload_n hx hb dX5_nearestWhole_27 rfl (lv_at hl 1 rfl) ?_
      refine lv_lconst (v := 1) hx hb dX5_nearestWhole_28 (by decide) ?_
      refine lv_land hx hb dX5_nearestWhole_29 ?_
      refine lv_lconst (v := 1) hx hb dX5_nearestWhole_30 (by decide) ?_
      refine W.lcmp hx hb dX5_nearestWhole_31 ?_
      refine lv_if_ne (tgt := 39) hx hb dX5_nearestWhole_32 (by decide) (fun c_3 => ?_) (fun c_3 => ?_)
      · refine lv_lload_n hx hb dX5_nearestWhole_39 rfl (lv_at hl 1 rfl) ?_
        exact W.lret (v := FP.d2l xx) hx hb hr (fun t ht hW => ⟨⟨FP.d2l xx, (), rfl, (by unfold nwF; rw [if_neg c_1, if_neg (Classical.not_not.mpr c_2), if_neg c_3]), trivial⟩, hS.F ht⟩) hS.2.2 dX5_nearestWhole_40
      · refine lv_lload_n hx hb dX5_nearestWhole_35 rfl (lv_at hl 1 rfl) ?_
        refine lv_lconst (v := 1) hx hb dX5_nearestWhole_36 (by decide) ?_
        refine lv_ladd hx hb dX5_nearestWhole_37 ?_
        exact W.lret (v := (FP.d2l xx) + (1 : Int64)) hx hb hr (fun t ht hW => ⟨⟨(FP.d2l xx) + (1 : Int64), (), rfl, (by unfold nwF; rw [if_neg c_1, if_neg (Classical.not_not.mpr c_2), if_pos c_3]), trivial⟩, hS.F ht⟩) hS.2.2 dX5_nearestWhole_38

theorem mX5_when_constantDouble_RX5_224_4620693217682128896 : Cond.constantDouble RX5 224 (4620693217682128896) ∈ wsX5_when := List.mem_of_getElem? (i := 1) (by decide +kernel)
theorem inX5_when_X5 : ∀ w ∈ wsX50, w ∈ wsX5_when := by decide +kernel
theorem mX5_when_fieldLink_RX5_37_PinBarrel_sounds_LPinBarrel_Sounds : Cond.fieldLink RX5 37 "PinBarrel" "sounds" "LPinBarrel$Sounds;" ∈ wsX5_when := List.mem_of_getElem? (i := 2) (by decide +kernel)
set_option maxHeartbeats 4000000 in
set_option maxRecDepth 100000 in
theorem kX5_when (l : Launch) (dC : Nat → ClassId) (dI : Nat → Nat → Nat) (cyI cyZ cyJ cyD cyB : ClassId) (p0 s0 s2 : Nat) (t0 : Nat) (w0 : Nat) (g0 : Nat) (h0 : Nat) (v0 : Nat) (kn : Nat) (s1 : Nat) (old : Nat) (kep : Nat) (evr : Nat) (clk : Nat → UInt64) (sn : Nat) (hol : old < 40) (hke : kep ≤ 40) (hsn : sn < kep) (hcl : okW (clk ((old + sn) % 40))) : Met l yX5_when wsX5_when ({ frames := 2, cells := 0, slots := 0, locals := 42 }) (va_Pc [.ref p0, .int (nI sn)] (xP (dC, dI) vwCl (xT cyI cyZ cyJ cyD cyB) [(p0, .inr (7, [.ref t0, .ref w0, .ref g0, .ref h0, .ref s0, .ref v0, .int (nI kn)])), (s0, .inr (4, [.ref s1, .ref s2, .int (nI old), .int (nI kep), .int (nI evr)])), (s2, .inl (cyD, 40, .inr (.inr (.inr (.inl clk)))))])) (va_Qd (fun (r : UInt64) (u : Unit) => r = whF (clk ((old + sn) % 40))) (fun _ _ => True) (fun _ => False)) 0 0 (fun _ => False) := by
  refine Met.ofW (cc := cX5_when) (maxL := 2) (ret := (some .double)) (by decide) rfl ?_
  intro p e s m args below meth c s₁ B hml hv
  obtain ⟨rfl, hP, hK⟩ := hv
  have hx := B.exec
  have hb := B.bytes
  have hr := B.returns
  have hts := atoms_spec (ws := wsX5_when) B.pre
  have hown : s.vm.findClass RX5 = some m.cls := findClass_of_methodNamed B.named
  have hlocks := B.notSynchronized
  have hS : va_S (fun _ => False) s.heap s.heap [] := va_S.rf
  have hP : va_P (dC, dI) vwCl [(p0, .inr (7, [.ref t0, .ref w0, .ref g0, .ref h0, .ref s0, .ref v0, .int (nI kn)])), (s0, .inr (4, [.ref s1, .ref s2, .int (nI old), .int (nI kep), .int (nI evr)])), (s2, .inl (cyD, 40, .inr (.inr (.inr (.inl clk)))))] s.heap := hP
  have hl := lv_entry ([.ref p0, .int (nI sn)]) (n := 2) (Nat.le_of_ble_eq_true rfl)
  rw [lg_entry_eq]
  generalize (lg_sl ([.ref p0, .int (nI sn)]) ++ List.replicate (2 - (lg_sl ([.ref p0, .int (nI sn)])).length) Slot.unset).toArray = ls at hl ⊢
  have hl : lv_has ls 2 [(0, .ref p0), (1, .int (nI sn))] := hl
  refine lv_aload_n hx hb dX5_when_0 rfl (lv_at hl 0 rfl) ?_
  refine lv_iload_n hx hb dX5_when_1 rfl (lv_at hl 1 rfl) ?_
  refine xv_v (As := [.int (nI sn)]) (rest := []) (q := (RX5, TX5, 7)) ⟨hx, hb, hml, hown, hts⟩ (kX5_needSound l dC dI cyI cyZ cyJ cyD cyB p0 s0 t0 w0 g0 h0 v0 kn s1 s2 old kep evr sn (by omega) (by omega)) (cwV 1 hts gX5_when_X5_needSound rfl rfl rfl (by decide +kernel) ⟨Nat.le_of_ble_eq_true rfl, Nat.le_of_ble_eq_true rfl⟩) hK hP hS [0, 1] rfl 0 7 rfl rfl rfl hl.1 rfl (Nat.le_of_ble_eq_true rfl) dX5_when_2 ⟨Nat.zero_le _, Nat.zero_le _⟩ (fun H locs hP hS => ?_)
  refine lv_ldc2d (v := (4620693217682128896)) hx hb hown (hts _ mX5_when_constantDouble_RX5_224_4620693217682128896) dX5_when_5 ?_
  refine lv_aload_n hx hb dX5_when_8 rfl (lv_at hl 0 rfl) ?_
  refine va_get (D := (dC, dI)) (ci := 7) (v := .ref s0) (C := RX5) (T := TX5) (N := 7) hx hb hts inX5_when_X5 hown hK hP 0 rfl rfl 4 (by decide) (hts _ mX5_when_fieldLink_RX5_37_PinBarrel_sounds_LPinBarrel_Sounds) (fun _ h9 => h9) rfl dX5_when_9 ?_
  refine lv_iload_n hx hb dX5_when_12 rfl (lv_at hl 1 rfl) ?_
  refine xv_d (As := [.int (nI sn)]) (rest := [.double (4620693217682128896)]) (q := (RX2, TX2, 5)) ⟨hx, hb, hml, hown, hts⟩ (kX2_clockOf l dC dI cyI cyZ cyJ cyD cyB s0 s2 s1 old kep evr sn clk (by omega) (by omega)) (cwV 1 hts gX5_when_X2_clockOf rfl rfl rfl (by decide +kernel) ⟨Nat.le_of_ble_eq_true rfl, Nat.le_of_ble_eq_true rfl⟩) hK hP hS [1, 2] rfl 1 4 rfl rfl rfl hl.1 rfl (Nat.le_of_ble_eq_true rfl) dX5_when_13 ⟨Nat.zero_le _, Nat.zero_le _⟩ (fun r_2 H locs hw hP hS => ?_)
  have hw : r_2 = clk ((old + sn) % 40) := hw
  subst hw
  refine lv_dmul hx hb dX5_when_16 hcl.1 ?_
  refine xs_l (As := [.double (FP.dmul (4620693217682128896) (clk ((old + sn) % 40)))]) (rest := []) ⟨hx, hb, hml, hown, hts⟩ (kX5_nearestWhole l (FP.dmul (4620693217682128896) (clk ((old + sn) % 40))) hcl.2.1) (va_cwS 1 hts gX5_when_X5_nearestWhole rfl rfl rfl (by decide +kernel) ⟨Nat.le_of_ble_eq_true rfl, Nat.le_of_ble_eq_true rfl⟩) hP hS rfl hl.1 rfl (Nat.le_of_ble_eq_true rfl) dX5_when_17 ⟨Nat.zero_le _, Nat.zero_le _⟩ (fun r_3 H locs hw hP hS => ?_)
  have hw : r_3 = nwF (FP.dmul (4620693217682128896) (clk ((old + sn) % 40))) := hw
  subst hw
  refine lv_l2d hx hb dX5_when_20 ?_
  refine lv_ldc2d (v := (4620693217682128896)) hx hb hown (hts _ mX5_when_constantDouble_RX5_224_4620693217682128896) dX5_when_21 ?_
  refine lv_ddiv hx hb dX5_when_24 hcl.2.2.1 ?_
  exact W.dret (v := FP.ddiv (FP.l2d (nwF (FP.dmul (4620693217682128896) (clk ((old + sn) % 40))))) (4620693217682128896)) hx hb hr (fun t ht hW => ⟨⟨FP.ddiv (FP.l2d (nwF (FP.dmul (4620693217682128896) (clk ((old + sn) % 40))))) (4620693217682128896), (), rfl, rfl, trivial⟩, hS.F ht⟩) hS.2.2 dX5_when_25

theorem inX5_allPins_X5 : ∀ w ∈ wsX50, w ∈ wsX5_allPins := by decide +kernel
theorem mX5_allPins_fieldLink_RX5_27_PinBarrel_comb_LPinBarrel_Comb : Cond.fieldLink RX5 27 "PinBarrel" "comb" "LPinBarrel$Comb;" ∈ wsX5_allPins := List.mem_of_getElem? (i := 1) (by decide +kernel)
theorem inX5_allPins_X1 : ∀ w ∈ wsX10, w ∈ wsX5_allPins := by decide +kernel
theorem mX5_allPins_fieldLink_RX5_45_PinBarrel_Comb_count_I : Cond.fieldLink RX5 45 "PinBarrel$Comb" "count" "I" ∈ wsX5_allPins := List.mem_of_getElem? (i := 2) (by decide +kernel)
theorem mX5_allPins_fieldLink_RX5_32_PinBarrel_barrel_LPinBarrel_Barrel : Cond.fieldLink RX5 32 "PinBarrel" "barrel" "LPinBarrel$Barrel;" ∈ wsX5_allPins := List.mem_of_getElem? (i := 3) (by decide +kernel)
set_option maxHeartbeats 4000000 in
set_option maxRecDepth 100000 in
theorem kX5_allPins (l : Launch) (dC : Nat → ClassId) (dI : Nat → Nat → Nat) (cyI cyZ cyJ cyD cyB : ClassId) (p0 g0 h0 h1 : Nat) (t0 : Nat) (w0 : Nat) (s0 : Nat) (v0 : Nat) (kn : Nat) (g1 : Nat) (g2 : Nat) (g3 : Nat) (g4 : Nat) (g5 : Nat) (cnt : Nat) (h2 : Nat) (plc : Nat → Int64) (hcn : cnt ≤ 24) : Met l yX5_allPins wsX5_allPins ({ frames := 3, cells := 0, slots := 0, locals := 66 }) (va_Pc [.ref p0] (xP (dC, dI) vwCl (xT cyI cyZ cyJ cyD cyB) [(p0, .inr (7, [.ref t0, .ref w0, .ref g0, .ref h0, .ref s0, .ref v0, .int (nI kn)])), (g0, .inr (3, [.ref g1, .ref g2, .ref g3, .ref g4, .ref g5, .int (nI cnt)])), (h0, .inr (2, [.ref h1, .ref h2])), (h1, .inl (cyJ, 72, .inr (.inl plc)))])) (va_Qi (fun (r : Int32) (u : Unit) => r = nI (apF plc cnt)) (fun _ _ => True) (fun _ => False)) 0 0 (fun _ => False) := by
  refine Met.ofW (cc := cX5_allPins) (maxL := 3) (ret := (some .int)) (by decide) rfl ?_
  intro p e s m args below meth c s₁ B hml hv
  obtain ⟨rfl, hP, hK⟩ := hv
  have hx := B.exec
  have hb := B.bytes
  have hr := B.returns
  have hts := atoms_spec (ws := wsX5_allPins) B.pre
  have hown : s.vm.findClass RX5 = some m.cls := findClass_of_methodNamed B.named
  have hlocks := B.notSynchronized
  have hS : va_S (fun _ => False) s.heap s.heap [] := va_S.rf
  have hP : va_P (dC, dI) vwCl [(p0, .inr (7, [.ref t0, .ref w0, .ref g0, .ref h0, .ref s0, .ref v0, .int (nI kn)])), (g0, .inr (3, [.ref g1, .ref g2, .ref g3, .ref g4, .ref g5, .int (nI cnt)])), (h0, .inr (2, [.ref h1, .ref h2])), (h1, .inl (cyJ, 72, .inr (.inl plc)))] s.heap := hP
  have hl := lv_entry ([.ref p0]) (n := 3) (Nat.le_of_ble_eq_true rfl)
  rw [lg_entry_eq]
  generalize (lg_sl ([.ref p0]) ++ List.replicate (3 - (lg_sl ([.ref p0])).length) Slot.unset).toArray = ls at hl ⊢
  have hl : lv_has ls 3 [(0, .ref p0)] := hl
  refine lv_iconst (v := nI 0) hx hb dX5_allPins_0 (by decide) ?_
  refine lv_istore_n (lv' := [(1, .int (nI 0)), (0, .ref p0)]) hx hb dX5_allPins_1 rfl hl (by decide) rfl (fun ls hl => ?_)
  refine lv_iconst (v := nI 0) hx hb dX5_allPins_2 (by decide) ?_
  refine lv_istore_n (lv' := [(2, .int (nI 0)), (1, .int (nI 0)), (0, .ref p0)]) hx hb dX5_allPins_3 rfl hl (by decide) rfl (fun ls hl => ?_)
  have e0 : apF plc 0 = 0 := rfl
  refine (?_ : ∀ (n_1 i_2 : Nat), i_2 + n_1 = cnt → ∀ (H : Heap) (locs : List Loc) (hP : va_P (dC, dI) vwCl [(p0, .inr (7, [.ref t0, .ref w0, .ref g0, .ref h0, .ref s0, .ref v0, .int (nI kn)])), (g0, .inr (3, [.ref g1, .ref g2, .ref g3, .ref g4, .ref g5, .int (nI cnt)])), (h0, .inr (2, [.ref h1, .ref h2])), (h1, .inl (cyJ, 72, .inr (.inl plc)))] H) (hS : va_S (fun _ => False) s.heap H locs) (ls : Array Slot) (hl : lv_has ls 3 [(2, .int (nI i_2)), (1, .int (nI (apF plc i_2))), (0, .ref p0)]), W p l e _ s m _ below meth c H locs 0 0 _ (F0 m 4 ls [])) (cnt - 0) 0 (by omega) _ _ (by first | exact hP | (simp only [e0]; exact hP)) hS _ (by first | exact (lv_sub hl [0, 1, 2] rfl) | (simp only [e0]; exact (lv_sub hl [0, 1, 2] rfl)))
  clear hl hP hS
  intro n_1
  induction n_1 with
  | zero =>
    intro i_2 hi_3 H locs hP hS ls hl
    refine lv_iload_n hx hb dX5_allPins_4 rfl (lv_at hl 0 rfl) ?_
    refine lv_aload_n hx hb dX5_allPins_5 rfl (lv_at hl 2 rfl) ?_
    refine va_get (D := (dC, dI)) (ci := 7) (v := .ref g0) (C := RX5) (T := TX5) (N := 7) hx hb hts inX5_allPins_X5 hown hK hP 0 rfl rfl 2 (by decide) (hts _ mX5_allPins_fieldLink_RX5_27_PinBarrel_comb_LPinBarrel_Comb) (fun _ h9 => h9) rfl dX5_allPins_6 ?_
    refine va_get (D := (dC, dI)) (ci := 3) (v := .int (nI cnt)) (C := RX1) (T := TX1) (N := 6) hx hb hts inX5_allPins_X1 hown hK hP 1 rfl rfl 5 (by decide) (hts _ mX5_allPins_fieldLink_RX5_45_PinBarrel_Comb_count_I) (fun _ h9 => h9) rfl dX5_allPins_9 ?_
    refine xc_ge (tgt := 32) hx hb dX5_allPins_12 (by decide) (by omega) (by omega) (fun c_6 => ?_) (fun c_6 => by omega)
    refine lv_iload_n hx hb dX5_allPins_32 rfl (lv_at hl 1 rfl) ?_
    exact W.iret (v := nI (apF plc i_2)) hx hb hr (fun t ht hW => ⟨⟨nI (apF plc i_2), (), rfl, (by rw [show i_2 = cnt from by omega]), trivial⟩, hS.F ht⟩) hS.2.2 dX5_allPins_33
  | succ n_1 ih_4 =>
    intro i_2 hi_3 H locs hP hS ls hl
    refine lv_iload_n hx hb dX5_allPins_4 rfl (lv_at hl 0 rfl) ?_
    refine lv_aload_n hx hb dX5_allPins_5 rfl (lv_at hl 2 rfl) ?_
    refine va_get (D := (dC, dI)) (ci := 7) (v := .ref g0) (C := RX5) (T := TX5) (N := 7) hx hb hts inX5_allPins_X5 hown hK hP 0 rfl rfl 2 (by decide) (hts _ mX5_allPins_fieldLink_RX5_27_PinBarrel_comb_LPinBarrel_Comb) (fun _ h9 => h9) rfl dX5_allPins_6 ?_
    refine va_get (D := (dC, dI)) (ci := 3) (v := .int (nI cnt)) (C := RX1) (T := TX1) (N := 6) hx hb hts inX5_allPins_X1 hown hK hP 1 rfl rfl 5 (by decide) (hts _ mX5_allPins_fieldLink_RX5_45_PinBarrel_Comb_count_I) (fun _ h9 => h9) rfl dX5_allPins_9 ?_
    refine xc_ge (tgt := 32) hx hb dX5_allPins_12 (by decide) (by omega) (by omega) (fun c_7 => by omega) (fun c_7 => ?_)
    refine lv_iload_n hx hb dX5_allPins_15 rfl (lv_at hl 1 rfl) ?_
    refine lv_aload_n hx hb dX5_allPins_16 rfl (lv_at hl 2 rfl) ?_
    refine va_get (D := (dC, dI)) (ci := 7) (v := .ref h0) (C := RX5) (T := TX5) (N := 7) hx hb hts inX5_allPins_X5 hown hK hP 0 rfl rfl 3 (by decide) (hts _ mX5_allPins_fieldLink_RX5_32_PinBarrel_barrel_LPinBarrel_Barrel) (fun _ h9 => h9) rfl dX5_allPins_17 ?_
    refine lv_iload_n hx hb dX5_allPins_20 rfl (lv_at hl 0 rfl) ?_
    refine xv_i (As := [.int (nI i_2)]) (rest := [.int (nI (apF plc i_2))]) (q := (RX0, TX0, 2)) ⟨hx, hb, hml, hown, hts⟩ (kX0_pinsOfTooth l dC dI cyI cyZ cyJ cyD cyB h0 h1 h2 plc i_2 (by omega)) (cwV 1 hts gX5_allPins_X0_pinsOfTooth rfl rfl rfl (by decide +kernel) ⟨Nat.le_of_ble_eq_true rfl, Nat.le_of_ble_eq_true rfl⟩) hK hP hS [2, 3] rfl 2 2 rfl rfl rfl hl.1 rfl (Nat.le_of_ble_eq_true rfl) dX5_allPins_21 ⟨Nat.zero_le _, Nat.zero_le _⟩ (fun r_8 H locs hw hP hS => ?_)
    have hw : r_8 = nI (pinsF plc i_2) := hw
    subst hw
    refine xi_add hx hb dX5_allPins_24 ?_
    refine lv_istore_n (lv' := [(1, .int (nI ((apF plc i_2) + (pinsF plc i_2)))), (2, .int (nI i_2)), (0, .ref p0)]) hx hb dX5_allPins_25 rfl hl (by decide) rfl (fun ls hl => ?_)
    refine xi_inc (k := 1) (lv' := [(2, .int (nI (i_2 + 1))), (1, .int (nI ((apF plc i_2) + (pinsF plc i_2)))), (0, .ref p0)]) hx hb dX5_allPins_26 hl rfl (by decide) rfl (fun ls hl => ?_)
    refine lv_goto (tgt := 4) hx hb dX5_allPins_29 (by decide) ?_
    exact ih_4 (i_2 + 1) (by omega)  _ _ hP hS _ (lv_sub hl [0, 1, 2] rfl)

theorem inX5_many_X5 : ∀ w ∈ wsX50, w ∈ wsX5_many := by decide +kernel
theorem mX5_many_fieldLink_RX5_27_PinBarrel_comb_LPinBarrel_Comb : Cond.fieldLink RX5 27 "PinBarrel" "comb" "LPinBarrel$Comb;" ∈ wsX5_many := List.mem_of_getElem? (i := 1) (by decide +kernel)
theorem inX5_many_X1 : ∀ w ∈ wsX10, w ∈ wsX5_many := by decide +kernel
theorem mX5_many_fieldLink_RX5_45_PinBarrel_Comb_count_I : Cond.fieldLink RX5 45 "PinBarrel$Comb" "count" "I" ∈ wsX5_many := List.mem_of_getElem? (i := 2) (by decide +kernel)
theorem mX5_many_fieldLink_RX5_10_PinBarrel_tunes_LPinBarrel_Tunes : Cond.fieldLink RX5 10 "PinBarrel" "tunes" "LPinBarrel$Tunes;" ∈ wsX5_many := List.mem_of_getElem? (i := 3) (by decide +kernel)
theorem inX5_many_X3 : ∀ w ∈ wsX30, w ∈ wsX5_many := by decide +kernel
theorem mX5_many_fieldLink_RX5_69_PinBarrel_Tunes_count_I : Cond.fieldLink RX5 69 "PinBarrel$Tunes" "count" "I" ∈ wsX5_many := List.mem_of_getElem? (i := 4) (by decide +kernel)
theorem mX5_many_fieldLink_RX5_19_PinBarrel_works_LPinBarrel_Works : Cond.fieldLink RX5 19 "PinBarrel" "works" "LPinBarrel$Works;" ∈ wsX5_many := List.mem_of_getElem? (i := 5) (by decide +kernel)
theorem inX5_many_X4 : ∀ w ∈ wsX40, w ∈ wsX5_many := by decide +kernel
theorem mX5_many_fieldLink_RX5_245_PinBarrel_Works_place_I : Cond.fieldLink RX5 245 "PinBarrel$Works" "place" "I" ∈ wsX5_many := List.mem_of_getElem? (i := 6) (by decide +kernel)
theorem mX5_many_fieldLink_RX5_112_PinBarrel_Works_shift_I : Cond.fieldLink RX5 112 "PinBarrel$Works" "shift" "I" ∈ wsX5_many := List.mem_of_getElem? (i := 7) (by decide +kernel)
theorem mX5_many_fieldLink_RX5_117_PinBarrel_Works_wound_I : Cond.fieldLink RX5 117 "PinBarrel$Works" "wound" "I" ∈ wsX5_many := List.mem_of_getElem? (i := 8) (by decide +kernel)
theorem mX5_many_fieldLink_RX5_131_PinBarrel_Works_governor_I : Cond.fieldLink RX5 131 "PinBarrel$Works" "governor" "I" ∈ wsX5_many := List.mem_of_getElem? (i := 9) (by decide +kernel)
theorem mX5_many_fieldLink_RX5_248_PinBarrel_Works_steps_I : Cond.fieldLink RX5 248 "PinBarrel$Works" "steps" "I" ∈ wsX5_many := List.mem_of_getElem? (i := 10) (by decide +kernel)
theorem mX5_many_fieldLink_RX5_37_PinBarrel_sounds_LPinBarrel_Sounds : Cond.fieldLink RX5 37 "PinBarrel" "sounds" "LPinBarrel$Sounds;" ∈ wsX5_many := List.mem_of_getElem? (i := 11) (by decide +kernel)
theorem inX5_many_X2 : ∀ w ∈ wsX20, w ∈ wsX5_many := by decide +kernel
theorem mX5_many_fieldLink_RX5_141_PinBarrel_Sounds_ever_I : Cond.fieldLink RX5 141 "PinBarrel$Sounds" "ever" "I" ∈ wsX5_many := List.mem_of_getElem? (i := 12) (by decide +kernel)
theorem mX5_many_fieldLink_RX5_251_PinBarrel_Sounds_kept_I : Cond.fieldLink RX5 251 "PinBarrel$Sounds" "kept" "I" ∈ wsX5_many := List.mem_of_getElem? (i := 13) (by decide +kernel)
theorem mX5_many_fieldLink_RX5_254_PinBarrel_Works_buzzes_I : Cond.fieldLink RX5 254 "PinBarrel$Works" "buzzes" "I" ∈ wsX5_many := List.mem_of_getElem? (i := 14) (by decide +kernel)
theorem mX5_many_fieldLink_RX5_257_PinBarrel_Works_wornOut_I : Cond.fieldLink RX5 257 "PinBarrel$Works" "wornOut" "I" ∈ wsX5_many := List.mem_of_getElem? (i := 15) (by decide +kernel)
theorem mX5_many_fieldLink_RX5_120_PinBarrel_knocks_I : Cond.fieldLink RX5 120 "PinBarrel" "knocks" "I" ∈ wsX5_many := List.mem_of_getElem? (i := 16) (by decide +kernel)
theorem mX5_many_fieldLink_RX5_260_PinBarrel_Works_clock_D : Cond.fieldLink RX5 260 "PinBarrel$Works" "clock" "D" ∈ wsX5_many := List.mem_of_getElem? (i := 17) (by decide +kernel)
set_option maxHeartbeats 4000000 in
set_option maxRecDepth 100000 in
theorem kX5_many (l : Launch) (dC : Nat → ClassId) (dI : Nat → Nat → Nat) (cyI cyZ cyJ cyD cyB : ClassId) (p0 g0 g2 t0 h0 h1 w0 s0 : Nat) (v0 : Nat) (kn : Nat) (g1 : Nat) (g3 : Nat) (g4 : Nat) (g5 : Nat) (cnt : Nat) (bro : Nat → Bool) (t1 : Nat) (t2 : Nat) (tcn : Nat) (h2 : Nat) (plc : Nat → Int64) (wnd : Nat) (gov : Nat) (plo : Nat) (shf : Nat) (stp : Nat) (buz : Nat) (wor : Nat) (cks : UInt64) (s1 : Nat) (s2 : Nat) (old : Nat) (kep : Nat) (evr : Nat) (wh : Nat) (hcn : cnt ≤ 24) (hwh : wh < 15) : Met l yX5_many wsX5_many ({ frames := 4, cells := 0, slots := 0, locals := 88 }) (va_Pc [.ref p0, .int (nI wh)] (xP (dC, dI) vwCl (xT cyI cyZ cyJ cyD cyB) [(p0, .inr (7, [.ref t0, .ref w0, .ref g0, .ref h0, .ref s0, .ref v0, .int (nI kn)])), (g0, .inr (3, [.ref g1, .ref g2, .ref g3, .ref g4, .ref g5, .int (nI cnt)])), (g2, .inl (cyZ, 24, .inl (fun k => xb (bro k)))), (t0, .inr (5, [.ref t1, .ref t2, .int (nI tcn)])), (h0, .inr (2, [.ref h1, .ref h2])), (h1, .inl (cyJ, 72, .inr (.inl plc))), (w0, .inr (6, [.ref g0, .ref h0, .ref s0, .int (nI wnd), .int (nI gov), .int (nI plo), .int (nI shf), .int (nI stp), .int (nI buz), .int (nI wor), .double cks])), (s0, .inr (4, [.ref s1, .ref s2, .int (nI old), .int (nI kep), .int (nI evr)]))])) (va_Qi (fun (r : Int32) (u : Unit) => r = mnF cnt bro tcn plc plo shf wnd gov stp evr kep buz wor kn cks wh) (fun _ _ => True) (fun _ => False)) 0 0 (fun _ => False) := by
  refine Met.ofW (cc := cX5_many) (maxL := 2) (ret := (some .int)) (by decide) rfl ?_
  intro p e s m args below meth c s₁ B hml hv
  obtain ⟨rfl, hP, hK⟩ := hv
  have hx := B.exec
  have hb := B.bytes
  have hr := B.returns
  have hts := atoms_spec (ws := wsX5_many) B.pre
  have hown : s.vm.findClass RX5 = some m.cls := findClass_of_methodNamed B.named
  have hlocks := B.notSynchronized
  have hS : va_S (fun _ => False) s.heap s.heap [] := va_S.rf
  have hP : va_P (dC, dI) vwCl [(p0, .inr (7, [.ref t0, .ref w0, .ref g0, .ref h0, .ref s0, .ref v0, .int (nI kn)])), (g0, .inr (3, [.ref g1, .ref g2, .ref g3, .ref g4, .ref g5, .int (nI cnt)])), (g2, .inl (cyZ, 24, .inl (fun k => xb (bro k)))), (t0, .inr (5, [.ref t1, .ref t2, .int (nI tcn)])), (h0, .inr (2, [.ref h1, .ref h2])), (h1, .inl (cyJ, 72, .inr (.inl plc))), (w0, .inr (6, [.ref g0, .ref h0, .ref s0, .int (nI wnd), .int (nI gov), .int (nI plo), .int (nI shf), .int (nI stp), .int (nI buz), .int (nI wor), .double cks])), (s0, .inr (4, [.ref s1, .ref s2, .int (nI old), .int (nI kep), .int (nI evr)]))] s.heap := hP
  have hl := lv_entry ([.ref p0, .int (nI wh)]) (n := 2) (Nat.le_of_ble_eq_true rfl)
  rw [lg_entry_eq]
  generalize (lg_sl ([.ref p0, .int (nI wh)]) ++ List.replicate (2 - (lg_sl ([.ref p0, .int (nI wh)])).length) Slot.unset).toArray = ls at hl ⊢
  have hl : lv_has ls 2 [(0, .ref p0), (1, .int (nI wh))] := hl
  refine lv_iload_n hx hb dX5_many_0 rfl (lv_at hl 1 rfl) ?_
  refine lv_bipush (v := nI 15) hx hb dX5_many_1 (by decide) ?_
  refine xs_v (As := [.int (nI wh), .int (nI 15)]) (rest := []) ⟨hx, hb, hml, hown, hts⟩ (kX5_needQuestion l wh 15 (by omega) (by omega)) (va_cwS 2 hts gX5_many_X5_needQuestion rfl rfl rfl (by decide +kernel) ⟨Nat.le_of_ble_eq_true rfl, Nat.le_of_ble_eq_true rfl⟩) hP hS rfl hl.1 rfl (Nat.le_of_ble_eq_true rfl) dX5_many_3 ⟨Nat.zero_le _, Nat.zero_le _⟩ (fun H locs hP hS => ?_)
  refine lv_iload_n hx hb dX5_many_6 rfl (lv_at hl 1 rfl) ?_
  rcases (show wh = 0 ∨ wh = 1 ∨ wh = 2 ∨ wh = 3 ∨ wh = 4 ∨ wh = 5 ∨ wh = 6 ∨ wh = 7 ∨ wh = 8 ∨ wh = 9 ∨ wh = 10 ∨ wh = 11 ∨ wh = 12 ∨ wh = 13 ∨ wh = 14 from by omega) with rfl | rfl | rfl | rfl | rfl | rfl | rfl | rfl | rfl | rfl | rfl | rfl | rfl | rfl | rfl
  · refine lv_tableIn (tgt := 76) (off := 69) hx hb dX5_many_7 (by decide) (by decide) (by decide) (by decide) ?_
    refine lv_aload_n hx hb dX5_many_76 rfl (lv_at hl 0 rfl) ?_
    refine va_get (D := (dC, dI)) (ci := 7) (v := .ref g0) (C := RX5) (T := TX5) (N := 7) hx hb hts inX5_many_X5 hown hK hP 0 rfl rfl 2 (by decide) (hts _ mX5_many_fieldLink_RX5_27_PinBarrel_comb_LPinBarrel_Comb) (fun _ h9 => h9) rfl dX5_many_77 ?_
    refine va_get (D := (dC, dI)) (ci := 3) (v := .int (nI cnt)) (C := RX1) (T := TX1) (N := 6) hx hb hts inX5_many_X1 hown hK hP 1 rfl rfl 5 (by decide) (hts _ mX5_many_fieldLink_RX5_45_PinBarrel_Comb_count_I) (fun _ h9 => h9) rfl dX5_many_80 ?_
    exact W.iret (v := nI cnt) hx hb hr (fun t ht hW => ⟨⟨nI cnt, (), rfl, rfl, trivial⟩, hS.F ht⟩) hS.2.2 dX5_many_83
  · refine lv_tableIn (tgt := 84) (off := 77) hx hb dX5_many_7 (by decide) (by decide) (by decide) (by decide) ?_
    refine lv_aload_n hx hb dX5_many_84 rfl (lv_at hl 0 rfl) ?_
    refine va_get (D := (dC, dI)) (ci := 7) (v := .ref g0) (C := RX5) (T := TX5) (N := 7) hx hb hts inX5_many_X5 hown hK hP 0 rfl rfl 2 (by decide) (hts _ mX5_many_fieldLink_RX5_27_PinBarrel_comb_LPinBarrel_Comb) (fun _ h9 => h9) rfl dX5_many_85 ?_
    refine xv_i (As := []) (rest := []) (q := (RX1, TX1, 6)) ⟨hx, hb, hml, hown, hts⟩ (kX1_brokenTeeth l dC dI cyI cyZ cyJ cyD cyB g0 g2 g1 g3 g4 g5 bro cnt (by omega)) (cwV 0 hts gX5_many_X1_brokenTeeth rfl rfl rfl (by decide +kernel) ⟨Nat.le_of_ble_eq_true rfl, Nat.le_of_ble_eq_true rfl⟩) hK hP hS [1, 2] rfl 1 3 rfl rfl rfl hl.1 rfl (Nat.le_of_ble_eq_true rfl) dX5_many_88 ⟨Nat.zero_le _, Nat.zero_le _⟩ (fun r_2 H locs hw hP hS => ?_)
    have hw : r_2 = nI (brF bro cnt) := hw
    subst hw
    exact W.iret (v := nI (brF bro cnt)) hx hb hr (fun t ht hW => ⟨⟨nI (brF bro cnt), (), rfl, rfl, trivial⟩, hS.F ht⟩) hS.2.2 dX5_many_91
  · refine lv_tableIn (tgt := 92) (off := 85) hx hb dX5_many_7 (by decide) (by decide) (by decide) (by decide) ?_
    refine lv_aload_n hx hb dX5_many_92 rfl (lv_at hl 0 rfl) ?_
    refine va_get (D := (dC, dI)) (ci := 7) (v := .ref t0) (C := RX5) (T := TX5) (N := 7) hx hb hts inX5_many_X5 hown hK hP 0 rfl rfl 0 (by decide) (hts _ mX5_many_fieldLink_RX5_10_PinBarrel_tunes_LPinBarrel_Tunes) (fun _ h9 => h9) rfl dX5_many_93 ?_
    refine va_get (D := (dC, dI)) (ci := 5) (v := .int (nI tcn)) (C := RX3) (T := TX3) (N := 3) hx hb hts inX5_many_X3 hown hK hP 3 rfl rfl 2 (by decide) (hts _ mX5_many_fieldLink_RX5_69_PinBarrel_Tunes_count_I) (fun _ h9 => h9) rfl dX5_many_96 ?_
    exact W.iret (v := nI tcn) hx hb hr (fun t ht hW => ⟨⟨nI tcn, (), rfl, rfl, trivial⟩, hS.F ht⟩) hS.2.2 dX5_many_99
  · refine lv_tableIn (tgt := 100) (off := 93) hx hb dX5_many_7 (by decide) (by decide) (by decide) (by decide) ?_
    refine lv_aload_n hx hb dX5_many_100 rfl (lv_at hl 0 rfl) ?_
    refine xv_i (As := []) (rest := []) (q := (RX5, TX5, 7)) ⟨hx, hb, hml, hown, hts⟩ (kX5_allPins l dC dI cyI cyZ cyJ cyD cyB p0 g0 h0 h1 t0 w0 s0 v0 kn g1 g2 g3 g4 g5 cnt h2 plc (by omega)) (cwV 0 hts gX5_many_X5_allPins rfl rfl rfl (by decide +kernel) ⟨Nat.le_of_ble_eq_true rfl, Nat.le_of_ble_eq_true rfl⟩) hK hP hS [0, 1, 4, 5] rfl 0 7 rfl rfl rfl hl.1 rfl (Nat.le_of_ble_eq_true rfl) dX5_many_101 ⟨Nat.zero_le _, Nat.zero_le _⟩ (fun r_3 H locs hw hP hS => ?_)
    have hw : r_3 = nI (apF plc cnt) := hw
    subst hw
    exact W.iret (v := nI (apF plc cnt)) hx hb hr (fun t ht hW => ⟨⟨nI (apF plc cnt), (), rfl, rfl, trivial⟩, hS.F ht⟩) hS.2.2 dX5_many_104
  · refine lv_tableIn (tgt := 105) (off := 98) hx hb dX5_many_7 (by decide) (by decide) (by decide) (by decide) ?_
    refine lv_aload_n hx hb dX5_many_105 rfl (lv_at hl 0 rfl) ?_
    refine va_get (D := (dC, dI)) (ci := 7) (v := .ref w0) (C := RX5) (T := TX5) (N := 7) hx hb hts inX5_many_X5 hown hK hP 0 rfl rfl 1 (by decide) (hts _ mX5_many_fieldLink_RX5_19_PinBarrel_works_LPinBarrel_Works) (fun _ h9 => h9) rfl dX5_many_106 ?_
    refine va_get (D := (dC, dI)) (ci := 6) (v := .int (nI plo)) (C := RX4) (T := TX4) (N := 11) hx hb hts inX5_many_X4 hown hK hP 6 rfl rfl 5 (by decide) (hts _ mX5_many_fieldLink_RX5_245_PinBarrel_Works_place_I) (fun _ h9 => h9) rfl dX5_many_109 ?_
    exact W.iret (v := nI plo) hx hb hr (fun t ht hW => ⟨⟨nI plo, (), rfl, rfl, trivial⟩, hS.F ht⟩) hS.2.2 dX5_many_112
  · refine lv_tableIn (tgt := 113) (off := 106) hx hb dX5_many_7 (by decide) (by decide) (by decide) (by decide) ?_
    refine lv_aload_n hx hb dX5_many_113 rfl (lv_at hl 0 rfl) ?_
    refine va_get (D := (dC, dI)) (ci := 7) (v := .ref w0) (C := RX5) (T := TX5) (N := 7) hx hb hts inX5_many_X5 hown hK hP 0 rfl rfl 1 (by decide) (hts _ mX5_many_fieldLink_RX5_19_PinBarrel_works_LPinBarrel_Works) (fun _ h9 => h9) rfl dX5_many_114 ?_
    refine va_get (D := (dC, dI)) (ci := 6) (v := .int (nI shf)) (C := RX4) (T := TX4) (N := 11) hx hb hts inX5_many_X4 hown hK hP 6 rfl rfl 6 (by decide) (hts _ mX5_many_fieldLink_RX5_112_PinBarrel_Works_shift_I) (fun _ h9 => h9) rfl dX5_many_117 ?_
    exact W.iret (v := nI shf) hx hb hr (fun t ht hW => ⟨⟨nI shf, (), rfl, rfl, trivial⟩, hS.F ht⟩) hS.2.2 dX5_many_120
  · refine lv_tableIn (tgt := 121) (off := 114) hx hb dX5_many_7 (by decide) (by decide) (by decide) (by decide) ?_
    refine lv_aload_n hx hb dX5_many_121 rfl (lv_at hl 0 rfl) ?_
    refine va_get (D := (dC, dI)) (ci := 7) (v := .ref w0) (C := RX5) (T := TX5) (N := 7) hx hb hts inX5_many_X5 hown hK hP 0 rfl rfl 1 (by decide) (hts _ mX5_many_fieldLink_RX5_19_PinBarrel_works_LPinBarrel_Works) (fun _ h9 => h9) rfl dX5_many_122 ?_
    refine va_get (D := (dC, dI)) (ci := 6) (v := .int (nI wnd)) (C := RX4) (T := TX4) (N := 11) hx hb hts inX5_many_X4 hown hK hP 6 rfl rfl 3 (by decide) (hts _ mX5_many_fieldLink_RX5_117_PinBarrel_Works_wound_I) (fun _ h9 => h9) rfl dX5_many_125 ?_
    exact W.iret (v := nI wnd) hx hb hr (fun t ht hW => ⟨⟨nI wnd, (), rfl, rfl, trivial⟩, hS.F ht⟩) hS.2.2 dX5_many_128
  · refine lv_tableIn (tgt := 129) (off := 122) hx hb dX5_many_7 (by decide) (by decide) (by decide) (by decide) ?_
    refine lv_aload_n hx hb dX5_many_129 rfl (lv_at hl 0 rfl) ?_
    refine va_get (D := (dC, dI)) (ci := 7) (v := .ref w0) (C := RX5) (T := TX5) (N := 7) hx hb hts inX5_many_X5 hown hK hP 0 rfl rfl 1 (by decide) (hts _ mX5_many_fieldLink_RX5_19_PinBarrel_works_LPinBarrel_Works) (fun _ h9 => h9) rfl dX5_many_130 ?_
    refine va_get (D := (dC, dI)) (ci := 6) (v := .int (nI gov)) (C := RX4) (T := TX4) (N := 11) hx hb hts inX5_many_X4 hown hK hP 6 rfl rfl 4 (by decide) (hts _ mX5_many_fieldLink_RX5_131_PinBarrel_Works_governor_I) (fun _ h9 => h9) rfl dX5_many_133 ?_
    exact W.iret (v := nI gov) hx hb hr (fun t ht hW => ⟨⟨nI gov, (), rfl, rfl, trivial⟩, hS.F ht⟩) hS.2.2 dX5_many_136
  · refine lv_tableIn (tgt := 137) (off := 130) hx hb dX5_many_7 (by decide) (by decide) (by decide) (by decide) ?_
    refine lv_aload_n hx hb dX5_many_137 rfl (lv_at hl 0 rfl) ?_
    refine va_get (D := (dC, dI)) (ci := 7) (v := .ref w0) (C := RX5) (T := TX5) (N := 7) hx hb hts inX5_many_X5 hown hK hP 0 rfl rfl 1 (by decide) (hts _ mX5_many_fieldLink_RX5_19_PinBarrel_works_LPinBarrel_Works) (fun _ h9 => h9) rfl dX5_many_138 ?_
    refine va_get (D := (dC, dI)) (ci := 6) (v := .int (nI stp)) (C := RX4) (T := TX4) (N := 11) hx hb hts inX5_many_X4 hown hK hP 6 rfl rfl 7 (by decide) (hts _ mX5_many_fieldLink_RX5_248_PinBarrel_Works_steps_I) (fun _ h9 => h9) rfl dX5_many_141 ?_
    exact W.iret (v := nI stp) hx hb hr (fun t ht hW => ⟨⟨nI stp, (), rfl, rfl, trivial⟩, hS.F ht⟩) hS.2.2 dX5_many_144
  · refine lv_tableIn (tgt := 145) (off := 138) hx hb dX5_many_7 (by decide) (by decide) (by decide) (by decide) ?_
    refine lv_aload_n hx hb dX5_many_145 rfl (lv_at hl 0 rfl) ?_
    refine va_get (D := (dC, dI)) (ci := 7) (v := .ref s0) (C := RX5) (T := TX5) (N := 7) hx hb hts inX5_many_X5 hown hK hP 0 rfl rfl 4 (by decide) (hts _ mX5_many_fieldLink_RX5_37_PinBarrel_sounds_LPinBarrel_Sounds) (fun _ h9 => h9) rfl dX5_many_146 ?_
    refine va_get (D := (dC, dI)) (ci := 4) (v := .int (nI evr)) (C := RX2) (T := TX2) (N := 5) hx hb hts inX5_many_X2 hown hK hP 7 rfl rfl 4 (by decide) (hts _ mX5_many_fieldLink_RX5_141_PinBarrel_Sounds_ever_I) (fun _ h9 => h9) rfl dX5_many_149 ?_
    exact W.iret (v := nI evr) hx hb hr (fun t ht hW => ⟨⟨nI evr, (), rfl, rfl, trivial⟩, hS.F ht⟩) hS.2.2 dX5_many_152
  · refine lv_tableIn (tgt := 153) (off := 146) hx hb dX5_many_7 (by decide) (by decide) (by decide) (by decide) ?_
    refine lv_aload_n hx hb dX5_many_153 rfl (lv_at hl 0 rfl) ?_
    refine va_get (D := (dC, dI)) (ci := 7) (v := .ref s0) (C := RX5) (T := TX5) (N := 7) hx hb hts inX5_many_X5 hown hK hP 0 rfl rfl 4 (by decide) (hts _ mX5_many_fieldLink_RX5_37_PinBarrel_sounds_LPinBarrel_Sounds) (fun _ h9 => h9) rfl dX5_many_154 ?_
    refine va_get (D := (dC, dI)) (ci := 4) (v := .int (nI kep)) (C := RX2) (T := TX2) (N := 5) hx hb hts inX5_many_X2 hown hK hP 7 rfl rfl 3 (by decide) (hts _ mX5_many_fieldLink_RX5_251_PinBarrel_Sounds_kept_I) (fun _ h9 => h9) rfl dX5_many_157 ?_
    exact W.iret (v := nI kep) hx hb hr (fun t ht hW => ⟨⟨nI kep, (), rfl, rfl, trivial⟩, hS.F ht⟩) hS.2.2 dX5_many_160
  · refine lv_tableIn (tgt := 161) (off := 154) hx hb dX5_many_7 (by decide) (by decide) (by decide) (by decide) ?_
    refine lv_aload_n hx hb dX5_many_161 rfl (lv_at hl 0 rfl) ?_
    refine va_get (D := (dC, dI)) (ci := 7) (v := .ref w0) (C := RX5) (T := TX5) (N := 7) hx hb hts inX5_many_X5 hown hK hP 0 rfl rfl 1 (by decide) (hts _ mX5_many_fieldLink_RX5_19_PinBarrel_works_LPinBarrel_Works) (fun _ h9 => h9) rfl dX5_many_162 ?_
    refine va_get (D := (dC, dI)) (ci := 6) (v := .int (nI buz)) (C := RX4) (T := TX4) (N := 11) hx hb hts inX5_many_X4 hown hK hP 6 rfl rfl 8 (by decide) (hts _ mX5_many_fieldLink_RX5_254_PinBarrel_Works_buzzes_I) (fun _ h9 => h9) rfl dX5_many_165 ?_
    exact W.iret (v := nI buz) hx hb hr (fun t ht hW => ⟨⟨nI buz, (), rfl, rfl, trivial⟩, hS.F ht⟩) hS.2.2 dX5_many_168
  · refine lv_tableIn (tgt := 169) (off := 162) hx hb dX5_many_7 (by decide) (by decide) (by decide) (by decide) ?_
    refine lv_aload_n hx hb dX5_many_169 rfl (lv_at hl 0 rfl) ?_
    refine va_get (D := (dC, dI)) (ci := 7) (v := .ref w0) (C := RX5) (T := TX5) (N := 7) hx hb hts inX5_many_X5 hown hK hP 0 rfl rfl 1 (by decide) (hts _ mX5_many_fieldLink_RX5_19_PinBarrel_works_LPinBarrel_Works) (fun _ h9 => h9) rfl dX5_many_170 ?_
    refine va_get (D := (dC, dI)) (ci := 6) (v := .int (nI wor)) (C := RX4) (T := TX4) (N := 11) hx hb hts inX5_many_X4 hown hK hP 6 rfl rfl 9 (by decide) (hts _ mX5_many_fieldLink_RX5_257_PinBarrel_Works_wornOut_I) (fun _ h9 => h9) rfl dX5_many_173 ?_
    exact W.iret (v := nI wor) hx hb hr (fun t ht hW => ⟨⟨nI wor, (), rfl, rfl, trivial⟩, hS.F ht⟩) hS.2.2 dX5_many_176
  · refine lv_tableIn (tgt := 177) (off := 170) hx hb dX5_many_7 (by decide) (by decide) (by decide) (by decide) ?_
    refine lv_aload_n hx hb dX5_many_177 rfl (lv_at hl 0 rfl) ?_
    refine va_get (D := (dC, dI)) (ci := 7) (v := .int (nI kn)) (C := RX5) (T := TX5) (N := 7) hx hb hts inX5_many_X5 hown hK hP 0 rfl rfl 6 (by decide) (hts _ mX5_many_fieldLink_RX5_120_PinBarrel_knocks_I) (fun _ h9 => h9) rfl dX5_many_178 ?_
    exact W.iret (v := nI kn) hx hb hr (fun t ht hW => ⟨⟨nI kn, (), rfl, rfl, trivial⟩, hS.F ht⟩) hS.2.2 dX5_many_181
  · refine lv_tableOut (tgt := 182) hx hb dX5_many_7 (by decide) (by decide) ?_
    refine lv_aload_n hx hb dX5_many_182 rfl (lv_at hl 0 rfl) ?_
    refine va_get (D := (dC, dI)) (ci := 7) (v := .ref w0) (C := RX5) (T := TX5) (N := 7) hx hb hts inX5_many_X5 hown hK hP 0 rfl rfl 1 (by decide) (hts _ mX5_many_fieldLink_RX5_19_PinBarrel_works_LPinBarrel_Works) (fun _ h9 => h9) rfl dX5_many_183 ?_
    refine va_get (D := (dC, dI)) (ci := 6) (v := .double cks) (C := RX4) (T := TX4) (N := 11) hx hb hts inX5_many_X4 hown hK hP 6 rfl rfl 10 (by decide) (hts _ mX5_many_fieldLink_RX5_260_PinBarrel_Works_clock_D) (fun _ h9 => h9) rfl dX5_many_186 ?_
    refine lv_d2i hx hb dX5_many_189 ?_
    exact W.iret (v := FP.d2i cks) hx hb hr (fun t ht hW => ⟨⟨FP.d2i cks, (), rfl, rfl, trivial⟩, hS.F ht⟩) hS.2.2 dX5_many_190

theorem inX5_signOf_X5 : ∀ w ∈ wsX50, w ∈ wsX5_signOf := by decide +kernel
theorem mX5_signOf_fieldLink_RX5_27_PinBarrel_comb_LPinBarrel_Comb : Cond.fieldLink RX5 27 "PinBarrel" "comb" "LPinBarrel$Comb;" ∈ wsX5_signOf := List.mem_of_getElem? (i := 1) (by decide +kernel)
theorem inX5_signOf_X1 : ∀ w ∈ wsX10, w ∈ wsX5_signOf := by decide +kernel
theorem mX5_signOf_fieldLink_RX5_159_PinBarrel_Comb_broken_Z : Cond.fieldLink RX5 159 "PinBarrel$Comb" "broken" "[Z" ∈ wsX5_signOf := List.mem_of_getElem? (i := 2) (by decide +kernel)
theorem mX5_signOf_fieldLink_RX5_32_PinBarrel_barrel_LPinBarrel_Barrel : Cond.fieldLink RX5 32 "PinBarrel" "barrel" "LPinBarrel$Barrel;" ∈ wsX5_signOf := List.mem_of_getElem? (i := 3) (by decide +kernel)
theorem mX5_signOf_fieldLink_RX5_19_PinBarrel_works_LPinBarrel_Works : Cond.fieldLink RX5 19 "PinBarrel" "works" "LPinBarrel$Works;" ∈ wsX5_signOf := List.mem_of_getElem? (i := 4) (by decide +kernel)
theorem inX5_signOf_X4 : ∀ w ∈ wsX40, w ∈ wsX5_signOf := by decide +kernel
theorem mX5_signOf_fieldLink_RX5_112_PinBarrel_Works_shift_I : Cond.fieldLink RX5 112 "PinBarrel$Works" "shift" "I" ∈ wsX5_signOf := List.mem_of_getElem? (i := 5) (by decide +kernel)
set_option maxHeartbeats 4000000 in
set_option maxRecDepth 100000 in
theorem kX5_signOf (l : Launch) (dC : Nat → ClassId) (dI : Nat → Nat → Nat) (cyI cyZ cyJ cyD cyB : ClassId) (p0 g0 g2 h0 h1 w0 : Nat) (t0 : Nat) (s0 : Nat) (v0 : Nat) (kn : Nat) (g1 : Nat) (g3 : Nat) (g4 : Nat) (g5 : Nat) (cnt : Nat) (bro : Nat → Bool) (h2 : Nat) (plc : Nat → Int64) (wnd : Nat) (gov : Nat) (plo : Nat) (shf : Nat) (stp : Nat) (buz : Nat) (wor : Nat) (cks : UInt64) (tn : Nat) (pl : Nat) (ht : tn < 24) (hsh : shf < 3) (hpl : pl < 64) : Met l yX5_signOf wsX5_signOf ({ frames := 2, cells := 0, slots := 0, locals := 44 }) (va_Pc [.ref p0, .int (nI tn), .int (nI pl)] (xP (dC, dI) vwCl (xT cyI cyZ cyJ cyD cyB) [(p0, .inr (7, [.ref t0, .ref w0, .ref g0, .ref h0, .ref s0, .ref v0, .int (nI kn)])), (g0, .inr (3, [.ref g1, .ref g2, .ref g3, .ref g4, .ref g5, .int (nI cnt)])), (g2, .inl (cyZ, 24, .inl (fun k => xb (bro k)))), (h0, .inr (2, [.ref h1, .ref h2])), (h1, .inl (cyJ, 72, .inr (.inl plc))), (w0, .inr (6, [.ref g0, .ref h0, .ref s0, .int (nI wnd), .int (nI gov), .int (nI plo), .int (nI shf), .int (nI stp), .int (nI buz), .int (nI wor), .double cks]))])) (va_Qi (fun (r : Int32) (u : Unit) => r = nI (sgF bro plc shf tn pl)) (fun _ _ => True) (fun _ => False)) 0 0 (fun _ => False) := by
  refine Met.ofW (cc := cX5_signOf) (maxL := 3) (ret := (some .char)) (by decide) rfl ?_
  intro p e s m args below meth c s₁ B hml hv
  obtain ⟨rfl, hP, hK⟩ := hv
  have hx := B.exec
  have hb := B.bytes
  have hr := B.returns
  have hts := atoms_spec (ws := wsX5_signOf) B.pre
  have hown : s.vm.findClass RX5 = some m.cls := findClass_of_methodNamed B.named
  have hlocks := B.notSynchronized
  have hS : va_S (fun _ => False) s.heap s.heap [] := va_S.rf
  have hP : va_P (dC, dI) vwCl [(p0, .inr (7, [.ref t0, .ref w0, .ref g0, .ref h0, .ref s0, .ref v0, .int (nI kn)])), (g0, .inr (3, [.ref g1, .ref g2, .ref g3, .ref g4, .ref g5, .int (nI cnt)])), (g2, .inl (cyZ, 24, .inl (fun k => xb (bro k)))), (h0, .inr (2, [.ref h1, .ref h2])), (h1, .inl (cyJ, 72, .inr (.inl plc))), (w0, .inr (6, [.ref g0, .ref h0, .ref s0, .int (nI wnd), .int (nI gov), .int (nI plo), .int (nI shf), .int (nI stp), .int (nI buz), .int (nI wor), .double cks]))] s.heap := hP
  have hl := lv_entry ([.ref p0, .int (nI tn), .int (nI pl)]) (n := 3) (Nat.le_of_ble_eq_true rfl)
  rw [lg_entry_eq]
  generalize (lg_sl ([.ref p0, .int (nI tn), .int (nI pl)]) ++ List.replicate (3 - (lg_sl ([.ref p0, .int (nI tn), .int (nI pl)])).length) Slot.unset).toArray = ls at hl ⊢
  have hl : lv_has ls 3 [(0, .ref p0), (1, .int (nI tn)), (2, .int (nI pl))] := hl
  refine lv_aload_n hx hb dX5_signOf_0 rfl (lv_at hl 0 rfl) ?_
  refine va_get (D := (dC, dI)) (ci := 7) (v := .ref g0) (C := RX5) (T := TX5) (N := 7) hx hb hts inX5_signOf_X5 hown hK hP 0 rfl rfl 2 (by decide) (hts _ mX5_signOf_fieldLink_RX5_27_PinBarrel_comb_LPinBarrel_Comb) (fun _ h9 => h9) rfl dX5_signOf_1 ?_
  refine va_get (D := (dC, dI)) (ci := 3) (v := .ref g2) (C := RX1) (T := TX1) (N := 6) hx hb hts inX5_signOf_X1 hown hK hP 1 rfl rfl 1 (by decide) (hts _ mX5_signOf_fieldLink_RX5_159_PinBarrel_Comb_broken_Z) (fun _ h9 => h9) rfl dX5_signOf_4 ?_
  refine lv_iload_n hx hb dX5_signOf_7 rfl (lv_at hl 1 rfl) ?_
  refine xl_Z (f := bro) hx hb hK hP 2 1 rfl rfl (by omega) (by decide) dX5_signOf_8 ?_
  refine xb_eq (tgt := 15) hx hb dX5_signOf_9 (by decide) (fun c_1 => ?_) (fun c_1 => ?_)
  · refine lv_aload_n hx hb dX5_signOf_15 rfl (lv_at hl 0 rfl) ?_
    refine va_get (D := (dC, dI)) (ci := 7) (v := .ref h0) (C := RX5) (T := TX5) (N := 7) hx hb hts inX5_signOf_X5 hown hK hP 0 rfl rfl 3 (by decide) (hts _ mX5_signOf_fieldLink_RX5_32_PinBarrel_barrel_LPinBarrel_Barrel) (fun _ h9 => h9) rfl dX5_signOf_16 ?_
    refine lv_iload_n hx hb dX5_signOf_19 rfl (lv_at hl 1 rfl) ?_
    refine lv_aload_n hx hb dX5_signOf_20 rfl (lv_at hl 0 rfl) ?_
    refine va_get (D := (dC, dI)) (ci := 7) (v := .ref w0) (C := RX5) (T := TX5) (N := 7) hx hb hts inX5_signOf_X5 hown hK hP 0 rfl rfl 1 (by decide) (hts _ mX5_signOf_fieldLink_RX5_19_PinBarrel_works_LPinBarrel_Works) (fun _ h9 => h9) rfl dX5_signOf_21 ?_
    refine va_get (D := (dC, dI)) (ci := 6) (v := .int (nI shf)) (C := RX4) (T := TX4) (N := 11) hx hb hts inX5_signOf_X4 hown hK hP 5 rfl rfl 6 (by decide) (hts _ mX5_signOf_fieldLink_RX5_112_PinBarrel_Works_shift_I) (fun _ h9 => h9) rfl dX5_signOf_24 ?_
    refine lv_iload_n hx hb dX5_signOf_27 rfl (lv_at hl 2 rfl) ?_
    refine xv_i (As := [.int (nI tn), .int (nI shf), .int (nI pl)]) (rest := []) (q := (RX0, TX0, 2)) ⟨hx, hb, hml, hown, hts⟩ (kX0_hasPin l dC dI cyI cyZ cyJ cyD cyB h0 h1 h2 plc tn shf pl (by omega) (by omega) (by omega)) (cwV 3 hts gX5_signOf_X0_hasPin rfl rfl rfl (by decide +kernel) ⟨Nat.le_of_ble_eq_true rfl, Nat.le_of_ble_eq_true rfl⟩) hK hP hS [3, 4] rfl 3 2 rfl rfl rfl hl.1 rfl (Nat.le_of_ble_eq_true rfl) dX5_signOf_28 ⟨Nat.zero_le _, Nat.zero_le _⟩ (fun r_2 H locs hw hP hS => ?_)
    have hw : r_2 = xb (bitL (plc (shf * 24 + tn)) pl) := hw
    subst hw
    refine xb_eq (tgt := 39) hx hb dX5_signOf_31 (by decide) (fun c_3 => ?_) (fun c_3 => ?_)
    · refine lv_bipush (v := nI 46) hx hb dX5_signOf_39 (by decide) ?_
      exact W.zret (v := nI 46) (ty := .char) hx hb hr rfl (fun t ht hW => ⟨⟨nI 46, (), rfl, (by unfold sgF; rw [c_1, c_3]; rfl), trivial⟩, hS.F ht⟩) hS.2.2 dX5_signOf_41
    · refine lv_bipush (v := nI 124) hx hb dX5_signOf_34 (by decide) ?_
      refine lv_goto (tgt := 41) hx hb dX5_signOf_36 (by decide) ?_
      exact W.zret (v := nI 124) (ty := .char) hx hb hr rfl (fun t ht hW => ⟨⟨nI 124, (), rfl, (by unfold sgF; rw [c_1, c_3]; rfl), trivial⟩, hS.F ht⟩) hS.2.2 dX5_signOf_41
  · refine lv_bipush (v := nI 120) hx hb dX5_signOf_12 (by decide) ?_
    exact W.zret (v := nI 120) (ty := .char) hx hb hr rfl (fun t ht hW => ⟨⟨nI 120, (), rfl, (by unfold sgF; rw [c_1]; rfl), trivial⟩, hS.F ht⟩) hS.2.2 dX5_signOf_14
