set_option maxHeartbeats 4000000 in
set_option maxRecDepth 100000 in
theorem kJ13_rotateLeft_b2ac5 (l : Launch) (xx : Int64) (kk9 : Nat) : Met l yJ13_rotateLeft_b2ac5 wsJ13_rotateLeft_b2ac5 ({ frames := 0, cells := 0, slots := 0, locals := 0 }) (va_Pc [.long xx, .int (nI kk9)] (fun _ => True)) (va_Ql (fun (r : Int64) (u : Unit) => r = (xx <<< ((nI kk9).toInt64 &&& 63)) ||| ((xx.toUInt64 >>> ((-nI kk9).toInt64.toUInt64 &&& Int64.toUInt64 63)).toInt64)) (fun _ _ => True) (fun _ => False)) 0 0 (fun _ => False) := by
  refine Met.ofW (cc := cJ13_rotateLeft_b2ac5) (maxL := 3) (ret := (some .long)) (by decide) rfl ?_
  intro p e s m args below meth c s₁ B hml hv
  obtain ⟨rfl, -⟩ := hv
  have hx := B.exec
  have hb := B.bytes
  have hr := B.returns
  have hts := atoms_spec (ws := wsJ13_rotateLeft_b2ac5) B.pre
  have hown : s.vm.findClass RJ13 = some m.cls := findClass_of_methodNamed B.named
  have hlocks := B.notSynchronized
  have hS : va_S (fun _ => False) s.heap s.heap [] := va_S.rf
  have hl := lv_entry ([.long xx, .int (nI kk9)]) (n := 3) (Nat.le_of_ble_eq_true rfl)
  rw [lg_entry_eq]
  generalize (lg_sl ([.long xx, .int (nI kk9)]) ++ List.replicate (3 - (lg_sl ([.long xx, .int (nI kk9)])).length) Slot.unset).toArray = ls at hl ⊢
  have hl : lv_has ls 3 [(0, .long xx), (2, .int (nI kk9))] := hl
  refine lv_lload_n hx hb dJ13_rotateLeft_b2ac5_0 rfl (lv_at hl 0 rfl) ?_
  refine lv_iload_n hx hb dJ13_rotateLeft_b2ac5_1 rfl (lv_at hl 1 rfl) ?_
  refine lv_lshl (v := xx <<< ((nI kk9).toInt64 &&& 63)) hx hb dJ13_rotateLeft_b2ac5_2 rfl ?_
  refine lv_lload_n hx hb dJ13_rotateLeft_b2ac5_3 rfl (lv_at hl 0 rfl) ?_
  refine lv_iload_n hx hb dJ13_rotateLeft_b2ac5_4 rfl (lv_at hl 1 rfl) ?_
  refine lv_ineg hx hb dJ13_rotateLeft_b2ac5_5 ?_
  refine lv_lushr (v := (xx.toUInt64 >>> ((-(nI kk9)).toInt64.toUInt64 &&& Int64.toUInt64 63)).toInt64) hx hb dJ13_rotateLeft_b2ac5_6 rfl ?_
  refine lv_lor hx hb dJ13_rotateLeft_b2ac5_7 ?_
  exact W.lret (v := (xx <<< ((nI kk9).toInt64 &&& 63)) ||| ((xx.toUInt64 >>> ((-(nI kk9)).toInt64.toUInt64 &&& Int64.toUInt64 63)).toInt64)) hx hb hr (fun t ht hW => ⟨⟨(xx <<< ((nI kk9).toInt64 &&& 63)) ||| ((xx.toUInt64 >>> ((-(nI kk9)).toInt64.toUInt64 &&& Int64.toUInt64 63)).toInt64), (), rfl, rfl, trivial⟩, hS.F ht⟩) hS.2.2 dJ13_rotateLeft_b2ac5_8

theorem mL_below_constant_RL_7_2147483647 : Cond.constant RL 7 (2147483647) ∈ wsL_below := List.mem_of_getElem? (i := 1) (by decide +kernel)
set_option maxHeartbeats 4000000 in
set_option maxRecDepth 100000 in
theorem kL_below (l : Launch) (vv : Int32) (nn : Nat) (hnn : 0 < nn ∧ nn < 2 ^ 31) : Met l yL_below wsL_below ({ frames := 0, cells := 0, slots := 0, locals := 0 }) (va_Pc [.int vv, .int (nI nn)] (fun _ => True)) (va_Qi (fun (r : Int32) (u : Unit) => r = nI (blF vv nn)) (fun _ _ => True) (fun _ => False)) 0 0 (fun _ => False) := by
  refine Met.ofW (cc := cL_below) (maxL := 2) (ret := (some .int)) (by decide) rfl ?_
  intro p e s m args below meth c s₁ B hml hv
  obtain ⟨rfl, -⟩ := hv
  have hx := B.exec
  have hb := B.bytes
  have hr := B.returns
  have hts := atoms_spec (ws := wsL_below) B.pre
  have hown : s.vm.findClass RL = some m.cls := findClass_of_methodNamed B.named
  have hlocks := B.notSynchronized
  have hS : va_S (fun _ => False) s.heap s.heap [] := va_S.rf
  have hl := lv_entry ([.int vv, .int (nI nn)]) (n := 2) (Nat.le_of_ble_eq_true rfl)
  rw [lg_entry_eq]
  generalize (lg_sl ([.int vv, .int (nI nn)]) ++ List.replicate (2 - (lg_sl ([.int vv, .int (nI nn)])).length) Slot.unset).toArray = ls at hl ⊢
  have hl : lv_has ls 2 [(0, .int vv), (1, .int (nI nn))] := hl
  refine lv_iload_n hx hb dL_below_0 rfl (lv_at hl 0 rfl) ?_
  refine lv_ldc (v := (2147483647)) hx hb hown (hts _ mL_below_constant_RL_7_2147483647) dL_below_1 ?_
  refine lv_iand hx hb dL_below_3 ?_
  rw [pk_and vv 31 (by decide)]
  have hm9 : vv.toBitVec.toNat % 2 ^ 31 < 2 ^ 31 := Nat.mod_lt _ (by decide)
  refine lv_iload_n hx hb dL_below_4 rfl (lv_at hl 1 rfl) ?_
  refine xi_rem hx hb dL_below_5 (by omega) (by omega) (by omega) ?_
  exact W.iret (v := nI ((vv.toBitVec.toNat % 2 ^ 31) % nn)) hx hb hr (fun t ht hW => ⟨⟨nI ((vv.toBitVec.toNat % 2 ^ 31) % nn), (), rfl, rfl, trivial⟩, hS.F ht⟩) hS.2.2 dL_below_6

theorem mL_cell_constant_RL_8_790386105 : Cond.constant RL 8 (790386105) ∈ wsL_cell := List.mem_of_getElem? (i := 1) (by decide +kernel)
set_option maxHeartbeats 4000000 in
set_option maxRecDepth 100000 in
/-- a cell of the script, or a number in its place -/
theorem kL_cell (l : Launch) (b : Nat) (L : Nat) (xs : Nat → Int32) (kk : Nat) (hkk : kk < 2 ^ 31) (hL : L < 2 ^ 31) : Met l yL_cell wsL_cell ({ frames := 0, cells := 0, slots := 0, locals := 0 }) (va_Pc [.ref b, .int (nI kk)] (fun U => va_X b L xs U U.heap)) (va_Qi (fun (r : Int32) (u : Unit) => True) (fun _ _ => True) (fun _ => False)) 0 0 (fun _ => False) := by
  refine Met.ofW (cc := cL_cell) (maxL := 2) (ret := (some .int)) (by decide) rfl ?_
  intro p e s m args below meth c s₁ B hml hv
  obtain ⟨rfl, hX⟩ := hv
  have hx := B.exec
  have hb := B.bytes
  have hr := B.returns
  have hts := atoms_spec (ws := wsL_cell) B.pre
  have hown : s.vm.findClass RL = some m.cls := findClass_of_methodNamed B.named
  have hlocks := B.notSynchronized
  have hS : va_S (fun _ => False) s.heap s.heap [] := va_S.rf
  have hl := lv_entry ([.ref b, .int (nI kk)]) (n := 2) (Nat.le_of_ble_eq_true rfl)
  rw [lg_entry_eq]
  generalize (lg_sl ([.ref b, .int (nI kk)]) ++ List.replicate (2 - (lg_sl ([.ref b, .int (nI kk)])).length) Slot.unset).toArray = ls at hl ⊢
  have hl : lv_has ls 2 [(0, .ref b), (1, .int (nI kk))] := hl
  have hbl : b < s.heap.size := by obtain ⟨_, h1, _⟩ := hX; exact (Array.getElem?_eq_some_iff.mp h1).1
  have hbA : ¬ (fun _ : Nat => False) b := fun h => h
  refine lv_iload_n hx hb dL_cell_0 rfl (lv_at hl 1 rfl) ?_
  refine lv_aload_n hx hb dL_cell_1 rfl (lv_at hl 0 rfl) ?_
  refine va_slen hx hb hX hbl hbA hS dL_cell_2 ?_
  show W p l e _ s m _ below meth c _ _ 0 0 _ (F0 m 3 ls [.int (nI L), .int (nI kk)])
  refine xc_ge (tgt := 12) hx hb dL_cell_3 (by decide) (by omega) (by omega) (fun c_1 => ?_) (fun c_1 => ?_)
  · refine lv_ldc (v := (790386105)) hx hb hown (hts _ mL_cell_constant_RL_8_790386105) dL_cell_12 ?_
    refine lv_iload_n hx hb dL_cell_14 rfl (lv_at hl 1 rfl) ?_
    refine lv_iconst (v := nI 3) hx hb dL_cell_15 (by decide) ?_
    refine xi_add hx hb dL_cell_16 ?_
    refine lv_imul hx hb dL_cell_17 ?_
    exact W.iret (v := (790386105) * (nI (kk + 3))) hx hb hr (fun t ht hW => ⟨⟨(790386105) * (nI (kk + 3)), (), rfl, trivial, trivial⟩, hS.F ht⟩) hS.2.2 dL_cell_18
  · refine lv_aload_n hx hb dL_cell_6 rfl (lv_at hl 0 rfl) ?_
    refine lv_iload_n hx hb dL_cell_7 rfl (lv_at hl 1 rfl) ?_
    refine va_sld hx hb hX hbl hbA hS (vp_in_nI (by omega) (by omega)) dL_cell_8 ?_
    refine lv_goto (tgt := 18) hx hb dL_cell_9 (by decide) ?_
    exact W.iret (v := xs (nI kk).toNatClampNeg) hx hb hr (fun t ht hW => ⟨⟨xs (nI kk).toNatClampNeg, (), rfl, trivial, trivial⟩, hS.F ht⟩) hS.2.2 dL_cell_18

set_option maxHeartbeats 4000000 in
set_option maxRecDepth 100000 in
theorem kL_plucks (l : Launch) (dC : Nat → ClassId) (dI : Nat → Nat → Nat) (cyI cyZ cyJ cyD cyB : ClassId) (p0 g0 g1 g2 g3 g4 h0 h1 : Nat) (t0 : Nat) (w0 : Nat) (s0 : Nat) (v0 : Nat) (kn : Nat) (g5 : Nat) (cnt : Nat) (pit : Nat → Nat) (bro : Nat → Bool) (scr : Nat → Nat) (plu : Nat → Nat) (h2 : Nat) (plc : Nat → Int64) (hcn : cnt ≤ 24) : Met l yL_plucks wsL_plucks ({ frames := 4, cells := 0, slots := 0, locals := 88 }) (va_Pc [.ref p0, .int (nI cnt)] (xP (dC, dI) vwCl (xT cyI cyZ cyJ cyD cyB) [(p0, .inr (7, [.ref t0, .ref w0, .ref g0, .ref h0, .ref s0, .ref v0, .int (nI kn)])), (g0, .inr (3, [.ref g1, .ref g2, .ref g3, .ref g4, .ref g5, .int (nI cnt)])), (g1, .inl (cyI, 24, .inl (fun k => nI (pit k)))), (g2, .inl (cyZ, 24, .inl (fun k => xb (bro k)))), (g3, .inl (cyI, 24, .inl (fun k => nI (scr k)))), (g4, .inl (cyI, 24, .inl (fun k => nI (plu k)))), (h0, .inr (2, [.ref h1, .ref h2])), (h1, .inl (cyJ, 72, .inr (.inl plc)))])) (va_Qi (fun (r : Int32) (u : Unit) => r = nI (suF plu cnt)) (fun _ _ => True) (fun _ => False)) 0 0 (fun _ => False) := by
  refine Met.ofW (cc := cL_plucks) (maxL := 4) (ret := (some .int)) (by decide) rfl ?_
  intro p e s m args below meth c s₁ B hml hv
  obtain ⟨rfl, hP, hK⟩ := hv
  have hx := B.exec
  have hb := B.bytes
  have hr := B.returns
  have hts := atoms_spec (ws := wsL_plucks) B.pre
  have hown : s.vm.findClass RL = some m.cls := findClass_of_methodNamed B.named
  have hlocks := B.notSynchronized
  have hS : va_S (fun _ => False) s.heap s.heap [] := va_S.rf
  have hP : va_P (dC, dI) vwCl [(p0, .inr (7, [.ref t0, .ref w0, .ref g0, .ref h0, .ref s0, .ref v0, .int (nI kn)])), (g0, .inr (3, [.ref g1, .ref g2, .ref g3, .ref g4, .ref g5, .int (nI cnt)])), (g1, .inl (cyI, 24, .inl (fun k => nI (pit k)))), (g2, .inl (cyZ, 24, .inl (fun k => xb (bro k)))), (g3, .inl (cyI, 24, .inl (fun k => nI (scr k)))), (g4, .inl (cyI, 24, .inl (fun k => nI (plu k)))), (h0, .inr (2, [.ref h1, .ref h2])), (h1, .inl (cyJ, 72, .inr (.inl plc)))] s.heap := hP
  have hl := lv_entry ([.ref p0, .int (nI cnt)]) (n := 4) (Nat.le_of_ble_eq_true rfl)
  rw [lg_entry_eq]
  generalize (lg_sl ([.ref p0, .int (nI cnt)]) ++ List.replicate (4 - (lg_sl ([.ref p0, .int (nI cnt)])).length) Slot.unset).toArray = ls at hl ⊢
  have hl : lv_has ls 4 [(0, .ref p0), (1, .int (nI cnt))] := hl
  refine lv_iconst (v := nI 0) hx hb dL_plucks_0 (by decide) ?_
  refine lv_istore_n (lv' := [(2, .int (nI 0)), (0, .ref p0), (1, .int (nI cnt))]) hx hb dL_plucks_1 rfl hl (by decide) rfl (fun ls hl => ?_)
  refine lv_iconst (v := nI 0) hx hb dL_plucks_2 (by decide) ?_
  refine lv_istore_n (lv' := [(3, .int (nI 0)), (2, .int (nI 0)), (0, .ref p0), (1, .int (nI cnt))]) hx hb dL_plucks_3 rfl hl (by decide) rfl (fun ls hl => ?_)
  have ze0 : suF plu 0 = 0 := rfl
  refine (?_ : ∀ (n_1 i_2 : Nat), i_2 + n_1 = cnt → ∀ (H : Heap) (locs : List Loc) (hP : va_P (dC, dI) vwCl [(p0, .inr (7, [.ref t0, .ref w0, .ref g0, .ref h0, .ref s0, .ref v0, .int (nI kn)])), (g0, .inr (3, [.ref g1, .ref g2, .ref g3, .ref g4, .ref g5, .int (nI cnt)])), (g1, .inl (cyI, 24, .inl (fun k => nI (pit k)))), (g2, .inl (cyZ, 24, .inl (fun k => xb (bro k)))), (g3, .inl (cyI, 24, .inl (fun k => nI (scr k)))), (g4, .inl (cyI, 24, .inl (fun k => nI (plu k)))), (h0, .inr (2, [.ref h1, .ref h2])), (h1, .inl (cyJ, 72, .inr (.inl plc)))] H) (hS : va_S (fun _ => False) s.heap H locs) (ls : Array Slot) (hl : lv_has ls 4 [(3, .int (nI i_2)), (2, .int (nI (suF plu i_2))), (0, .ref p0), (1, .int (nI cnt))]), W p l e _ s m _ below meth c H locs 0 0 _ (F0 m 4 ls [])) (cnt - 0) 0 (by omega) _ _ (by first | exact hP | (simp only [ze0]; exact hP)) hS _ (by first | exact (lv_sub hl [0, 1, 2, 3] rfl) | (simp only [ze0]; exact (lv_sub hl [0, 1, 2, 3] rfl)))
  clear hl hP hS
  intro n_1
  induction n_1 with
  | zero =>
    intro i_2 hi_3 H locs hP hS ls hl
    refine lv_iload_n hx hb dL_plucks_4 rfl (lv_at hl 0 rfl) ?_
    refine lv_iload_n hx hb dL_plucks_5 rfl (lv_at hl 3 rfl) ?_
    refine xc_ge (tgt := 24) hx hb dL_plucks_6 (by decide) (by omega) (by omega) (fun c_6 => ?_) (fun c_6 => by omega)
    refine lv_iload_n hx hb dL_plucks_24 rfl (lv_at hl 1 rfl) ?_
    exact W.iret (v := nI (suF plu i_2)) hx hb hr (fun t ht hW => ⟨⟨nI (suF plu i_2), (), rfl, (by rw [show i_2 = cnt from by omega]), trivial⟩, hS.F ht⟩) hS.2.2 dL_plucks_25
  | succ n_1 ih_4 =>
    intro i_2 hi_3 H locs hP hS ls hl
    refine lv_iload_n hx hb dL_plucks_4 rfl (lv_at hl 0 rfl) ?_
    refine lv_iload_n hx hb dL_plucks_5 rfl (lv_at hl 3 rfl) ?_
    refine xc_ge (tgt := 24) hx hb dL_plucks_6 (by decide) (by omega) (by omega) (fun c_7 => by omega) (fun c_7 => ?_)
    refine lv_iload_n hx hb dL_plucks_9 rfl (lv_at hl 1 rfl) ?_
    refine lv_aload_n hx hb dL_plucks_10 rfl (lv_at hl 2 rfl) ?_
    refine lv_iload_n hx hb dL_plucks_11 rfl (lv_at hl 0 rfl) ?_
    refine lv_iconst (v := nI 3) hx hb dL_plucks_12 (by decide) ?_
    refine xv_i (As := [.int (nI i_2), .int (nI 3)]) (rest := [.int (nI (suF plu i_2))]) (q := (RX5, TX5, 7)) ⟨hx, hb, hml, hown, hts⟩ (kX5_ofTooth l dC dI cyI cyZ cyJ cyD cyB p0 g0 g1 g2 g3 g4 h0 h1 t0 w0 s0 v0 kn g5 cnt pit bro scr plu h2 plc i_2 3 (by omega) (by omega) (by omega)) (cwV 2 hts gL_plucks_X5_ofTooth rfl rfl rfl (by decide +kernel) ⟨Nat.le_of_ble_eq_true rfl, Nat.le_of_ble_eq_true rfl⟩) hK hP hS [0, 1, 2, 3, 4, 5, 6, 7] rfl 0 7 rfl rfl rfl hl.1 rfl (Nat.le_of_ble_eq_true rfl) dL_plucks_13 ⟨Nat.zero_le _, Nat.zero_le _⟩ (fun r_8 H locs hw hP hS => ?_)
    have hw : r_8 = nI (otF pit bro scr plu plc i_2 3) := hw
    subst hw
    rw [show otF pit bro scr plu plc i_2 3 = plu i_2 from rfl]
    refine xi_add hx hb dL_plucks_16 ?_
    refine lv_istore_n (lv' := [(2, .int (nI ((suF plu i_2) + (plu i_2)))), (3, .int (nI i_2)), (0, .ref p0), (1, .int (nI cnt))]) hx hb dL_plucks_17 rfl hl (by decide) rfl (fun ls hl => ?_)
    refine xi_inc (k := 1) (lv' := [(3, .int (nI (i_2 + 1))), (2, .int (nI ((suF plu i_2) + (plu i_2)))), (0, .ref p0), (1, .int (nI cnt))]) hx hb dL_plucks_18 hl rfl (by decide) rfl (fun ls hl => ?_)
    refine lv_goto (tgt := 4) hx hb dL_plucks_21 (by decide) ?_
    exact ih_4 (i_2 + 1) (by omega)  _ _ hP hS _ (lv_sub hl [0, 1, 2, 3] rfl)
