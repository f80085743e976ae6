section XJ
variable {p : Program} {l : Launch} {e : Env} {R : Room} {s : State} {m : MethodId} {args : Array Value} {below : List Frame} {meth : Method} {c : Code} {H : Heap} {locs : List Loc} {cells slots : Nat} {Q : State → Prop}
variable {cc : ByteArray} {pc : Nat} {ls : Array Slot} {rest st : List Value} {D : va_G} {cl : List vw_C} {A : Nat → Prop} {a : Nat} {tys : List (ClassId × FieldType)} {ws wc : va_W} {H0 : Heap} {av : Array Value} {mc ms : Nat}
/-- the two statics that the text methods look at -/
def xCZ (A : Nat → Prop) (U : State) (H : Heap) : Prop := va_Z "java/lang/String" "COMPACT_STRINGS" "Z" (.int (nI 1)) A U H ∧ va_Zq "jdk/internal/util/Preconditions" "SIOOBE_FORMATTER" "Ljava/util/function/BiFunction;" A U H
def xY (A : Nat → Prop) (B : State → Prop) (U : State) : Prop := B U ∧ xCZ A U U.heap
theorem xY_blind {av : List Value} {A : Nat → Prop} {B : State → Prop} (hB : FrameBlind (va_Pc av B)) : FrameBlind (va_Pc av (xY A B)) := fun a U g mk q => ⟨q.1, (hB a U g mk ⟨q.1, q.2.1⟩).2, va_Z.moved (u := U) (U := U.calling g mk a) (Vm.Alike.refl U.vm) q.2.2.1, va_Zq.moved (u := U) (U := U.calling g mk a) (Vm.Alike.refl U.vm) q.2.2.2⟩
theorem xZ_nar {C n d : String} {v : Value} {A1 : Nat → Prop} {U : State} (h : va_Z C n d v A U H) (hA : ∀ q, q < H.size → A1 q → A q) : va_Z C n d v A1 U H := by
  obtain ⟨cf, kf, fi, f, a, cell, h1, h2, h3, h4, h5, h6, h7, h8⟩ := h
  exact ⟨cf, kf, fi, f, a, cell, h1, h2, h3, h4, h5, h6, h7, fun z => h8 (hA a (Array.getElem?_eq_some_iff.mp h5).1 z)⟩
theorem xZq_nar {C n d : String} {A1 : Nat → Prop} {U : State} (h : va_Zq C n d A U H) (hA : ∀ q, q < H.size → A1 q → A q) : va_Zq C n d A1 U H := by
  rcases h with h | ⟨t, h⟩
  · exact Or.inl (xZ_nar h hA)
  · exact Or.inr ⟨t, xZ_nar h hA⟩
theorem xY_go {A1 : Nat → Prop} {U : State} (hZ : xCZ A s s.heap) (hS : va_S A s.heap H locs) (hU : U.heap = H) (hW : s.WarmedH U.vm) (hA : ∀ q, q < H.size → A1 q → A q) : xCZ A1 U U.heap := by
  rw [hU]
  exact ⟨xZ_nar ((hZ.1.kept (fun a h1 h2 => hS.2.1 a h1 h2)).moved hW.alike) hA, xZq_nar ((hZ.2.kept (fun a h1 h2 => hS.2.1 a h1 h2)).moved hW.alike) hA⟩
theorem xCZ_sub {A1 : Nat → Prop} (hZ : xCZ A s H) (hA : ∀ q, q < H.size → A1 q → A q) : xCZ A1 s H := ⟨xZ_nar hZ.1 hA, xZq_nar hZ.2 hA⟩
theorem xrP_i {post : Int32 → Unit → Prop} (hr : va_Run p l e R s m args below meth c H locs cells slots 0 0 (F0 m pc ls st) rest (va_Qi post (fun _ _ => True) (fun _ => False) av) (fun _ => False)) (hP : va_P D cl ws H) (hS : va_S A H0 H locs) (kk : ∀ (r : Int32) (H1 : Heap) (locs1 : List Loc), post r () → va_P D cl ws H1 → va_S A H0 H1 locs1 → W p l e R s m args below meth c H1 locs1 cells slots Q (F0 m (pc + 3) ls (.int r :: rest))) : W p l e R s m args below meth c H locs cells slots Q (F0 m pc ls (st)) := va_calli hr hS (fun q _ h => h.elim) (fun q h => h.elim) (fun r u t H1 locs1 ht hvm hw hB hz hk hS1 => kk r H1 locs1 hw (hP.kept (fun k x hx => hk x.1 ((hP k x hx).lt) (fun h => h))) hS1)
theorem xrP_v {post : Unit → Prop} (hr : va_Run p l e R s m args below meth c H locs cells slots 0 0 (F0 m pc ls st) rest (va_Qv post (fun _ _ => True) (fun _ => False) av) (fun _ => False)) (hP : va_P D cl ws H) (hS : va_S A H0 H locs) (kk : ∀ (H1 : Heap) (locs1 : List Loc), post () → va_P D cl ws H1 → va_S A H0 H1 locs1 → W p l e R s m args below meth c H1 locs1 cells slots Q (F0 m (pc + 3) ls (rest))) : W p l e R s m args below meth c H locs cells slots Q (F0 m pc ls (st)) := va_callv hr hS (fun q _ h => h.elim) (fun q h => h.elim) (fun u t H1 locs1 ht hvm hw hB hz hk hS1 => kk H1 locs1 hw (hP.kept (fun k x hx => hk x.1 ((hP k x hx).lt) (fun h => h))) hS1)
theorem xrP_r {ra : Nat} (hr : va_Run p l e R s m args below meth c H locs cells slots 0 0 (F0 m pc ls st) rest (va_Qr (fun (_ : Unit) => True) (fun _ a _ => a = ra) (fun _ => False) av) (fun _ => False)) (hP : va_P D cl ws H) (hS : va_S A H0 H locs) (kk : ∀ (H1 : Heap) (locs1 : List Loc), va_P D cl ws H1 → va_S A H0 H1 locs1 → W p l e R s m args below meth c H1 locs1 cells slots Q (F0 m (pc + 3) ls (.ref ra :: rest))) : W p l e R s m args below meth c H locs cells slots Q (F0 m pc ls (st)) := va_callr hr hS (fun q _ h => h.elim) (fun q h => h.elim) (fun u r t H1 locs1 ht hvm hw hB hz hk hS1 => by have hB : r = ra := hB; subst hB; exact kk H1 locs1 (hP.kept (fun k x hx => hk x.1 ((hP k x hx).lt) (fun h => h))) hS1)
theorem xrM_r {ra : Nat} {w1 : va_W} (hr : va_Run p l e R s m args below meth c H locs cells slots 0 0 (F0 m pc ls st) rest (va_Qr (fun (_ : Unit) => True) (fun _ a t => a = ra ∧ va_P D cl w1 t.heap ∧ va_D (xA wc) w1) (xA wc) av) (xA wc)) (hD : va_D A ws) (hS : va_S A H0 H locs) (isC : List Nat) (hC : isC.map (fun i => ws[i]?) = wc.map some) (kk : ∀ (H1 : Heap) (locs1 : List Loc), va_P D cl w1 H1 → va_D (xA wc) w1 → (∀ q : Nat, q < H.size → ¬ xA wc q → H1[q]? = H[q]?) → va_S A H0 H1 locs1 → W p l e R s m args below meth c H1 locs1 cells slots Q (F0 m (pc + 3) ls (.ref ra :: rest))) : W p l e R s m args below meth c H locs cells slots Q (F0 m pc ls (st)) := va_callr hr hS (fun q _ h => xA_in hD isC hC q h) (xA_in hD isC hC) (fun u r t H1 locs1 ht hvm hw hB hz hk hS1 => by obtain ⟨hr1, hB1, hB2⟩ := hB; subst hr1; exact kk H1 locs1 (ht ▸ hB1) hB2 hk hS1)
theorem xrN_v {U : Type} {post : U → Prop} {w1 : U → va_W} (hr : va_Run p l e R s m args below meth c H locs cells slots mc ms (F0 m pc ls st) rest (va_Qv post (fun u t => va_P D cl (w1 u) t.heap ∧ va_D (va_A wc H.size) (w1 u)) (va_A wc H.size) av) (va_A wc H.size)) (hD : va_D A ws) (hS : va_S A H0 H locs) (hA : ∀ q, H0.size ≤ q → A q) (isC : List Nat) (hC : isC.map (fun i => ws[i]?) = wc.map some) (kk : ∀ (u : U) (H1 : Heap) (locs1 : List Loc), va_P D cl (w1 u) H1 → va_D (va_A wc H.size) (w1 u) → (∀ q : Nat, q < H.size → ¬ va_A wc H.size q → H1[q]? = H[q]?) → va_S A H0 H1 locs1 → W p l e R s m args below meth c H1 locs1 (cells + mc) (slots + ms) Q (F0 m (pc + 3) ls (rest))) : W p l e R s m args below meth c H locs cells slots Q (F0 m pc ls (st)) := va_callv hr hS (fun q _ h => va_free hD hS hA isC hC q h) (va_free hD hS hA isC hC) (fun u t H1 locs1 ht hvm hw hB hz hk hS1 => kk u H1 locs1 (ht ▸ hB.1) hB.2 hk hS1)
theorem xrN_r {U : Type} {post : U → Prop} {w1 : U → Nat → va_W} (hr : va_Run p l e R s m args below meth c H locs cells slots mc ms (F0 m pc ls st) rest (va_Qr post (fun u a t => va_P D cl (w1 u a) t.heap ∧ va_D (va_A wc H.size) (w1 u a)) (va_A wc H.size) av) (va_A wc H.size)) (hD : va_D A ws) (hS : va_S A H0 H locs) (hA : ∀ q, H0.size ≤ q → A q) (isC : List Nat) (hC : isC.map (fun i => ws[i]?) = wc.map some) (kk : ∀ (u : U) (ra : Nat) (H1 : Heap) (locs1 : List Loc), va_P D cl (w1 u ra) H1 → va_D (va_A wc H.size) (w1 u ra) → (∀ q : Nat, q < H.size → ¬ va_A wc H.size q → H1[q]? = H[q]?) → va_S A H0 H1 locs1 → W p l e R s m args below meth c H1 locs1 (cells + mc) (slots + ms) Q (F0 m (pc + 3) ls (.ref ra :: rest))) : W p l e R s m args below meth c H locs cells slots Q (F0 m pc ls (st)) := va_callr hr hS (fun q _ h => va_free hD hS hA isC hC q h) (va_free hD hS hA isC hC) (fun u r t H1 locs1 ht hvm hw hB hz hk hS1 => kk u r H1 locs1 (ht ▸ hB.1) hB.2 hk hS1)
theorem xj_le {a b : Nat} (h : a ≤ b) (hb : b < 2 ^ 30) : nI a - nI b ≤ 0 := by rw [Int32.le_iff_toInt_le, pk_sub_toInt (by omega) hb, Int32.toInt_zero]; omega
/-- the bytes of a text that is being written: the first k letters of g -/
def txF (g : Nat → Nat) (k : Nat) : Nat → Int32 := fun j => if j < k then sb_b (g j) else 0
theorem txF_0 (g : Nat → Nat) : txF g 0 = fun _ => 0 := by funext j; unfold txF; rw [if_neg (by omega)]
theorem txF_s (g : Nat → Nat) (k : Nat) : upd (txF g k) k (sb_b (g k)) = txF g (k + 1) := by
  funext j; unfold txF upd
  by_cases h : j = k
  · subst h; rw [if_pos rfl, if_pos (by omega)]
  · rw [if_neg h]; show (if j < k then sb_b (g j) else 0) = _; by_cases h2 : j < k
    · rw [if_pos h2, if_pos (by omega)]
    · rw [if_neg h2, if_neg (by omega)]
theorem txF_fit (g : Nat → Nat) (k : Nat) : sb_Fit (txF g k) := fun j => by
  unfold txF; split
  · exact sb_fitB _
  · exact sb_fit0 j
theorem txF_cpy (g : Nat → Nat) (k : Nat) : va_cpy (txF g k) (fun _ => 0) 0 0 k = txF g k := by
  funext j; unfold va_cpy txF
  by_cases h : j < k
  · rw [if_pos ⟨by omega, by omega⟩, Nat.sub_zero, Nat.zero_add]
  · rw [if_neg (by omega), if_neg h]
end XJ

theorem inJ5_length_8abf5_J4 : ∀ w ∈ wsJ40, w ∈ wsJ5_length_8abf5 := by decide +kernel
theorem mJ5_length_8abf5_fieldLink_RJ5_79_java_lang_AbstractStringBuilder_count_I : Cond.fieldLink RJ5 79 "java/lang/AbstractStringBuilder" "count" "I" ∈ wsJ5_length_8abf5 := List.mem_of_getElem? (i := 1) (by decide +kernel)
set_option maxHeartbeats 4000000 in
set_option maxRecDepth 100000 in
theorem kJ5_length_8abf5 (l : Launch) (dC : Nat → ClassId) (dI : Nat → Nat → Nat) (cyI cyZ cyJ cyD cyB : ClassId) (q0 q1 : Nat) (cn : Nat) (f : Nat → Int32) : Met l yJ5_length_8abf5 wsJ5_length_8abf5 ({ frames := 0, cells := 0, slots := 0, locals := 0 }) (va_Pc [.ref q0] (xP (dC, dI) vwCl (xT cyI cyZ cyJ cyD cyB) [(q0, .inr (1, [.ref q1, .int (nI 0), .int (nI 0), .int (nI cn)])), (q1, .inl (cyB, 16, .inl f))])) (va_Qi (fun (r : Int32) (u : Unit) => r = nI cn) (fun _ _ => True) (fun _ => False)) 0 0 (fun _ => False) := by
  refine Met.ofW (cc := cJ5_length_8abf5) (maxL := 1) (ret := (some .int)) (by decide) rfl ?_
  intro p e s m args below meth c s₁ B hml hv
  obtain ⟨rfl, hP, hK⟩ := hv
  have hx := B.exec
  have hb := B.bytes
  have hr := B.returns
  have hts := atoms_spec (ws := wsJ5_length_8abf5) B.pre
  have hown : s.vm.findClass RJ5 = some m.cls := findClass_of_methodNamed B.named
  have hlocks := B.notSynchronized
  have hS : va_S (fun _ => False) s.heap s.heap [] := va_S.rf
  have hP : va_P (dC, dI) vwCl [(q0, .inr (1, [.ref q1, .int (nI 0), .int (nI 0), .int (nI cn)])), (q1, .inl (cyB, 16, .inl f))] s.heap := hP
  have hl := lv_entry ([.ref q0]) (n := 1) (Nat.le_of_ble_eq_true rfl)
  rw [lg_entry_eq]
  generalize (lg_sl ([.ref q0]) ++ List.replicate (1 - (lg_sl ([.ref q0])).length) Slot.unset).toArray = ls at hl ⊢
  have hl : lv_has ls 1 [(0, .ref q0)] := hl
  refine lv_aload_n hx hb dJ5_length_8abf5_0 rfl (lv_at hl 0 rfl) ?_
  refine va_get (D := (dC, dI)) (ci := 1) (v := .int (nI cn)) (C := RJ4) (T := TJ4) (N := 4) hx hb hts inJ5_length_8abf5_J4 hown hK hP 0 rfl rfl 3 (by decide) (hts _ mJ5_length_8abf5_fieldLink_RJ5_79_java_lang_AbstractStringBuilder_count_I) (fun _ h9 => h9) rfl dJ5_length_8abf5_1 ?_
  exact W.iret (v := nI cn) hx hb hr (fun t ht hW => ⟨⟨nI cn, (), rfl, rfl, trivial⟩, hS.F ht⟩) hS.2.2 dJ5_length_8abf5_4

theorem inJ5_getValue_6d5f1_J4 : ∀ w ∈ wsJ40, w ∈ wsJ5_getValue_6d5f1 := by decide +kernel
theorem mJ5_getValue_6d5f1_fieldLink_RJ5_15_java_lang_AbstractStringBuilder_value_B : Cond.fieldLink RJ5 15 "java/lang/AbstractStringBuilder" "value" "[B" ∈ wsJ5_getValue_6d5f1 := List.mem_of_getElem? (i := 1) (by decide +kernel)
set_option maxHeartbeats 4000000 in
set_option maxRecDepth 100000 in
theorem kJ5_getValue_6d5f1 (l : Launch) (dC : Nat → ClassId) (dI : Nat → Nat → Nat) (cyI cyZ cyJ cyD cyB : ClassId) (q0 q1 : Nat) (cn : Nat) (f : Nat → Int32) : Met l yJ5_getValue_6d5f1 wsJ5_getValue_6d5f1 ({ frames := 0, cells := 0, slots := 0, locals := 0 }) (va_Pc [.ref q0] (xP (dC, dI) vwCl (xT cyI cyZ cyJ cyD cyB) [(q0, .inr (1, [.ref q1, .int (nI 0), .int (nI 0), .int (nI cn)])), (q1, .inl (cyB, 16, .inl f))])) (va_Qr (fun (_ : Unit) => True) (fun _ a _ => a = q1) (fun _ => False)) 0 0 (fun _ => False) := by
  refine Met.ofW (cc := cJ5_getValue_6d5f1) (maxL := 1) (ret := (some (.array .byte))) (by decide) rfl ?_
  intro p e s m args below meth c s₁ B hml hv
  obtain ⟨rfl, hP, hK⟩ := hv
  have hx := B.exec
  have hb := B.bytes
  have hr := B.returns
  have hts := atoms_spec (ws := wsJ5_getValue_6d5f1) B.pre
  have hown : s.vm.findClass RJ5 = some m.cls := findClass_of_methodNamed B.named
  have hlocks := B.notSynchronized
  have hS : va_S (fun _ => False) s.heap s.heap [] := va_S.rf
  have hP : va_P (dC, dI) vwCl [(q0, .inr (1, [.ref q1, .int (nI 0), .int (nI 0), .int (nI cn)])), (q1, .inl (cyB, 16, .inl f))] s.heap := hP
  have hl := lv_entry ([.ref q0]) (n := 1) (Nat.le_of_ble_eq_true rfl)
  rw [lg_entry_eq]
  generalize (lg_sl ([.ref q0]) ++ List.replicate (1 - (lg_sl ([.ref q0])).length) Slot.unset).toArray = ls at hl ⊢
  have hl : lv_has ls 1 [(0, .ref q0)] := hl
  refine lv_aload_n hx hb dJ5_getValue_6d5f1_0 rfl (lv_at hl 0 rfl) ?_
  refine va_get (D := (dC, dI)) (ci := 1) (v := .ref q1) (C := RJ4) (T := TJ4) (N := 4) hx hb hts inJ5_getValue_6d5f1_J4 hown hK hP 0 rfl rfl 0 (by decide) (hts _ mJ5_getValue_6d5f1_fieldLink_RJ5_15_java_lang_AbstractStringBuilder_value_B) (fun _ h9 => h9) rfl dJ5_getValue_6d5f1_1 ?_
  exact W.aret (v := .ref q1) hx hb hr (by simp) (Or.inr ⟨_, rfl⟩) (fun t ht hW => ⟨⟨(), _, rfl, trivial, rfl⟩, hS.F ht⟩) hS.2.2 dJ5_getValue_6d5f1_4

theorem mJ5_isLatin1_aae02_fieldLink_RJ5_18_java_lang_String_COMPACT_STRINGS_Z : Cond.fieldLink RJ5 18 "java/lang/String" "COMPACT_STRINGS" "Z" ∈ wsJ5_isLatin1_aae02 := List.mem_of_getElem? (i := 1) (by decide +kernel)
theorem inJ5_isLatin1_aae02_J4 : ∀ w ∈ wsJ40, w ∈ wsJ5_isLatin1_aae02 := by decide +kernel
theorem mJ5_isLatin1_aae02_fieldLink_RJ5_22_java_lang_AbstractStringBuilder_coder_B : Cond.fieldLink RJ5 22 "java/lang/AbstractStringBuilder" "coder" "B" ∈ wsJ5_isLatin1_aae02 := List.mem_of_getElem? (i := 2) (by decide +kernel)
set_option maxHeartbeats 4000000 in
set_option maxRecDepth 100000 in
theorem kJ5_isLatin1_aae02 (l : Launch) (dC : Nat → ClassId) (dI : Nat → Nat → Nat) (cyI cyZ cyJ cyD cyB : ClassId) (q0 q1 : Nat) (cn : Nat) (f : Nat → Int32) : Met l yJ5_isLatin1_aae02 wsJ5_isLatin1_aae02 ({ frames := 0, cells := 0, slots := 0, locals := 0 }) (va_Pc [.ref q0] (xY (fun _ => False) (xP (dC, dI) vwCl (xT cyI cyZ cyJ cyD cyB) [(q0, .inr (1, [.ref q1, .int (nI 0), .int (nI 0), .int (nI cn)])), (q1, .inl (cyB, 16, .inl f))]))) (va_Qi (fun (r : Int32) (u : Unit) => r = nI 1) (fun _ _ => True) (fun _ => False)) 0 0 (fun _ => False) := by
  refine Met.ofW (cc := cJ5_isLatin1_aae02) (maxL := 1) (ret := (some .boolean)) (by decide) rfl ?_
  intro p e s m args below meth c s₁ B hml hv
  obtain ⟨rfl, ⟨hP, hK⟩, hZ⟩ := hv
  have hx := B.exec
  have hb := B.bytes
  have hr := B.returns
  have hts := atoms_spec (ws := wsJ5_isLatin1_aae02) B.pre
  have hown : s.vm.findClass RJ5 = some m.cls := findClass_of_methodNamed B.named
  have hlocks := B.notSynchronized
  have hS : va_S (fun _ => False) s.heap s.heap [] := va_S.rf
  have hP : va_P (dC, dI) vwCl [(q0, .inr (1, [.ref q1, .int (nI 0), .int (nI 0), .int (nI cn)])), (q1, .inl (cyB, 16, .inl f))] s.heap := hP
  have hl := lv_entry ([.ref q0]) (n := 1) (Nat.le_of_ble_eq_true rfl)
  rw [lg_entry_eq]
  generalize (lg_sl ([.ref q0]) ++ List.replicate (1 - (lg_sl ([.ref q0])).length) Slot.unset).toArray = ls at hl ⊢
  have hl : lv_has ls 1 [(0, .ref q0)] := hl
  refine va_gets hx hb hZ.1 hS hown (hts _ mJ5_isLatin1_aae02_fieldLink_RJ5_18_java_lang_String_COMPACT_STRINGS_Z) (fun _ h9 => h9) dJ5_isLatin1_aae02_0 ?_
  refine xz_eq (tgt := 17) hx hb dJ5_isLatin1_aae02_3 (by decide) (by omega) (fun c_1 => by omega) (fun c_1 => ?_)
  refine lv_aload_n hx hb dJ5_isLatin1_aae02_6 rfl (lv_at hl 0 rfl) ?_
  refine va_get (D := (dC, dI)) (ci := 1) (v := .int (nI 0)) (C := RJ4) (T := TJ4) (N := 4) hx hb hts inJ5_isLatin1_aae02_J4 hown hK hP 0 rfl rfl 1 (by decide) (hts _ mJ5_isLatin1_aae02_fieldLink_RJ5_22_java_lang_AbstractStringBuilder_coder_B) (fun _ h9 => h9) rfl dJ5_isLatin1_aae02_7 ?_
  refine xz_ne (tgt := 17) hx hb dJ5_isLatin1_aae02_10 (by decide) (by omega) (fun c_2 => by omega) (fun c_2 => ?_)
  refine lv_iconst (v := nI 1) hx hb dJ5_isLatin1_aae02_13 (by decide) ?_
  refine lv_goto (tgt := 18) hx hb dJ5_isLatin1_aae02_14 (by decide) ?_
  exact W.zret (v := nI 1) (ty := .boolean) hx hb hr rfl (fun t ht hW => ⟨⟨nI 1, (), rfl, rfl, trivial⟩, hS.F ht⟩) hS.2.2 dJ5_isLatin1_aae02_18

theorem mJ0_coder_7d493_fieldLink_RJ0_38_java_lang_String_COMPACT_STRINGS_Z : Cond.fieldLink RJ0 38 "java/lang/String" "COMPACT_STRINGS" "Z" ∈ wsJ0_coder_7d493 := List.mem_of_getElem? (i := 1) (by decide +kernel)
theorem inJ0_coder_7d493_J0 : ∀ w ∈ wsJ00, w ∈ wsJ0_coder_7d493 := by decide +kernel
theorem mJ0_coder_7d493_fieldLink_RJ0_15_java_lang_String_coder_B : Cond.fieldLink RJ0 15 "java/lang/String" "coder" "B" ∈ wsJ0_coder_7d493 := List.mem_of_getElem? (i := 2) (by decide +kernel)
set_option maxHeartbeats 4000000 in
set_option maxRecDepth 100000 in
theorem kJ0_coder_7d493 (l : Launch) (dC : Nat → ClassId) (dI : Nat → Nat → Nat) (cyI cyZ cyJ cyD cyB : ClassId) (s0 s1 : Nat) (n : Nat) (f : Nat → Int32) : Met l yJ0_coder_7d493 wsJ0_coder_7d493 ({ frames := 0, cells := 0, slots := 0, locals := 0 }) (va_Pc [.ref s0] (xY (fun _ => False) (xP (dC, dI) vwCl (xT cyI cyZ cyJ cyD cyB) [(s0, .inr (0, [.ref s1, .int (nI 0), .int (nI 0), .int (nI 0)])), (s1, .inl (cyB, n, .inl f))]))) (va_Qi (fun (r : Int32) (u : Unit) => r = nI 0) (fun _ _ => True) (fun _ => False)) 0 0 (fun _ => False) := by
  refine Met.ofW (cc := cJ0_coder_7d493) (maxL := 1) (ret := (some .byte)) (by decide) rfl ?_
  intro p e s m args below meth c s₁ B hml hv
  obtain ⟨rfl, ⟨hP, hK⟩, hZ⟩ := hv
  have hx := B.exec
  have hb := B.bytes
  have hr := B.returns
  have hts := atoms_spec (ws := wsJ0_coder_7d493) B.pre
  have hown : s.vm.findClass RJ0 = some m.cls := findClass_of_methodNamed B.named
  have hlocks := B.notSynchronized
  have hS : va_S (fun _ => False) s.heap s.heap [] := va_S.rf
  have hP : va_P (dC, dI) vwCl [(s0, .inr (0, [.ref s1, .int (nI 0), .int (nI 0), .int (nI 0)])), (s1, .inl (cyB, n, .inl f))] s.heap := hP
  have hl := lv_entry ([.ref s0]) (n := 1) (Nat.le_of_ble_eq_true rfl)
  rw [lg_entry_eq]
  generalize (lg_sl ([.ref s0]) ++ List.replicate (1 - (lg_sl ([.ref s0])).length) Slot.unset).toArray = ls at hl ⊢
  have hl : lv_has ls 1 [(0, .ref s0)] := hl
  refine va_gets hx hb hZ.1 hS hown (hts _ mJ0_coder_7d493_fieldLink_RJ0_38_java_lang_String_COMPACT_STRINGS_Z) (fun _ h9 => h9) dJ0_coder_7d493_0 ?_
  refine xz_eq (tgt := 13) hx hb dJ0_coder_7d493_3 (by decide) (by omega) (fun c_1 => by omega) (fun c_1 => ?_)
  refine lv_aload_n hx hb dJ0_coder_7d493_6 rfl (lv_at hl 0 rfl) ?_
  refine va_get (D := (dC, dI)) (ci := 0) (v := .int (nI 0)) (C := RJ0) (T := TJ0) (N := 4) hx hb hts inJ0_coder_7d493_J0 hown hK hP 0 rfl rfl 1 (by decide) (hts _ mJ0_coder_7d493_fieldLink_RJ0_15_java_lang_String_coder_B) (fun _ h9 => h9) rfl dJ0_coder_7d493_7 ?_
  refine lv_goto (tgt := 14) hx hb dJ0_coder_7d493_10 (by decide) ?_
  exact W.zret (v := nI 0) (ty := .byte) hx hb hr rfl (fun t ht hW => ⟨⟨nI 0, (), rfl, rfl, trivial⟩, hS.F ht⟩) hS.2.2 dJ0_coder_7d493_14

theorem mJ0_isLatin1_aae02_fieldLink_RJ0_38_java_lang_String_COMPACT_STRINGS_Z : Cond.fieldLink RJ0 38 "java/lang/String" "COMPACT_STRINGS" "Z" ∈ wsJ0_isLatin1_aae02 := List.mem_of_getElem? (i := 1) (by decide +kernel)
theorem inJ0_isLatin1_aae02_J0 : ∀ w ∈ wsJ00, w ∈ wsJ0_isLatin1_aae02 := by decide +kernel
theorem mJ0_isLatin1_aae02_fieldLink_RJ0_15_java_lang_String_coder_B : Cond.fieldLink RJ0 15 "java/lang/String" "coder" "B" ∈ wsJ0_isLatin1_aae02 := List.mem_of_getElem? (i := 2) (by decide +kernel)
set_option maxHeartbeats 4000000 in
set_option maxRecDepth 100000 in
theorem kJ0_isLatin1_aae02 (l : Launch) (dC : Nat → ClassId) (dI : Nat → Nat → Nat) (cyI cyZ cyJ cyD cyB : ClassId) (s0 s1 : Nat) (n : Nat) (f : Nat → Int32) : Met l yJ0_isLatin1_aae02 wsJ0_isLatin1_aae02 ({ frames := 0, cells := 0, slots := 0, locals := 0 }) (va_Pc [.ref s0] (xY (fun _ => False) (xP (dC, dI) vwCl (xT cyI cyZ cyJ cyD cyB) [(s0, .inr (0, [.ref s1, .int (nI 0), .int (nI 0), .int (nI 0)])), (s1, .inl (cyB, n, .inl f))]))) (va_Qi (fun (r : Int32) (u : Unit) => r = nI 1) (fun _ _ => True) (fun _ => False)) 0 0 (fun _ => False) := by
  refine Met.ofW (cc := cJ0_isLatin1_aae02) (maxL := 1) (ret := (some .boolean)) (by decide) rfl ?_
  intro p e s m args below meth c s₁ B hml hv
  obtain ⟨rfl, ⟨hP, hK⟩, hZ⟩ := hv
  have hx := B.exec
  have hb := B.bytes
  have hr := B.returns
  have hts := atoms_spec (ws := wsJ0_isLatin1_aae02) B.pre
  have hown : s.vm.findClass RJ0 = some m.cls := findClass_of_methodNamed B.named
  have hlocks := B.notSynchronized
  have hS : va_S (fun _ => False) s.heap s.heap [] := va_S.rf
  have hP : va_P (dC, dI) vwCl [(s0, .inr (0, [.ref s1, .int (nI 0), .int (nI 0), .int (nI 0)])), (s1, .inl (cyB, n, .inl f))] s.heap := hP
  have hl := lv_entry ([.ref s0]) (n := 1) (Nat.le_of_ble_eq_true rfl)
  rw [lg_entry_eq]
  generalize (lg_sl ([.ref s0]) ++ List.replicate (1 - (lg_sl ([.ref s0])).length) Slot.unset).toArray = ls at hl ⊢
  have hl : lv_has ls 1 [(0, .ref s0)] := hl
  refine va_gets hx hb hZ.1 hS hown (hts _ mJ0_isLatin1_aae02_fieldLink_RJ0_38_java_lang_String_COMPACT_STRINGS_Z) (fun _ h9 => h9) dJ0_isLatin1_aae02_0 ?_
  refine xz_eq (tgt := 17) hx hb dJ0_isLatin1_aae02_3 (by decide) (by omega) (fun c_1 => by omega) (fun c_1 => ?_)
  refine lv_aload_n hx hb dJ0_isLatin1_aae02_6 rfl (lv_at hl 0 rfl) ?_
  refine va_get (D := (dC, dI)) (ci := 0) (v := .int (nI 0)) (C := RJ0) (T := TJ0) (N := 4) hx hb hts inJ0_isLatin1_aae02_J0 hown hK hP 0 rfl rfl 1 (by decide) (hts _ mJ0_isLatin1_aae02_fieldLink_RJ0_15_java_lang_String_coder_B) (fun _ h9 => h9) rfl dJ0_isLatin1_aae02_7 ?_
  refine xz_ne (tgt := 17) hx hb dJ0_isLatin1_aae02_10 (by decide) (by omega) (fun c_2 => by omega) (fun c_2 => ?_)
  refine lv_iconst (v := nI 1) hx hb dJ0_isLatin1_aae02_13 (by decide) ?_
  refine lv_goto (tgt := 18) hx hb dJ0_isLatin1_aae02_14 (by decide) ?_
  exact W.zret (v := nI 1) (ty := .boolean) hx hb hr rfl (fun t ht hW => ⟨⟨nI 1, (), rfl, rfl, trivial⟩, hS.F ht⟩) hS.2.2 dJ0_isLatin1_aae02_18

theorem inJ5_ensureCapacityInternal_d00df_J4 : ∀ w ∈ wsJ40, w ∈ wsJ5_ensureCapacityInternal_d00df := by decide +kernel
theorem mJ5_ensureCapacityInternal_d00df_fieldLink_RJ5_15_java_lang_AbstractStringBuilder_value_B : Cond.fieldLink RJ5 15 "java/lang/AbstractStringBuilder" "value" "[B" ∈ wsJ5_ensureCapacityInternal_d00df := List.mem_of_getElem? (i := 1) (by decide +kernel)
theorem mJ5_ensureCapacityInternal_d00df_fieldLink_RJ5_22_java_lang_AbstractStringBuilder_coder_B : Cond.fieldLink RJ5 22 "java/lang/AbstractStringBuilder" "coder" "B" ∈ wsJ5_ensureCapacityInternal_d00df := List.mem_of_getElem? (i := 2) (by decide +kernel)
set_option maxHeartbeats 4000000 in
set_option maxRecDepth 100000 in
theorem kJ5_ensureCapacityInternal_d00df (l : Launch) (dC : Nat → ClassId) (dI : Nat → Nat → Nat) (cyI cyZ cyJ cyD cyB : ClassId) (q0 q1 : Nat) (cn : Nat) (f : Nat → Int32) (mn : Nat) (hmn : mn ≤ 16) : Met l yJ5_ensureCapacityInternal_d00df wsJ5_ensureCapacityInternal_d00df ({ frames := 0, cells := 0, slots := 0, locals := 0 }) (va_Pc [.ref q0, .int (nI mn)] (xP (dC, dI) vwCl (xT cyI cyZ cyJ cyD cyB) [(q0, .inr (1, [.ref q1, .int (nI 0), .int (nI 0), .int (nI cn)])), (q1, .inl (cyB, 16, .inl f))])) (va_Qv (fun (u : Unit) => True) (fun _ _ => True) (fun _ => False)) 0 0 (fun _ => False) := by
  refine Met.ofW (cc := cJ5_ensureCapacityInternal_d00df) (maxL := 3) (ret := none) (by decide) rfl ?_
  intro p e s m args below meth c s₁ B hml hv
  obtain ⟨rfl, hP, hK⟩ := hv
  have hx := B.exec
  have hb := B.bytes
  have hr := B.returns
  have hts := atoms_spec (ws := wsJ5_ensureCapacityInternal_d00df) B.pre
  have hown : s.vm.findClass RJ5 = some m.cls := findClass_of_methodNamed B.named
  have hlocks := B.notSynchronized
  have hS : va_S (fun _ => False) s.heap s.heap [] := va_S.rf
  have hP : va_P (dC, dI) vwCl [(q0, .inr (1, [.ref q1, .int (nI 0), .int (nI 0), .int (nI cn)])), (q1, .inl (cyB, 16, .inl f))] s.heap := hP
  have hl := lv_entry ([.ref q0, .int (nI mn)]) (n := 3) (Nat.le_of_ble_eq_true rfl)
  rw [lg_entry_eq]
  generalize (lg_sl ([.ref q0, .int (nI mn)]) ++ List.replicate (3 - (lg_sl ([.ref q0, .int (nI mn)])).length) Slot.unset).toArray = ls at hl ⊢
  have hl : lv_has ls 3 [(0, .ref q0), (1, .int (nI mn))] := hl
  refine lv_aload_n hx hb dJ5_ensureCapacityInternal_d00df_0 rfl (lv_at hl 0 rfl) ?_
  refine va_get (D := (dC, dI)) (ci := 1) (v := .ref q1) (C := RJ4) (T := TJ4) (N := 4) hx hb hts inJ5_ensureCapacityInternal_d00df_J4 hown hK hP 0 rfl rfl 0 (by decide) (hts _ mJ5_ensureCapacityInternal_d00df_fieldLink_RJ5_15_java_lang_AbstractStringBuilder_value_B) (fun _ h9 => h9) rfl dJ5_ensureCapacityInternal_d00df_1 ?_
  refine va_alen hx hb hK hP 1 4 rfl rfl (v := nI 16) rfl dJ5_ensureCapacityInternal_d00df_4 ?_
  refine lv_aload_n hx hb dJ5_ensureCapacityInternal_d00df_5 rfl (lv_at hl 0 rfl) ?_
  refine va_get (D := (dC, dI)) (ci := 1) (v := .int (nI 0)) (C := RJ4) (T := TJ4) (N := 4) hx hb hts inJ5_ensureCapacityInternal_d00df_J4 hown hK hP 0 rfl rfl 1 (by decide) (hts _ mJ5_ensureCapacityInternal_d00df_fieldLink_RJ5_22_java_lang_AbstractStringBuilder_coder_B) (fun _ h9 => h9) rfl dJ5_ensureCapacityInternal_d00df_6 ?_
  refine lv_ishr hx hb dJ5_ensureCapacityInternal_d00df_9 ?_
  rw [show nI 16 >>> (nI 0 &&& 31) = nI 16 from sb_shr0 _]
  refine lv_istore_n (lv' := [(2, .int (nI 16)), (0, .ref q0), (1, .int (nI mn))]) hx hb dJ5_ensureCapacityInternal_d00df_10 rfl hl (by decide) rfl (fun ls hl => ?_)
  refine lv_iload_n hx hb dJ5_ensureCapacityInternal_d00df_11 rfl (lv_at hl 2 rfl) ?_
  refine lv_iload_n hx hb dJ5_ensureCapacityInternal_d00df_12 rfl (lv_at hl 0 rfl) ?_
  refine lv_isub hx hb dJ5_ensureCapacityInternal_d00df_13 ?_
  refine lv_if_le (tgt := 38) hx hb dJ5_ensureCapacityInternal_d00df_14 (by decide) (fun c_1 => ?_) (fun c_1 => absurd (xj_le (by omega) (by decide)) c_1)
  exact W.vret hx hb hr (fun t ht hW => ⟨⟨(), rfl, trivial, trivial⟩, hS.F ht⟩) hS.2.2 dJ5_ensureCapacityInternal_d00df_38

set_option maxHeartbeats 4000000 in
set_option maxRecDepth 100000 in
theorem kJ4_length_8abf5 (l : Launch) (dC : Nat → ClassId) (dI : Nat → Nat → Nat) (cyI cyZ cyJ cyD cyB : ClassId) (q0 q1 : Nat) (cn : Nat) (f : Nat → Int32) : Met l yJ4_length_8abf5 wsJ4_length_8abf5 ({ frames := 1, cells := 0, slots := 0, locals := 20 }) (va_Pc [.ref q0] (xP (dC, dI) vwCl (xT cyI cyZ cyJ cyD cyB) [(q0, .inr (1, [.ref q1, .int (nI 0), .int (nI 0), .int (nI cn)])), (q1, .inl (cyB, 16, .inl f))])) (va_Qi (fun (r : Int32) (u : Unit) => r = nI cn) (fun _ _ => True) (fun _ => False)) 0 0 (fun _ => False) := by
  refine Met.ofW (cc := cJ4_length_8abf5) (maxL := 1) (ret := (some .int)) (by decide) rfl ?_
  intro p e s m args below meth c s₁ B hml hv
  obtain ⟨rfl, hP, hK⟩ := hv
  have hx := B.exec
  have hb := B.bytes
  have hr := B.returns
  have hts := atoms_spec (ws := wsJ4_length_8abf5) B.pre
  have hown : s.vm.findClass RJ4 = some m.cls := findClass_of_methodNamed B.named
  have hlocks := B.notSynchronized
  have hS : va_S (fun _ => False) s.heap s.heap [] := va_S.rf
  have hP : va_P (dC, dI) vwCl [(q0, .inr (1, [.ref q1, .int (nI 0), .int (nI 0), .int (nI cn)])), (q1, .inl (cyB, 16, .inl f))] s.heap := hP
  have hl := lv_entry ([.ref q0]) (n := 1) (Nat.le_of_ble_eq_true rfl)
  rw [lg_entry_eq]
  generalize (lg_sl ([.ref q0]) ++ List.replicate (1 - (lg_sl ([.ref q0])).length) Slot.unset).toArray = ls at hl ⊢
  have hl : lv_has ls 1 [(0, .ref q0)] := hl
  refine lv_aload_n hx hb dJ4_length_8abf5_0 rfl (lv_at hl 0 rfl) ?_
  refine xrP_i (va_runSU (hK.1 1 (RJ4, TJ4, 4) rfl).2 (As := []) (rest := []) ⟨hx, hb, hml, hown, hts⟩ (kJ5_length_8abf5 l dC dI cyI cyZ cyJ cyD cyB q0 q1 cn f) (va_cwSU 0 hts gJ4_length_8abf5_J5_length_8abf5_s343 rfl rfl rfl (by decide +kernel) ⟨Nat.le_of_ble_eq_true rfl, Nat.le_of_ble_eq_true rfl⟩) ⟨xP_blind, va_recv (q := (RJ4, TJ4, 4)) hK hP (q0 := 0) (ci := 1) rfl rfl, fun U hU hW => ⟨rfl, by rw [hU]; exact xW_sub hP [0, 1] rfl, va_K.moved hW.alike hK⟩⟩ rfl rfl hl.1 rfl (lv_room (Nat.le_of_ble_eq_true rfl)) dJ4_length_8abf5_1 ⟨Nat.zero_le _, Nat.zero_le _⟩) hP hS (fun r_1 H locs hw hP hS => ?_)
  have hw : r_1 = nI cn := hw
  subst hw
  exact W.iret (v := nI cn) hx hb hr (fun t ht hW => ⟨⟨nI cn, (), rfl, rfl, trivial⟩, hS.F ht⟩) hS.2.2 dJ4_length_8abf5_4

set_option maxHeartbeats 4000000 in
set_option maxRecDepth 100000 in
theorem kJ1_canEncode_fc78d (l : Launch) (ch : Nat) (hch : ch < 256) : Met l yJ1_canEncode_fc78d wsJ1_canEncode_fc78d ({ frames := 0, cells := 0, slots := 0, locals := 0 }) (va_Pc [.int (nI ch)] (fun _ => True)) (va_Qi (fun (r : Int32) (u : Unit) => r = nI 1) (fun _ _ => True) (fun _ => False)) 0 0 (fun _ => False) := by
  refine Met.ofW (cc := cJ1_canEncode_fc78d) (maxL := 1) (ret := (some .boolean)) (by decide) rfl ?_
  intro p e s m args below meth c s₁ B hml hv
  obtain ⟨rfl, -⟩ := hv
  have hx := B.exec
  have hb := B.bytes
  have hr := B.returns
  have hts := atoms_spec (ws := wsJ1_canEncode_fc78d) B.pre
  have hown : s.vm.findClass RJ1 = some m.cls := findClass_of_methodNamed B.named
  have hlocks := B.notSynchronized
  have hS : va_S (fun _ => False) s.heap s.heap [] := va_S.rf
  have hl := lv_entry ([.int (nI ch)]) (n := 1) (Nat.le_of_ble_eq_true rfl)
  rw [lg_entry_eq]
  generalize (lg_sl ([.int (nI ch)]) ++ List.replicate (1 - (lg_sl ([.int (nI ch)])).length) Slot.unset).toArray = ls at hl ⊢
  have hl : lv_has ls 1 [(0, .int (nI ch))] := hl
  refine lv_iload_n hx hb dJ1_canEncode_fc78d_0 rfl (lv_at hl 0 rfl) ?_
  refine lv_sipush (v := nI 255) hx hb dJ1_canEncode_fc78d_1 (by decide) ?_
  refine xc_gt (tgt := 11) hx hb dJ1_canEncode_fc78d_4 (by decide) (by omega) (by omega) (fun c_1 => by omega) (fun c_1 => ?_)
  refine lv_iconst (v := nI 1) hx hb dJ1_canEncode_fc78d_7 (by decide) ?_
  refine lv_goto (tgt := 12) hx hb dJ1_canEncode_fc78d_8 (by decide) ?_
  exact W.zret (v := nI 1) (ty := .boolean) hx hb hr rfl (fun t ht hW => ⟨⟨nI 1, (), rfl, rfl, trivial⟩, hS.F ht⟩) hS.2.2 dJ1_canEncode_fc78d_12

theorem inJ5_append_3fe6f_J4 : ∀ w ∈ wsJ40, w ∈ wsJ5_append_3fe6f := by decide +kernel
theorem mJ5_append_3fe6f_fieldLink_RJ5_79_java_lang_AbstractStringBuilder_count_I : Cond.fieldLink RJ5 79 "java/lang/AbstractStringBuilder" "count" "I" ∈ wsJ5_append_3fe6f := List.mem_of_getElem? (i := 1) (by decide +kernel)
theorem mJ5_append_3fe6f_fieldLink_RJ5_15_java_lang_AbstractStringBuilder_value_B : Cond.fieldLink RJ5 15 "java/lang/AbstractStringBuilder" "value" "[B" ∈ wsJ5_append_3fe6f := List.mem_of_getElem? (i := 2) (by decide +kernel)
set_option maxHeartbeats 4000000 in
set_option maxRecDepth 100000 in
theorem kJ5_append_3fe6f (l : Launch) (dC : Nat → ClassId) (dI : Nat → Nat → Nat) (cyI cyZ cyJ cyD cyB : ClassId) (q0 q1 : Nat) (cn : Nat) (f : Nat → Int32) (ch : Nat) (hcn : cn < 16) (hch : ch < 256) : Met l yJ5_append_3fe6f wsJ5_append_3fe6f ({ frames := 1, cells := 0, slots := 0, locals := 22 }) (va_Pc [.ref q0, .int (nI ch)] (xY (xA [(q0, .inr (1, [.ref q1, .int (nI 0), .int (nI 0), .int (nI cn)])), (q1, .inl (cyB, 16, .inl f))]) (xM (dC, dI) vwCl (xT cyI cyZ cyJ cyD cyB) [(q0, .inr (1, [.ref q1, .int (nI 0), .int (nI 0), .int (nI cn)])), (q1, .inl (cyB, 16, .inl f))]))) (va_Qr (fun (_ : Unit) => True) (fun _ a t => a = q0 ∧ va_P (dC, dI) vwCl [(q0, .inr (1, [.ref q1, .int (nI 0), .int (nI 0), .int (nI (cn + 1))])), (q1, .inl (cyB, 16, .inl (upd f cn (sb_b ch))))] t.heap ∧ va_D (xA [(q0, .inr (1, [.ref q1, .int (nI 0), .int (nI 0), .int (nI cn)])), (q1, .inl (cyB, 16, .inl f))]) [(q0, .inr (1, [.ref q1, .int (nI 0), .int (nI 0), .int (nI (cn + 1))])), (q1, .inl (cyB, 16, .inl (upd f cn (sb_b ch))))]) (xA [(q0, .inr (1, [.ref q1, .int (nI 0), .int (nI 0), .int (nI cn)])), (q1, .inl (cyB, 16, .inl f))])) 0 0 (xA [(q0, .inr (1, [.ref q1, .int (nI 0), .int (nI 0), .int (nI cn)])), (q1, .inl (cyB, 16, .inl f))]) := by
  refine Met.ofW (cc := cJ5_append_3fe6f) (maxL := 2) (ret := (some (.object "java/lang/AbstractStringBuilder"))) (by decide) rfl ?_
  intro p e s m args below meth c s₁ B hml hv
  obtain ⟨rfl, ⟨hP, hK, hD0⟩, hZ⟩ := hv
  have hx := B.exec
  have hb := B.bytes
  have hr := B.returns
  have hts := atoms_spec (ws := wsJ5_append_3fe6f) B.pre
  have hown : s.vm.findClass RJ5 = some m.cls := findClass_of_methodNamed B.named
  have hlocks := B.notSynchronized
  have hD := xA_self hD0
  clear hD0
  generalize hAe : xA [(q0, .inr (1, [.ref q1, .int (nI 0), .int (nI 0), .int (nI cn)])), (q1, .inl (cyB, 16, .inl f))] = A at hD hZ ⊢
  have hS : va_S A s.heap s.heap [] := va_S.rf
  have hP : va_P (dC, dI) vwCl [(q0, .inr (1, [.ref q1, .int (nI 0), .int (nI 0), .int (nI cn)])), (q1, .inl (cyB, 16, .inl f))] s.heap := hP
  have hl := lv_entry ([.ref q0, .int (nI ch)]) (n := 2) (Nat.le_of_ble_eq_true rfl)
  rw [lg_entry_eq]
  generalize (lg_sl ([.ref q0, .int (nI ch)]) ++ List.replicate (2 - (lg_sl ([.ref q0, .int (nI ch)])).length) Slot.unset).toArray = ls at hl ⊢
  have hl : lv_has ls 2 [(0, .ref q0), (1, .int (nI ch))] := hl
  refine lv_aload_n hx hb dJ5_append_3fe6f_0 rfl (lv_at hl 0 rfl) ?_
  refine lv_aload_n hx hb dJ5_append_3fe6f_1 rfl (lv_at hl 0 rfl) ?_
  refine va_get (D := (dC, dI)) (ci := 1) (v := .int (nI cn)) (C := RJ4) (T := TJ4) (N := 4) hx hb hts inJ5_append_3fe6f_J4 hown hK hP 0 rfl rfl 3 (by decide) (hts _ mJ5_append_3fe6f_fieldLink_RJ5_79_java_lang_AbstractStringBuilder_count_I) (fun _ h9 => h9) rfl dJ5_append_3fe6f_2 ?_
  refine lv_iconst (v := nI 1) hx hb dJ5_append_3fe6f_5 (by decide) ?_
  refine xi_add hx hb dJ5_append_3fe6f_6 ?_
  refine xrP_v (va_runU (As := [.int (nI (cn + 1))]) (rest := []) ⟨hx, hb, hml, hown, hts⟩ (kJ5_ensureCapacityInternal_d00df l dC dI cyI cyZ cyJ cyD cyB q0 q1 cn f (cn + 1) (by omega)) (va_cwU 1 hts gJ5_append_3fe6f_J5_ensureCapacityInternal_d00df_u100J4 rfl rfl rfl rfl (by decide +kernel) ⟨Nat.le_of_ble_eq_true rfl, Nat.le_of_ble_eq_true rfl⟩) ⟨xP_blind, va_recv (q := (RJ4, TJ4, 4)) hK hP (q0 := 0) (ci := 1) rfl rfl, fun U hU hW => ⟨rfl, by rw [hU]; exact xW_sub hP [0, 1] rfl, va_K.moved hW.alike hK⟩⟩ rfl rfl hl.1 rfl (lv_room (Nat.le_of_ble_eq_true rfl)) dJ5_append_3fe6f_7 ⟨Nat.zero_le _, Nat.zero_le _⟩) hP hS (fun H locs hw hP hS => ?_)
  refine lv_aload_n hx hb dJ5_append_3fe6f_10 rfl (lv_at hl 0 rfl) ?_
  refine xrP_i (va_runU (As := []) (rest := []) ⟨hx, hb, hml, hown, hts⟩ (kJ5_isLatin1_aae02 l dC dI cyI cyZ cyJ cyD cyB q0 q1 cn f) (va_cwU 0 hts gJ5_append_3fe6f_J5_isLatin1_aae02_u83J4 rfl rfl rfl rfl (by decide +kernel) ⟨Nat.le_of_ble_eq_true rfl, Nat.le_of_ble_eq_true rfl⟩) ⟨(xY_blind xP_blind), va_recv (q := (RJ4, TJ4, 4)) hK hP (q0 := 0) (ci := 1) rfl rfl, fun U hU hW => ⟨rfl, ⟨by rw [hU]; exact xW_sub hP [0, 1] rfl, va_K.moved hW.alike hK⟩, xY_go hZ hS hU hW (fun q _ h => h.elim)⟩⟩ rfl rfl hl.1 rfl (lv_room (Nat.le_of_ble_eq_true rfl)) dJ5_append_3fe6f_11 ⟨Nat.zero_le _, Nat.zero_le _⟩) hP hS (fun r_1 H locs hw hP hS => ?_)
  have hw : r_1 = nI 1 := hw
  subst hw
  refine xz_eq (tgt := 45) hx hb dJ5_append_3fe6f_14 (by decide) (by omega) (fun c_2 => by omega) (fun c_2 => ?_)
  refine lv_iload_n hx hb dJ5_append_3fe6f_17 rfl (lv_at hl 1 rfl) ?_
  refine xs_i (As := [.int (nI ch)]) (rest := []) ⟨hx, hb, hml, hown, hts⟩ (kJ1_canEncode_fc78d l ch (by omega)) (va_cwS 1 hts gJ5_append_3fe6f_J1_canEncode_fc78d rfl rfl rfl (by decide +kernel) ⟨Nat.le_of_ble_eq_true rfl, Nat.le_of_ble_eq_true rfl⟩) hP hS rfl hl.1 rfl (Nat.le_of_ble_eq_true rfl) dJ5_append_3fe6f_18 ⟨Nat.zero_le _, Nat.zero_le _⟩ (fun r_3 H locs hw hP hS => ?_)
  have hw : r_3 = nI 1 := hw
  subst hw
  refine xz_eq (tgt := 45) hx hb dJ5_append_3fe6f_21 (by decide) (by omega) (fun c_4 => by omega) (fun c_4 => ?_)
  refine lv_aload_n hx hb dJ5_append_3fe6f_24 rfl (lv_at hl 0 rfl) ?_
  refine va_get (D := (dC, dI)) (ci := 1) (v := .ref q1) (C := RJ4) (T := TJ4) (N := 4) hx hb hts inJ5_append_3fe6f_J4 hown hK hP 0 rfl rfl 0 (by decide) (hts _ mJ5_append_3fe6f_fieldLink_RJ5_15_java_lang_AbstractStringBuilder_value_B) (fun _ h9 => h9) rfl dJ5_append_3fe6f_25 ?_
  refine lv_aload_n hx hb dJ5_append_3fe6f_28 rfl (lv_at hl 0 rfl) ?_
  refine lv_dup hx hb dJ5_append_3fe6f_29 rfl ?_
  refine va_get (D := (dC, dI)) (ci := 1) (v := .int (nI cn)) (C := RJ4) (T := TJ4) (N := 4) hx hb hts inJ5_append_3fe6f_J4 hown hK hP 0 rfl rfl 3 (by decide) (hts _ mJ5_append_3fe6f_fieldLink_RJ5_79_java_lang_AbstractStringBuilder_count_I) (fun _ h9 => h9) rfl dJ5_append_3fe6f_30 ?_
  refine lv_dup_x1 hx hb dJ5_append_3fe6f_33 rfl rfl ?_
  refine lv_iconst (v := nI 1) hx hb dJ5_append_3fe6f_34 (by decide) ?_
  refine xi_add hx hb dJ5_append_3fe6f_35 ?_
  refine va_put (D := (dC, dI)) (ci := 1) (v := .int (nI (cn + 1))) (ty := .int) (C := RJ4) (T := TJ4) (N := 4) hx hb hts inJ5_append_3fe6f_J4 tyJ4 tyJ4_ok nmJ4 hown hK hP hD hS 0 rfl rfl 3 (by decide) (hts _ mJ5_append_3fe6f_fieldLink_RJ5_79_java_lang_AbstractStringBuilder_count_I) (fun _ h9 => h9) rfl (by decide +kernel) rfl rfl (Nat.le_of_ble_eq_true rfl) dJ5_append_3fe6f_36 (fun H locs hP hD hS => ?_)
  have hP : va_P (dC, dI) vwCl [(q0, .inr (1, [.ref q1, .int (nI 0), .int (nI 0), .int (nI (cn + 1))])), (q1, .inl (cyB, 16, .inl f))] H := hP
  have hD : va_D A [(q0, .inr (1, [.ref q1, .int (nI 0), .int (nI 0), .int (nI (cn + 1))])), (q1, .inl (cyB, 16, .inl f))] := hD
  refine lv_iload_n hx hb dJ5_append_3fe6f_39 rfl (lv_at hl 1 rfl) ?_
  refine lv_i2b (v := sb_b ch) hx hb dJ5_append_3fe6f_40 rfl ?_
  refine va_bast hx hb hK hP hD hS 1 4 rfl rfl (vp_in_nI (by omega) (by decide)) dJ5_append_3fe6f_41 (fun H locs hP hD hS => ?_)
  rw [nI_clamp (by omega), show vp_nar .byte (sb_b ch) = sb_b ch from pk_vb _] at hP hD
  have hP : va_P (dC, dI) vwCl [(q0, .inr (1, [.ref q1, .int (nI 0), .int (nI 0), .int (nI (cn + 1))])), (q1, .inl (cyB, 16, .inl (upd f cn (sb_b ch))))] H := hP
  have hD : va_D A [(q0, .inr (1, [.ref q1, .int (nI 0), .int (nI 0), .int (nI (cn + 1))])), (q1, .inl (cyB, 16, .inl (upd f cn (sb_b ch))))] := hD
  refine lv_goto (tgt := 75) hx hb dJ5_append_3fe6f_42 (by decide) ?_
  refine lv_aload_n hx hb dJ5_append_3fe6f_75 rfl (lv_at hl 0 rfl) ?_
  have hP9 : va_P (dC, dI) vwCl [(q0, .inr (1, [.ref q1, .int (nI 0), .int (nI 0), .int (nI (cn + 1))])), (q1, .inl (cyB, 16, .inl (upd f cn (sb_b ch))))] _ := hP
  have hD9 : va_D A [(q0, .inr (1, [.ref q1, .int (nI 0), .int (nI 0), .int (nI (cn + 1))])), (q1, .inl (cyB, 16, .inl (upd f cn (sb_b ch))))] := hD
  exact W.aret (v := .ref q0) hx hb hr (by simp) (Or.inr ⟨_, rfl⟩) (fun t ht hW => ⟨⟨(), _, rfl, trivial, rfl, by rw [ht]; exact hP9, hD9⟩, hS.F ht⟩) hS.2.2 dJ5_append_3fe6f_76

set_option maxHeartbeats 4000000 in
set_option maxRecDepth 100000 in
theorem kJ4_append_cf468 (l : Launch) (dC : Nat → ClassId) (dI : Nat → Nat → Nat) (cyI cyZ cyJ cyD cyB : ClassId) (q0 q1 : Nat) (cn : Nat) (f : Nat → Int32) (ch : Nat) (hcn : cn < 16) (hch : ch < 256) : Met l yJ4_append_cf468 wsJ4_append_cf468 ({ frames := 2, cells := 0, slots := 0, locals := 43 }) (va_Pc [.ref q0, .int (nI ch)] (xY (xA [(q0, .inr (1, [.ref q1, .int (nI 0), .int (nI 0), .int (nI cn)])), (q1, .inl (cyB, 16, .inl f))]) (xM (dC, dI) vwCl (xT cyI cyZ cyJ cyD cyB) [(q0, .inr (1, [.ref q1, .int (nI 0), .int (nI 0), .int (nI cn)])), (q1, .inl (cyB, 16, .inl f))]))) (va_Qr (fun (_ : Unit) => True) (fun _ a t => a = q0 ∧ va_P (dC, dI) vwCl [(q0, .inr (1, [.ref q1, .int (nI 0), .int (nI 0), .int (nI (cn + 1))])), (q1, .inl (cyB, 16, .inl (upd f cn (sb_b ch))))] t.heap ∧ va_D (xA [(q0, .inr (1, [.ref q1, .int (nI 0), .int (nI 0), .int (nI cn)])), (q1, .inl (cyB, 16, .inl f))]) [(q0, .inr (1, [.ref q1, .int (nI 0), .int (nI 0), .int (nI (cn + 1))])), (q1, .inl (cyB, 16, .inl (upd f cn (sb_b ch))))]) (xA [(q0, .inr (1, [.ref q1, .int (nI 0), .int (nI 0), .int (nI cn)])), (q1, .inl (cyB, 16, .inl f))])) 0 0 (xA [(q0, .inr (1, [.ref q1, .int (nI 0), .int (nI 0), .int (nI cn)])), (q1, .inl (cyB, 16, .inl f))]) := by
  refine Met.ofW (cc := cJ4_append_cf468) (maxL := 2) (ret := (some (.object "java/lang/StringBuilder"))) (by decide) rfl ?_
  intro p e s m args below meth c s₁ B hml hv
  obtain ⟨rfl, ⟨hP, hK, hD0⟩, hZ⟩ := hv
  have hx := B.exec
  have hb := B.bytes
  have hr := B.returns
  have hts := atoms_spec (ws := wsJ4_append_cf468) B.pre
  have hown : s.vm.findClass RJ4 = some m.cls := findClass_of_methodNamed B.named
  have hlocks := B.notSynchronized
  have hD := xA_self hD0
  clear hD0
  generalize hAe : xA [(q0, .inr (1, [.ref q1, .int (nI 0), .int (nI 0), .int (nI cn)])), (q1, .inl (cyB, 16, .inl f))] = A at hD hZ ⊢
  have hS : va_S A s.heap s.heap [] := va_S.rf
  have hP : va_P (dC, dI) vwCl [(q0, .inr (1, [.ref q1, .int (nI 0), .int (nI 0), .int (nI cn)])), (q1, .inl (cyB, 16, .inl f))] s.heap := hP
  have hl := lv_entry ([.ref q0, .int (nI ch)]) (n := 2) (Nat.le_of_ble_eq_true rfl)
  rw [lg_entry_eq]
  generalize (lg_sl ([.ref q0, .int (nI ch)]) ++ List.replicate (2 - (lg_sl ([.ref q0, .int (nI ch)])).length) Slot.unset).toArray = ls at hl ⊢
  have hl : lv_has ls 2 [(0, .ref q0), (1, .int (nI ch))] := hl
  refine lv_aload_n hx hb dJ4_append_cf468_0 rfl (lv_at hl 0 rfl) ?_
  refine lv_iload_n hx hb dJ4_append_cf468_1 rfl (lv_at hl 1 rfl) ?_
  refine xrM_r (va_runSU (hK.1 1 (RJ4, TJ4, 4) rfl).2 (As := [.int (nI ch)]) (rest := []) ⟨hx, hb, hml, hown, hts⟩ (kJ5_append_3fe6f l dC dI cyI cyZ cyJ cyD cyB q0 q1 cn f ch (by omega) (by omega)) (va_cwSU 1 hts gJ4_append_cf468_J5_append_3fe6f_s50 rfl rfl rfl (by decide +kernel) ⟨Nat.le_of_ble_eq_true rfl, Nat.le_of_ble_eq_true rfl⟩) ⟨(xY_blind xM_blind), va_recv (q := (RJ4, TJ4, 4)) hK hP (q0 := 0) (ci := 1) rfl rfl, fun U hU hW => ⟨rfl, ⟨by rw [hU]; exact xW_sub hP [0, 1] rfl, va_K.moved hW.alike hK, (hD.sub [0, 1] (by decide) rfl).weaken (fun _ _ _ _ => trivial)⟩, xY_go hZ hS hU hW (fun q _ h => xA_in hD [0, 1] rfl q h)⟩⟩ rfl rfl hl.1 rfl (lv_room (Nat.le_of_ble_eq_true rfl)) dJ4_append_cf468_2 ⟨Nat.zero_le _, Nat.zero_le _⟩) hD hS [0, 1] rfl (fun H1 locs hP1 hD1 hk1 hS => ?_)
  obtain ⟨hP, hD⟩ := xW_join (wr := []) (w1 := [(q0, .inr (1, [.ref q1, .int (nI 0), .int (nI 0), .int (nI (cn + 1))])), (q1, .inl (cyB, 16, .inl (upd f cn (sb_b ch))))]) (wN := [(q0, .inr (1, [.ref q1, .int (nI 0), .int (nI 0), .int (nI (cn + 1))])), (q1, .inl (cyB, 16, .inl (upd f cn (sb_b ch))))]) hP hD [0, 1] [] [0, 1] rfl rfl (by decide) (by decide) hk1 hP1 hD1 (by decide) rfl
  clear hP1 hD1 hk1
  generalize H1 = H at hP hS ⊢
  refine lv_pop hx hb dJ4_append_cf468_5 rfl ?_
  refine lv_aload_n hx hb dJ4_append_cf468_6 rfl (lv_at hl 0 rfl) ?_
  have hP9 : va_P (dC, dI) vwCl [(q0, .inr (1, [.ref q1, .int (nI 0), .int (nI 0), .int (nI (cn + 1))])), (q1, .inl (cyB, 16, .inl (upd f cn (sb_b ch))))] _ := hP
  have hD9 : va_D A [(q0, .inr (1, [.ref q1, .int (nI 0), .int (nI 0), .int (nI (cn + 1))])), (q1, .inl (cyB, 16, .inl (upd f cn (sb_b ch))))] := hD
  exact W.aret (v := .ref q0) hx hb hr (by simp) (Or.inr ⟨_, rfl⟩) (fun t ht hW => ⟨⟨(), _, rfl, trivial, rfl, by rw [ht]; exact hP9, hD9⟩, hS.F ht⟩) hS.2.2 dJ4_append_cf468_7

theorem mJ5_init_d00df_methodLink_RJ5_3_objectInit : Cond.methodLink RJ5 3 objectInit ∈ wsJ5_init_d00df := List.mem_of_getElem? (i := 1) (by decide +kernel)
theorem mJ5_init_d00df_instanceMethod_objectInit : Cond.instanceMethod objectInit ∈ wsJ5_init_d00df := List.mem_of_getElem? (i := 2) (by decide +kernel)
theorem mJ5_init_d00df_code_objectInit_0xb1_1_none : Cond.code objectInit ⟨#[0xb1]⟩ 1 none ∈ wsJ5_init_d00df := List.mem_of_getElem? (i := 3) (by decide +kernel)
theorem mJ5_init_d00df_fieldLink_RJ5_18_java_lang_String_COMPACT_STRINGS_Z : Cond.fieldLink RJ5 18 "java/lang/String" "COMPACT_STRINGS" "Z" ∈ wsJ5_init_d00df := List.mem_of_getElem? (i := 4) (by decide +kernel)
theorem mJ5_init_d00df_arrayClass_byte : Cond.arrayClass .byte ∈ wsJ5_init_d00df := List.mem_of_getElem? (i := 5) (by decide +kernel)
theorem inJ5_init_d00df_J4 : ∀ w ∈ wsJ40, w ∈ wsJ5_init_d00df := by decide +kernel
theorem mJ5_init_d00df_fieldLink_RJ5_15_java_lang_AbstractStringBuilder_value_B : Cond.fieldLink RJ5 15 "java/lang/AbstractStringBuilder" "value" "[B" ∈ wsJ5_init_d00df := List.mem_of_getElem? (i := 6) (by decide +kernel)
theorem mJ5_init_d00df_fieldLink_RJ5_22_java_lang_AbstractStringBuilder_coder_B : Cond.fieldLink RJ5 22 "java/lang/AbstractStringBuilder" "coder" "B" ∈ wsJ5_init_d00df := List.mem_of_getElem? (i := 7) (by decide +kernel)
set_option maxHeartbeats 4000000 in
set_option maxRecDepth 100000 in
theorem kJ5_init_d00df (l : Launch) (dC : Nat → ClassId) (dI : Nat → Nat → Nat) (cyI cyZ cyJ cyD cyB : ClassId) (q0 : Nat) (sz : Nat) : Met l yJ5_init_d00df wsJ5_init_d00df ({ frames := 0, cells := 1, slots := 16, locals := 0 }) (va_Pc [.ref q0, .int (nI 16)] (xY (va_A [(q0, .inr (1, [.null, .int (nI 0), .int (nI 0), .int (nI 0)]))] sz) (xN (dC, dI) vwCl (xT cyI cyZ cyJ cyD cyB) [(q0, .inr (1, [.null, .int (nI 0), .int (nI 0), .int (nI 0)]))] sz))) (va_Qv (fun (u : Nat) => True) (fun u t => va_P (dC, dI) vwCl [(q0, .inr (1, [.ref u, .int (nI 0), .int (nI 0), .int (nI 0)])), (u, .inl (cyB, 16, .inl (fun _ => 0)))] t.heap ∧ va_D (va_A [(q0, .inr (1, [.null, .int (nI 0), .int (nI 0), .int (nI 0)]))] sz) [(q0, .inr (1, [.ref u, .int (nI 0), .int (nI 0), .int (nI 0)])), (u, .inl (cyB, 16, .inl (fun _ => 0)))]) (va_A [(q0, .inr (1, [.null, .int (nI 0), .int (nI 0), .int (nI 0)]))] sz)) 1 16 (va_A [(q0, .inr (1, [.null, .int (nI 0), .int (nI 0), .int (nI 0)]))] sz) := by
  refine Met.ofW (cc := cJ5_init_d00df) (maxL := 2) (ret := none) (by decide) rfl ?_
  intro p e s m args below meth c s₁ B hml hv
  obtain ⟨rfl, ⟨hsz, hP, hK, hD0⟩, hZ⟩ := hv
  have hx := B.exec
  have hb := B.bytes
  have hr := B.returns
  have hts := atoms_spec (ws := wsJ5_init_d00df) B.pre
  have hown : s.vm.findClass RJ5 = some m.cls := findClass_of_methodNamed B.named
  have hlocks := B.notSynchronized
  have hin : meth.name = "<init>" := (name_of_methodNamed B.named B.method).1
  subst hsz
  have hD := hD0.self (sz := s.heap.size)
  clear hD0
  generalize hAe : va_A [(q0, .inr (1, [.null, .int (nI 0), .int (nI 0), .int (nI 0)]))] s.heap.size = A at hD hZ ⊢
  have hA : ∀ q : Nat, s.heap.size ≤ q → A q := fun q h => by rw [← hAe]; exact Or.inr h
  have hS : va_S A s.heap s.heap [] := va_S.rf
  have hP : va_P (dC, dI) vwCl [(q0, .inr (1, [.null, .int (nI 0), .int (nI 0), .int (nI 0)]))] s.heap := hP
  have hl := lv_entry ([.ref q0, .int (nI 16)]) (n := 2) (Nat.le_of_ble_eq_true rfl)
  rw [lg_entry_eq]
  generalize (lg_sl ([.ref q0, .int (nI 16)]) ++ List.replicate (2 - (lg_sl ([.ref q0, .int (nI 16)])).length) Slot.unset).toArray = ls at hl ⊢
  have hl : lv_has ls 2 [(0, .ref q0), (1, .int (nI 16))] := hl
  refine lv_aload_n hx hb dJ5_init_d00df_0 rfl (lv_at hl 0 rfl) ?_
  refine W.objInit hx hb hown (hts _ mJ5_init_d00df_methodLink_RJ5_3_objectInit) (hts _ mJ5_init_d00df_instanceMethod_objectInit) (hts _ mJ5_init_d00df_code_objectInit_0xb1_1_none) rfl (by rw [hml]; exact hl.1) rfl dJ5_init_d00df_1 (Nat.le_of_ble_eq_true rfl) (Nat.le_of_ble_eq_true rfl) ?_
  refine W.eq (g2 := F0 m 4 ls []) rfl ?_
  refine va_gets hx hb hZ.1 hS hown (hts _ mJ5_init_d00df_fieldLink_RJ5_18_java_lang_String_COMPACT_STRINGS_Z) (fun _ h9 => h9) dJ5_init_d00df_4 ?_
  refine xz_eq (tgt := 25) hx hb dJ5_init_d00df_7 (by decide) (by omega) (fun c_1 => by omega) (fun c_1 => ?_)
  refine lv_aload_n hx hb dJ5_init_d00df_10 rfl (lv_at hl 0 rfl) ?_
  refine lv_iload_n hx hb dJ5_init_d00df_11 rfl (lv_at hl 1 rfl) ?_
  refine xi_newa (atype := .byte) (n := 16) (N' := 16) (a0 := (16, .inl (fun _ => 0))) hx hb (hts _ mJ5_init_d00df_arrayClass_byte) rfl hK hP hD hS hA 4 rfl (fun _ => rfl) (by omega) rfl (by show _ * 1 ≤ _; omega) (Nat.le_of_ble_eq_true rfl) (by show 0 + _ ≤ 16; omega) dJ5_init_d00df_12 (fun q_2 H hP hD hS => ?_)
  have hP : va_P (dC, dI) vwCl [(q0, .inr (1, [.null, .int (nI 0), .int (nI 0), .int (nI 0)])), (q_2, .inl (cyB, 16, .inl (fun _ => 0)))] H := hP
  have hD : va_D A [(q0, .inr (1, [.null, .int (nI 0), .int (nI 0), .int (nI 0)])), (q_2, .inl (cyB, 16, .inl (fun _ => 0)))] := hD
  refine W.widen (k := 1) (n := 16) (Nat.le_of_ble_eq_true rfl) (by first | exact Nat.le_of_ble_eq_true rfl | omega) ?_
  refine va_put (D := (dC, dI)) (ci := 1) (v := .ref q_2) (ty := .array .byte) (C := RJ4) (T := TJ4) (N := 4) hx hb hts inJ5_init_d00df_J4 tyJ4 tyJ4_ok nmJ4 hown hK hP hD hS 0 rfl rfl 0 (by decide) (hts _ mJ5_init_d00df_fieldLink_RJ5_15_java_lang_AbstractStringBuilder_value_B) (fun _ h9 => h9) rfl (by decide +kernel) rfl rfl (Nat.le_of_ble_eq_true rfl) dJ5_init_d00df_14 (fun H locs hP hD hS => ?_)
  have hP : va_P (dC, dI) vwCl [(q0, .inr (1, [.ref q_2, .int (nI 0), .int (nI 0), .int (nI 0)])), (q_2, .inl (cyB, 16, .inl (fun _ => 0)))] H := hP
  have hD : va_D A [(q0, .inr (1, [.ref q_2, .int (nI 0), .int (nI 0), .int (nI 0)])), (q_2, .inl (cyB, 16, .inl (fun _ => 0)))] := hD
  refine lv_aload_n hx hb dJ5_init_d00df_17 rfl (lv_at hl 0 rfl) ?_
  refine lv_iconst (v := nI 0) hx hb dJ5_init_d00df_18 (by decide) ?_
  refine va_put (D := (dC, dI)) (ci := 1) (v := .int (nI 0)) (ty := .byte) (C := RJ4) (T := TJ4) (N := 4) hx hb hts inJ5_init_d00df_J4 tyJ4 tyJ4_ok nmJ4 hown hK hP hD hS 0 rfl rfl 1 (by decide) (hts _ mJ5_init_d00df_fieldLink_RJ5_22_java_lang_AbstractStringBuilder_coder_B) (fun _ h9 => h9) rfl (by decide +kernel) rfl rfl (Nat.le_of_ble_eq_true rfl) dJ5_init_d00df_19 (fun H locs hP hD hS => ?_)
  have hP : va_P (dC, dI) vwCl [(q0, .inr (1, [.ref q_2, .int (nI 0), .int (nI 0), .int (nI 0)])), (q_2, .inl (cyB, 16, .inl (fun _ => 0)))] H := hP
  have hD : va_D A [(q0, .inr (1, [.ref q_2, .int (nI 0), .int (nI 0), .int (nI 0)])), (q_2, .inl (cyB, 16, .inl (fun _ => 0)))] := hD
  refine lv_goto (tgt := 38) hx hb dJ5_init_d00df_22 (by decide) ?_
  have hP9 := xW_sub (w1 := [(q0, .inr (1, [.ref q_2, .int (nI 0), .int (nI 0), .int (nI 0)])), (q_2, .inl (cyB, 16, .inl (fun _ => 0)))]) hP [0, 1] rfl
  have hD9 := hD.sub (ws' := [(q0, .inr (1, [.ref q_2, .int (nI 0), .int (nI 0), .int (nI 0)])), (q_2, .inl (cyB, 16, .inl (fun _ => 0)))]) [0, 1] (by decide) rfl
  exact W.vret hx hb hr (fun t ht hW => ⟨⟨(q_2), rfl, trivial, ⟨by rw [ht]; exact hP9, hD9⟩⟩, hS.F ht⟩) hS.2.2 dJ5_init_d00df_38

theorem mJ4_init_da8c8_initialized_RJ5 : Cond.initialized RJ5 ∈ wsJ4_init_da8c8 := List.mem_of_getElem? (i := 3) (by decide +kernel)
theorem mJ4_init_da8c8_methodLink_RJ4_1_yJ5_init_d00df : Cond.methodLink RJ4 1 yJ5_init_d00df ∈ wsJ4_init_da8c8 := List.mem_of_getElem? (i := 1) (by decide +kernel)
theorem mJ4_init_da8c8_instanceMethod_yJ5_init_d00df : Cond.instanceMethod yJ5_init_d00df ∈ wsJ4_init_da8c8 := List.mem_of_getElem? (i := 2) (by decide +kernel)
set_option maxHeartbeats 4000000 in
set_option maxRecDepth 100000 in
theorem kJ4_init_da8c8 (l : Launch) (dC : Nat → ClassId) (dI : Nat → Nat → Nat) (cyI cyZ cyJ cyD cyB : ClassId) (q0 : Nat) (sz : Nat) : Met l yJ4_init_da8c8 wsJ4_init_da8c8 ({ frames := 1, cells := 1, slots := 16, locals := 21 }) (va_Pc [.ref q0] (xY (va_A [(q0, .inr (1, [.null, .int (nI 0), .int (nI 0), .int (nI 0)]))] sz) (xN (dC, dI) vwCl (xT cyI cyZ cyJ cyD cyB) [(q0, .inr (1, [.null, .int (nI 0), .int (nI 0), .int (nI 0)]))] sz))) (va_Qv (fun (u : Nat) => True) (fun u t => va_P (dC, dI) vwCl [(q0, .inr (1, [.ref u, .int (nI 0), .int (nI 0), .int (nI 0)])), (u, .inl (cyB, 16, .inl (fun _ => 0)))] t.heap ∧ va_D (va_A [(q0, .inr (1, [.null, .int (nI 0), .int (nI 0), .int (nI 0)]))] sz) [(q0, .inr (1, [.ref u, .int (nI 0), .int (nI 0), .int (nI 0)])), (u, .inl (cyB, 16, .inl (fun _ => 0)))]) (va_A [(q0, .inr (1, [.null, .int (nI 0), .int (nI 0), .int (nI 0)]))] sz)) 1 16 (va_A [(q0, .inr (1, [.null, .int (nI 0), .int (nI 0), .int (nI 0)]))] sz) := by
  refine Met.ofW (cc := cJ4_init_da8c8) (maxL := 1) (ret := none) (by decide) rfl ?_
  intro p e s m args below meth c s₁ B hml hv
  obtain ⟨rfl, ⟨hsz, hP, hK, hD0⟩, hZ⟩ := hv
  have hx := B.exec
  have hb := B.bytes
  have hr := B.returns
  have hts := atoms_spec (ws := wsJ4_init_da8c8) B.pre
  have hown : s.vm.findClass RJ4 = some m.cls := findClass_of_methodNamed B.named
  have hlocks := B.notSynchronized
  have hin : meth.name = "<init>" := (name_of_methodNamed B.named B.method).1
  subst hsz
  have hD := hD0.self (sz := s.heap.size)
  clear hD0
  generalize hAe : va_A [(q0, .inr (1, [.null, .int (nI 0), .int (nI 0), .int (nI 0)]))] s.heap.size = A at hD hZ ⊢
  have hA : ∀ q : Nat, s.heap.size ≤ q → A q := fun q h => by rw [← hAe]; exact Or.inr h
  have hS : va_S A s.heap s.heap [] := va_S.rf
  have hP : va_P (dC, dI) vwCl [(q0, .inr (1, [.null, .int (nI 0), .int (nI 0), .int (nI 0)]))] s.heap := hP
  have hl := lv_entry ([.ref q0]) (n := 1) (Nat.le_of_ble_eq_true rfl)
  rw [lg_entry_eq]
  generalize (lg_sl ([.ref q0]) ++ List.replicate (1 - (lg_sl ([.ref q0])).length) Slot.unset).toArray = ls at hl ⊢
  have hl : lv_has ls 1 [(0, .ref q0)] := hl
  refine lv_aload_n hx hb dJ4_init_da8c8_0 rfl (lv_at hl 0 rfl) ?_
  refine lv_bipush (v := nI 16) hx hb dJ4_init_da8c8_1 (by decide) ?_
  refine xrN_v (va_runI (As := [.int (nI 16)]) (rest := []) ⟨hx, hb, hml, hown, hts⟩ (kJ5_init_d00df l dC dI cyI cyZ cyJ cyD cyB q0 H.size) (cwI 1 hts gJ4_init_da8c8_J5_init_d00df rfl rfl rfl (hts _ mJ4_init_da8c8_initialized_RJ5) (hts _ mJ4_init_da8c8_methodLink_RJ4_1_yJ5_init_d00df) (hts _ mJ4_init_da8c8_instanceMethod_yJ5_init_d00df) rfl (by decide +kernel) ⟨Nat.le_of_ble_eq_true rfl, Nat.le_of_ble_eq_true rfl⟩) ⟨(xY_blind xN_blind), fun U hU hW => ⟨rfl, ⟨by rw [hU], by rw [hU]; exact xW_sub hP [0] rfl, va_K.moved hW.alike hK, (hD.sub [0] (by decide) rfl).weaken (fun _ _ _ _ => trivial)⟩, xY_go hZ hS hU hW (fun q _ h => va_free hD hS hA [0] rfl q h)⟩⟩ rfl rfl hl.1 rfl (lv_room (Nat.le_of_ble_eq_true rfl)) dJ4_init_da8c8_3 ⟨Nat.le_of_ble_eq_true rfl, Nat.le_of_ble_eq_true rfl⟩) hD hS hA [0] rfl (fun u_2  H1 locs hP1 hD1 hk1 hS1 => ?_)
  obtain q_1 := u_2
  obtain ⟨hP, hD⟩ := va_join (wr := []) (w1 := [(q0, .inr (1, [.ref q_1, .int (nI 0), .int (nI 0), .int (nI 0)])), (q_1, .inl (cyB, 16, .inl (fun _ => 0)))]) hP hD [0] [] rfl rfl (by decide) (by decide) hk1 (va_free (wc := [(q0, .inr (1, [.null, .int (nI 0), .int (nI 0), .int (nI 0)]))]) hD hS hA [0] rfl) hP1 hD1
  clear hP1 hD1 hk1
  have hS := hS1
  clear hS1
  generalize H1 = H at hP hS ⊢
  have hP : va_P (dC, dI) vwCl [(q0, .inr (1, [.ref q_1, .int (nI 0), .int (nI 0), .int (nI 0)])), (q_1, .inl (cyB, 16, .inl (fun _ => 0)))] H := hP
  have hD : va_D A [(q0, .inr (1, [.ref q_1, .int (nI 0), .int (nI 0), .int (nI 0)])), (q_1, .inl (cyB, 16, .inl (fun _ => 0)))] := hD
  refine W.widen (k := 1) (n := 16) (Nat.le_of_ble_eq_true rfl) (by first | exact Nat.le_of_ble_eq_true rfl | omega) ?_
  have hP9 := xW_sub (w1 := [(q0, .inr (1, [.ref q_1, .int (nI 0), .int (nI 0), .int (nI 0)])), (q_1, .inl (cyB, 16, .inl (fun _ => 0)))]) hP [0, 1] rfl
  have hD9 := hD.sub (ws' := [(q0, .inr (1, [.ref q_1, .int (nI 0), .int (nI 0), .int (nI 0)])), (q_1, .inl (cyB, 16, .inl (fun _ => 0)))]) [0, 1] (by decide) rfl
  exact W.vret hx hb hr (fun t ht hW => ⟨⟨(q_1), rfl, trivial, ⟨by rw [ht]; exact hP9, hD9⟩⟩, hS.F ht⟩) hS.2.2 dJ4_init_da8c8_6
