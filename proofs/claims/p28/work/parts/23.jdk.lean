section XJ
variable {p : Program} {l : Launch} {e : Env} {R : Room} {s : State} {m : MethodId} {args : Array Value} {below : List Frame} {meth : Method} {c : Code} {H : Heap} {locs : List Loc} {cells slots : Nat} {Q : State → Prop}
variable {cc : ByteArray} {pc : Nat} {ls : Array Slot} {rest st : List Value} {D : va_G} {cl : List vw_C} {A : Nat → Prop} {a : Nat} {tys : List (ClassId × FieldType)} {ws wc : va_W} {H0 : Heap} {av : Array Value} {mc ms : Nat}
/-- the two statics that the text methods look at -/
def xCZ (A : Nat → Prop) (U : State) (H : Heap) : Prop := va_Z "java/lang/String" "COMPACT_STRINGS" "Z" (.int (nI 1)) A U H ∧ va_Zq "jdk/internal/util/Preconditions" "SIOOBE_FORMATTER" "Ljava/util/function/BiFunction;" A U H
def xY (A : Nat → Prop) (B : State → Prop) (U : State) : Prop := B U ∧ xCZ A U U.heap
theorem xY_blind {av : List Value} {A : Nat → Prop} {B : State → Prop} (hB : FrameBlind (va_Pc av B)) : FrameBlind (va_Pc av (xY A B)) := fun a U g mk q => ⟨q.1, (hB a U g mk ⟨q.1, q.2.1⟩).2, va_Z.moved (u := U) (U := U.calling g mk a) (Vm.Alike.refl U.vm) q.2.2.1, va_Zq.moved (u := U) (U := U.calling g mk a) (Vm.Alike.refl U.vm) q.2.2.2⟩
theorem xZ_nar {C n d : String} {v : Value} {A1 : Nat → Prop} {U : State} (h : va_Z C n d v A U H) (hA : ∀ q, q < H.size → A1 q → A q) : va_Z C n d v A1 U H := by
  obtain ⟨cf, kf, fi, f, a, cell, h1, h2, h3, h4, h5, h6, h7, h8⟩ := h
  exact ⟨cf, kf, fi, f, a, cell, h1, h2, h3, h4, h5, h6, h7, fun z => h8 (hA a (Array.getElem?_eq_some_iff.mp h5).1 z)⟩
theorem xZq_nar {C n d : String} {A1 : Nat → Prop} {U : State} (h : va_Zq C n d A U H) (hA : ∀ q, q < H.size → A1 q → A q) : va_Zq C n d A1 U H := by
  rcases h with h | ⟨t, h⟩
  · exact Or.inl (xZ_nar h hA)
  · exact Or.inr ⟨t, xZ_nar h hA⟩
theorem xY_go {A1 : Nat → Prop} {U : State} (hZ : xCZ A s s.heap) (hS : va_S A s.heap H locs) (hU : U.heap = H) (hW : s.WarmedH U.vm) (hA : ∀ q, q < H.size → A1 q → A q) : xCZ A1 U U.heap := by
  rw [hU]
  exact ⟨xZ_nar ((hZ.1.kept (fun a h1 h2 => hS.2.1 a h1 h2)).moved hW.alike) hA, xZq_nar ((hZ.2.kept (fun a h1 h2 => hS.2.1 a h1 h2)).moved hW.alike) hA⟩
theorem xCZ_sub {A1 : Nat → Prop} (hZ : xCZ A s H) (hA : ∀ q, q < H.size → A1 q → A q) : xCZ A1 s H := ⟨xZ_nar hZ.1 hA, xZq_nar hZ.2 hA⟩
theorem xrP_i {post : Int32 → Unit → Prop} (hr : va_Run p l e R s m args below meth c H locs cells slots 0 0 (F0 m pc ls st) rest (va_Qi post (fun _ _ => True) (fun _ => False) av) (fun _ => False)) (hP : va_P D cl ws H) (hS : va_S A H0 H locs) (kk : ∀ (r : Int32) (H1 : Heap) (locs1 : List Loc), post r () → va_P D cl ws H1 → va_S A H0 H1 locs1 → W p l e R s m args below meth c H1 locs1 cells slots Q (F0 m (pc + 3) ls (.int r :: rest))) : W p l e R s m args below meth c H locs cells slots Q (F0 m pc ls (st)) := va_calli hr hS (fun q _ h => h.elim) (fun q h => h.elim) (fun r u t H1 locs1 ht hvm hw hB hz hk hS1 => kk r H1 locs1 hw (hP.kept (fun k x hx => hk x.1 ((hP k x hx).lt) (fun h => h))) hS1)
theorem xrP_v {post : Unit → Prop} (hr : va_Run p l e R s m args below meth c H locs cells slots 0 0 (F0 m pc ls st) rest (va_Qv post (fun _ _ => True) (fun _ => False) av) (fun _ => False)) (hP : va_P D cl ws H) (hS : va_S A H0 H locs) (kk : ∀ (H1 : Heap) (locs1 : List Loc), post () → va_P D cl ws H1 → va_S A H0 H1 locs1 → W p l e R s m args below meth c H1 locs1 cells slots Q (F0 m (pc + 3) ls (rest))) : W p l e R s m args below meth c H locs cells slots Q (F0 m pc ls (st)) := va_callv hr hS (fun q _ h => h.elim) (fun q h => h.elim) (fun u t H1 locs1 ht hvm hw hB hz hk hS1 => kk H1 locs1 hw (hP.kept (fun k x hx => hk x.1 ((hP k x hx).lt) (fun h => h))) hS1)
theorem xrP_r {ra : Nat} (hr : va_Run p l e R s m args below meth c H locs cells slots 0 0 (F0 m pc ls st) rest (va_Qr (fun (_ : Unit) => True) (fun _ a _ => a = ra) (fun _ => False) av) (fun _ => False)) (hP : va_P D cl ws H) (hS : va_S A H0 H locs) (kk : ∀ (H1 : Heap) (locs1 : List Loc), va_P D cl ws H1 → va_S A H0 H1 locs1 → W p l e R s m args below meth c H1 locs1 cells slots Q (F0 m (pc + 3) ls (.ref ra :: rest))) : W p l e R s m args below meth c H locs cells slots Q (F0 m pc ls (st)) := va_callr hr hS (fun q _ h => h.elim) (fun q h => h.elim) (fun u r t H1 locs1 ht hvm hw hB hz hk hS1 => by have hB : r = ra := hB; subst hB; exact kk H1 locs1 (hP.kept (fun k x hx => hk x.1 ((hP k x hx).lt) (fun h => h))) hS1)
theorem xrM_r {ra : Nat} {w1 : va_W} (hr : va_Run p l e R s m args below meth c H locs cells slots 0 0 (F0 m pc ls st) rest (va_Qr (fun (_ : Unit) => True) (fun _ a t => a = ra ∧ va_P D cl w1 t.heap ∧ va_D (xA wc) w1) (xA wc) av) (xA wc)) (hD : va_D A ws) (hS : va_S A H0 H locs) (isC : List Nat) (hC : isC.map (fun i => ws[i]?) = wc.map some) (kk : ∀ (H1 : Heap) (locs1 : List Loc), va_P D cl w1 H1 → va_D (xA wc) w1 → (∀ q : Nat, q < H.size → ¬ xA wc q → H1[q]? = H[q]?) → va_S A H0 H1 locs1 → W p l e R s m args below meth c H1 locs1 cells slots Q (F0 m (pc + 3) ls (.ref ra :: rest))) : W p l e R s m args below meth c H locs cells slots Q (F0 m pc ls (st)) := va_callr hr hS (fun q _ h => xA_in hD isC hC q h) (xA_in hD isC hC) (fun u r t H1 locs1 ht hvm hw hB hz hk hS1 => by obtain ⟨hr1, hB1, hB2⟩ := hB; subst hr1; exact kk H1 locs1 (ht ▸ hB1) hB2 hk hS1)
theorem xrN_v {U : Type} {post : U → Prop} {w1 : U → va_W} (hr : va_Run p l e R s m args below meth c H locs cells slots mc ms (F0 m pc ls st) rest (va_Qv post (fun u t => va_P D cl (w1 u) t.heap ∧ va_D (va_A wc H.size) (w1 u)) (va_A wc H.size) av) (va_A wc H.size)) (hD : va_D A ws) (hS : va_S A H0 H locs) (hA : ∀ q, H0.size ≤ q → A q) (isC : List Nat) (hC : isC.map (fun i => ws[i]?) = wc.map some) (kk : ∀ (u : U) (H1 : Heap) (locs1 : List Loc), va_P D cl (w1 u) H1 → va_D (va_A wc H.size) (w1 u) → (∀ q : Nat, q < H.size → ¬ va_A wc H.size q → H1[q]? = H[q]?) → va_S A H0 H1 locs1 → W p l e R s m args below meth c H1 locs1 (cells + mc) (slots + ms) Q (F0 m (pc + 3) ls (rest))) : W p l e R s m args below meth c H locs cells slots Q (F0 m pc ls (st)) := va_callv hr hS (fun q _ h => va_free hD hS hA isC hC q h) (va_free hD hS hA isC hC) (fun u t H1 locs1 ht hvm hw hB hz hk hS1 => kk u H1 locs1 (ht ▸ hB.1) hB.2 hk hS1)
theorem xrN_r {U : Type} {post : U → Prop} {w1 : U → Nat → va_W} (hr : va_Run p l e R s m args below meth c H locs cells slots mc ms (F0 m pc ls st) rest (va_Qr post (fun u a t => va_P D cl (w1 u a) t.heap ∧ va_D (va_A wc H.size) (w1 u a)) (va_A wc H.size) av) (va_A wc H.size)) (hD : va_D A ws) (hS : va_S A H0 H locs) (hA : ∀ q, H0.size ≤ q → A q) (isC : List Nat) (hC : isC.map (fun i => ws[i]?) = wc.map some) (kk : ∀ (u : U) (ra : Nat) (H1 : Heap) (locs1 : List Loc), va_P D cl (w1 u ra) H1 → va_D (va_A wc H.size) (w1 u ra) → (∀ q : Nat, q < H.size → ¬ va_A wc H.size q → H1[q]? = H[q]?) → va_S A H0 H1 locs1 → W p l e R s m args below meth c H1 locs1 (cells + mc) (slots + ms) Q (F0 m (pc + 3) ls (.ref ra :: rest))) : W p l e R s m args below meth c H locs cells slots Q (F0 m pc ls (st)) := va_callr hr hS (fun q _ h => va_free hD hS hA isC hC q h) (va_free hD hS hA isC hC) (fun u r t H1 locs1 ht hvm hw hB hz hk hS1 => kk u r H1 locs1 (ht ▸ hB.1) hB.2 hk hS1)
theorem xj_le {a b : Nat} (h : a ≤ b) (hb : b < 2 ^ 30) : nI a - nI b ≤ 0 := by rw [Int32.le_iff_toInt_le, pk_sub_toInt (by omega) hb, Int32.toInt_zero]; omega
/-- the bytes of a text that is being written: the first k letters of g -/
def txF (g : Nat → Nat) (k : Nat) : Nat → Int32 := fun j => if j < k then sb_b (g j) else 0
theorem txF_0 (g : Nat → Nat) : txF g 0 = fun _ => 0 := by funext j; unfold txF; rw [if_neg (by omega)]
theorem txF_s (g : Nat → Nat) (k : Nat) : upd (txF g k) k (sb_b (g k)) = txF g (k + 1) := by
  funext j; unfold txF upd
  by_cases h : j = k
  · subst h; rw [if_pos rfl, if_pos (by omega)]
  · rw [if_neg h]; show (if j < k then sb_b (g j) else 0) = _; by_cases h2 : j < k
    · rw [if_pos h2, if_pos (by omega)]
    · rw [if_neg h2, if_neg (by omega)]
theorem txF_fit (g : Nat → Nat) (k : Nat) : sb_Fit (txF g k) := fun j => by
  unfold txF; split
  · exact sb_fitB _
  · exact sb_fit0 j
theorem txF_cpy (g : Nat → Nat) (k : Nat) : va_cpy (txF g k) (fun _ => 0) 0 0 k = txF g k := by
  funext j; unfold va_cpy txF
  by_cases h : j < k
  · rw [if_pos ⟨by omega, by omega⟩, Nat.sub_zero, Nat.zero_add]
  · rw [if_neg (by omega), if_neg h]
end XJ

theorem inJ5_length_8abf5_J4 : ∀ w ∈ wsJ40, w ∈ wsJ5_length_8abf5 := by decide +kernel
theorem mJ5_length_8abf5_fieldLink_RJ5_79_java_lang_AbstractStringBuilder_count_I : Cond.fieldLink RJ5 79 "java/lang/AbstractStringBuilder" "count" "I" ∈ wsJ5_length_8abf5 := List.mem_of_getElem? (i := 1) (by decide +kernel)
set_option maxHeartbeats 4000000 in
set_option maxRecDepth 100000 in
theorem kJ5_length_8abf5 (l : Launch) (dC : Nat → ClassId) (dI : Nat → Nat → Nat) (cyI cyZ cyJ cyD cyB : ClassId) (q0 q1 : Nat) (cn : Nat) (f : Nat → Int32) : Met l yJ5_length_8abf5 wsJ5_length_8abf5 ({ frames := 0, cells := 0, slots := 0, locals := 0 }) (va_Pc [.ref q0] (xP (dC, dI) vwCl (xT cyI cyZ cyJ cyD cyB) [(q0, .inr (1, [.ref q1, .int (nI 0), .int (nI 0), .int (nI cn)])), (q1, .inl (cyB, 16, .inl f))])) (va_Qi (fun (r : Int32) (u : Unit) => r = nI cn) (fun _ _ => True) (fun _ => False)) 0 0 (fun _ => False) := by
  refine Met.ofW (cc := cJ5_length_8abf5) (maxL := 1) (ret := (some .int)) (by decide) rfl ?_
  intro p e s m args below meth c s₁ B hml hv
  obtain ⟨rfl, hP, hK⟩ := hv
  have hx := B.exec
  have hb := B.bytes
  have hr := B.returns
  have hts := atoms_spec (ws := wsJ5_length_8abf5) B.pre
  have hown : s.vm.findClass RJ5 = some m.cls := findClass_of_methodNamed B.named
  have hlocks := B.notSynchronized
  have hS : va_S (fun _ => False) s.heap s.heap [] := va_S.rf
  have hP : va_P (dC, dI) vwCl [(q0, .inr (1, [.ref q1, .int (nI 0), .int (nI 0), .int (nI cn)])), (q1, .inl (cyB, 16, .inl f))] s.heap := hP
  have hl := lv_entry ([.ref q0]) (n := 1) (Nat.le_of_ble_eq_true rfl)
  rw [lg_entry_eq]
  generalize (lg_sl ([.ref q0]) ++ List.replicate (1 - (lg_sl ([.ref q0])).length) Slot.unset).toArray = ls at hl ⊢
  have hl : lv_has ls 1 [(0, .ref q0)] := hl
  refine lv_aload_n hx hb dJ5_length_8abf5_0 rfl (lv_at hl 0 rfl) ?_
  refine va_get (D := (dC, dI)) (ci := 1) (v := .int (nI cn)) (C := RJ4) (T := TJ4) (N := 4) hx hb hts inJ5_length_8abf5_J4 hown hK hP 0 rfl rfl 3 (by decide) (hts _ mJ5_length_8abf5_fieldLink_RJ5_79_java_lang_AbstractStringBuilder_count_I) (fun _ h9 => h9) rfl dJ5_length_8abf5_1 ?_
  exact W.iret (v := nI cn) hx hb hr (fun t ht hW => ⟨⟨nI cn, (), rfl, rfl, trivial⟩, hS.F ht⟩) hS.2.2 dJ5_length_8abf5_4

theorem inJ5_getValue_6d5f1_J4 : ∀ w ∈ wsJ40, w ∈ wsJ5_getValue_6d5f1 := by decide +kernel
theorem mJ5_getValue_6d5f1_fieldLink_RJ5_15_java_lang_AbstractStringBuilder_value_B : Cond.fieldLink RJ5 15 "java/lang/AbstractStringBuilder" "value" "[B" ∈ wsJ5_getValue_6d5f1 := List.mem_of_getElem? (i := 1) (by decide +kernel)
set_option maxHeartbeats 4000000 in
set_option maxRecDepth 100000 in
theorem kJ5_getValue_6d5f1 (l : Launch) (dC : Nat → ClassId) (dI : Nat → Nat → Nat) (cyI cyZ cyJ cyD cyB : ClassId) (q0 q1 : Nat) (cn : Nat) (f : Nat → Int32) : Met l yJ5_getValue_6d5f1 wsJ5_getValue_6d5f1 ({ frames := 0, cells := 0, slots := 0, locals := 0 }) (va_Pc [.ref q0] (xP (dC, dI) vwCl (xT cyI cyZ cyJ cyD cyB) [(q0, .inr (1, [.ref q1, .int (nI 0), .int (nI 0), .int (nI cn)])), (q1, .inl (cyB, 16, .inl f))])) (va_Qr (fun (_ : Unit) => True) (fun _ a _ => a = q1) (fun _ => False)) 0 0 (fun _ => False) := by
  refine Met.ofW (cc := cJ5_getValue_6d5f1) (maxL := 1) (ret := (some (.array .byte))) (by decide) rfl ?_
  intro p e s m args below meth c s₁ B hml hv
  obtain ⟨rfl, hP, hK⟩ := hv
  have hx := B.exec
  have hb := B.bytes
  have hr := B.returns
  have hts := atoms_spec (ws := wsJ5_getValue_6d5f1) B.pre
  have hown : s.vm.findClass RJ5 = some m.cls := findClass_of_methodNamed B.named
  have hlocks := B.notSynchronized
  have hS : va_S (fun _ => False) s.heap s.heap [] := va_S.rf
  have hP : va_P (dC, dI) vwCl [(q0, .inr (1, [.ref q1, .int (nI 0), .int (nI 0), .int (nI cn)])), (q1, .inl (cyB, 16, .inl f))] s.heap := hP
  have hl := lv_entry ([.ref q0]) (n := 1) (Nat.le_of_ble_eq_true rfl)
  rw [lg_entry_eq]
  generalize (lg_sl ([.ref q0]) ++ List.replicate (1 - (lg_sl ([.ref q0])).length) Slot.unset).toArray = ls at hl ⊢
  have hl : lv_has ls 1 [(0, .ref q0)] := hl
  refine lv_aload_n hx hb dJ5_getValue_6d5f1_0 rfl (lv_at hl 0 rfl) ?_
  refine va_get (D := (dC, dI)) (ci := 1) (v := .ref q1) (C := RJ4) (T := TJ4) (N := 4) hx hb hts inJ5_getValue_6d5f1_J4 hown hK hP 0 rfl rfl 0 (by decide) (hts _ mJ5_getValue_6d5f1_fieldLink_RJ5_15_java_lang_AbstractStringBuilder_value_B) (fun _ h9 => h9) rfl dJ5_getValue_6d5f1_1 ?_
  exact W.aret (v := .ref q1) hx hb hr (by simp) (Or.inr ⟨_, rfl⟩) (fun t ht hW => ⟨⟨(), _, rfl, trivial, rfl⟩, hS.F ht⟩) hS.2.2 dJ5_getValue_6d5f1_4

theorem mJ5_isLatin1_aae02_fieldLink_RJ5_18_java_lang_String_COMPACT_STRINGS_Z : Cond.fieldLink RJ5 18 "java/lang/String" "COMPACT_STRINGS" "Z" ∈ wsJ5_isLatin1_aae02 := List.mem_of_getElem? (i := 1) (by decide +kernel)
theorem inJ5_isLatin1_aae02_J4 : ∀ w ∈ wsJ40, w ∈ wsJ5_isLatin1_aae02 := by decide +kernel
theorem mJ5_isLatin1_aae02_fieldLink_RJ5_22_java_lang_AbstractStringBuilder_coder_B : Cond.fieldLink RJ5 22 "java/lang/AbstractStringBuilder" "coder" "B" ∈ wsJ5_isLatin1_aae02 := List.mem_of_getElem? (i := 2) (by decide +kernel)
set_option maxHeartbeats 4000000 in
set_option maxRecDepth 100000 in
theorem kJ5_isLatin1_aae02 (l : Launch) (dC : Nat → ClassId) (dI : Nat → Nat → Nat) (cyI cyZ cyJ cyD cyB : ClassId) (q0 q1 : Nat) (cn : Nat) (f : Nat → Int32) : Met l yJ5_isLatin1_aae02 wsJ5_isLatin1_aae02 ({ frames := 0, cells := 0, slots := 0, locals := 0 }) (va_Pc [.ref q0] (xY (fun _ => False) (xP (dC, dI) vwCl (xT cyI cyZ cyJ cyD cyB) [(q0, .inr (1, [.ref q1, .int (nI 0), .int (nI 0), .int (nI cn)])), (q1, .inl (cyB, 16, .inl f))]))) (va_Qi (fun (r : Int32) (u : Unit) => r = nI 1) (fun _ _ => True) (fun _ => False)) 0 0 (fun _ => False) := by
  refine Met.ofW (cc := cJ5_isLatin1_aae02) (maxL := 1) (ret := (some .boolean)) (by decide) rfl ?_
  intro p e s m args below meth c s₁ B hml hv
  obtain ⟨rfl, ⟨hP, hK⟩, hZ⟩ := hv
  have hx := B.exec
  have hb := B.bytes
  have hr := B.returns
  have hts := atoms_spec (ws := wsJ5_isLatin1_aae02) B.pre
  have hown : s.vm.findClass RJ5 = some m.cls := findClass_of_methodNamed B.named
  have hlocks := B.notSynchronized
  have hS : va_S (fun _ => False) s.heap s.heap [] := va_S.rf
  have hP : va_P (dC, dI) vwCl [(q0, .inr (1, [.ref q1, .int (nI 0), .int (nI 0), .int (nI cn)])), (q1, .inl (cyB, 16, .inl f))] s.heap := hP
  have hl := lv_entry ([.ref q0]) (n := 1) (Nat.le_of_ble_eq_true rfl)
  rw [lg_entry_eq]
  generalize (lg_sl ([.ref q0]) ++ List.replicate (1 - (lg_sl ([.ref q0])).length) Slot.unset).toArray = ls at hl ⊢
  have hl : lv_has ls 1 [(0, .ref q0)] := hl
  refine va_gets hx hb hZ.1 hS hown (hts _ mJ5_isLatin1_aae02_fieldLink_RJ5_18_java_lang_String_COMPACT_STRINGS_Z) (fun _ h9 => h9) dJ5_isLatin1_aae02_0 ?_
  refine xz_eq (tgt := 17) hx hb dJ5_isLatin1_aae02_3 (by decide) (by omega) (fun c_1 => by omega) (fun c_1 => ?_)
  refine lv_aload_n hx hb dJ5_isLatin1_aae02_6 rfl (lv_at hl 0 rfl) ?_
  refine va_get (D := (dC, dI)) (ci := 1) (v := .int (nI 0)) (C := RJ4) (T := TJ4) (N := 4) hx hb hts inJ5_isLatin1_aae02_J4 hown hK hP 0 rfl rfl 1 (by decide) (hts _ mJ5_isLatin1_aae02_fieldLink_RJ5_22_java_lang_AbstractStringBuilder_coder_B) (fun _ h9 => h9) rfl dJ5_isLatin1_aae02_7 ?_
  refine xz_ne (tgt := 17) hx hb dJ5_isLatin1_aae02_10 (by decide) (by omega) (fun c_2 => by omega) (fun c_2 => ?_)
  refine lv_iconst (v := nI 1) hx hb dJ5_isLatin1_aae02_13 (by decide) ?_
  refine lv_goto (tgt := 18) hx hb dJ5_isLatin1_aae02_14 (by decide) ?_
  exact W.zret (v := nI 1) (ty := .boolean) hx hb hr rfl (fun t ht hW => ⟨⟨nI 1, (), rfl, rfl, trivial⟩, hS.F ht⟩) hS.2.2 dJ5_isLatin1_aae02_18

theorem mJ0_coder_7d493_fieldLink_RJ0_38_java_lang_String_COMPACT_STRINGS_Z : Cond.fieldLink RJ0 38 "java/lang/String" "COMPACT_STRINGS" "Z" ∈ wsJ0_coder_7d493 := List.mem_of_getElem? (i := 1) (by decide +kernel)
theorem inJ0_coder_7d493_J0 : ∀ w ∈ wsJ00, w ∈ wsJ0_coder_7d493 := by decide +kernel
theorem mJ0_coder_7d493_fieldLink_RJ0_15_java_lang_String_coder_B : Cond.fieldLink RJ0 15 "java/lang/String" "coder" "B" ∈ wsJ0_coder_7d493 := List.mem_of_getElem? (i := 2) (by decide +kernel)
set_option maxHeartbeats 4000000 in
set_option maxRecDepth 100000 in
theorem kJ0_coder_7d493 (l : Launch) (dC : Nat → ClassId) (dI : Nat → Nat → Nat) (cyI cyZ cyJ cyD cyB : ClassId) (s0 s1 : Nat) (n : Nat) (f : Nat → Int32) : Met l yJ0_coder_7d493 wsJ0_coder_7d493 ({ frames := 0, cells := 0, slots := 0, locals := 0 }) (va_Pc [.ref s0] (xY (fun _ => False) (xP (dC, dI) vwCl (xT cyI cyZ cyJ cyD cyB) [(s0, .inr (0, [.ref s1, .int (nI 0), .int (nI 0), .int (nI 0)])), (s1, .inl (cyB, n, .inl f))]))) (va_Qi (fun (r : Int32) (u : Unit) => r = nI 0) (fun _ _ => True) (fun _ => False)) 0 0 (fun _ => False) := by
  refine Met.ofW (cc := cJ0_coder_7d493) (maxL := 1) (ret := (some .byte)) (by decide) rfl ?_
  intro p e s m args below meth c s₁ B hml hv
  obtain ⟨rfl, ⟨hP, hK⟩, hZ⟩ := hv
  have hx := B.exec
  have hb := B.bytes
  have hr := B.returns
  have hts := atoms_spec (ws := wsJ0_coder_7d493) B.pre
  have hown : s.vm.findClass RJ0 = some m.cls := findClass_of_methodNamed B.named
  have hlocks := B.notSynchronized
  have hS : va_S (fun _ => False) s.heap s.heap [] := va_S.rf
  have hP : va_P (dC, dI) vwCl [(s0, .inr (0, [.ref s1, .int (nI 0), .int (nI 0), .int (nI 0)])), (s1, .inl (cyB, n, .inl f))] s.heap := hP
  have hl := lv_entry ([.ref s0]) (n := 1) (Nat.le_of_ble_eq_true rfl)
  rw [lg_entry_eq]
  generalize (lg_sl ([.ref s0]) ++ List.replicate (1 - (lg_sl ([.ref s0])).length) Slot.unset).toArray = ls at hl ⊢
  have hl : lv_has ls 1 [(0, .ref s0)] := hl
  refine va_gets hx hb hZ.1 hS hown (hts _ mJ0_coder_7d493_fieldLink_RJ0_38_java_lang_String_COMPACT_STRINGS_Z) (fun _ h9 => h9) dJ0_coder_7d493_0 ?_
  refine xz_eq (tgt := 13) hx hb dJ0_coder_7d493_3 (by decide) (by omega) (fun c_1 => by omega) (fun c_1 => ?_)
  refine lv_aload_n hx hb dJ0_coder_7d493_6 rfl (lv_at hl 0 rfl) ?_
  refine va_get (D := (dC, dI)) (ci := 0) (v := .int (nI 0)) (C := RJ0) (T := TJ0) (N := 4) hx hb hts inJ0_coder_7d493_J0 hown hK hP 0 rfl rfl 1 (by decide) (hts _ mJ0_coder_7d493_fieldLink_RJ0_15_java_lang_String_coder_B) (fun _ h9 => h9) rfl dJ0_coder_7d493_7 ?_
  refine lv_goto (tgt := 14) hx hb dJ0_coder_7d493_10 (by decide) ?_
  exact W.zret (v := nI 0) (ty := .byte) hx hb hr rfl (fun t ht hW => ⟨⟨nI 0, (), rfl, rfl, trivial⟩, hS.F ht⟩) hS.2.2 dJ0_coder_7d493_14

theorem mJ0_isLatin1_aae02_fieldLink_RJ0_38_java_lang_String_COMPACT_STRINGS_Z : Cond.fieldLink RJ0 38 "java/lang/String" "COMPACT_STRINGS" "Z" ∈ wsJ0_isLatin1_aae02 := List.mem_of_getElem? (i := 1) (by decide +kernel)
theorem inJ0_isLatin1_aae02_J0 : ∀ w ∈ wsJ00, w ∈ wsJ0_isLatin1_aae02 := by decide +kernel
theorem mJ0_isLatin1_aae02_fieldLink_RJ0_15_java_lang_String_coder_B : Cond.fieldLink RJ0 15 "java/lang/String" "coder" "B" ∈ wsJ0_isLatin1_aae02 := List.mem_of_getElem? (i := 2) (by decide +kernel)
set_option maxHeartbeats 4000000 in
set_option maxRecDepth 100000 in
theorem kJ0_isLatin1_aae02 (l : Launch) (dC : Nat → ClassId) (dI : Nat → Nat → Nat) (cyI cyZ cyJ cyD cyB : ClassId) (s0 s1 : Nat) (n : Nat) (f : Nat → Int32) : Met l yJ0_isLatin1_aae02 wsJ0_isLatin1_aae02 ({ frames := 0, cells := 0, slots := 0, locals := 0 }) (va_Pc [.ref s0] (xY (fun _ => False) (xP (dC, dI) vwCl (xT cyI cyZ cyJ cyD cyB) [(s0, .inr (0, [.ref s1, .int (nI 0), .int (nI 0), .int (nI 0)])), (s1, .inl (cyB, n, .inl f))]))) (va_Qi (fun (r : Int32) (u : Unit) => r = nI 1) (fun _ _ => True) (fun _ => False)) 0 0 (fun _ => False) := by
  refine Met.ofW (cc := cJ0_isLatin1_aae02) (maxL := 1) (ret := (some .boolean)) (by decide) rfl ?_
  intro p e s m args below meth c s₁ B hml hv
  obtain ⟨rfl, ⟨hP, hK⟩, hZ⟩ := hv
  have hx := B.exec
  have hb := B.bytes
  have hr := B.returns
  have hts := atoms_spec (ws := wsJ0_isLatin1_aae02) B.pre
  have hown : s.vm.findClass RJ0 = some m.cls := findClass_of_methodNamed B.named
  have hlocks := B.notSynchronized
  have hS : va_S (fun _ => False) s.heap s.heap [] := va_S.rf
  have hP : va_P (dC, dI) vwCl [(s0, .inr (0, [.ref s1, .int (nI 0), .int (nI 0), .int (nI 0)])), (s1, .inl (cyB, n, .inl f))] s.heap := hP
  have hl := lv_entry ([.ref s0]) (n := 1) (Nat.le_of_ble_eq_true rfl)
  rw [lg_entry_eq]
  generalize (lg_sl ([.ref s0]) ++ List.replicate (1 - (lg_sl ([.ref s0])).length) Slot.unset).toArray = ls at hl ⊢
  have hl : lv_has ls 1 [(0, .ref s0)] := hl
  refine va_gets hx hb hZ.1 hS hown (hts _ mJ0_isLatin1_aae02_fieldLink_RJ0_38_java_lang_String_COMPACT_STRINGS_Z) (fun _ h9 => h9) dJ0_isLatin1_aae02_0 ?_
  refine xz_eq (tgt := 17) hx hb dJ0_isLatin1_aae02_3 (by decide) (by omega) (fun c_1 => by omega) (fun c_1 => ?_)
  refine lv_aload_n hx hb dJ0_isLatin1_aae02_6 rfl (lv_at hl 0 rfl) ?_
  refine va_get (D := (dC, dI)) (ci := 0) (v := .int (nI 0)) (C := RJ0) (T := TJ0) (N := 4) hx hb hts inJ0_isLatin1_aae02_J0 hown hK hP 0 rfl rfl 1 (by decide) (hts _ mJ0_isLatin1_aae02_fieldLink_RJ0_15_java_lang_String_coder_B) (fun _ h9 => h9) rfl dJ0_isLatin1_aae02_7 ?_
  refine xz_ne (tgt := 17) hx hb dJ0_isLatin1_aae02_10 (by decide) (by omega) (fun c_2 => by omega) (fun c_2 => ?_)
  refine lv_iconst (v := nI 1) hx hb dJ0_isLatin1_aae02_13 (by decide) ?_
  refine lv_goto (tgt := 18) hx hb dJ0_isLatin1_aae02_14 (by decide) ?_
  exact W.zret (v := nI 1) (ty := .boolean) hx hb hr rfl (fun t ht hW => ⟨⟨nI 1, (), rfl, rfl, trivial⟩, hS.F ht⟩) hS.2.2 dJ0_isLatin1_aae02_18

theorem inJ5_ensureCapacityInternal_d00df_J4 : ∀ w ∈ wsJ40, w ∈ wsJ5_ensureCapacityInternal_d00df := by decide +kernel
theorem mJ5_ensureCapacityInternal_d00df_fieldLink_RJ5_15_java_lang_AbstractStringBuilder_value_B : Cond.fieldLink RJ5 15 "java/lang/AbstractStringBuilder" "value" "[B" ∈ wsJ5_ensureCapacityInternal_d00df := List.mem_of_getElem? (i := 1) (by decide +kernel)
theorem mJ5_ensureCapacityInternal_d00df_fieldLink_RJ5_22_java_lang_AbstractStringBuilder_coder_B : Cond.fieldLink RJ5 22 "java/lang/AbstractStringBuilder" "coder" "B" ∈ wsJ5_ensureCapacityInternal_d00df := List.mem_of_getElem? (i := 2) (by decide +kernel)
set_option maxHeartbeats 4000000 in
set_option maxRecDepth 100000 in
theorem kJ5_ensureCapacityInternal_d00df (l : Launch) (dC : Nat → ClassId) (dI : Nat → Nat → Nat) (cyI cyZ cyJ cyD cyB : ClassId) (q0 q1 : Nat) (cn : Nat) (f : Nat → Int32) (mn : Nat) (hmn : mn ≤ 16) : Met l yJ5_ensureCapacityInternal_d00df wsJ5_ensureCapacityInternal_d00df ({ frames := 0, cells := 0, slots := 0, locals := 0 }) (va_Pc [.ref q0, .int (nI mn)] (xP (dC, dI) vwCl (xT cyI cyZ cyJ cyD cyB) [(q0, .inr (1, [.ref q1, .int (nI 0), .int (nI 0), .int (nI cn)])), (q1, .inl (cyB, 16, .inl f))])) (va_Qv (fun (u : Unit) => True) (fun _ _ => True) (fun _ => False)) 0 0 (fun _ => False) := by
  refine Met.ofW (cc := cJ5_ensureCapacityInternal_d00df) (maxL := 3) (ret := none) (by decide) rfl ?_
  intro p e s m args below meth c s₁ B hml hv
  obtain ⟨rfl, hP, hK⟩ := hv
  have hx := B.exec
  have hb := B.bytes
  have hr := B.returns
  have hts := atoms_spec (ws := wsJ5_ensureCapacityInternal_d00df) B.pre
  have hown : s.vm.findClass RJ5 = some m.cls := findClass_of_methodNamed B.named
  have hlocks := B.notSynchronized
  have hS : va_S (fun _ => False) s.heap s.heap [] := va_S.rf
  have hP : va_P (dC, dI) vwCl [(q0, .inr (1, [.ref q1, .int (nI 0), .int (nI 0), .int (nI cn)])), (q1, .inl (cyB, 16, .inl f))] s.heap := hP
  have hl := lv_entry ([.ref q0, .int (nI mn)]) (n := 3) (Nat.le_of_ble_eq_true rfl)
  rw [lg_entry_eq]
  generalize (lg_sl ([.ref q0, .int (nI mn)]) ++ List.replicate (3 - (lg_sl ([.ref q0, .int (nI mn)])).length) Slot.unset).toArray = ls at hl ⊢
  have hl : lv_has ls 3 [(0, .ref q0), (1, .int (nI mn))] := hl
  refine lv_aload_n hx hb dJ5_ensureCapacityInternal_d00df_0 rfl (lv_at hl 0 rfl) ?_
  refine va_get (D := (dC, dI)) (ci := 1) (v := .ref q1) (C := RJ4) (T := TJ4) (N := 4) hx hb hts inJ5_ensureCapacityInternal_d00df_J4 hown hK hP 0 rfl rfl 0 (by decide) (hts _ mJ5_ensureCapacityInternal_d00df_fieldLink_RJ5_15_java_lang_AbstractStringBuilder_value_B) (fun _ h9 => h9) rfl dJ5_ensureCapacityInternal_d00df_1 ?_
  refine va_alen hx hb hK hP 1 4 rfl rfl (v := nI 16) rfl dJ5_ensureCapacityInternal_d00df_4 ?_
  refine lv_aload_n hx hb dJ5_ensureCapacityInternal_d00df_5 rfl (lv_at hl 0 rfl) ?_
  refine va_get (D := (dC, dI)) (ci := 1) (v := .int (nI 0)) (C := RJ4) (T := TJ4) (N := 4) hx hb hts inJ5_ensureCapacityInternal_d00df_J4 hown hK hP 0 rfl rfl 1 (by decide) (hts _ mJ5_ensureCapacityInternal_d00df_fieldLink_RJ5_22_java_lang_AbstractStringBuilder_coder_B) (fun _ h9 => h9) rfl dJ5_ensureCapacityInternal_d00df_6 ?_
  refine lv_ishr hx hb dJ5_ensureCapacityInternal_d00df_9 ?_
  rw [show nI 16 >>> (nI 0 &&& 31) = nI 16 from sb_shr0 _]
  refine lv_istore_n (lv' := [(2, .int (nI 16)), (0, .ref q0), (1, .int (nI mn))]) hx hb dJ5_ensureCapacityInternal_d00df_10 rfl hl (by decide) rfl (fun ls hl => ?_)
  refine lv_iload_n hx hb dJ5_ensureCapacityInternal_d00df_11 rfl (lv_at hl 2 rfl) ?_
  refine lv_iload_n hx hb dJ5_ensureCapacityInternal_d00df_12 rfl (lv_at hl 0 rfl) ?_
  refine lv_isub hx hb dJ5_ensureCapacityInternal_d00df_13 ?_
  refine lv_if_le (tgt := 38) hx hb dJ5_ensureCapacityInternal_d00df_14 (by decide) (fun c_1 => ?_) (fun c_1 => absurd (xj_le (by omega) (by decide)) c_1)
  exact W.vret hx hb hr (fun t ht hW => ⟨⟨(), rfl, trivial, trivial⟩, hS.F ht⟩) hS.2.2 dJ5_ensureCapacityInternal_d00df_38

set_option maxHeartbeats 4000000 in
set_option maxRecDepth 100000 in
theorem kJ4_length_8abf5 (l : Launch) (dC : Nat → ClassId) (dI : Nat → Nat → Nat) (cyI cyZ cyJ cyD cyB : ClassId) (q0 q1 : Nat) (cn : Nat) (f : Nat → Int32) : Met l yJ4_length_8abf5 wsJ4_length_8abf5 ({ frames := 1, cells := 0, slots := 0, locals := 20 }) (va_Pc [.ref q0] (xP (dC, dI) vwCl (xT cyI cyZ cyJ cyD cyB) [(q0, .inr (1, [.ref q1, .int (nI 0), .int (nI 0), .int (nI cn)])), (q1, .inl (cyB, 16, .inl f))])) (va_Qi (fun (r : Int32) (u : Unit) => r = nI cn) (fun _ _ => True) (fun _ => False)) 0 0 (fun _ => False) := by
  refine Met.ofW (cc := cJ4_length_8abf5) (maxL := 1) (ret := (some .int)) (by decide) rfl ?_
  intro p e s m args below meth c s₁ B hml hv
  obtain ⟨rfl, hP, hK⟩ := hv
  have hx := B.exec
  have hb := B.bytes
  have hr := B.returns
  have hts := atoms_spec (ws := wsJ4_length_8abf5) B.pre
  have hown : s.vm.findClass RJ4 = some m.cls := findClass_of_methodNamed B.named
  have hlocks := B.notSynchronized
  have hS : va_S (fun _ => False) s.heap s.heap [] := va_S.rf
  have hP : va_P (dC, dI) vwCl [(q0, .inr (1, [.ref q1, .int (nI 0), .int (nI 0), .int (nI cn)])), (q1, .inl (cyB, 16, .inl f))] s.heap := hP
  have hl := lv_entry ([.ref q0]) (n := 1) (Nat.le_of_ble_eq_true rfl)
  rw [lg_entry_eq]
  generalize (lg_sl ([.ref q0]) ++ List.replicate (1 - (lg_sl ([.ref q0])).length) Slot.unset).toArray = ls at hl ⊢
  have hl : lv_has ls 1 [(0, .ref q0)] := hl
  refine lv_aload_n hx hb dJ4_length_8abf5_0 rfl (lv_at hl 0 rfl) ?_
  refine xrP_i (va_runSU (hK.1 1 (RJ4, TJ4, 4) rfl).2 (As := []) (rest := []) ⟨hx, hb, hml, hown, hts⟩ (kJ5_length_8abf5 l dC dI cyI cyZ cyJ cyD cyB q0 q1 cn f) (va_cwSU 0 hts gJ4_length_8abf5_J5_length_8abf5_s343 rfl rfl rfl (by decide +kernel) ⟨Nat.le_of_ble_eq_true rfl, Nat.le_of_ble_eq_true rfl⟩) ⟨xP_blind, va_recv (q := (RJ4, TJ4, 4)) hK hP (q0 := 0) (ci := 1) rfl rfl, fun U hU hW => ⟨rfl, by rw [hU]; exact xW_sub hP [0, 1] rfl, va_K.moved hW.alike hK⟩⟩ rfl rfl hl.1 rfl (lv_room (Nat.le_of_ble_eq_true rfl)) dJ4_length_8abf5_1 ⟨Nat.zero_le _, Nat.zero_le _⟩) hP hS (fun r_1 H locs hw hP hS => ?_)
  have hw : r_1 = nI cn := hw
  subst hw
  exact W.iret (v := nI cn) hx hb hr (fun t ht hW => ⟨⟨nI cn, (), rfl, rfl, trivial⟩, hS.F ht⟩) hS.2.2 dJ4_length_8abf5_4

set_option maxHeartbeats 4000000 in
set_option maxRecDepth 100000 in
theorem kJ1_canEncode_fc78d (l : Launch) (ch : Nat) (hch : ch < 256) : Met l yJ1_canEncode_fc78d wsJ1_canEncode_fc78d ({ frames := 0, cells := 0, slots := 0, locals := 0 }) (va_Pc [.int (nI ch)] (fun _ => True)) (va_Qi (fun (r : Int32) (u : Unit) => r = nI 1) (fun _ _ => True) (fun _ => False)) 0 0 (fun _ => False) := by
  refine Met.ofW (cc := cJ1_canEncode_fc78d) (maxL := 1) (ret := (some .boolean)) (by decide) rfl ?_
  intro p e s m args below meth c s₁ B hml hv
  obtain ⟨rfl, -⟩ := hv
  have hx := B.exec
  have hb := B.bytes
  have hr := B.returns
  have hts := atoms_spec (ws := wsJ1_canEncode_fc78d) B.pre
  have hown : s.vm.findClass RJ1 = some m.cls := findClass_of_methodNamed B.named
  have hlocks := B.notSynchronized
  have hS : va_S (fun _ => False) s.heap s.heap [] := va_S.rf
  have hl := lv_entry ([.int (nI ch)]) (n := 1) (Nat.le_of_ble_eq_true rfl)
  rw [lg_entry_eq]
  generalize (lg_sl ([.int (nI ch)]) ++ List.replicate (1 - (lg_sl ([.int (nI ch)])).length) Slot.unset).toArray = ls at hl ⊢
  have hl : lv_has ls 1 [(0, .int (nI ch))] := hl
  refine lv_iload_n hx hb dJ1_canEncode_fc78d_0 rfl (lv_at hl 0 rfl) ?_
  refine lv_sipush (v := nI 255) hx hb dJ1_canEncode_fc78d_1 (by decide) ?_
  refine xc_gt (tgt := 11) hx hb dJ1_canEncode_fc78d_4 (by decide) (by omega) (by omega) (fun c_1 => by omega) (fun c_1 => ?_)
  refine lv_iconst (v := nI 1) hx hb dJ1_canEncode_fc78d_7 (by decide) ?_
  refine lv_goto (tgt := 12) hx hb dJ1_canEncode_fc78d_8 (by decide) ?_
  exact W.zret (v := nI 1) (ty := .boolean) hx hb hr rfl (fun t ht hW => ⟨⟨nI 1, (), rfl, rfl, trivial⟩, hS.F ht⟩) hS.2.2 dJ1_canEncode_fc78d_12

theorem inJ5_append_3fe6f_J4 : ∀ w ∈ wsJ40, w ∈ wsJ5_append_3fe6f := by decide +kernel
theorem mJ5_append_3fe6f_fieldLink_RJ5_79_java_lang_AbstractStringBuilder_count_I : Cond.fieldLink RJ5 79 "java/lang/AbstractStringBuilder" "count" "I" ∈ wsJ5_append_3fe6f := List.mem_of_getElem? (i := 1) (by decide +kernel)
theorem mJ5_append_3fe6f_fieldLink_RJ5_15_java_lang_AbstractStringBuilder_value_B : Cond.fieldLink RJ5 15 "java/lang/AbstractStringBuilder" "value" "[B" ∈ wsJ5_append_3fe6f := List.mem_of_getElem? (i := 2) (by decide +kernel)
set_option maxHeartbeats 4000000 in
set_option maxRecDepth 100000 in
theorem kJ5_append_3fe6f (l : Launch) (dC : Nat → ClassId) (dI : Nat → Nat → Nat) (cyI cyZ cyJ cyD cyB : ClassId) (q0 q1 : Nat) (cn : Nat) (f : Nat → Int32) (ch : Nat) (hcn : cn < 16) (hch : ch < 256) : Met l yJ5_append_3fe6f wsJ5_append_3fe6f ({ frames := 1, cells := 0, slots := 0, locals := 22 }) (va_Pc [.ref q0, .int (nI ch)] (xY (xA [(q0, .inr (1, [.ref q1, .int (nI 0), .int (nI 0), .int (nI cn)])), (q1, .inl (cyB, 16, .inl f))]) (xM (dC, dI) vwCl (xT cyI cyZ cyJ cyD cyB) [(q0, .inr (1, [.ref q1, .int (nI 0), .int (nI 0), .int (nI cn)])), (q1, .inl (cyB, 16, .inl f))]))) (va_Qr (fun (_ : Unit) => True) (fun _ a t => a = q0 ∧ va_P (dC, dI) vwCl [(q0, .inr (1, [.ref q1, .int (nI 0), .int (nI 0), .int (nI (cn + 1))])), (q1, .inl (cyB, 16, .inl (upd f cn (sb_b ch))))] t.heap ∧ va_D (xA [(q0, .inr (1, [.ref q1, .int (nI 0), .int (nI 0), .int (nI cn)])), (q1, .inl (cyB, 16, .inl f))]) [(q0, .inr (1, [.ref q1, .int (nI 0), .int (nI 0), .int (nI (cn + 1))])), (q1, .inl (cyB, 16, .inl (upd f cn (sb_b ch))))]) (xA [(q0, .inr (1, [.ref q1, .int (nI 0), .int (nI 0), .int (nI cn)])), (q1, .inl (cyB, 16, .inl f))])) 0 0 (xA [(q0, .inr (1, [.ref q1, .int (nI 0), .int (nI 0), .int (nI cn)])), (q1, .inl (cyB, 16, .inl f))]) := by
  refine Met.ofW (cc := cJ5_append_3fe6f) (maxL := 2) (ret := (some (.object "java/lang/AbstractStringBuilder"))) (by decide) rfl ?_
  intro p e s m args below meth c s₁ B hml hv
  obtain ⟨rfl, ⟨hP, hK, hD0⟩, hZ⟩ := hv
  have hx := B.exec
  have hb := B.bytes
  have hr := B.returns
  have hts := atoms_spec (ws := wsJ5_append_3fe6f) B.pre
  have hown : s.vm.findClass RJ5 = some m.cls := findClass_of_methodNamed B.named
  have hlocks := B.notSynchronized
  have hD := xA_self hD0
  clear hD0
  generalize hAe : xA [(q0, .inr (1, [.ref q1, .int (nI 0), .int (nI 0), .int (nI cn)])), (q1, .inl (cyB, 16, .inl f))] = A at hD hZ ⊢
  have hS : va_S A s.heap s.heap [] := va_S.rf
  have hP : va_P (dC, dI) vwCl [(q0, .inr (1, [.ref q1, .int (nI 0), .int (nI 0), .int (nI cn)])), (q1, .inl (cyB, 16, .inl f))] s.heap := hP
  have hl := lv_entry ([.ref q0, .int (nI ch)]) (n := 2) (Nat.le_of_ble_eq_true rfl)
  rw [lg_entry_eq]
  generalize (lg_sl ([.ref q0, .int (nI ch)]) ++ List.replicate (2 - (lg_sl ([.ref q0, .int (nI ch)])).length) Slot.unset).toArray = ls at hl ⊢
  have hl : lv_has ls 2 [(0, .ref q0), (1, .int (nI ch))] := hl
  refine lv_aload_n hx hb dJ5_append_3fe6f_0 rfl (lv_at hl 0 rfl) ?_
  refine lv_aload_n hx hb dJ5_append_3fe6f_1 rfl (lv_at hl 0 rfl) ?_
  refine va_get (D := (dC, dI)) (ci := 1) (v := .int (nI cn)) (C := RJ4) (T := TJ4) (N := 4) hx hb hts inJ5_append_3fe6f_J4 hown hK hP 0 rfl rfl 3 (by decide) (hts _ mJ5_append_3fe6f_fieldLink_RJ5_79_java_lang_AbstractStringBuilder_count_I) (fun _ h9 => h9) rfl dJ5_append_3fe6f_2 ?_
  refine lv_iconst (v := nI 1) hx hb dJ5_append_3fe6f_5 (by decide) ?_
  refine xi_add hx hb dJ5_append_3fe6f_6 ?_
  refine xrP_v (va_runU (As := [.int (nI (cn + 1))]) (rest := []) ⟨hx, hb, hml, hown, hts⟩ (kJ5_ensureCapacityInternal_d00df l dC dI cyI cyZ cyJ cyD cyB q0 q1 cn f (cn + 1) (by omega)) (va_cwU 1 hts gJ5_append_3fe6f_J5_ensureCapacityInternal_d00df_u100J4 rfl rfl rfl rfl (by decide +kernel) ⟨Nat.le_of_ble_eq_true rfl, Nat.le_of_ble_eq_true rfl⟩) ⟨xP_blind, va_recv (q := (RJ4, TJ4, 4)) hK hP (q0 := 0) (ci := 1) rfl rfl, fun U hU hW => ⟨rfl, by rw [hU]; exact xW_sub hP [0, 1] rfl, va_K.moved hW.alike hK⟩⟩ rfl rfl hl.1 rfl (lv_room (Nat.le_of_ble_eq_true rfl)) dJ5_append_3fe6f_7 ⟨Nat.zero_le _, Nat.zero_le _⟩) hP hS (fun H locs hw hP hS => ?_)
  refine lv_aload_n hx hb dJ5_append_3fe6f_10 rfl (lv_at hl 0 rfl) ?_
  refine xrP_i (va_runU (As := []) (rest := []) ⟨hx, hb, hml, hown, hts⟩ (kJ5_isLatin1_aae02 l dC dI cyI cyZ cyJ cyD cyB q0 q1 cn f) (va_cwU 0 hts gJ5_append_3fe6f_J5_isLatin1_aae02_u83J4 rfl rfl rfl rfl (by decide +kernel) ⟨Nat.le_of_ble_eq_true rfl, Nat.le_of_ble_eq_true rfl⟩) ⟨(xY_blind xP_blind), va_recv (q := (RJ4, TJ4, 4)) hK hP (q0 := 0) (ci := 1) rfl rfl, fun U hU hW => ⟨rfl, ⟨by rw [hU]; exact xW_sub hP [0, 1] rfl, va_K.moved hW.alike hK⟩, xY_go hZ hS hU hW (fun q _ h => h.elim)⟩⟩ rfl rfl hl.1 rfl (lv_room (Nat.le_of_ble_eq_true rfl)) dJ5_append_3fe6f_11 ⟨Nat.zero_le _, Nat.zero_le _⟩) hP hS (fun r_1 H locs hw hP hS => ?_)
  have hw : r_1 = nI 1 := hw
  subst hw
  refine xz_eq (tgt := 45) hx hb dJ5_append_3fe6f_14 (by decide) (by omega) (fun c_2 => by omega) (fun c_2 => ?_)
  refine lv_iload_n hx hb dJ5_append_3fe6f_17 rfl (lv_at hl 1 rfl) ?_
  refine xs_i (As := [.int (nI ch)]) (rest := []) ⟨hx, hb, hml, hown, hts⟩ (kJ1_canEncode_fc78d l ch (by omega)) (va_cwS 1 hts gJ5_append_3fe6f_J1_canEncode_fc78d rfl rfl rfl (by decide +kernel) ⟨Nat.le_of_ble_eq_true rfl, Nat.le_of_ble_eq_true rfl⟩) hP hS rfl hl.1 rfl (Nat.le_of_ble_eq_true rfl) dJ5_append_3fe6f_18 ⟨Nat.zero_le _, Nat.zero_le _⟩ (fun r_3 H locs hw hP hS => ?_)
  have hw : r_3 = nI 1 := hw
  subst hw
  refine xz_eq (tgt := 45) hx hb dJ5_append_3fe6f_21 (by decide) (by omega) (fun c_4 => by omega) (fun c_4 => ?_)
  refine lv_aload_n hx hb dJ5_append_3fe6f_24 rfl (lv_at hl 0 rfl) ?_
  refine va_get (D := (dC, dI)) (ci := 1) (v := .ref q1) (C := RJ4) (T := TJ4) (N := 4) hx hb hts inJ5_append_3fe6f_J4 hown hK hP 0 rfl rfl 0 (by decide) (hts _ mJ5_append_3fe6f_fieldLink_RJ5_15_java_lang_AbstractStringBuilder_value_B) (fun _ h9 => h9) rfl dJ5_append_3fe6f_25 ?_
  refine lv_aload_n hx hb dJ5_append_3fe6f_28 rfl (lv_at hl 0 rfl) ?_
  refine lv_dup hx hb dJ5_append_3fe6f_29 rfl ?_
  refine va_get (D := (dC, dI)) (ci := 1) (v := .int (nI cn)) (C := RJ4) (T := TJ4) (N := 4) hx hb hts inJ5_append_3fe6f_J4 hown hK hP 0 rfl rfl 3 (by decide) (hts _ mJ5_append_3fe6f_fieldLink_RJ5_79_java_lang_AbstractStringBuilder_count_I) (fun _ h9 => h9) rfl dJ5_append_3fe6f_30 ?_
  refine lv_dup_x1 hx hb dJ5_append_3fe6f_33 rfl rfl ?_
  refine lv_iconst (v := nI 1) hx hb dJ5_append_3fe6f_34 (by decide) ?_
  refine xi_add hx hb dJ5_append_3fe6f_35 ?_
  refine va_put (D := (dC, dI)) (ci := 1) (v := .int (nI (cn + 1))) (ty := .int) (C := RJ4) (T := TJ4) (N := 4) hx hb hts inJ5_append_3fe6f_J4 tyJ4 tyJ4_ok nmJ4 hown hK hP hD hS 0 rfl rfl 3 (by decide) (hts _ mJ5_append_3fe6f_fieldLink_RJ5_79_java_lang_AbstractStringBuilder_count_I) (fun _ h9 => h9) rfl (by decide +kernel) rfl rfl (Nat.le_of_ble_eq_true rfl) dJ5_append_3fe6f_36 (fun H locs hP hD hS => ?_)
  have hP : va_P (dC, dI) vwCl [(q0, .inr (1, [.ref q1, .int (nI 0), .int (nI 0), .int (nI (cn + 1))])), (q1, .inl (cyB, 16, .inl f))] H := hP
  have hD : va_D A [(q0, .inr (1, [.ref q1, .int (nI 0), .int (nI 0), .int (nI (cn + 1))])), (q1, .inl (cyB, 16, .inl f))] := hD
  refine lv_iload_n hx hb dJ5_append_3fe6f_39 rfl (lv_at hl 1 rfl) ?_
  refine lv_i2b (v := sb_b ch) hx hb dJ5_append_3fe6f_40 rfl ?_
  refine va_bast hx hb hK hP hD hS 1 4 rfl rfl (vp_in_nI (by omega) (by decide)) dJ5_append_3fe6f_41 (fun H locs hP hD hS => ?_)
  rw [nI_clamp (by omega), show vp_nar .byte (sb_b ch) = sb_b ch from pk_vb _] at hP hD
  have hP : va_P (dC, dI) vwCl [(q0, .inr (1, [.ref q1, .int (nI 0), .int (nI 0), .int (nI (cn + 1))])), (q1, .inl (cyB, 16, .inl (upd f cn (sb_b ch))))] H := hP
  have hD : va_D A [(q0, .inr (1, [.ref q1, .int (nI 0), .int (nI 0), .int (nI (cn + 1))])), (q1, .inl (cyB, 16, .inl (upd f cn (sb_b ch))))] := hD
  refine lv_goto (tgt := 75) hx hb dJ5_append_3fe6f_42 (by decide) ?_
  refine lv_aload_n hx hb dJ5_append_3fe6f_75 rfl (lv_at hl 0 rfl) ?_
  have hP9 : va_P (dC, dI) vwCl [(q0, .inr (1, [.ref q1, .int (nI 0), .int (nI 0), .int (nI (cn + 1))])), (q1, .inl (cyB, 16, .inl (upd f cn (sb_b ch))))] _ := hP
  have hD9 : va_D A [(q0, .inr (1, [.ref q1, .int (nI 0), .int (nI 0), .int (nI (cn + 1))])), (q1, .inl (cyB, 16, .inl (upd f cn (sb_b ch))))] := hD
  exact W.aret (v := .ref q0) hx hb hr (by simp) (Or.inr ⟨_, rfl⟩) (fun t ht hW => ⟨⟨(), _, rfl, trivial, rfl, by rw [ht]; exact hP9, hD9⟩, hS.F ht⟩) hS.2.2 dJ5_append_3fe6f_76

set_option maxHeartbeats 4000000 in
set_option maxRecDepth 100000 in
theorem kJ4_append_cf468 (l : Launch) (dC : Nat → ClassId) (dI : Nat → Nat → Nat) (cyI cyZ cyJ cyD cyB : ClassId) (q0 q1 : Nat) (cn : Nat) (f : Nat → Int32) (ch : Nat) (hcn : cn < 16) (hch : ch < 256) : Met l yJ4_append_cf468 wsJ4_append_cf468 ({ frames := 2, cells := 0, slots := 0, locals := 43 }) (va_Pc [.ref q0, .int (nI ch)] (xY (xA [(q0, .inr (1, [.ref q1, .int (nI 0), .int (nI 0), .int (nI cn)])), (q1, .inl (cyB, 16, .inl f))]) (xM (dC, dI) vwCl (xT cyI cyZ cyJ cyD cyB) [(q0, .inr (1, [.ref q1, .int (nI 0), .int (nI 0), .int (nI cn)])), (q1, .inl (cyB, 16, .inl f))]))) (va_Qr (fun (_ : Unit) => True) (fun _ a t => a = q0 ∧ va_P (dC, dI) vwCl [(q0, .inr (1, [.ref q1, .int (nI 0), .int (nI 0), .int (nI (cn + 1))])), (q1, .inl (cyB, 16, .inl (upd f cn (sb_b ch))))] t.heap ∧ va_D (xA [(q0, .inr (1, [.ref q1, .int (nI 0), .int (nI 0), .int (nI cn)])), (q1, .inl (cyB, 16, .inl f))]) [(q0, .inr (1, [.ref q1, .int (nI 0), .int (nI 0), .int (nI (cn + 1))])), (q1, .inl (cyB, 16, .inl (upd f cn (sb_b ch))))]) (xA [(q0, .inr (1, [.ref q1, .int (nI 0), .int (nI 0), .int (nI cn)])), (q1, .inl (cyB, 16, .inl f))])) 0 0 (xA [(q0, .inr (1, [.ref q1, .int (nI 0), .int (nI 0), .int (nI cn)])), (q1, .inl (cyB, 16, .inl f))]) := by
  refine Met.ofW (cc := cJ4_append_cf468) (maxL := 2) (ret := (some (.object "java/lang/StringBuilder"))) (by decide) rfl ?_
  intro p e s m args below meth c s₁ B hml hv
  obtain ⟨rfl, ⟨hP, hK, hD0⟩, hZ⟩ := hv
  have hx := B.exec
  have hb := B.bytes
  have hr := B.returns
  have hts := atoms_spec (ws := wsJ4_append_cf468) B.pre
  have hown : s.vm.findClass RJ4 = some m.cls := findClass_of_methodNamed B.named
  have hlocks := B.notSynchronized
  have hD := xA_self hD0
  clear hD0
  generalize hAe : xA [(q0, .inr (1, [.ref q1, .int (nI 0), .int (nI 0), .int (nI cn)])), (q1, .inl (cyB, 16, .inl f))] = A at hD hZ ⊢
  have hS : va_S A s.heap s.heap [] := va_S.rf
  have hP : va_P (dC, dI) vwCl [(q0, .inr (1, [.ref q1, .int (nI 0), .int (nI 0), .int (nI cn)])), (q1, .inl (cyB, 16, .inl f))] s.heap := hP
  have hl := lv_entry ([.ref q0, .int (nI ch)]) (n := 2) (Nat.le_of_ble_eq_true rfl)
  rw [lg_entry_eq]
  generalize (lg_sl ([.ref q0, .int (nI ch)]) ++ List.replicate (2 - (lg_sl ([.ref q0, .int (nI ch)])).length) Slot.unset).toArray = ls at hl ⊢
  have hl : lv_has ls 2 [(0, .ref q0), (1, .int (nI ch))] := hl
  refine lv_aload_n hx hb dJ4_append_cf468_0 rfl (lv_at hl 0 rfl) ?_
  refine lv_iload_n hx hb dJ4_append_cf468_1 rfl (lv_at hl 1 rfl) ?_
  refine xrM_r (va_runSU (hK.1 1 (RJ4, TJ4, 4) rfl).2 (As := [.int (nI ch)]) (rest := []) ⟨hx, hb, hml, hown, hts⟩ (kJ5_append_3fe6f l dC dI cyI cyZ cyJ cyD cyB q0 q1 cn f ch (by omega) (by omega)) (va_cwSU 1 hts gJ4_append_cf468_J5_append_3fe6f_s50 rfl rfl rfl (by decide +kernel) ⟨Nat.le_of_ble_eq_true rfl, Nat.le_of_ble_eq_true rfl⟩) ⟨(xY_blind xM_blind), va_recv (q := (RJ4, TJ4, 4)) hK hP (q0 := 0) (ci := 1) rfl rfl, fun U hU hW => ⟨rfl, ⟨by rw [hU]; exact xW_sub hP [0, 1] rfl, va_K.moved hW.alike hK, (hD.sub [0, 1] (by decide) rfl).weaken (fun _ _ _ _ => trivial)⟩, xY_go hZ hS hU hW (fun q _ h => xA_in hD [0, 1] rfl q h)⟩⟩ rfl rfl hl.1 rfl (lv_room (Nat.le_of_ble_eq_true rfl)) dJ4_append_cf468_2 ⟨Nat.zero_le _, Nat.zero_le _⟩) hD hS [0, 1] rfl (fun H1 locs hP1 hD1 hk1 hS => ?_)
  obtain ⟨hP, hD⟩ := xW_join (wr := []) (w1 := [(q0, .inr (1, [.ref q1, .int (nI 0), .int (nI 0), .int (nI (cn + 1))])), (q1, .inl (cyB, 16, .inl (upd f cn (sb_b ch))))]) (wN := [(q0, .inr (1, [.ref q1, .int (nI 0), .int (nI 0), .int (nI (cn + 1))])), (q1, .inl (cyB, 16, .inl (upd f cn (sb_b ch))))]) hP hD [0, 1] [] [0, 1] rfl rfl (by decide) (by decide) hk1 hP1 hD1 (by decide) rfl
  clear hP1 hD1 hk1
  generalize H1 = H at hP hS ⊢
  refine lv_pop hx hb dJ4_append_cf468_5 rfl ?_
  refine lv_aload_n hx hb dJ4_append_cf468_6 rfl (lv_at hl 0 rfl) ?_
  have hP9 : va_P (dC, dI) vwCl [(q0, .inr (1, [.ref q1, .int (nI 0), .int (nI 0), .int (nI (cn + 1))])), (q1, .inl (cyB, 16, .inl (upd f cn (sb_b ch))))] _ := hP
  have hD9 : va_D A [(q0, .inr (1, [.ref q1, .int (nI 0), .int (nI 0), .int (nI (cn + 1))])), (q1, .inl (cyB, 16, .inl (upd f cn (sb_b ch))))] := hD
  exact W.aret (v := .ref q0) hx hb hr (by simp) (Or.inr ⟨_, rfl⟩) (fun t ht hW => ⟨⟨(), _, rfl, trivial, rfl, by rw [ht]; exact hP9, hD9⟩, hS.F ht⟩) hS.2.2 dJ4_append_cf468_7

theorem mJ5_init_d00df_methodLink_RJ5_3_objectInit : Cond.methodLink RJ5 3 objectInit ∈ wsJ5_init_d00df := List.mem_of_getElem? (i := 1) (by decide +kernel)
theorem mJ5_init_d00df_instanceMethod_objectInit : Cond.instanceMethod objectInit ∈ wsJ5_init_d00df := List.mem_of_getElem? (i := 2) (by decide +kernel)
theorem mJ5_init_d00df_code_objectInit_0xb1_1_none : Cond.code objectInit ⟨#[0xb1]⟩ 1 none ∈ wsJ5_init_d00df := List.mem_of_getElem? (i := 3) (by decide +kernel)
theorem mJ5_init_d00df_fieldLink_RJ5_18_java_lang_String_COMPACT_STRINGS_Z : Cond.fieldLink RJ5 18 "java/lang/String" "COMPACT_STRINGS" "Z" ∈ wsJ5_init_d00df := List.mem_of_getElem? (i := 4) (by decide +kernel)
theorem mJ5_init_d00df_arrayClass_byte : Cond.arrayClass .byte ∈ wsJ5_init_d00df := List.mem_of_getElem? (i := 5) (by decide +kernel)
theorem inJ5_init_d00df_J4 : ∀ w ∈ wsJ40, w ∈ wsJ5_init_d00df := by decide +kernel
theorem mJ5_init_d00df_fieldLink_RJ5_15_java_lang_AbstractStringBuilder_value_B : Cond.fieldLink RJ5 15 "java/lang/AbstractStringBuilder" "value" "[B" ∈ wsJ5_init_d00df := List.mem_of_getElem? (i := 6) (by decide +kernel)
theorem mJ5_init_d00df_fieldLink_RJ5_22_java_lang_AbstractStringBuilder_coder_B : Cond.fieldLink RJ5 22 "java/lang/AbstractStringBuilder" "coder" "B" ∈ wsJ5_init_d00df := List.mem_of_getElem? (i := 7) (by decide +kernel)
set_option maxHeartbeats 4000000 in
set_option maxRecDepth 100000 in
theorem kJ5_init_d00df (l : Launch) (dC : Nat → ClassId) (dI : Nat → Nat → Nat) (cyI cyZ cyJ cyD cyB : ClassId) (q0 : Nat) (sz : Nat) : Met l yJ5_init_d00df wsJ5_init_d00df ({ frames := 1, cells := 1, slots := 16, locals := 12 }) (va_Pc [.ref q0, .int (nI 16)] (xY (va_A [(q0, .inr (1, [.null, .int (nI 0), .int (nI 0), .int (nI 0)]))] sz) (xN (dC, dI) vwCl (xT cyI cyZ cyJ cyD cyB) [(q0, .inr (1, [.null, .int (nI 0), .int (nI 0), .int (nI 0)]))] sz))) (va_Qv (fun (u : Nat) => True) (fun u t => va_P (dC, dI) vwCl [(q0, .inr (1, [.ref u, .int (nI 0), .int (nI 0), .int (nI 0)])), (u, .inl (cyB, 16, .inl (fun _ => 0)))] t.heap ∧ va_D (va_A [(q0, .inr (1, [.null, .int (nI 0), .int (nI 0), .int (nI 0)]))] sz) [(q0, .inr (1, [.ref u, .int (nI 0), .int (nI 0), .int (nI 0)])), (u, .inl (cyB, 16, .inl (fun _ => 0)))]) (va_A [(q0, .inr (1, [.null, .int (nI 0), .int (nI 0), .int (nI 0)]))] sz)) 1 16 (va_A [(q0, .inr (1, [.null, .int (nI 0), .int (nI 0), .int (nI 0)]))] sz) := by
  refine Met.ofW (cc := cJ5_init_d00df) (maxL := 2) (ret := none) (by decide) rfl ?_
  intro p e s m args below meth c s₁ B hml hv
  obtain ⟨rfl, ⟨hsz, hP, hK, hD0⟩, hZ⟩ := hv
  have hx := B.exec
  have hb := B.bytes
  have hr := B.returns
  have hts := atoms_spec (ws := wsJ5_init_d00df) B.pre
  have hown : s.vm.findClass RJ5 = some m.cls := findClass_of_methodNamed B.named
  have hlocks := B.notSynchronized
  have hin : meth.name = "<init>" := (name_of_methodNamed B.named B.method).1
  subst hsz
  have hD := hD0.self (sz := s.heap.size)
  clear hD0
  generalize hAe : va_A [(q0, .inr (1, [.null, .int (nI 0), .int (nI 0), .int (nI 0)]))] s.heap.size = A at hD hZ ⊢
  have hA : ∀ q : Nat, s.heap.size ≤ q → A q := fun q h => by rw [← hAe]; exact Or.inr h
  have hS : va_S A s.heap s.heap [] := va_S.rf
  have hP : va_P (dC, dI) vwCl [(q0, .inr (1, [.null, .int (nI 0), .int (nI 0), .int (nI 0)]))] s.heap := hP
  have hl := lv_entry ([.ref q0, .int (nI 16)]) (n := 2) (Nat.le_of_ble_eq_true rfl)
  rw [lg_entry_eq]
  generalize (lg_sl ([.ref q0, .int (nI 16)]) ++ List.replicate (2 - (lg_sl ([.ref q0, .int (nI 16)])).length) Slot.unset).toArray = ls at hl ⊢
  have hl : lv_has ls 2 [(0, .ref q0), (1, .int (nI 16))] := hl
  refine lv_aload_n hx hb dJ5_init_d00df_0 rfl (lv_at hl 0 rfl) ?_
  refine W.objInit hx hb hown (hts _ mJ5_init_d00df_methodLink_RJ5_3_objectInit) (hts _ mJ5_init_d00df_instanceMethod_objectInit) (hts _ mJ5_init_d00df_code_objectInit_0xb1_1_none) rfl (by rw [hml]; exact hl.1) rfl dJ5_init_d00df_1 (Nat.le_of_ble_eq_true rfl) (Nat.le_of_ble_eq_true rfl) ?_
  refine W.eq (g2 := F0 m 4 ls []) rfl ?_
  refine va_gets hx hb hZ.1 hS hown (hts _ mJ5_init_d00df_fieldLink_RJ5_18_java_lang_String_COMPACT_STRINGS_Z) (fun _ h9 => h9) dJ5_init_d00df_4 ?_
  refine xz_eq (tgt := 25) hx hb dJ5_init_d00df_7 (by decide) (by omega) (fun c_1 => by omega) (fun c_1 => ?_)
  refine lv_aload_n hx hb dJ5_init_d00df_10 rfl (lv_at hl 0 rfl) ?_
  refine lv_iload_n hx hb dJ5_init_d00df_11 rfl (lv_at hl 1 rfl) ?_
  refine xi_newa (atype := .byte) (n := 16) (N' := 16) (a0 := (16, .inl (fun _ => 0))) hx hb (hts _ mJ5_init_d00df_arrayClass_byte) rfl hK hP hD hS hA 4 rfl (fun _ => rfl) (by omega) rfl (by show _ * 1 ≤ _; omega) (Nat.le_of_ble_eq_true rfl) (by show 0 + _ ≤ 16; omega) dJ5_init_d00df_12 (fun q_2 H hP hD hS => ?_)
  have hP : va_P (dC, dI) vwCl [(q0, .inr (1, [.null, .int (nI 0), .int (nI 0), .int (nI 0)])), (q_2, .inl (cyB, 16, .inl (fun _ => 0)))] H := hP
  have hD : va_D A [(q0, .inr (1, [.null, .int (nI 0), .int (nI 0), .int (nI 0)])), (q_2, .inl (cyB, 16, .inl (fun _ => 0)))] := hD
  refine W.widen (k := 1) (n := 16) (Nat.le_of_ble_eq_true rfl) (by first | exact Nat.le_of_ble_eq_true rfl | omega) ?_
  refine va_put (D := (dC, dI)) (ci := 1) (v := .ref q_2) (ty := .array .byte) (C := RJ4) (T := TJ4) (N := 4) hx hb hts inJ5_init_d00df_J4 tyJ4 tyJ4_ok nmJ4 hown hK hP hD hS 0 rfl rfl 0 (by decide) (hts _ mJ5_init_d00df_fieldLink_RJ5_15_java_lang_AbstractStringBuilder_value_B) (fun _ h9 => h9) rfl (by decide +kernel) rfl rfl (Nat.le_of_ble_eq_true rfl) dJ5_init_d00df_14 (fun H locs hP hD hS => ?_)
  have hP : va_P (dC, dI) vwCl [(q0, .inr (1, [.ref q_2, .int (nI 0), .int (nI 0), .int (nI 0)])), (q_2, .inl (cyB, 16, .inl (fun _ => 0)))] H := hP
  have hD : va_D A [(q0, .inr (1, [.ref q_2, .int (nI 0), .int (nI 0), .int (nI 0)])), (q_2, .inl (cyB, 16, .inl (fun _ => 0)))] := hD
  refine lv_aload_n hx hb dJ5_init_d00df_17 rfl (lv_at hl 0 rfl) ?_
  refine lv_iconst (v := nI 0) hx hb dJ5_init_d00df_18 (by decide) ?_
  refine va_put (D := (dC, dI)) (ci := 1) (v := .int (nI 0)) (ty := .byte) (C := RJ4) (T := TJ4) (N := 4) hx hb hts inJ5_init_d00df_J4 tyJ4 tyJ4_ok nmJ4 hown hK hP hD hS 0 rfl rfl 1 (by decide) (hts _ mJ5_init_d00df_fieldLink_RJ5_22_java_lang_AbstractStringBuilder_coder_B) (fun _ h9 => h9) rfl (by decide +kernel) rfl rfl (Nat.le_of_ble_eq_true rfl) dJ5_init_d00df_19 (fun H locs hP hD hS => ?_)
  have hP : va_P (dC, dI) vwCl [(q0, .inr (1, [.ref q_2, .int (nI 0), .int (nI 0), .int (nI 0)])), (q_2, .inl (cyB, 16, .inl (fun _ => 0)))] H := hP
  have hD : va_D A [(q0, .inr (1, [.ref q_2, .int (nI 0), .int (nI 0), .int (nI 0)])), (q_2, .inl (cyB, 16, .inl (fun _ => 0)))] := hD
  refine lv_goto (tgt := 38) hx hb dJ5_init_d00df_22 (by decide) ?_
  have hP9 := xW_sub (w1 := [(q0, .inr (1, [.ref q_2, .int (nI 0), .int (nI 0), .int (nI 0)])), (q_2, .inl (cyB, 16, .inl (fun _ => 0)))]) hP [0, 1] rfl
  have hD9 := hD.sub (ws' := [(q0, .inr (1, [.ref q_2, .int (nI 0), .int (nI 0), .int (nI 0)])), (q_2, .inl (cyB, 16, .inl (fun _ => 0)))]) [0, 1] (by decide) rfl
  exact W.vret hx hb hr (fun t ht hW => ⟨⟨(q_2), rfl, trivial, ⟨by rw [ht]; exact hP9, hD9⟩⟩, hS.F ht⟩) hS.2.2 dJ5_init_d00df_38

theorem mJ4_init_da8c8_initialized_RJ5 : Cond.initialized RJ5 ∈ wsJ4_init_da8c8 := List.mem_of_getElem? (i := 3) (by decide +kernel)
theorem mJ4_init_da8c8_methodLink_RJ4_1_yJ5_init_d00df : Cond.methodLink RJ4 1 yJ5_init_d00df ∈ wsJ4_init_da8c8 := List.mem_of_getElem? (i := 1) (by decide +kernel)
theorem mJ4_init_da8c8_instanceMethod_yJ5_init_d00df : Cond.instanceMethod yJ5_init_d00df ∈ wsJ4_init_da8c8 := List.mem_of_getElem? (i := 2) (by decide +kernel)
set_option maxHeartbeats 4000000 in
set_option maxRecDepth 100000 in
theorem kJ4_init_da8c8 (l : Launch) (dC : Nat → ClassId) (dI : Nat → Nat → Nat) (cyI cyZ cyJ cyD cyB : ClassId) (q0 : Nat) (sz : Nat) : Met l yJ4_init_da8c8 wsJ4_init_da8c8 ({ frames := 2, cells := 1, slots := 16, locals := 33 }) (va_Pc [.ref q0] (xY (va_A [(q0, .inr (1, [.null, .int (nI 0), .int (nI 0), .int (nI 0)]))] sz) (xN (dC, dI) vwCl (xT cyI cyZ cyJ cyD cyB) [(q0, .inr (1, [.null, .int (nI 0), .int (nI 0), .int (nI 0)]))] sz))) (va_Qv (fun (u : Nat) => True) (fun u t => va_P (dC, dI) vwCl [(q0, .inr (1, [.ref u, .int (nI 0), .int (nI 0), .int (nI 0)])), (u, .inl (cyB, 16, .inl (fun _ => 0)))] t.heap ∧ va_D (va_A [(q0, .inr (1, [.null, .int (nI 0), .int (nI 0), .int (nI 0)]))] sz) [(q0, .inr (1, [.ref u, .int (nI 0), .int (nI 0), .int (nI 0)])), (u, .inl (cyB, 16, .inl (fun _ => 0)))]) (va_A [(q0, .inr (1, [.null, .int (nI 0), .int (nI 0), .int (nI 0)]))] sz)) 1 16 (va_A [(q0, .inr (1, [.null, .int (nI 0), .int (nI 0), .int (nI 0)]))] sz) := by
  refine Met.ofW (cc := cJ4_init_da8c8) (maxL := 1) (ret := none) (by decide) rfl ?_
  intro p e s m args below meth c s₁ B hml hv
  obtain ⟨rfl, ⟨hsz, hP, hK, hD0⟩, hZ⟩ := hv
  have hx := B.exec
  have hb := B.bytes
  have hr := B.returns
  have hts := atoms_spec (ws := wsJ4_init_da8c8) B.pre
  have hown : s.vm.findClass RJ4 = some m.cls := findClass_of_methodNamed B.named
  have hlocks := B.notSynchronized
  have hin : meth.name = "<init>" := (name_of_methodNamed B.named B.method).1
  subst hsz
  have hD := hD0.self (sz := s.heap.size)
  clear hD0
  generalize hAe : va_A [(q0, .inr (1, [.null, .int (nI 0), .int (nI 0), .int (nI 0)]))] s.heap.size = A at hD hZ ⊢
  have hA : ∀ q : Nat, s.heap.size ≤ q → A q := fun q h => by rw [← hAe]; exact Or.inr h
  have hS : va_S A s.heap s.heap [] := va_S.rf
  have hP : va_P (dC, dI) vwCl [(q0, .inr (1, [.null, .int (nI 0), .int (nI 0), .int (nI 0)]))] s.heap := hP
  have hl := lv_entry ([.ref q0]) (n := 1) (Nat.le_of_ble_eq_true rfl)
  rw [lg_entry_eq]
  generalize (lg_sl ([.ref q0]) ++ List.replicate (1 - (lg_sl ([.ref q0])).length) Slot.unset).toArray = ls at hl ⊢
  have hl : lv_has ls 1 [(0, .ref q0)] := hl
  refine lv_aload_n hx hb dJ4_init_da8c8_0 rfl (lv_at hl 0 rfl) ?_
  refine lv_bipush (v := nI 16) hx hb dJ4_init_da8c8_1 (by decide) ?_
  refine xrN_v (va_runI (As := [.int (nI 16)]) (rest := []) ⟨hx, hb, hml, hown, hts⟩ (kJ5_init_d00df l dC dI cyI cyZ cyJ cyD cyB q0 s.heap.size) (cwI 1 hts gJ4_init_da8c8_J5_init_d00df rfl rfl rfl (hts _ mJ4_init_da8c8_initialized_RJ5) (hts _ mJ4_init_da8c8_methodLink_RJ4_1_yJ5_init_d00df) (hts _ mJ4_init_da8c8_instanceMethod_yJ5_init_d00df) rfl (by decide +kernel) ⟨Nat.le_of_ble_eq_true rfl, Nat.le_of_ble_eq_true rfl⟩) ⟨(xY_blind xN_blind), fun U hU hW => ⟨rfl, ⟨by rw [hU], by rw [hU]; exact xW_sub hP [0] rfl, va_K.moved hW.alike hK, (hD.sub [0] (by decide) rfl).weaken (fun _ _ _ _ => trivial)⟩, xY_go hZ hS hU hW (fun q _ h => va_free hD hS hA [0] rfl q h)⟩⟩ rfl rfl hl.1 rfl (lv_room (Nat.le_of_ble_eq_true rfl)) dJ4_init_da8c8_3 ⟨Nat.le_of_ble_eq_true rfl, Nat.le_of_ble_eq_true rfl⟩) hD hS hA [0] rfl (fun q_1  H1 locs hP1 hD1 hk1 hS1 => ?_)
  obtain ⟨hP, hD⟩ := va_join (wr := []) (w1 := [(q0, .inr (1, [.ref q_1, .int (nI 0), .int (nI 0), .int (nI 0)])), (q_1, .inl (cyB, 16, .inl (fun _ => 0)))]) hP hD [0] [] rfl rfl (by decide) (by decide) hk1 (va_free (wc := [(q0, .inr (1, [.null, .int (nI 0), .int (nI 0), .int (nI 0)]))]) hD hS hA [0] rfl) hP1 hD1
  clear hP1 hD1 hk1
  have hS := hS1
  clear hS1
  generalize H1 = H at hP hS ⊢
  have hP : va_P (dC, dI) vwCl [(q0, .inr (1, [.ref q_1, .int (nI 0), .int (nI 0), .int (nI 0)])), (q_1, .inl (cyB, 16, .inl (fun _ => 0)))] H := hP
  have hD : va_D A [(q0, .inr (1, [.ref q_1, .int (nI 0), .int (nI 0), .int (nI 0)])), (q_1, .inl (cyB, 16, .inl (fun _ => 0)))] := hD
  refine W.widen (k := 1) (n := 16) (Nat.le_of_ble_eq_true rfl) (by first | exact Nat.le_of_ble_eq_true rfl | omega) ?_
  have hP9 := xW_sub (w1 := [(q0, .inr (1, [.ref q_1, .int (nI 0), .int (nI 0), .int (nI 0)])), (q_1, .inl (cyB, 16, .inl (fun _ => 0)))]) hP [0, 1] rfl
  have hD9 := hD.sub (ws' := [(q0, .inr (1, [.ref q_1, .int (nI 0), .int (nI 0), .int (nI 0)])), (q_1, .inl (cyB, 16, .inl (fun _ => 0)))]) [0, 1] (by decide) rfl
  exact W.vret hx hb hr (fun t ht hW => ⟨⟨(q_1), rfl, trivial, ⟨by rw [ht]; exact hP9, hD9⟩⟩, hS.F ht⟩) hS.2.2 dJ4_init_da8c8_6

set_option maxHeartbeats 4000000 in
set_option maxRecDepth 100000 in
theorem kJ7_checkLength_df160 (l : Launch) (fr : Nat) (to : Nat) (hft : fr ≤ to ∧ to < 2 ^ 31) : Met l yJ7_checkLength_df160 wsJ7_checkLength_df160 ({ frames := 0, cells := 0, slots := 0, locals := 0 }) (va_Pc [.int (nI fr), .int (nI to)] (fun _ => True)) (va_Qv (fun (u : Unit) => True) (fun _ _ => True) (fun _ => False)) 0 0 (fun _ => False) := by
  refine Met.ofW (cc := cJ7_checkLength_df160) (maxL := 2) (ret := none) (by decide) rfl ?_
  intro p e s m args below meth c s₁ B hml hv
  obtain ⟨rfl, -⟩ := hv
  have hx := B.exec
  have hb := B.bytes
  have hr := B.returns
  have hts := atoms_spec (ws := wsJ7_checkLength_df160) B.pre
  have hown : s.vm.findClass RJ7 = some m.cls := findClass_of_methodNamed B.named
  have hlocks := B.notSynchronized
  have hS : va_S (fun _ => False) s.heap s.heap [] := va_S.rf
  have hl := lv_entry ([.int (nI fr), .int (nI to)]) (n := 2) (Nat.le_of_ble_eq_true rfl)
  rw [lg_entry_eq]
  generalize (lg_sl ([.int (nI fr), .int (nI to)]) ++ List.replicate (2 - (lg_sl ([.int (nI fr), .int (nI to)])).length) Slot.unset).toArray = ls at hl ⊢
  have hl : lv_has ls 2 [(0, .int (nI fr)), (1, .int (nI to))] := hl
  refine lv_iload_n hx hb dJ7_checkLength_df160_0 rfl (lv_at hl 1 rfl) ?_
  refine lv_iload_n hx hb dJ7_checkLength_df160_1 rfl (lv_at hl 0 rfl) ?_
  refine xc_ge (tgt := 37) hx hb dJ7_checkLength_df160_2 (by decide) (by omega) (by omega) (fun c_1 => ?_) (fun c_1 => by omega)
  exact W.vret hx hb hr (fun t ht hW => ⟨⟨(), rfl, trivial, trivial⟩, hS.F ht⟩) hS.2.2 dJ7_checkLength_df160_37

set_option maxHeartbeats 4000000 in
set_option maxRecDepth 100000 in
theorem kJ3_checkIndex_8e157n (l : Launch) (ix : Nat) (nn : Nat) (hix : ix < nn ∧ nn < 2 ^ 31) : Met l yJ3_checkIndex_8e157 wsJ3_checkIndex_8e157 ({ frames := 0, cells := 0, slots := 0, locals := 0 }) (va_Pc [.int (nI ix), .int (nI nn), .null] (fun _ => True)) (va_Qi (fun (r : Int32) (u : Unit) => r = nI ix) (fun _ _ => True) (fun _ => False)) 0 0 (fun _ => False) := by
  refine Met.ofW (cc := cJ3_checkIndex_8e157) (maxL := 3) (ret := (some .int)) (by decide) rfl ?_
  intro p e s m args below meth c s₁ B hml hv
  obtain ⟨rfl, -⟩ := hv
  have hx := B.exec
  have hb := B.bytes
  have hr := B.returns
  have hts := atoms_spec (ws := wsJ3_checkIndex_8e157) B.pre
  have hown : s.vm.findClass RJ3 = some m.cls := findClass_of_methodNamed B.named
  have hlocks := B.notSynchronized
  have hS : va_S (fun _ => False) s.heap s.heap [] := va_S.rf
  have hl := lv_entry ([.int (nI ix), .int (nI nn), .null]) (n := 3) (Nat.le_of_ble_eq_true rfl)
  rw [lg_entry_eq]
  generalize (lg_sl ([.int (nI ix), .int (nI nn), .null]) ++ List.replicate (3 - (lg_sl ([.int (nI ix), .int (nI nn), .null])).length) Slot.unset).toArray = ls at hl ⊢
  have hl : lv_has ls 3 [(0, .int (nI ix)), (1, .int (nI nn)), (2, .null)] := hl
  refine lv_iload_n hx hb dJ3_checkIndex_8e157_0 rfl (lv_at hl 0 rfl) ?_
  refine xz_lt (tgt := 9) hx hb dJ3_checkIndex_8e157_1 (by decide) (by omega) ?_
  refine lv_iload_n hx hb dJ3_checkIndex_8e157_4 rfl (lv_at hl 0 rfl) ?_
  refine lv_iload_n hx hb dJ3_checkIndex_8e157_5 rfl (lv_at hl 1 rfl) ?_
  refine xc_lt (tgt := 16) hx hb dJ3_checkIndex_8e157_6 (by decide) (by omega) (by omega) (fun c_2 => ?_) (fun c_2 => by omega)
  refine lv_iload_n hx hb dJ3_checkIndex_8e157_16 rfl (lv_at hl 0 rfl) ?_
  exact W.iret (v := nI ix) hx hb hr (fun t ht hW => ⟨⟨nI ix, (), rfl, rfl, trivial⟩, hS.F ht⟩) hS.2.2 dJ3_checkIndex_8e157_17

set_option maxHeartbeats 4000000 in
set_option maxRecDepth 100000 in
theorem kJ3_checkIndex_8e157r (l : Launch) (ix : Nat) (nn : Nat) (t9 : Nat) (hix : ix < nn ∧ nn < 2 ^ 31) : Met l yJ3_checkIndex_8e157 wsJ3_checkIndex_8e157 ({ frames := 0, cells := 0, slots := 0, locals := 0 }) (va_Pc [.int (nI ix), .int (nI nn), .ref t9] (fun _ => True)) (va_Qi (fun (r : Int32) (u : Unit) => r = nI ix) (fun _ _ => True) (fun _ => False)) 0 0 (fun _ => False) := by
  refine Met.ofW (cc := cJ3_checkIndex_8e157) (maxL := 3) (ret := (some .int)) (by decide) rfl ?_
  intro p e s m args below meth c s₁ B hml hv
  obtain ⟨rfl, -⟩ := hv
  have hx := B.exec
  have hb := B.bytes
  have hr := B.returns
  have hts := atoms_spec (ws := wsJ3_checkIndex_8e157) B.pre
  have hown : s.vm.findClass RJ3 = some m.cls := findClass_of_methodNamed B.named
  have hlocks := B.notSynchronized
  have hS : va_S (fun _ => False) s.heap s.heap [] := va_S.rf
  have hl := lv_entry ([.int (nI ix), .int (nI nn), .ref t9]) (n := 3) (Nat.le_of_ble_eq_true rfl)
  rw [lg_entry_eq]
  generalize (lg_sl ([.int (nI ix), .int (nI nn), .ref t9]) ++ List.replicate (3 - (lg_sl ([.int (nI ix), .int (nI nn), .ref t9])).length) Slot.unset).toArray = ls at hl ⊢
  have hl : lv_has ls 3 [(0, .int (nI ix)), (1, .int (nI nn)), (2, .ref t9)] := hl
  refine lv_iload_n hx hb dJ3_checkIndex_8e157_0 rfl (lv_at hl 0 rfl) ?_
  refine xz_lt (tgt := 9) hx hb dJ3_checkIndex_8e157_1 (by decide) (by omega) ?_
  refine lv_iload_n hx hb dJ3_checkIndex_8e157_4 rfl (lv_at hl 0 rfl) ?_
  refine lv_iload_n hx hb dJ3_checkIndex_8e157_5 rfl (lv_at hl 1 rfl) ?_
  refine xc_lt (tgt := 16) hx hb dJ3_checkIndex_8e157_6 (by decide) (by omega) (by omega) (fun c_2 => ?_) (fun c_2 => by omega)
  refine lv_iload_n hx hb dJ3_checkIndex_8e157_16 rfl (lv_at hl 0 rfl) ?_
  exact W.iret (v := nI ix) hx hb hr (fun t ht hW => ⟨⟨nI ix, (), rfl, rfl, trivial⟩, hS.F ht⟩) hS.2.2 dJ3_checkIndex_8e157_17

theorem mJ7_copyOfRangeByte_39247_arrayClass_byte : Cond.arrayClass .byte ∈ wsJ7_copyOfRangeByte_39247 := List.mem_of_getElem? (i := 1) (by decide +kernel)
theorem mJ7_copyOfRangeByte_39247_methodLink_RJ7_304_Lib_Math_min_name : Cond.methodLink RJ7 304 Lib.Math.min.name ∈ wsJ7_copyOfRangeByte_39247 := List.mem_of_getElem? (i := 2) (by decide +kernel)
theorem mJ7_copyOfRangeByte_39247_static_Lib_Math_min_name : Cond.static Lib.Math.min.name ∈ wsJ7_copyOfRangeByte_39247 := List.mem_of_getElem? (i := 3) (by decide +kernel)
theorem mJ7_copyOfRangeByte_39247_initialized_java_lang_Math : Cond.initialized "java/lang/Math" ∈ wsJ7_copyOfRangeByte_39247 := List.mem_of_getElem? (i := 4) (by decide +kernel)
theorem mJ7_copyOfRangeByte_39247_code_Lib_Math_min_name_Lib_Math_min_code_2_some_int : Cond.code Lib.Math.min.name Lib.Math.min.code 2 (some .int) ∈ wsJ7_copyOfRangeByte_39247 := List.mem_of_getElem? (i := 5) (by decide +kernel)
theorem mJ7_copyOfRangeByte_39247_methodLink_RJ7_150_arraycopyName : Cond.methodLink RJ7 150 arraycopyName ∈ wsJ7_copyOfRangeByte_39247 := List.mem_of_getElem? (i := 6) (by decide +kernel)
theorem mJ7_copyOfRangeByte_39247_native_arraycopyName : Cond.native arraycopyName ∈ wsJ7_copyOfRangeByte_39247 := List.mem_of_getElem? (i := 7) (by decide +kernel)
theorem mJ7_copyOfRangeByte_39247_static_arraycopyName : Cond.static arraycopyName ∈ wsJ7_copyOfRangeByte_39247 := List.mem_of_getElem? (i := 8) (by decide +kernel)
theorem mJ7_copyOfRangeByte_39247_initialized_java_lang_System : Cond.initialized "java/lang/System" ∈ wsJ7_copyOfRangeByte_39247 := List.mem_of_getElem? (i := 9) (by decide +kernel)
set_option maxHeartbeats 4000000 in
set_option maxRecDepth 100000 in
theorem kJ7_copyOfRangeByte_39247 (l : Launch) (dC : Nat → ClassId) (dI : Nat → Nat → Nat) (cyI cyZ cyJ cyD cyB : ClassId) (q1 : Nat) (sz : Nat) (cn : Nat) (f : Nat → Int32) (hcn : cn < 16) (hft : sb_Fit f) : Met l yJ7_copyOfRangeByte_39247 wsJ7_copyOfRangeByte_39247 ({ frames := 1, cells := 1, slots := 16, locals := 40 }) (va_Pc [.ref q1, .int (nI 0), .int (nI cn)] (xN (dC, dI) vwCl (xT cyI cyZ cyJ cyD cyB) [(q1, .inl (cyB, 16, .inl f))] sz)) (va_Qr (fun (u : Unit) => True) (fun u ra t => va_P (dC, dI) vwCl [(q1, .inl (cyB, 16, .inl f)), (ra, .inl (cyB, cn, .inl (va_cpy f (fun _ => 0) 0 0 cn)))] t.heap ∧ va_D (va_A [(q1, .inl (cyB, 16, .inl f))] sz) [(q1, .inl (cyB, 16, .inl f)), (ra, .inl (cyB, cn, .inl (va_cpy f (fun _ => 0) 0 0 cn)))]) (va_A [(q1, .inl (cyB, 16, .inl f))] sz)) 1 16 (va_A [(q1, .inl (cyB, 16, .inl f))] sz) := by
  refine Met.ofW (cc := cJ7_copyOfRangeByte_39247) (maxL := 5) (ret := (some (.array .byte))) (by decide) rfl ?_
  intro p e s m args below meth c s₁ B hml hv
  obtain ⟨rfl, hsz, hP, hK, hD0⟩ := hv
  have hx := B.exec
  have hb := B.bytes
  have hr := B.returns
  have hts := atoms_spec (ws := wsJ7_copyOfRangeByte_39247) B.pre
  have hown : s.vm.findClass RJ7 = some m.cls := findClass_of_methodNamed B.named
  have hlocks := B.notSynchronized
  subst hsz
  have hD := hD0.self (sz := s.heap.size)
  clear hD0
  generalize hAe : va_A [(q1, .inl (cyB, 16, .inl f))] s.heap.size = A at hD ⊢
  have hA : ∀ q : Nat, s.heap.size ≤ q → A q := fun q h => by rw [← hAe]; exact Or.inr h
  have hS : va_S A s.heap s.heap [] := va_S.rf
  have hP : va_P (dC, dI) vwCl [(q1, .inl (cyB, 16, .inl f))] s.heap := hP
  have hl := lv_entry ([.ref q1, .int (nI 0), .int (nI cn)]) (n := 5) (Nat.le_of_ble_eq_true rfl)
  rw [lg_entry_eq]
  generalize (lg_sl ([.ref q1, .int (nI 0), .int (nI cn)]) ++ List.replicate (5 - (lg_sl ([.ref q1, .int (nI 0), .int (nI cn)])).length) Slot.unset).toArray = ls at hl ⊢
  have hl : lv_has ls 5 [(0, .ref q1), (1, .int (nI 0)), (2, .int (nI cn))] := hl
  refine lv_iload_n hx hb dJ7_copyOfRangeByte_39247_0 rfl (lv_at hl 1 rfl) ?_
  refine lv_iload_n hx hb dJ7_copyOfRangeByte_39247_1 rfl (lv_at hl 2 rfl) ?_
  refine xs_v (As := [.int (nI 0), .int (nI cn)]) (rest := []) ⟨hx, hb, hml, hown, hts⟩ (kJ7_checkLength_df160 l 0 cn (by omega)) (va_cwS 2 hts gJ7_copyOfRangeByte_39247_J7_checkLength_df160 rfl rfl rfl (by decide +kernel) ⟨Nat.le_of_ble_eq_true rfl, Nat.le_of_ble_eq_true rfl⟩) hP hS rfl hl.1 rfl (Nat.le_of_ble_eq_true rfl) dJ7_copyOfRangeByte_39247_2 ⟨Nat.le_of_ble_eq_true rfl, Nat.le_of_ble_eq_true rfl⟩ (fun H locs hP hS => ?_)
  refine lv_iload_n hx hb dJ7_copyOfRangeByte_39247_5 rfl (lv_at hl 2 rfl) ?_
  refine lv_iload_n hx hb dJ7_copyOfRangeByte_39247_6 rfl (lv_at hl 1 rfl) ?_
  refine xi_sub hx hb dJ7_copyOfRangeByte_39247_7 (by omega) ?_
  rw [Nat.sub_zero]
  refine lv_istore_n (lv' := [(3, .int (nI cn)), (0, .ref q1), (1, .int (nI 0)), (2, .int (nI cn))]) hx hb dJ7_copyOfRangeByte_39247_8 rfl hl (by decide) rfl (fun ls hl => ?_)
  refine lv_iload_n hx hb dJ7_copyOfRangeByte_39247_9 rfl (lv_at hl 0 rfl) ?_
  refine xi_newa (atype := .byte) (n := cn) (N' := cn) (a0 := (cn, .inl (fun _ => 0))) hx hb (hts _ mJ7_copyOfRangeByte_39247_arrayClass_byte) rfl hK hP hD hS hA 4 rfl (fun _ => rfl) (by omega) rfl (by show _ * 1 ≤ _; omega) (Nat.le_of_ble_eq_true rfl) (by show 0 + _ ≤ 16; omega) dJ7_copyOfRangeByte_39247_10 (fun q_2 H hP hD hS => ?_)
  have hP : va_P (dC, dI) vwCl [(q1, .inl (cyB, 16, .inl f)), (q_2, .inl (cyB, cn, .inl (fun _ => 0)))] H := hP
  have hD : va_D A [(q1, .inl (cyB, 16, .inl f)), (q_2, .inl (cyB, cn, .inl (fun _ => 0)))] := hD
  refine W.widen (k := 1) (n := 16) (Nat.le_of_ble_eq_true rfl) (by first | exact Nat.le_of_ble_eq_true rfl | omega) ?_
  refine lv_astore (lv' := [(4, .ref q_2), (3, .int (nI cn)), (0, .ref q1), (1, .int (nI 0)), (2, .int (nI cn))]) hx hb dJ7_copyOfRangeByte_39247_12 hl (by decide) rfl (fun ls hl => ?_)
  refine lv_aload_n hx hb dJ7_copyOfRangeByte_39247_14 rfl (lv_at hl 2 rfl) ?_
  refine lv_iload_n hx hb dJ7_copyOfRangeByte_39247_15 rfl (lv_at hl 3 rfl) ?_
  refine lv_aload hx hb dJ7_copyOfRangeByte_39247_16 (lv_at hl 0 rfl) ?_
  refine lv_iconst (v := nI 0) hx hb dJ7_copyOfRangeByte_39247_18 (by decide) ?_
  refine lv_aload_n hx hb dJ7_copyOfRangeByte_39247_19 rfl (lv_at hl 2 rfl) ?_
  refine va_alen hx hb hK hP 0 4 rfl rfl (v := nI 16) rfl dJ7_copyOfRangeByte_39247_20 ?_
  refine lv_iload_n hx hb dJ7_copyOfRangeByte_39247_21 rfl (lv_at hl 3 rfl) ?_
  refine xi_sub hx hb dJ7_copyOfRangeByte_39247_22 (by omega) ?_
  rw [Nat.sub_zero]
  refine lv_iload_n hx hb dJ7_copyOfRangeByte_39247_23 rfl (lv_at hl 1 rfl) ?_
  refine va_mmin hx hb (hml.trans hl.1.symm) hown (hts _ mJ7_copyOfRangeByte_39247_methodLink_RJ7_304_Lib_Math_min_name) (hts _ mJ7_copyOfRangeByte_39247_static_Lib_Math_min_name) (hts _ mJ7_copyOfRangeByte_39247_initialized_java_lang_Math) (hts _ mJ7_copyOfRangeByte_39247_code_Lib_Math_min_name_Lib_Math_min_code_2_some_int) (Nat.le_of_ble_eq_true rfl) (Nat.le_of_ble_eq_true rfl) (Nat.le_of_ble_eq_true rfl) ( Nat.le_of_ble_eq_true rfl) dJ7_copyOfRangeByte_39247_24 ?_
  rw [xk_min (x := 16) (y := cn) (by omega) (by omega)]
  rw [show min 16 cn = cn from by omega]
  refine va_copyi hx hb (hml.trans hl.1.symm) hown (hts _ mJ7_copyOfRangeByte_39247_methodLink_RJ7_150_arraycopyName) (hts _ mJ7_copyOfRangeByte_39247_native_arraycopyName) (hts _ mJ7_copyOfRangeByte_39247_static_arraycopyName) (hts _ mJ7_copyOfRangeByte_39247_initialized_java_lang_System) hK hP hD hS 0 1 4 4 rfl rfl rfl rfl rfl (nI_pos (by omega)) (nI_pos (by omega)) (nI_pos (by omega)) (by rw [nI_clamp (by omega), nI_clamp (by omega)]; omega) (by rw [nI_clamp (by omega), nI_clamp (by omega)]; omega) (fun i _ => hft _) (Nat.le_of_ble_eq_true rfl) (Nat.le_of_ble_eq_true rfl) dJ7_copyOfRangeByte_39247_27 (fun H locs hP hD hS => ?_)
  rw [nI_clamp (n := 0) (by omega), nI_clamp (n := cn) (by omega)] at hP hD
  have hP : va_P (dC, dI) vwCl [(q1, .inl (cyB, 16, .inl f)), (q_2, .inl (cyB, cn, .inl (va_cpy f (fun _ => 0) 0 0 cn)))] H := hP
  have hD : va_D A [(q1, .inl (cyB, 16, .inl f)), (q_2, .inl (cyB, cn, .inl (va_cpy f (fun _ => 0) 0 0 cn)))] := hD
  refine lv_aload hx hb dJ7_copyOfRangeByte_39247_30 (lv_at hl 0 rfl) ?_
  have hP9 := xW_sub (w1 := [(q1, .inl (cyB, 16, .inl f)), (q_2, .inl (cyB, cn, .inl (va_cpy f (fun _ => 0) 0 0 cn)))]) hP [0, 1] rfl
  have hD9 := hD.sub (ws' := [(q1, .inl (cyB, 16, .inl f)), (q_2, .inl (cyB, cn, .inl (va_cpy f (fun _ => 0) 0 0 cn)))]) [0, 1] (by decide) rfl
  exact W.aret (v := .ref q_2) hx hb hr (by simp) (Or.inr ⟨_, rfl⟩) (fun t ht hW => ⟨⟨(), q_2, rfl, trivial, by rw [ht]; exact hP9, hD9⟩, hS.F ht⟩) hS.2.2 dJ7_copyOfRangeByte_39247_32

set_option maxHeartbeats 4000000 in
set_option maxRecDepth 100000 in
theorem kJ7_copyOfRange_39247 (l : Launch) (dC : Nat → ClassId) (dI : Nat → Nat → Nat) (cyI cyZ cyJ cyD cyB : ClassId) (q1 : Nat) (sz : Nat) (cn : Nat) (f : Nat → Int32) (hcn : cn < 16) (hft : sb_Fit f) : Met l yJ7_copyOfRange_39247 wsJ7_copyOfRange_39247 ({ frames := 2, cells := 1, slots := 16, locals := 64 }) (va_Pc [.ref q1, .int (nI 0), .int (nI cn)] (xN (dC, dI) vwCl (xT cyI cyZ cyJ cyD cyB) [(q1, .inl (cyB, 16, .inl f))] sz)) (va_Qr (fun (u : Unit) => True) (fun u ra t => va_P (dC, dI) vwCl [(q1, .inl (cyB, 16, .inl f)), (ra, .inl (cyB, cn, .inl (va_cpy f (fun _ => 0) 0 0 cn)))] t.heap ∧ va_D (va_A [(q1, .inl (cyB, 16, .inl f))] sz) [(q1, .inl (cyB, 16, .inl f)), (ra, .inl (cyB, cn, .inl (va_cpy f (fun _ => 0) 0 0 cn)))]) (va_A [(q1, .inl (cyB, 16, .inl f))] sz)) 1 16 (va_A [(q1, .inl (cyB, 16, .inl f))] sz) := by
  refine Met.ofW (cc := cJ7_copyOfRange_39247) (maxL := 3) (ret := (some (.array .byte))) (by decide) rfl ?_
  intro p e s m args below meth c s₁ B hml hv
  obtain ⟨rfl, hsz, hP, hK, hD0⟩ := hv
  have hx := B.exec
  have hb := B.bytes
  have hr := B.returns
  have hts := atoms_spec (ws := wsJ7_copyOfRange_39247) B.pre
  have hown : s.vm.findClass RJ7 = some m.cls := findClass_of_methodNamed B.named
  have hlocks := B.notSynchronized
  subst hsz
  have hD := hD0.self (sz := s.heap.size)
  clear hD0
  generalize hAe : va_A [(q1, .inl (cyB, 16, .inl f))] s.heap.size = A at hD ⊢
  have hA : ∀ q : Nat, s.heap.size ≤ q → A q := fun q h => by rw [← hAe]; exact Or.inr h
  have hS : va_S A s.heap s.heap [] := va_S.rf
  have hP : va_P (dC, dI) vwCl [(q1, .inl (cyB, 16, .inl f))] s.heap := hP
  have hl := lv_entry ([.ref q1, .int (nI 0), .int (nI cn)]) (n := 3) (Nat.le_of_ble_eq_true rfl)
  rw [lg_entry_eq]
  generalize (lg_sl ([.ref q1, .int (nI 0), .int (nI cn)]) ++ List.replicate (3 - (lg_sl ([.ref q1, .int (nI 0), .int (nI cn)])).length) Slot.unset).toArray = ls at hl ⊢
  have hl : lv_has ls 3 [(0, .ref q1), (1, .int (nI 0)), (2, .int (nI cn))] := hl
  refine lv_iload_n hx hb dJ7_copyOfRange_39247_0 rfl (lv_at hl 1 rfl) ?_
  refine xz_ne (tgt := 10) hx hb dJ7_copyOfRange_39247_1 (by decide) (by omega) (fun c_1 => by omega) (fun c_1 => ?_)
  refine lv_iload_n hx hb dJ7_copyOfRange_39247_4 rfl (lv_at hl 2 rfl) ?_
  refine lv_aload_n hx hb dJ7_copyOfRange_39247_5 rfl (lv_at hl 0 rfl) ?_
  refine va_alen hx hb hK hP 0 4 rfl rfl (v := nI 16) rfl dJ7_copyOfRange_39247_6 ?_
  refine xc_eq (tgt := 17) hx hb dJ7_copyOfRange_39247_7 (by decide) (by omega) (by omega) (fun c_2 => by omega) (fun c_2 => ?_)
  refine lv_aload_n hx hb dJ7_copyOfRange_39247_10 rfl (lv_at hl 0 rfl) ?_
  refine lv_iload_n hx hb dJ7_copyOfRange_39247_11 rfl (lv_at hl 1 rfl) ?_
  refine lv_iload_n hx hb dJ7_copyOfRange_39247_12 rfl (lv_at hl 2 rfl) ?_
  refine xrN_r (va_runS (As := [.ref q1, .int (nI 0), .int (nI cn)]) (rest := []) ⟨hx, hb, hml, hown, hts⟩ (kJ7_copyOfRangeByte_39247 l dC dI cyI cyZ cyJ cyD cyB q1 s.heap.size cn f (by omega) hft) (va_cwS 3 hts gJ7_copyOfRange_39247_J7_copyOfRangeByte_39247 rfl rfl rfl (by decide +kernel) ⟨Nat.le_of_ble_eq_true rfl, Nat.le_of_ble_eq_true rfl⟩) ⟨xN_blind, fun U hU hW => ⟨rfl, by rw [hU], by rw [hU]; exact xW_sub hP [0] rfl, va_K.moved hW.alike hK, (hD.sub [0] (by decide) rfl).weaken (fun _ _ _ _ => trivial)⟩⟩ rfl rfl hl.1 rfl (lv_room (Nat.le_of_ble_eq_true rfl)) dJ7_copyOfRange_39247_13 ⟨Nat.le_of_ble_eq_true rfl, Nat.le_of_ble_eq_true rfl⟩) hD hS hA [0] rfl (fun u_4 q_3 H1 locs hP1 hD1 hk1 hS1 => ?_)
  obtain ⟨hP, hD⟩ := va_join (wr := []) (w1 := [(q1, .inl (cyB, 16, .inl f)), (q_3, .inl (cyB, cn, .inl (va_cpy f (fun _ => 0) 0 0 cn)))]) hP hD [0] [] rfl rfl (by decide) (by decide) hk1 (va_free (wc := [(q1, .inl (cyB, 16, .inl f))]) hD hS hA [0] rfl) hP1 hD1
  clear hP1 hD1 hk1
  have hS := hS1
  clear hS1
  generalize H1 = H at hP hS ⊢
  have hP : va_P (dC, dI) vwCl [(q1, .inl (cyB, 16, .inl f)), (q_3, .inl (cyB, cn, .inl (va_cpy f (fun _ => 0) 0 0 cn)))] H := hP
  have hD : va_D A [(q1, .inl (cyB, 16, .inl f)), (q_3, .inl (cyB, cn, .inl (va_cpy f (fun _ => 0) 0 0 cn)))] := hD
  refine W.widen (k := 1) (n := 16) (Nat.le_of_ble_eq_true rfl) (by first | exact Nat.le_of_ble_eq_true rfl | omega) ?_
  have hP9 := xW_sub (w1 := [(q1, .inl (cyB, 16, .inl f)), (q_3, .inl (cyB, cn, .inl (va_cpy f (fun _ => 0) 0 0 cn)))]) hP [0, 1] rfl
  have hD9 := hD.sub (ws' := [(q1, .inl (cyB, 16, .inl f)), (q_3, .inl (cyB, cn, .inl (va_cpy f (fun _ => 0) 0 0 cn)))]) [0, 1] (by decide) rfl
  exact W.aret (v := .ref q_3) hx hb hr (by simp) (Or.inr ⟨_, rfl⟩) (fun t ht hW => ⟨⟨(), q_3, rfl, trivial, by rw [ht]; exact hP9, hD9⟩, hS.F ht⟩) hS.2.2 dJ7_copyOfRange_39247_16

theorem mJ0_init_db425_methodLink_RJ0_1_objectInit : Cond.methodLink RJ0 1 objectInit ∈ wsJ0_init_db425 := List.mem_of_getElem? (i := 1) (by decide +kernel)
theorem mJ0_init_db425_instanceMethod_objectInit : Cond.instanceMethod objectInit ∈ wsJ0_init_db425 := List.mem_of_getElem? (i := 2) (by decide +kernel)
theorem mJ0_init_db425_code_objectInit_0xb1_1_none : Cond.code objectInit ⟨#[0xb1]⟩ 1 none ∈ wsJ0_init_db425 := List.mem_of_getElem? (i := 3) (by decide +kernel)
theorem mJ0_init_db425_code_yJ5_length_8abf5_cJ5_length_8abf5_1_some_int : Cond.code yJ5_length_8abf5 cJ5_length_8abf5 1 (some .int) ∈ wsJ0_init_db425 := List.mem_of_getElem? (i := 25) (by decide +kernel)
theorem inJ0_init_db425_J0 : ∀ w ∈ wsJ00, w ∈ wsJ0_init_db425 := by decide +kernel
theorem mJ0_init_db425_fieldLink_RJ0_15_java_lang_String_coder_B : Cond.fieldLink RJ0 15 "java/lang/String" "coder" "B" ∈ wsJ0_init_db425 := List.mem_of_getElem? (i := 4) (by decide +kernel)
theorem mJ0_init_db425_fieldLink_RJ0_9_java_lang_String_value_B : Cond.fieldLink RJ0 9 "java/lang/String" "value" "[B" ∈ wsJ0_init_db425 := List.mem_of_getElem? (i := 5) (by decide +kernel)
set_option maxHeartbeats 4000000 in
set_option maxRecDepth 100000 in
theorem kJ0_init_db425 (l : Launch) (dC : Nat → ClassId) (dI : Nat → Nat → Nat) (cyI cyZ cyJ cyD cyB : ClassId) (s0 q0 q1 : Nat) (sz : Nat) (cn : Nat) (f : Nat → Int32) (hcn : cn < 16) (hft : sb_Fit f) : Met l yJ0_init_db425 wsJ0_init_db425 ({ frames := 3, cells := 1, slots := 16, locals := 86 }) (va_Pc [.ref s0, .ref q0, .null] (xY (va_A [(s0, .inr (0, [.null, .int (nI 0), .int (nI 0), .int (nI 0)])), (q0, .inr (1, [.ref q1, .int (nI 0), .int (nI 0), .int (nI cn)])), (q1, .inl (cyB, 16, .inl f))] sz) (xN (dC, dI) vwCl (xT cyI cyZ cyJ cyD cyB) [(s0, .inr (0, [.null, .int (nI 0), .int (nI 0), .int (nI 0)])), (q0, .inr (1, [.ref q1, .int (nI 0), .int (nI 0), .int (nI cn)])), (q1, .inl (cyB, 16, .inl f))] sz))) (va_Qv (fun (u : Nat) => True) (fun u t => va_P (dC, dI) vwCl [(s0, .inr (0, [.ref u, .int (nI 0), .int (nI 0), .int (nI 0)])), (q0, .inr (1, [.ref q1, .int (nI 0), .int (nI 0), .int (nI cn)])), (q1, .inl (cyB, 16, .inl f)), (u, .inl (cyB, cn, .inl (va_cpy f (fun _ => 0) 0 0 cn)))] t.heap ∧ va_D (va_A [(s0, .inr (0, [.null, .int (nI 0), .int (nI 0), .int (nI 0)])), (q0, .inr (1, [.ref q1, .int (nI 0), .int (nI 0), .int (nI cn)])), (q1, .inl (cyB, 16, .inl f))] sz) [(s0, .inr (0, [.ref u, .int (nI 0), .int (nI 0), .int (nI 0)])), (q0, .inr (1, [.ref q1, .int (nI 0), .int (nI 0), .int (nI cn)])), (q1, .inl (cyB, 16, .inl f)), (u, .inl (cyB, cn, .inl (va_cpy f (fun _ => 0) 0 0 cn)))]) (va_A [(s0, .inr (0, [.null, .int (nI 0), .int (nI 0), .int (nI 0)])), (q0, .inr (1, [.ref q1, .int (nI 0), .int (nI 0), .int (nI cn)])), (q1, .inl (cyB, 16, .inl f))] sz)) 1 16 (va_A [(s0, .inr (0, [.null, .int (nI 0), .int (nI 0), .int (nI 0)])), (q0, .inr (1, [.ref q1, .int (nI 0), .int (nI 0), .int (nI cn)])), (q1, .inl (cyB, 16, .inl f))] sz) := by
  refine Met.ofW (cc := cJ0_init_db425) (maxL := 5) (ret := none) (by decide) rfl ?_
  intro p e s m args below meth c s₁ B hml hv
  obtain ⟨rfl, ⟨hsz, hP, hK, hD0⟩, hZ⟩ := hv
  have hx := B.exec
  have hb := B.bytes
  have hr := B.returns
  have hts := atoms_spec (ws := wsJ0_init_db425) B.pre
  have hown : s.vm.findClass RJ0 = some m.cls := findClass_of_methodNamed B.named
  have hlocks := B.notSynchronized
  have hin : meth.name = "<init>" := (name_of_methodNamed B.named B.method).1
  subst hsz
  have hD := hD0.self (sz := s.heap.size)
  clear hD0
  generalize hAe : va_A [(s0, .inr (0, [.null, .int (nI 0), .int (nI 0), .int (nI 0)])), (q0, .inr (1, [.ref q1, .int (nI 0), .int (nI 0), .int (nI cn)])), (q1, .inl (cyB, 16, .inl f))] s.heap.size = A at hD hZ ⊢
  have hA : ∀ q : Nat, s.heap.size ≤ q → A q := fun q h => by rw [← hAe]; exact Or.inr h
  have hS : va_S A s.heap s.heap [] := va_S.rf
  have hP : va_P (dC, dI) vwCl [(s0, .inr (0, [.null, .int (nI 0), .int (nI 0), .int (nI 0)])), (q0, .inr (1, [.ref q1, .int (nI 0), .int (nI 0), .int (nI cn)])), (q1, .inl (cyB, 16, .inl f))] s.heap := hP
  have hl := lv_entry ([.ref s0, .ref q0, .null]) (n := 5) (Nat.le_of_ble_eq_true rfl)
  rw [lg_entry_eq]
  generalize (lg_sl ([.ref s0, .ref q0, .null]) ++ List.replicate (5 - (lg_sl ([.ref s0, .ref q0, .null])).length) Slot.unset).toArray = ls at hl ⊢
  have hl : lv_has ls 5 [(0, .ref s0), (1, .ref q0), (2, .null)] := hl
  refine lv_aload_n hx hb dJ0_init_db425_0 rfl (lv_at hl 0 rfl) ?_
  refine W.objInit hx hb hown (hts _ mJ0_init_db425_methodLink_RJ0_1_objectInit) (hts _ mJ0_init_db425_instanceMethod_objectInit) (hts _ mJ0_init_db425_code_objectInit_0xb1_1_none) rfl (by rw [hml]; exact hl.1) rfl dJ0_init_db425_1 (Nat.le_of_ble_eq_true rfl) (Nat.le_of_ble_eq_true rfl) ?_
  refine W.eq (g2 := F0 m 4 ls []) rfl ?_
  refine lv_aload_n hx hb dJ0_init_db425_4 rfl (lv_at hl 1 rfl) ?_
  refine xrP_r (va_runU (As := []) (rest := []) ⟨hx, hb, hml, hown, hts⟩ (kJ5_getValue_6d5f1 l dC dI cyI cyZ cyJ cyD cyB q0 q1 cn f) (va_cwU 0 hts gJ0_init_db425_J5_getValue_6d5f1_u552J4 rfl rfl rfl rfl (by decide +kernel) ⟨Nat.le_of_ble_eq_true rfl, Nat.le_of_ble_eq_true rfl⟩) ⟨xP_blind, va_recv (q := (RJ4, TJ4, 4)) hK hP (q0 := 1) (ci := 1) rfl rfl, fun U hU hW => ⟨rfl, by rw [hU]; exact xW_sub hP [1, 2] rfl, va_K.moved hW.alike hK⟩⟩ rfl rfl hl.1 rfl (lv_room (Nat.le_of_ble_eq_true rfl)) dJ0_init_db425_5 ⟨Nat.le_of_ble_eq_true rfl, Nat.le_of_ble_eq_true rfl⟩) hP hS (fun H locs hP hS => ?_)
  refine lv_astore_n (lv' := [(3, .ref q1), (0, .ref s0), (1, .ref q0), (2, .null)]) hx hb dJ0_init_db425_8 rfl hl (by decide) rfl (fun ls hl => ?_)
  refine lv_aload_n hx hb dJ0_init_db425_9 rfl (lv_at hl 2 rfl) ?_
  refine xrP_i (va_runU (As := []) (rest := []) ⟨hx, hb, hml, hown, hts⟩ (kJ4_length_8abf5 l dC dI cyI cyZ cyJ cyD cyB q0 q1 cn f) (va_cwO 0 hts gJ0_init_db425_J4_length_8abf5_u549J4 rfl rfl rfl mJ0_init_db425_code_yJ5_length_8abf5_cJ5_length_8abf5_1_some_int (by decide +kernel) ⟨Nat.le_of_ble_eq_true rfl, Nat.le_of_ble_eq_true rfl⟩) ⟨xP_blind, va_recv (q := (RJ4, TJ4, 4)) hK hP (q0 := 1) (ci := 1) rfl rfl, fun U hU hW => ⟨rfl, by rw [hU]; exact xW_sub hP [1, 2] rfl, va_K.moved hW.alike hK⟩⟩ rfl rfl hl.1 rfl (lv_room (Nat.le_of_ble_eq_true rfl)) dJ0_init_db425_10 ⟨Nat.le_of_ble_eq_true rfl, Nat.le_of_ble_eq_true rfl⟩) hP hS (fun r_1 H locs hw hP hS => ?_)
  have hw : r_1 = nI cn := hw
  subst hw
  refine lv_istore (lv' := [(4, .int (nI cn)), (3, .ref q1), (0, .ref s0), (1, .ref q0), (2, .null)]) hx hb dJ0_init_db425_13 hl (by decide) rfl (fun ls hl => ?_)
  refine lv_aload_n hx hb dJ0_init_db425_15 rfl (lv_at hl 3 rfl) ?_
  refine xrP_i (va_runU (As := []) (rest := []) ⟨hx, hb, hml, hown, hts⟩ (kJ5_isLatin1_aae02 l dC dI cyI cyZ cyJ cyD cyB q0 q1 cn f) (va_cwU 0 hts gJ0_init_db425_J5_isLatin1_aae02_u1047J4 rfl rfl rfl rfl (by decide +kernel) ⟨Nat.le_of_ble_eq_true rfl, Nat.le_of_ble_eq_true rfl⟩) ⟨(xY_blind xP_blind), va_recv (q := (RJ4, TJ4, 4)) hK hP (q0 := 1) (ci := 1) rfl rfl, fun U hU hW => ⟨rfl, ⟨by rw [hU]; exact xW_sub hP [1, 2] rfl, va_K.moved hW.alike hK⟩, xY_go hZ hS hU hW (fun q _ h => h.elim)⟩⟩ rfl rfl hl.1 rfl (lv_room (Nat.le_of_ble_eq_true rfl)) dJ0_init_db425_16 ⟨Nat.le_of_ble_eq_true rfl, Nat.le_of_ble_eq_true rfl⟩) hP hS (fun r_2 H locs hw hP hS => ?_)
  have hw : r_2 = nI 1 := hw
  subst hw
  refine xz_eq (tgt := 41) hx hb dJ0_init_db425_19 (by decide) (by omega) (fun c_3 => by omega) (fun c_3 => ?_)
  refine lv_aload_n hx hb dJ0_init_db425_22 rfl (lv_at hl 2 rfl) ?_
  refine lv_iconst (v := nI 0) hx hb dJ0_init_db425_23 (by decide) ?_
  refine va_putF (D := (dC, dI)) (ci := 0) (v := .int (nI 0)) (ty := .byte) (C := RJ0) (T := TJ0) (N := 4) hx hb hts inJ0_init_db425_J0 tyJ0 tyJ0_ok nmJ0 hown hK hP hD hS 0 rfl rfl 1 (by decide) (hts _ mJ0_init_db425_fieldLink_RJ0_15_java_lang_String_coder_B) (fun _ h9 => h9) rfl hin rfl (by decide +kernel) rfl rfl (Nat.le_of_ble_eq_true rfl) dJ0_init_db425_24 (fun H locs hP hD hS => ?_)
  have hP : va_P (dC, dI) vwCl [(s0, .inr (0, [.null, .int (nI 0), .int (nI 0), .int (nI 0)])), (q0, .inr (1, [.ref q1, .int (nI 0), .int (nI 0), .int (nI cn)])), (q1, .inl (cyB, 16, .inl f))] H := hP
  have hD : va_D A [(s0, .inr (0, [.null, .int (nI 0), .int (nI 0), .int (nI 0)])), (q0, .inr (1, [.ref q1, .int (nI 0), .int (nI 0), .int (nI cn)])), (q1, .inl (cyB, 16, .inl f))] := hD
  refine lv_aload_n hx hb dJ0_init_db425_27 rfl (lv_at hl 2 rfl) ?_
  refine lv_aload_n hx hb dJ0_init_db425_28 rfl (lv_at hl 1 rfl) ?_
  refine lv_iconst (v := nI 0) hx hb dJ0_init_db425_29 (by decide) ?_
  refine lv_iload hx hb dJ0_init_db425_30 (lv_at hl 0 rfl) ?_
  refine xrN_r (va_runS (As := [.ref q1, .int (nI 0), .int (nI cn)]) (rest := [.ref s0]) ⟨hx, hb, hml, hown, hts⟩ (kJ7_copyOfRange_39247 l dC dI cyI cyZ cyJ cyD cyB q1 H.size cn f (by omega) hft) (va_cwS 3 hts gJ0_init_db425_J7_copyOfRange_39247 rfl rfl rfl (by decide +kernel) ⟨Nat.le_of_ble_eq_true rfl, Nat.le_of_ble_eq_true rfl⟩) ⟨xN_blind, fun U hU hW => ⟨rfl, by rw [hU], by rw [hU]; exact xW_sub hP [2] rfl, va_K.moved hW.alike hK, (hD.sub [2] (by decide) rfl).weaken (fun _ _ _ _ => trivial)⟩⟩ rfl rfl hl.1 rfl (lv_room (Nat.le_of_ble_eq_true rfl)) dJ0_init_db425_32 ⟨Nat.le_of_ble_eq_true rfl, Nat.le_of_ble_eq_true rfl⟩) hD hS hA [2] rfl (fun u_5 q_4 H1 locs hP1 hD1 hk1 hS1 => ?_)
  obtain ⟨hP, hD⟩ := va_join (wr := [(s0, .inr (0, [.null, .int (nI 0), .int (nI 0), .int (nI 0)])), (q0, .inr (1, [.ref q1, .int (nI 0), .int (nI 0), .int (nI cn)]))]) (w1 := [(q1, .inl (cyB, 16, .inl f)), (q_4, .inl (cyB, cn, .inl (va_cpy f (fun _ => 0) 0 0 cn)))]) hP hD [2] [0, 1] rfl rfl (by decide) (by decide) hk1 (va_free (wc := [(q1, .inl (cyB, 16, .inl f))]) hD hS hA [2] rfl) hP1 hD1
  clear hP1 hD1 hk1
  have hS := hS1
  clear hS1
  generalize H1 = H at hP hS ⊢
  have hP : va_P (dC, dI) vwCl [(s0, .inr (0, [.null, .int (nI 0), .int (nI 0), .int (nI 0)])), (q0, .inr (1, [.ref q1, .int (nI 0), .int (nI 0), .int (nI cn)])), (q1, .inl (cyB, 16, .inl f)), (q_4, .inl (cyB, cn, .inl (va_cpy f (fun _ => 0) 0 0 cn)))] H := hP
  have hD : va_D A [(s0, .inr (0, [.null, .int (nI 0), .int (nI 0), .int (nI 0)])), (q0, .inr (1, [.ref q1, .int (nI 0), .int (nI 0), .int (nI cn)])), (q1, .inl (cyB, 16, .inl f)), (q_4, .inl (cyB, cn, .inl (va_cpy f (fun _ => 0) 0 0 cn)))] := hD
  refine W.widen (k := 1) (n := 16) (Nat.le_of_ble_eq_true rfl) (by first | exact Nat.le_of_ble_eq_true rfl | omega) ?_
  refine va_putF (D := (dC, dI)) (ci := 0) (v := .ref q_4) (ty := .array .byte) (C := RJ0) (T := TJ0) (N := 4) hx hb hts inJ0_init_db425_J0 tyJ0 tyJ0_ok nmJ0 hown hK hP hD hS 0 rfl rfl 0 (by decide) (hts _ mJ0_init_db425_fieldLink_RJ0_9_java_lang_String_value_B) (fun _ h9 => h9) rfl hin rfl (by decide +kernel) rfl rfl (Nat.le_of_ble_eq_true rfl) dJ0_init_db425_35 (fun H locs hP hD hS => ?_)
  have hP : va_P (dC, dI) vwCl [(s0, .inr (0, [.ref q_4, .int (nI 0), .int (nI 0), .int (nI 0)])), (q0, .inr (1, [.ref q1, .int (nI 0), .int (nI 0), .int (nI cn)])), (q1, .inl (cyB, 16, .inl f)), (q_4, .inl (cyB, cn, .inl (va_cpy f (fun _ => 0) 0 0 cn)))] H := hP
  have hD : va_D A [(s0, .inr (0, [.ref q_4, .int (nI 0), .int (nI 0), .int (nI 0)])), (q0, .inr (1, [.ref q1, .int (nI 0), .int (nI 0), .int (nI cn)])), (q1, .inl (cyB, 16, .inl f)), (q_4, .inl (cyB, cn, .inl (va_cpy f (fun _ => 0) 0 0 cn)))] := hD
  refine lv_goto (tgt := 97) hx hb dJ0_init_db425_38 (by decide) ?_
  have hP9 := xW_sub (w1 := [(s0, .inr (0, [.ref q_4, .int (nI 0), .int (nI 0), .int (nI 0)])), (q0, .inr (1, [.ref q1, .int (nI 0), .int (nI 0), .int (nI cn)])), (q1, .inl (cyB, 16, .inl f)), (q_4, .inl (cyB, cn, .inl (va_cpy f (fun _ => 0) 0 0 cn)))]) hP [0, 1, 2, 3] rfl
  have hD9 := hD.sub (ws' := [(s0, .inr (0, [.ref q_4, .int (nI 0), .int (nI 0), .int (nI 0)])), (q0, .inr (1, [.ref q1, .int (nI 0), .int (nI 0), .int (nI cn)])), (q1, .inl (cyB, 16, .inl f)), (q_4, .inl (cyB, cn, .inl (va_cpy f (fun _ => 0) 0 0 cn)))]) [0, 1, 2, 3] (by decide) rfl
  exact W.vret hx hb hr (fun t ht hW => ⟨⟨(q_4), rfl, trivial, ⟨by rw [ht]; exact hP9, hD9⟩⟩, hS.F ht⟩) hS.2.2 dJ0_init_db425_97

theorem mJ0_init_81219_initialized_RJ0 : Cond.initialized RJ0 ∈ wsJ0_init_81219 := List.mem_of_getElem? (i := 3) (by decide +kernel)
theorem mJ0_init_81219_methodLink_RJ0_489_yJ0_init_db425 : Cond.methodLink RJ0 489 yJ0_init_db425 ∈ wsJ0_init_81219 := List.mem_of_getElem? (i := 1) (by decide +kernel)
theorem mJ0_init_81219_instanceMethod_yJ0_init_db425 : Cond.instanceMethod yJ0_init_db425 ∈ wsJ0_init_81219 := List.mem_of_getElem? (i := 2) (by decide +kernel)
set_option maxHeartbeats 4000000 in
set_option maxRecDepth 100000 in
theorem kJ0_init_81219 (l : Launch) (dC : Nat → ClassId) (dI : Nat → Nat → Nat) (cyI cyZ cyJ cyD cyB : ClassId) (s0 q0 q1 : Nat) (sz : Nat) (cn : Nat) (f : Nat → Int32) (hcn : cn < 16) (hft : sb_Fit f) : Met l yJ0_init_81219 wsJ0_init_81219 ({ frames := 4, cells := 1, slots := 16, locals := 110 }) (va_Pc [.ref s0, .ref q0] (xY (va_A [(s0, .inr (0, [.null, .int (nI 0), .int (nI 0), .int (nI 0)])), (q0, .inr (1, [.ref q1, .int (nI 0), .int (nI 0), .int (nI cn)])), (q1, .inl (cyB, 16, .inl f))] sz) (xN (dC, dI) vwCl (xT cyI cyZ cyJ cyD cyB) [(s0, .inr (0, [.null, .int (nI 0), .int (nI 0), .int (nI 0)])), (q0, .inr (1, [.ref q1, .int (nI 0), .int (nI 0), .int (nI cn)])), (q1, .inl (cyB, 16, .inl f))] sz))) (va_Qv (fun (u : Nat) => True) (fun u t => va_P (dC, dI) vwCl [(s0, .inr (0, [.ref u, .int (nI 0), .int (nI 0), .int (nI 0)])), (q0, .inr (1, [.ref q1, .int (nI 0), .int (nI 0), .int (nI cn)])), (q1, .inl (cyB, 16, .inl f)), (u, .inl (cyB, cn, .inl (va_cpy f (fun _ => 0) 0 0 cn)))] t.heap ∧ va_D (va_A [(s0, .inr (0, [.null, .int (nI 0), .int (nI 0), .int (nI 0)])), (q0, .inr (1, [.ref q1, .int (nI 0), .int (nI 0), .int (nI cn)])), (q1, .inl (cyB, 16, .inl f))] sz) [(s0, .inr (0, [.ref u, .int (nI 0), .int (nI 0), .int (nI 0)])), (q0, .inr (1, [.ref q1, .int (nI 0), .int (nI 0), .int (nI cn)])), (q1, .inl (cyB, 16, .inl f)), (u, .inl (cyB, cn, .inl (va_cpy f (fun _ => 0) 0 0 cn)))]) (va_A [(s0, .inr (0, [.null, .int (nI 0), .int (nI 0), .int (nI 0)])), (q0, .inr (1, [.ref q1, .int (nI 0), .int (nI 0), .int (nI cn)])), (q1, .inl (cyB, 16, .inl f))] sz)) 1 16 (va_A [(s0, .inr (0, [.null, .int (nI 0), .int (nI 0), .int (nI 0)])), (q0, .inr (1, [.ref q1, .int (nI 0), .int (nI 0), .int (nI cn)])), (q1, .inl (cyB, 16, .inl f))] sz) := by
  refine Met.ofW (cc := cJ0_init_81219) (maxL := 2) (ret := none) (by decide) rfl ?_
  intro p e s m args below meth c s₁ B hml hv
  obtain ⟨rfl, ⟨hsz, hP, hK, hD0⟩, hZ⟩ := hv
  have hx := B.exec
  have hb := B.bytes
  have hr := B.returns
  have hts := atoms_spec (ws := wsJ0_init_81219) B.pre
  have hown : s.vm.findClass RJ0 = some m.cls := findClass_of_methodNamed B.named
  have hlocks := B.notSynchronized
  have hin : meth.name = "<init>" := (name_of_methodNamed B.named B.method).1
  subst hsz
  have hD := hD0.self (sz := s.heap.size)
  clear hD0
  generalize hAe : va_A [(s0, .inr (0, [.null, .int (nI 0), .int (nI 0), .int (nI 0)])), (q0, .inr (1, [.ref q1, .int (nI 0), .int (nI 0), .int (nI cn)])), (q1, .inl (cyB, 16, .inl f))] s.heap.size = A at hD hZ ⊢
  have hA : ∀ q : Nat, s.heap.size ≤ q → A q := fun q h => by rw [← hAe]; exact Or.inr h
  have hS : va_S A s.heap s.heap [] := va_S.rf
  have hP : va_P (dC, dI) vwCl [(s0, .inr (0, [.null, .int (nI 0), .int (nI 0), .int (nI 0)])), (q0, .inr (1, [.ref q1, .int (nI 0), .int (nI 0), .int (nI cn)])), (q1, .inl (cyB, 16, .inl f))] s.heap := hP
  have hl := lv_entry ([.ref s0, .ref q0]) (n := 2) (Nat.le_of_ble_eq_true rfl)
  rw [lg_entry_eq]
  generalize (lg_sl ([.ref s0, .ref q0]) ++ List.replicate (2 - (lg_sl ([.ref s0, .ref q0])).length) Slot.unset).toArray = ls at hl ⊢
  have hl : lv_has ls 2 [(0, .ref s0), (1, .ref q0)] := hl
  refine lv_aload_n hx hb dJ0_init_81219_0 rfl (lv_at hl 0 rfl) ?_
  refine lv_aload_n hx hb dJ0_init_81219_1 rfl (lv_at hl 1 rfl) ?_
  refine lv_null hx hb dJ0_init_81219_2 ?_
  refine xrN_v (va_runI (As := [.ref q0, .null]) (rest := []) ⟨hx, hb, hml, hown, hts⟩ (kJ0_init_db425 l dC dI cyI cyZ cyJ cyD cyB s0 q0 q1 s.heap.size cn f (by omega) hft) (cwI 2 hts gJ0_init_81219_J0_init_db425 rfl rfl rfl (hts _ mJ0_init_81219_initialized_RJ0) (hts _ mJ0_init_81219_methodLink_RJ0_489_yJ0_init_db425) (hts _ mJ0_init_81219_instanceMethod_yJ0_init_db425) rfl (by decide +kernel) ⟨Nat.le_of_ble_eq_true rfl, Nat.le_of_ble_eq_true rfl⟩) ⟨(xY_blind xN_blind), fun U hU hW => ⟨rfl, ⟨by rw [hU], by rw [hU]; exact xW_sub hP [0, 1, 2] rfl, va_K.moved hW.alike hK, (hD.sub [0, 1, 2] (by decide) rfl).weaken (fun _ _ _ _ => trivial)⟩, xY_go hZ hS hU hW (fun q _ h => va_free hD hS hA [0, 1, 2] rfl q h)⟩⟩ rfl rfl hl.1 rfl (lv_room (Nat.le_of_ble_eq_true rfl)) dJ0_init_81219_3 ⟨Nat.le_of_ble_eq_true rfl, Nat.le_of_ble_eq_true rfl⟩) hD hS hA [0, 1, 2] rfl (fun q_1  H1 locs hP1 hD1 hk1 hS1 => ?_)
  obtain ⟨hP, hD⟩ := va_join (wr := []) (w1 := [(s0, .inr (0, [.ref q_1, .int (nI 0), .int (nI 0), .int (nI 0)])), (q0, .inr (1, [.ref q1, .int (nI 0), .int (nI 0), .int (nI cn)])), (q1, .inl (cyB, 16, .inl f)), (q_1, .inl (cyB, cn, .inl (va_cpy f (fun _ => 0) 0 0 cn)))]) hP hD [0, 1, 2] [] rfl rfl (by decide) (by decide) hk1 (va_free (wc := [(s0, .inr (0, [.null, .int (nI 0), .int (nI 0), .int (nI 0)])), (q0, .inr (1, [.ref q1, .int (nI 0), .int (nI 0), .int (nI cn)])), (q1, .inl (cyB, 16, .inl f))]) hD hS hA [0, 1, 2] rfl) hP1 hD1
  clear hP1 hD1 hk1
  have hS := hS1
  clear hS1
  generalize H1 = H at hP hS ⊢
  have hP : va_P (dC, dI) vwCl [(s0, .inr (0, [.ref q_1, .int (nI 0), .int (nI 0), .int (nI 0)])), (q0, .inr (1, [.ref q1, .int (nI 0), .int (nI 0), .int (nI cn)])), (q1, .inl (cyB, 16, .inl f)), (q_1, .inl (cyB, cn, .inl (va_cpy f (fun _ => 0) 0 0 cn)))] H := hP
  have hD : va_D A [(s0, .inr (0, [.ref q_1, .int (nI 0), .int (nI 0), .int (nI 0)])), (q0, .inr (1, [.ref q1, .int (nI 0), .int (nI 0), .int (nI cn)])), (q1, .inl (cyB, 16, .inl f)), (q_1, .inl (cyB, cn, .inl (va_cpy f (fun _ => 0) 0 0 cn)))] := hD
  refine W.widen (k := 1) (n := 16) (Nat.le_of_ble_eq_true rfl) (by first | exact Nat.le_of_ble_eq_true rfl | omega) ?_
  have hP9 := xW_sub (w1 := [(s0, .inr (0, [.ref q_1, .int (nI 0), .int (nI 0), .int (nI 0)])), (q0, .inr (1, [.ref q1, .int (nI 0), .int (nI 0), .int (nI cn)])), (q1, .inl (cyB, 16, .inl f)), (q_1, .inl (cyB, cn, .inl (va_cpy f (fun _ => 0) 0 0 cn)))]) hP [0, 1, 2, 3] rfl
  have hD9 := hD.sub (ws' := [(s0, .inr (0, [.ref q_1, .int (nI 0), .int (nI 0), .int (nI 0)])), (q0, .inr (1, [.ref q1, .int (nI 0), .int (nI 0), .int (nI cn)])), (q1, .inl (cyB, 16, .inl f)), (q_1, .inl (cyB, cn, .inl (va_cpy f (fun _ => 0) 0 0 cn)))]) [0, 1, 2, 3] (by decide) rfl
  exact W.vret hx hb hr (fun t ht hW => ⟨⟨(q_1), rfl, trivial, ⟨by rw [ht]; exact hP9, hD9⟩⟩, hS.F ht⟩) hS.2.2 dJ0_init_81219_6

theorem mJ4_toString_0e30d_instantiable_RJ0_4 : Cond.instantiable RJ0 4 ∈ wsJ4_toString_0e30d := List.mem_of_getElem? (i := 2) (by decide +kernel)
theorem mJ4_toString_0e30d_initialized_RJ0 : Cond.initialized RJ0 ∈ wsJ4_toString_0e30d := List.mem_of_getElem? (i := 3) (by decide +kernel)
theorem inJ4_toString_0e30d_J0 : ∀ w ∈ wsJ00, w ∈ wsJ4_toString_0e30d := by decide +kernel
theorem mJ4_toString_0e30d_classLink_RJ4_18_RJ0 : Cond.classLink RJ4 18 RJ0 ∈ wsJ4_toString_0e30d := List.mem_of_getElem? (i := 1) (by decide +kernel)
theorem mJ4_toString_0e30d_methodLink_RJ4_137_yJ0_init_81219 : Cond.methodLink RJ4 137 yJ0_init_81219 ∈ wsJ4_toString_0e30d := List.mem_of_getElem? (i := 4) (by decide +kernel)
theorem mJ4_toString_0e30d_instanceMethod_yJ0_init_81219 : Cond.instanceMethod yJ0_init_81219 ∈ wsJ4_toString_0e30d := List.mem_of_getElem? (i := 5) (by decide +kernel)
set_option maxHeartbeats 4000000 in
set_option maxRecDepth 100000 in
theorem kJ4_toString_0e30d (l : Launch) (dC : Nat → ClassId) (dI : Nat → Nat → Nat) (cyI cyZ cyJ cyD cyB : ClassId) (q0 q1 : Nat) (sz : Nat) (cn : Nat) (f : Nat → Int32) (hcn : cn < 16) (hft : sb_Fit f) : Met l yJ4_toString_0e30d wsJ4_toString_0e30d ({ frames := 5, cells := 2, slots := 20, locals := 131 }) (va_Pc [.ref q0] (xY (va_A [(q0, .inr (1, [.ref q1, .int (nI 0), .int (nI 0), .int (nI cn)])), (q1, .inl (cyB, 16, .inl f))] sz) (xN (dC, dI) vwCl (xT cyI cyZ cyJ cyD cyB) [(q0, .inr (1, [.ref q1, .int (nI 0), .int (nI 0), .int (nI cn)])), (q1, .inl (cyB, 16, .inl f))] sz))) (va_Qr (fun (u : Nat) => True) (fun u ra t => va_P (dC, dI) vwCl [(q0, .inr (1, [.ref q1, .int (nI 0), .int (nI 0), .int (nI cn)])), (q1, .inl (cyB, 16, .inl f)), (ra, .inr (0, [.ref u, .int (nI 0), .int (nI 0), .int (nI 0)])), (u, .inl (cyB, cn, .inl (va_cpy f (fun _ => 0) 0 0 cn)))] t.heap ∧ va_D (va_A [(q0, .inr (1, [.ref q1, .int (nI 0), .int (nI 0), .int (nI cn)])), (q1, .inl (cyB, 16, .inl f))] sz) [(q0, .inr (1, [.ref q1, .int (nI 0), .int (nI 0), .int (nI cn)])), (q1, .inl (cyB, 16, .inl f)), (ra, .inr (0, [.ref u, .int (nI 0), .int (nI 0), .int (nI 0)])), (u, .inl (cyB, cn, .inl (va_cpy f (fun _ => 0) 0 0 cn)))]) (va_A [(q0, .inr (1, [.ref q1, .int (nI 0), .int (nI 0), .int (nI cn)])), (q1, .inl (cyB, 16, .inl f))] sz)) 2 20 (va_A [(q0, .inr (1, [.ref q1, .int (nI 0), .int (nI 0), .int (nI cn)])), (q1, .inl (cyB, 16, .inl f))] sz) := by
  refine Met.ofW (cc := cJ4_toString_0e30d) (maxL := 1) (ret := (some (.object "java/lang/String"))) (by decide) rfl ?_
  intro p e s m args below meth c s₁ B hml hv
  obtain ⟨rfl, ⟨hsz, hP, hK, hD0⟩, hZ⟩ := hv
  have hx := B.exec
  have hb := B.bytes
  have hr := B.returns
  have hts := atoms_spec (ws := wsJ4_toString_0e30d) B.pre
  have hown : s.vm.findClass RJ4 = some m.cls := findClass_of_methodNamed B.named
  have hlocks := B.notSynchronized
  subst hsz
  have hD := hD0.self (sz := s.heap.size)
  clear hD0
  generalize hAe : va_A [(q0, .inr (1, [.ref q1, .int (nI 0), .int (nI 0), .int (nI cn)])), (q1, .inl (cyB, 16, .inl f))] s.heap.size = A at hD hZ ⊢
  have hA : ∀ q : Nat, s.heap.size ≤ q → A q := fun q h => by rw [← hAe]; exact Or.inr h
  have hS : va_S A s.heap s.heap [] := va_S.rf
  have hP : va_P (dC, dI) vwCl [(q0, .inr (1, [.ref q1, .int (nI 0), .int (nI 0), .int (nI cn)])), (q1, .inl (cyB, 16, .inl f))] s.heap := hP
  have hl := lv_entry ([.ref q0]) (n := 1) (Nat.le_of_ble_eq_true rfl)
  rw [lg_entry_eq]
  generalize (lg_sl ([.ref q0]) ++ List.replicate (1 - (lg_sl ([.ref q0])).length) Slot.unset).toArray = ls at hl ⊢
  have hl : lv_has ls 1 [(0, .ref q0)] := hl
  refine va_new (ci := 0) (fs := [.null, .int (nI 0), .int (nI 0), .int (nI 0)]) (C := RJ0) (T := TJ0) (N := 4) hx hb hts inJ4_toString_0e30d_J0 tyJ0 tyJ0_ok hown (hts _ mJ4_toString_0e30d_classLink_RJ4_18_RJ0) (hts _ mJ4_toString_0e30d_instantiable_RJ0_4) (hts _ mJ4_toString_0e30d_initialized_RJ0) hK hP hD hS hA rfl (fun j hj => by rcases (show j = 0 ∨ j = 1 ∨ j = 2 ∨ j = 3 from by omega) with rfl | rfl | rfl | rfl <;> rfl) (Nat.le_of_ble_eq_true rfl) (Nat.le_of_ble_eq_true rfl) dJ4_toString_0e30d_0 (fun q_1 H hP hD hS => ?_)
  have hP : va_P (dC, dI) vwCl [(q0, .inr (1, [.ref q1, .int (nI 0), .int (nI 0), .int (nI cn)])), (q1, .inl (cyB, 16, .inl f)), (q_1, .inr (0, [.null, .int (nI 0), .int (nI 0), .int (nI 0)]))] H := hP
  have hD : va_D A [(q0, .inr (1, [.ref q1, .int (nI 0), .int (nI 0), .int (nI cn)])), (q1, .inl (cyB, 16, .inl f)), (q_1, .inr (0, [.null, .int (nI 0), .int (nI 0), .int (nI 0)]))] := hD
  refine W.widen (k := 1) (n := 4) (Nat.le_of_ble_eq_true rfl) (Nat.le_of_ble_eq_true rfl) ?_
  refine lv_dup hx hb dJ4_toString_0e30d_3 rfl ?_
  refine lv_aload_n hx hb dJ4_toString_0e30d_4 rfl (lv_at hl 0 rfl) ?_
  refine xrN_v (va_runI (As := [.ref q0]) (rest := [.ref q_1]) ⟨hx, hb, hml, hown, hts⟩ (kJ0_init_81219 l dC dI cyI cyZ cyJ cyD cyB q_1 q0 q1 H.size cn f (by omega) hft) (cwI 1 hts gJ4_toString_0e30d_J0_init_81219 rfl rfl rfl (hts _ mJ4_toString_0e30d_initialized_RJ0) (hts _ mJ4_toString_0e30d_methodLink_RJ4_137_yJ0_init_81219) (hts _ mJ4_toString_0e30d_instanceMethod_yJ0_init_81219) rfl (by decide +kernel) ⟨Nat.le_of_ble_eq_true rfl, Nat.le_of_ble_eq_true rfl⟩) ⟨(xY_blind xN_blind), fun U hU hW => ⟨rfl, ⟨by rw [hU], by rw [hU]; exact xW_sub hP [2, 0, 1] rfl, va_K.moved hW.alike hK, (hD.sub [2, 0, 1] (by decide) rfl).weaken (fun _ _ _ _ => trivial)⟩, xY_go hZ hS hU hW (fun q _ h => va_free hD hS hA [2, 0, 1] rfl q h)⟩⟩ rfl rfl hl.1 rfl (lv_room (Nat.le_of_ble_eq_true rfl)) dJ4_toString_0e30d_5 ⟨Nat.le_of_ble_eq_true rfl, Nat.le_of_ble_eq_true rfl⟩) hD hS hA [2, 0, 1] rfl (fun q_2  H1 locs hP1 hD1 hk1 hS1 => ?_)
  obtain ⟨hP, hD⟩ := va_join (wr := []) (w1 := [(q_1, .inr (0, [.ref q_2, .int (nI 0), .int (nI 0), .int (nI 0)])), (q0, .inr (1, [.ref q1, .int (nI 0), .int (nI 0), .int (nI cn)])), (q1, .inl (cyB, 16, .inl f)), (q_2, .inl (cyB, cn, .inl (va_cpy f (fun _ => 0) 0 0 cn)))]) hP hD [2, 0, 1] [] rfl rfl (by decide) (by decide) hk1 (va_free (wc := [(q_1, .inr (0, [.null, .int (nI 0), .int (nI 0), .int (nI 0)])), (q0, .inr (1, [.ref q1, .int (nI 0), .int (nI 0), .int (nI cn)])), (q1, .inl (cyB, 16, .inl f))]) hD hS hA [2, 0, 1] rfl) hP1 hD1
  clear hP1 hD1 hk1
  have hS := hS1
  clear hS1
  generalize H1 = H at hP hS ⊢
  have hP : va_P (dC, dI) vwCl [(q_1, .inr (0, [.ref q_2, .int (nI 0), .int (nI 0), .int (nI 0)])), (q0, .inr (1, [.ref q1, .int (nI 0), .int (nI 0), .int (nI cn)])), (q1, .inl (cyB, 16, .inl f)), (q_2, .inl (cyB, cn, .inl (va_cpy f (fun _ => 0) 0 0 cn)))] H := hP
  have hD : va_D A [(q_1, .inr (0, [.ref q_2, .int (nI 0), .int (nI 0), .int (nI 0)])), (q0, .inr (1, [.ref q1, .int (nI 0), .int (nI 0), .int (nI cn)])), (q1, .inl (cyB, 16, .inl f)), (q_2, .inl (cyB, cn, .inl (va_cpy f (fun _ => 0) 0 0 cn)))] := hD
  refine W.widen (k := 2) (n := 20) (Nat.le_of_ble_eq_true rfl) (by first | exact Nat.le_of_ble_eq_true rfl | omega) ?_
  have hP9 := xW_sub (w1 := [(q0, .inr (1, [.ref q1, .int (nI 0), .int (nI 0), .int (nI cn)])), (q1, .inl (cyB, 16, .inl f)), (q_1, .inr (0, [.ref q_2, .int (nI 0), .int (nI 0), .int (nI 0)])), (q_2, .inl (cyB, cn, .inl (va_cpy f (fun _ => 0) 0 0 cn)))]) hP [1, 2, 0, 3] rfl
  have hD9 := hD.sub (ws' := [(q0, .inr (1, [.ref q1, .int (nI 0), .int (nI 0), .int (nI cn)])), (q1, .inl (cyB, 16, .inl f)), (q_1, .inr (0, [.ref q_2, .int (nI 0), .int (nI 0), .int (nI 0)])), (q_2, .inl (cyB, cn, .inl (va_cpy f (fun _ => 0) 0 0 cn)))]) [1, 2, 0, 3] (by decide) rfl
  exact W.aret (v := .ref q_1) hx hb hr (by simp) (Or.inr ⟨_, rfl⟩) (fun t ht hW => ⟨⟨(q_2), q_1, rfl, trivial, by rw [ht]; exact hP9, hD9⟩, hS.F ht⟩) hS.2.2 dJ4_toString_0e30d_8

theorem inJ0_length_8abf5_J0 : ∀ w ∈ wsJ00, w ∈ wsJ0_length_8abf5 := by decide +kernel
theorem mJ0_length_8abf5_fieldLink_RJ0_9_java_lang_String_value_B : Cond.fieldLink RJ0 9 "java/lang/String" "value" "[B" ∈ wsJ0_length_8abf5 := List.mem_of_getElem? (i := 1) (by decide +kernel)
set_option maxHeartbeats 4000000 in
set_option maxRecDepth 100000 in
theorem kJ0_length_8abf5 (l : Launch) (dC : Nat → ClassId) (dI : Nat → Nat → Nat) (cyI cyZ cyJ cyD cyB : ClassId) (s0 s1 : Nat) (n : Nat) (f : Nat → Int32) (hn : n < 2 ^ 30) : Met l yJ0_length_8abf5 wsJ0_length_8abf5 ({ frames := 1, cells := 0, slots := 0, locals := 20 }) (va_Pc [.ref s0] (xY (fun _ => False) (xP (dC, dI) vwCl (xT cyI cyZ cyJ cyD cyB) [(s0, .inr (0, [.ref s1, .int (nI 0), .int (nI 0), .int (nI 0)])), (s1, .inl (cyB, n, .inl f))]))) (va_Qi (fun (r : Int32) (u : Unit) => r = nI n) (fun _ _ => True) (fun _ => False)) 0 0 (fun _ => False) := by
  refine Met.ofW (cc := cJ0_length_8abf5) (maxL := 1) (ret := (some .int)) (by decide) rfl ?_
  intro p e s m args below meth c s₁ B hml hv
  obtain ⟨rfl, ⟨hP, hK⟩, hZ⟩ := hv
  have hx := B.exec
  have hb := B.bytes
  have hr := B.returns
  have hts := atoms_spec (ws := wsJ0_length_8abf5) B.pre
  have hown : s.vm.findClass RJ0 = some m.cls := findClass_of_methodNamed B.named
  have hlocks := B.notSynchronized
  have hS : va_S (fun _ => False) s.heap s.heap [] := va_S.rf
  have hP : va_P (dC, dI) vwCl [(s0, .inr (0, [.ref s1, .int (nI 0), .int (nI 0), .int (nI 0)])), (s1, .inl (cyB, n, .inl f))] s.heap := hP
  have hl := lv_entry ([.ref s0]) (n := 1) (Nat.le_of_ble_eq_true rfl)
  rw [lg_entry_eq]
  generalize (lg_sl ([.ref s0]) ++ List.replicate (1 - (lg_sl ([.ref s0])).length) Slot.unset).toArray = ls at hl ⊢
  have hl : lv_has ls 1 [(0, .ref s0)] := hl
  refine lv_aload_n hx hb dJ0_length_8abf5_0 rfl (lv_at hl 0 rfl) ?_
  refine va_get (D := (dC, dI)) (ci := 0) (v := .ref s1) (C := RJ0) (T := TJ0) (N := 4) hx hb hts inJ0_length_8abf5_J0 hown hK hP 0 rfl rfl 0 (by decide) (hts _ mJ0_length_8abf5_fieldLink_RJ0_9_java_lang_String_value_B) (fun _ h9 => h9) rfl dJ0_length_8abf5_1 ?_
  refine va_alen hx hb hK hP 1 4 rfl rfl (v := nI n) rfl dJ0_length_8abf5_4 ?_
  refine lv_aload_n hx hb dJ0_length_8abf5_5 rfl (lv_at hl 0 rfl) ?_
  refine xrP_i (va_runV (As := []) (rest := [.int (nI n)]) ⟨hx, hb, hml, hown, hts⟩ (kJ0_coder_7d493 l dC dI cyI cyZ cyJ cyD cyB s0 s1 n f) (cwV 0 hts gJ0_length_8abf5_J0_coder_7d493 rfl rfl rfl (by decide +kernel) ⟨Nat.le_of_ble_eq_true rfl, Nat.le_of_ble_eq_true rfl⟩) ⟨(xY_blind xP_blind), va_recv (q := (RJ0, TJ0, 4)) hK hP (q0 := 0) (ci := 0) rfl rfl, fun U hU hW => ⟨rfl, ⟨by rw [hU]; exact xW_sub hP [0, 1] rfl, va_K.moved hW.alike hK⟩, xY_go hZ hS hU hW (fun q _ h => h.elim)⟩⟩ rfl rfl hl.1 rfl (lv_room (Nat.le_of_ble_eq_true rfl)) dJ0_length_8abf5_6 ⟨Nat.zero_le _, Nat.zero_le _⟩) hP hS (fun r_1 H locs hw hP hS => ?_)
  have hw : r_1 = nI 0 := hw
  subst hw
  refine lv_ishr hx hb dJ0_length_8abf5_9 ?_
  rw [show nI n >>> (nI 0 &&& 31) = nI n from sb_shr0 _]
  exact W.iret (v := nI n) hx hb hr (fun t ht hW => ⟨⟨nI n, (), rfl, rfl, trivial⟩, hS.F ht⟩) hS.2.2 dJ0_length_8abf5_10

theorem mJ0_checkIndex_df160_fieldLink_RJ0_1053_jdk_internal_util_Preconditions_SIOOBE_F : Cond.fieldLink RJ0 1053 "jdk/internal/util/Preconditions" "SIOOBE_FORMATTER" "Ljava/util/function/BiFunction;" ∈ wsJ0_checkIndex_df160 := List.mem_of_getElem? (i := 1) (by decide +kernel)
set_option maxHeartbeats 4000000 in
set_option maxRecDepth 100000 in
theorem kJ0_checkIndex_df160 (l : Launch) (dC : Nat → ClassId) (dI : Nat → Nat → Nat) (cyI cyZ cyJ cyD cyB : ClassId) (ix : Nat) (nn : Nat) (hix : ix < nn ∧ nn < 2 ^ 31) : Met l yJ0_checkIndex_df160 wsJ0_checkIndex_df160 ({ frames := 1, cells := 0, slots := 0, locals := 22 }) (va_Pc [.int (nI ix), .int (nI nn)] (xY (fun _ => False) (xP (dC, dI) vwCl (xT cyI cyZ cyJ cyD cyB) []))) (va_Qv (fun (u : Unit) => True) (fun _ _ => True) (fun _ => False)) 0 0 (fun _ => False) := by
  refine Met.ofW (cc := cJ0_checkIndex_df160) (maxL := 2) (ret := none) (by decide) rfl ?_
  intro p e s m args below meth c s₁ B hml hv
  obtain ⟨rfl, ⟨hP, hK⟩, hZ⟩ := hv
  have hx := B.exec
  have hb := B.bytes
  have hr := B.returns
  have hts := atoms_spec (ws := wsJ0_checkIndex_df160) B.pre
  have hown : s.vm.findClass RJ0 = some m.cls := findClass_of_methodNamed B.named
  have hlocks := B.notSynchronized
  have hS : va_S (fun _ => False) s.heap s.heap [] := va_S.rf
  have hP : va_P (dC, dI) vwCl [] s.heap := hP
  have hl := lv_entry ([.int (nI ix), .int (nI nn)]) (n := 2) (Nat.le_of_ble_eq_true rfl)
  rw [lg_entry_eq]
  generalize (lg_sl ([.int (nI ix), .int (nI nn)]) ++ List.replicate (2 - (lg_sl ([.int (nI ix), .int (nI nn)])).length) Slot.unset).toArray = ls at hl ⊢
  have hl : lv_has ls 2 [(0, .int (nI ix)), (1, .int (nI nn))] := hl
  refine lv_iload_n hx hb dJ0_checkIndex_df160_0 rfl (lv_at hl 0 rfl) ?_
  refine lv_iload_n hx hb dJ0_checkIndex_df160_1 rfl (lv_at hl 1 rfl) ?_
  rcases hZ.2 with hz9 | ⟨t9, hz9⟩
  · refine va_gets hx hb hz9 hS hown (hts _ mJ0_checkIndex_df160_fieldLink_RJ0_1053_jdk_internal_util_Preconditions_SIOOBE_F) (fun _ h9 => h9) dJ0_checkIndex_df160_2 ?_
    refine xs_i (As := [.int (nI ix), .int (nI nn), .null]) (rest := []) ⟨hx, hb, hml, hown, hts⟩ (kJ3_checkIndex_8e157n l ix nn (by omega)) (va_cwS 3 hts gJ0_checkIndex_df160_J3_checkIndex_8e157 rfl rfl rfl (by decide +kernel) ⟨Nat.le_of_ble_eq_true rfl, Nat.le_of_ble_eq_true rfl⟩) hP hS rfl hl.1 rfl (Nat.le_of_ble_eq_true rfl) dJ0_checkIndex_df160_5 ⟨Nat.zero_le _, Nat.zero_le _⟩ (fun r_1 H locs hw hP hS => ?_)
    have hw : r_1 = nI ix := hw
    subst hw
    refine lv_pop hx hb dJ0_checkIndex_df160_8 rfl ?_
    exact W.vret hx hb hr (fun t ht hW => ⟨⟨(), rfl, trivial, trivial⟩, hS.F ht⟩) hS.2.2 dJ0_checkIndex_df160_9
  · refine va_gets hx hb hz9 hS hown (hts _ mJ0_checkIndex_df160_fieldLink_RJ0_1053_jdk_internal_util_Preconditions_SIOOBE_F) (fun _ h9 => h9) dJ0_checkIndex_df160_2 ?_
    refine xs_i (As := [.int (nI ix), .int (nI nn), .ref t9]) (rest := []) ⟨hx, hb, hml, hown, hts⟩ (kJ3_checkIndex_8e157r l ix nn t9 (by omega)) (va_cwS 3 hts gJ0_checkIndex_df160_J3_checkIndex_8e157 rfl rfl rfl (by decide +kernel) ⟨Nat.le_of_ble_eq_true rfl, Nat.le_of_ble_eq_true rfl⟩) hP hS rfl hl.1 rfl (Nat.le_of_ble_eq_true rfl) dJ0_checkIndex_df160_5 ⟨Nat.zero_le _, Nat.zero_le _⟩ (fun r_2 H locs hw hP hS => ?_)
    have hw : r_2 = nI ix := hw
    subst hw
    refine lv_pop hx hb dJ0_checkIndex_df160_8 rfl ?_
    exact W.vret hx hb hr (fun t ht hW => ⟨⟨(), rfl, trivial, trivial⟩, hS.F ht⟩) hS.2.2 dJ0_checkIndex_df160_9

set_option maxHeartbeats 4000000 in
set_option maxRecDepth 100000 in
theorem kJ1_charAt_3b067 (l : Launch) (dC : Nat → ClassId) (dI : Nat → Nat → Nat) (cyI cyZ cyJ cyD cyB : ClassId) (s1 : Nat) (n : Nat) (f : Nat → Int32) (ix : Nat) (ch : Nat) (hix : ix < n ∧ n < 2 ^ 30) (hch : ch < 256) (hf : f ix = sb_b ch) : Met l yJ1_charAt_3b067 wsJ1_charAt_3b067 ({ frames := 2, cells := 0, slots := 0, locals := 43 }) (va_Pc [.ref s1, .int (nI ix)] (xY (fun _ => False) (xP (dC, dI) vwCl (xT cyI cyZ cyJ cyD cyB) [(s1, .inl (cyB, n, .inl f))]))) (va_Qi (fun (r : Int32) (u : Unit) => r = nI ch) (fun _ _ => True) (fun _ => False)) 0 0 (fun _ => False) := by
  refine Met.ofW (cc := cJ1_charAt_3b067) (maxL := 2) (ret := (some .char)) (by decide) rfl ?_
  intro p e s m args below meth c s₁ B hml hv
  obtain ⟨rfl, ⟨hP, hK⟩, hZ⟩ := hv
  have hx := B.exec
  have hb := B.bytes
  have hr := B.returns
  have hts := atoms_spec (ws := wsJ1_charAt_3b067) B.pre
  have hown : s.vm.findClass RJ1 = some m.cls := findClass_of_methodNamed B.named
  have hlocks := B.notSynchronized
  have hS : va_S (fun _ => False) s.heap s.heap [] := va_S.rf
  have hP : va_P (dC, dI) vwCl [(s1, .inl (cyB, n, .inl f))] s.heap := hP
  have hl := lv_entry ([.ref s1, .int (nI ix)]) (n := 2) (Nat.le_of_ble_eq_true rfl)
  rw [lg_entry_eq]
  generalize (lg_sl ([.ref s1, .int (nI ix)]) ++ List.replicate (2 - (lg_sl ([.ref s1, .int (nI ix)])).length) Slot.unset).toArray = ls at hl ⊢
  have hl : lv_has ls 2 [(0, .ref s1), (1, .int (nI ix))] := hl
  refine lv_iload_n hx hb dJ1_charAt_3b067_0 rfl (lv_at hl 1 rfl) ?_
  refine lv_aload_n hx hb dJ1_charAt_3b067_1 rfl (lv_at hl 0 rfl) ?_
  refine va_alen hx hb hK hP 0 4 rfl rfl (v := nI n) rfl dJ1_charAt_3b067_2 ?_
  refine xrP_v (va_runS (As := [.int (nI ix), .int (nI n)]) (rest := []) ⟨hx, hb, hml, hown, hts⟩ (kJ0_checkIndex_df160 l dC dI cyI cyZ cyJ cyD cyB ix n (by omega)) (va_cwS 2 hts gJ1_charAt_3b067_J0_checkIndex_df160 rfl rfl rfl (by decide +kernel) ⟨Nat.le_of_ble_eq_true rfl, Nat.le_of_ble_eq_true rfl⟩) ⟨(xY_blind xP_blind), fun U hU hW => ⟨rfl, ⟨by rw [hU]; exact xW_sub hP [] rfl, va_K.moved hW.alike hK⟩, xY_go hZ hS hU hW (fun q _ h => h.elim)⟩⟩ rfl rfl hl.1 rfl (lv_room (Nat.le_of_ble_eq_true rfl)) dJ1_charAt_3b067_3 ⟨Nat.zero_le _, Nat.zero_le _⟩) hP hS (fun H locs hw hP hS => ?_)
  refine lv_aload_n hx hb dJ1_charAt_3b067_6 rfl (lv_at hl 0 rfl) ?_
  refine lv_iload_n hx hb dJ1_charAt_3b067_7 rfl (lv_at hl 1 rfl) ?_
  refine va_bald hx hb hK hP 0 4 rfl rfl (vp_in_nI (by omega) (by omega)) dJ1_charAt_3b067_8 ?_
  rw [nI_clamp (by omega)]
  rw [hf]
  refine lv_sipush (v := nI 255) hx hb dJ1_charAt_3b067_9 (by decide) ?_
  refine lv_iand hx hb dJ1_charAt_3b067_12 ?_
  rw [show sb_b ch &&& nI 255 = nI ch from (sb_byte ch (by omega)).1]
  refine lv_i2c (v := nI ch) hx hb dJ1_charAt_3b067_13 (sb_byte ch (by omega)).2.1 ?_
  exact W.zret (v := nI ch) (ty := .char) hx hb hr (pk_charN (by omega)).1 (fun t ht hW => ⟨⟨nI ch, (), rfl, rfl, trivial⟩, hS.F ht⟩) hS.2.2 dJ1_charAt_3b067_14

theorem inJ0_charAt_5068e_J0 : ∀ w ∈ wsJ00, w ∈ wsJ0_charAt_5068e := by decide +kernel
theorem mJ0_charAt_5068e_fieldLink_RJ0_9_java_lang_String_value_B : Cond.fieldLink RJ0 9 "java/lang/String" "value" "[B" ∈ wsJ0_charAt_5068e := List.mem_of_getElem? (i := 1) (by decide +kernel)
set_option maxHeartbeats 4000000 in
set_option maxRecDepth 100000 in
theorem kJ0_charAt_5068e (l : Launch) (dC : Nat → ClassId) (dI : Nat → Nat → Nat) (cyI cyZ cyJ cyD cyB : ClassId) (s0 s1 : Nat) (n : Nat) (f : Nat → Int32) (ix : Nat) (ch : Nat) (hix : ix < n ∧ n < 2 ^ 30) (hch : ch < 256) (hf : f ix = sb_b ch) : Met l yJ0_charAt_5068e wsJ0_charAt_5068e ({ frames := 3, cells := 0, slots := 0, locals := 64 }) (va_Pc [.ref s0, .int (nI ix)] (xY (fun _ => False) (xP (dC, dI) vwCl (xT cyI cyZ cyJ cyD cyB) [(s0, .inr (0, [.ref s1, .int (nI 0), .int (nI 0), .int (nI 0)])), (s1, .inl (cyB, n, .inl f))]))) (va_Qi (fun (r : Int32) (u : Unit) => r = nI ch) (fun _ _ => True) (fun _ => False)) 0 0 (fun _ => False) := by
  refine Met.ofW (cc := cJ0_charAt_5068e) (maxL := 2) (ret := (some .char)) (by decide) rfl ?_
  intro p e s m args below meth c s₁ B hml hv
  obtain ⟨rfl, ⟨hP, hK⟩, hZ⟩ := hv
  have hx := B.exec
  have hb := B.bytes
  have hr := B.returns
  have hts := atoms_spec (ws := wsJ0_charAt_5068e) B.pre
  have hown : s.vm.findClass RJ0 = some m.cls := findClass_of_methodNamed B.named
  have hlocks := B.notSynchronized
  have hS : va_S (fun _ => False) s.heap s.heap [] := va_S.rf
  have hP : va_P (dC, dI) vwCl [(s0, .inr (0, [.ref s1, .int (nI 0), .int (nI 0), .int (nI 0)])), (s1, .inl (cyB, n, .inl f))] s.heap := hP
  have hl := lv_entry ([.ref s0, .int (nI ix)]) (n := 2) (Nat.le_of_ble_eq_true rfl)
  rw [lg_entry_eq]
  generalize (lg_sl ([.ref s0, .int (nI ix)]) ++ List.replicate (2 - (lg_sl ([.ref s0, .int (nI ix)])).length) Slot.unset).toArray = ls at hl ⊢
  have hl : lv_has ls 2 [(0, .ref s0), (1, .int (nI ix))] := hl
  refine lv_aload_n hx hb dJ0_charAt_5068e_0 rfl (lv_at hl 0 rfl) ?_
  refine xrP_i (va_runV (As := []) (rest := []) ⟨hx, hb, hml, hown, hts⟩ (kJ0_isLatin1_aae02 l dC dI cyI cyZ cyJ cyD cyB s0 s1 n f) (cwV 0 hts gJ0_charAt_5068e_J0_isLatin1_aae02 rfl rfl rfl (by decide +kernel) ⟨Nat.le_of_ble_eq_true rfl, Nat.le_of_ble_eq_true rfl⟩) ⟨(xY_blind xP_blind), va_recv (q := (RJ0, TJ0, 4)) hK hP (q0 := 0) (ci := 0) rfl rfl, fun U hU hW => ⟨rfl, ⟨by rw [hU]; exact xW_sub hP [0, 1] rfl, va_K.moved hW.alike hK⟩, xY_go hZ hS hU hW (fun q _ h => h.elim)⟩⟩ rfl rfl hl.1 rfl (lv_room (Nat.le_of_ble_eq_true rfl)) dJ0_charAt_5068e_1 ⟨Nat.zero_le _, Nat.zero_le _⟩) hP hS (fun r_1 H locs hw hP hS => ?_)
  have hw : r_1 = nI 1 := hw
  subst hw
  refine xz_eq (tgt := 16) hx hb dJ0_charAt_5068e_4 (by decide) (by omega) (fun c_2 => by omega) (fun c_2 => ?_)
  refine lv_aload_n hx hb dJ0_charAt_5068e_7 rfl (lv_at hl 0 rfl) ?_
  refine va_get (D := (dC, dI)) (ci := 0) (v := .ref s1) (C := RJ0) (T := TJ0) (N := 4) hx hb hts inJ0_charAt_5068e_J0 hown hK hP 0 rfl rfl 0 (by decide) (hts _ mJ0_charAt_5068e_fieldLink_RJ0_9_java_lang_String_value_B) (fun _ h9 => h9) rfl dJ0_charAt_5068e_8 ?_
  refine lv_iload_n hx hb dJ0_charAt_5068e_11 rfl (lv_at hl 1 rfl) ?_
  refine xrP_i (va_runS (As := [.ref s1, .int (nI ix)]) (rest := []) ⟨hx, hb, hml, hown, hts⟩ (kJ1_charAt_3b067 l dC dI cyI cyZ cyJ cyD cyB s1 n f ix ch (by omega) (by omega) hf) (va_cwS 2 hts gJ0_charAt_5068e_J1_charAt_3b067 rfl rfl rfl (by decide +kernel) ⟨Nat.le_of_ble_eq_true rfl, Nat.le_of_ble_eq_true rfl⟩) ⟨(xY_blind xP_blind), fun U hU hW => ⟨rfl, ⟨by rw [hU]; exact xW_sub hP [1] rfl, va_K.moved hW.alike hK⟩, xY_go hZ hS hU hW (fun q _ h => h.elim)⟩⟩ rfl rfl hl.1 rfl (lv_room (Nat.le_of_ble_eq_true rfl)) dJ0_charAt_5068e_12 ⟨Nat.zero_le _, Nat.zero_le _⟩) hP hS (fun r_3 H locs hw hP hS => ?_)
  have hw : r_3 = nI ch := hw
  subst hw
  exact W.zret (v := nI ch) (ty := .char) hx hb hr (pk_charN (by omega)).1 (fun t ht hW => ⟨⟨nI ch, (), rfl, rfl, trivial⟩, hS.F ht⟩) hS.2.2 dJ0_charAt_5068e_15

theorem sgF_lt (bro : Nat → Bool) (plc : Nat → Int64) (shf tn pl : Nat) : sgF bro plc shf tn pl < 256 := by unfold sgF; exact if h : bro tn = true then (by rw [if_pos h]; decide) else (by rw [if_neg h]; split <;> decide)

theorem mX5_row_instantiable_RJ4_4 : Cond.instantiable RJ4 4 ∈ wsX5_row := List.mem_of_getElem? (i := 2) (by decide +kernel)
theorem mX5_row_initialized_RJ4 : Cond.initialized RJ4 ∈ wsX5_row := List.mem_of_getElem? (i := 3) (by decide +kernel)
theorem inX5_row_J4 : ∀ w ∈ wsJ40, w ∈ wsX5_row := by decide +kernel
theorem mX5_row_classLink_RX5_185_RJ4 : Cond.classLink RX5 185 RJ4 ∈ wsX5_row := List.mem_of_getElem? (i := 1) (by decide +kernel)
theorem mX5_row_methodLink_RX5_187_yJ4_init_da8c8 : Cond.methodLink RX5 187 yJ4_init_da8c8 ∈ wsX5_row := List.mem_of_getElem? (i := 12) (by decide +kernel)
theorem mX5_row_instanceMethod_yJ4_init_da8c8 : Cond.instanceMethod yJ4_init_da8c8 ∈ wsX5_row := List.mem_of_getElem? (i := 13) (by decide +kernel)
theorem inX5_row_X5 : ∀ w ∈ wsX50, w ∈ wsX5_row := by decide +kernel
theorem mX5_row_fieldLink_RX5_27_PinBarrel_comb_LPinBarrel_Comb : Cond.fieldLink RX5 27 "PinBarrel" "comb" "LPinBarrel$Comb;" ∈ wsX5_row := List.mem_of_getElem? (i := 4) (by decide +kernel)
theorem inX5_row_X1 : ∀ w ∈ wsX10, w ∈ wsX5_row := by decide +kernel
theorem mX5_row_fieldLink_RX5_45_PinBarrel_Comb_count_I : Cond.fieldLink RX5 45 "PinBarrel$Comb" "count" "I" ∈ wsX5_row := List.mem_of_getElem? (i := 5) (by decide +kernel)
set_option maxHeartbeats 4000000 in
set_option maxRecDepth 100000 in
theorem kX5_row (l : Launch) (dC : Nat → ClassId) (dI : Nat → Nat → Nat) (cyI cyZ cyJ cyD cyB : ClassId) (p0 g0 g2 h0 h1 w0 : Nat) (sz : Nat) (t0 : Nat) (s0 : Nat) (v0 : Nat) (kn : Nat) (g1 : Nat) (g3 : Nat) (g4 : Nat) (g5 : Nat) (cnt : Nat) (bro : Nat → Bool) (h2 : Nat) (plc : Nat → Int64) (wnd : Nat) (gov : Nat) (plo : Nat) (shf : Nat) (stp : Nat) (buz : Nat) (wor : Nat) (cks : UInt64) (pl : Nat) (hcn : cnt ≤ 12) (hsh : shf < 3) (hpl : pl < 64) : Met l yX5_row wsX5_row ({ frames := 6, cells := 4, slots := 40, locals := 151 }) (va_Pc [.ref p0, .int (nI pl)] (xY (va_A [(p0, .inr (7, [.ref t0, .ref w0, .ref g0, .ref h0, .ref s0, .ref v0, .int (nI kn)])), (g0, .inr (3, [.ref g1, .ref g2, .ref g3, .ref g4, .ref g5, .int (nI cnt)])), (g2, .inl (cyZ, 24, .inl (fun k => xb (bro k)))), (h0, .inr (2, [.ref h1, .ref h2])), (h1, .inl (cyJ, 72, .inr (.inl plc))), (w0, .inr (6, [.ref g0, .ref h0, .ref s0, .int (nI wnd), .int (nI gov), .int (nI plo), .int (nI shf), .int (nI stp), .int (nI buz), .int (nI wor), .double cks]))] sz) (xN (dC, dI) vwCl (xT cyI cyZ cyJ cyD cyB) [(p0, .inr (7, [.ref t0, .ref w0, .ref g0, .ref h0, .ref s0, .ref v0, .int (nI kn)])), (g0, .inr (3, [.ref g1, .ref g2, .ref g3, .ref g4, .ref g5, .int (nI cnt)])), (g2, .inl (cyZ, 24, .inl (fun k => xb (bro k)))), (h0, .inr (2, [.ref h1, .ref h2])), (h1, .inl (cyJ, 72, .inr (.inl plc))), (w0, .inr (6, [.ref g0, .ref h0, .ref s0, .int (nI wnd), .int (nI gov), .int (nI plo), .int (nI shf), .int (nI stp), .int (nI buz), .int (nI wor), .double cks]))] sz))) (va_Qr (fun (u : Nat) => True) (fun u ra t => va_P (dC, dI) vwCl [(p0, .inr (7, [.ref t0, .ref w0, .ref g0, .ref h0, .ref s0, .ref v0, .int (nI kn)])), (g0, .inr (3, [.ref g1, .ref g2, .ref g3, .ref g4, .ref g5, .int (nI cnt)])), (g2, .inl (cyZ, 24, .inl (fun k => xb (bro k)))), (h0, .inr (2, [.ref h1, .ref h2])), (h1, .inl (cyJ, 72, .inr (.inl plc))), (w0, .inr (6, [.ref g0, .ref h0, .ref s0, .int (nI wnd), .int (nI gov), .int (nI plo), .int (nI shf), .int (nI stp), .int (nI buz), .int (nI wor), .double cks])), (ra, .inr (0, [.ref u, .int (nI 0), .int (nI 0), .int (nI 0)])), (u, .inl (cyB, cnt, .inl (txF (fun tn => sgF bro plc shf tn pl) cnt)))] t.heap ∧ va_D (va_A [(p0, .inr (7, [.ref t0, .ref w0, .ref g0, .ref h0, .ref s0, .ref v0, .int (nI kn)])), (g0, .inr (3, [.ref g1, .ref g2, .ref g3, .ref g4, .ref g5, .int (nI cnt)])), (g2, .inl (cyZ, 24, .inl (fun k => xb (bro k)))), (h0, .inr (2, [.ref h1, .ref h2])), (h1, .inl (cyJ, 72, .inr (.inl plc))), (w0, .inr (6, [.ref g0, .ref h0, .ref s0, .int (nI wnd), .int (nI gov), .int (nI plo), .int (nI shf), .int (nI stp), .int (nI buz), .int (nI wor), .double cks]))] sz) [(p0, .inr (7, [.ref t0, .ref w0, .ref g0, .ref h0, .ref s0, .ref v0, .int (nI kn)])), (g0, .inr (3, [.ref g1, .ref g2, .ref g3, .ref g4, .ref g5, .int (nI cnt)])), (g2, .inl (cyZ, 24, .inl (fun k => xb (bro k)))), (h0, .inr (2, [.ref h1, .ref h2])), (h1, .inl (cyJ, 72, .inr (.inl plc))), (w0, .inr (6, [.ref g0, .ref h0, .ref s0, .int (nI wnd), .int (nI gov), .int (nI plo), .int (nI shf), .int (nI stp), .int (nI buz), .int (nI wor), .double cks])), (ra, .inr (0, [.ref u, .int (nI 0), .int (nI 0), .int (nI 0)])), (u, .inl (cyB, cnt, .inl (txF (fun tn => sgF bro plc shf tn pl) cnt)))]) (va_A [(p0, .inr (7, [.ref t0, .ref w0, .ref g0, .ref h0, .ref s0, .ref v0, .int (nI kn)])), (g0, .inr (3, [.ref g1, .ref g2, .ref g3, .ref g4, .ref g5, .int (nI cnt)])), (g2, .inl (cyZ, 24, .inl (fun k => xb (bro k)))), (h0, .inr (2, [.ref h1, .ref h2])), (h1, .inl (cyJ, 72, .inr (.inl plc))), (w0, .inr (6, [.ref g0, .ref h0, .ref s0, .int (nI wnd), .int (nI gov), .int (nI plo), .int (nI shf), .int (nI stp), .int (nI buz), .int (nI wor), .double cks]))] sz)) 4 40 (va_A [(p0, .inr (7, [.ref t0, .ref w0, .ref g0, .ref h0, .ref s0, .ref v0, .int (nI kn)])), (g0, .inr (3, [.ref g1, .ref g2, .ref g3, .ref g4, .ref g5, .int (nI cnt)])), (g2, .inl (cyZ, 24, .inl (fun k => xb (bro k)))), (h0, .inr (2, [.ref h1, .ref h2])), (h1, .inl (cyJ, 72, .inr (.inl plc))), (w0, .inr (6, [.ref g0, .ref h0, .ref s0, .int (nI wnd), .int (nI gov), .int (nI plo), .int (nI shf), .int (nI stp), .int (nI buz), .int (nI wor), .double cks]))] sz) := by
  refine Met.ofW (cc := cX5_row) (maxL := 4) (ret := (some (.object "java/lang/String"))) (by decide) rfl ?_
  intro p e s m args below meth c s₁ B hml hv
  obtain ⟨rfl, ⟨hsz, hP, hK, hD0⟩, hZ⟩ := hv
  have hx := B.exec
  have hb := B.bytes
  have hr := B.returns
  have hts := atoms_spec (ws := wsX5_row) B.pre
  have hown : s.vm.findClass RX5 = some m.cls := findClass_of_methodNamed B.named
  have hlocks := B.notSynchronized
  subst hsz
  have hD := hD0.self (sz := s.heap.size)
  clear hD0
  generalize hAe : va_A [(p0, .inr (7, [.ref t0, .ref w0, .ref g0, .ref h0, .ref s0, .ref v0, .int (nI kn)])), (g0, .inr (3, [.ref g1, .ref g2, .ref g3, .ref g4, .ref g5, .int (nI cnt)])), (g2, .inl (cyZ, 24, .inl (fun k => xb (bro k)))), (h0, .inr (2, [.ref h1, .ref h2])), (h1, .inl (cyJ, 72, .inr (.inl plc))), (w0, .inr (6, [.ref g0, .ref h0, .ref s0, .int (nI wnd), .int (nI gov), .int (nI plo), .int (nI shf), .int (nI stp), .int (nI buz), .int (nI wor), .double cks]))] s.heap.size = A at hD hZ ⊢
  have hA : ∀ q : Nat, s.heap.size ≤ q → A q := fun q h => by rw [← hAe]; exact Or.inr h
  have hS : va_S A s.heap s.heap [] := va_S.rf
  have hP : va_P (dC, dI) vwCl [(p0, .inr (7, [.ref t0, .ref w0, .ref g0, .ref h0, .ref s0, .ref v0, .int (nI kn)])), (g0, .inr (3, [.ref g1, .ref g2, .ref g3, .ref g4, .ref g5, .int (nI cnt)])), (g2, .inl (cyZ, 24, .inl (fun k => xb (bro k)))), (h0, .inr (2, [.ref h1, .ref h2])), (h1, .inl (cyJ, 72, .inr (.inl plc))), (w0, .inr (6, [.ref g0, .ref h0, .ref s0, .int (nI wnd), .int (nI gov), .int (nI plo), .int (nI shf), .int (nI stp), .int (nI buz), .int (nI wor), .double cks]))] s.heap := hP
  have hl := lv_entry ([.ref p0, .int (nI pl)]) (n := 4) (Nat.le_of_ble_eq_true rfl)
  rw [lg_entry_eq]
  generalize (lg_sl ([.ref p0, .int (nI pl)]) ++ List.replicate (4 - (lg_sl ([.ref p0, .int (nI pl)])).length) Slot.unset).toArray = ls at hl ⊢
  have hl : lv_has ls 4 [(0, .ref p0), (1, .int (nI pl))] := hl
  refine lv_iload_n hx hb dX5_row_0 rfl (lv_at hl 1 rfl) ?_
  refine xs_v (As := [.int (nI pl)]) (rest := []) ⟨hx, hb, hml, hown, hts⟩ (kX5_needPlace l pl (by omega)) (va_cwS 1 hts gX5_row_X5_needPlace rfl rfl rfl (by decide +kernel) ⟨Nat.le_of_ble_eq_true rfl, Nat.le_of_ble_eq_true rfl⟩) hP hS rfl hl.1 rfl (Nat.le_of_ble_eq_true rfl) dX5_row_1 ⟨Nat.le_of_ble_eq_true rfl, Nat.le_of_ble_eq_true rfl⟩ (fun H locs hP hS => ?_)
  refine va_new (ci := 1) (fs := [.null, .int (nI 0), .int (nI 0), .int (nI 0)]) (C := RJ4) (T := TJ4) (N := 4) hx hb hts inX5_row_J4 tyJ4 tyJ4_ok hown (hts _ mX5_row_classLink_RX5_185_RJ4) (hts _ mX5_row_instantiable_RJ4_4) (hts _ mX5_row_initialized_RJ4) hK hP hD hS hA rfl (fun j hj => by rcases (show j = 0 ∨ j = 1 ∨ j = 2 ∨ j = 3 from by omega) with rfl | rfl | rfl | rfl <;> rfl) (Nat.le_of_ble_eq_true rfl) (Nat.le_of_ble_eq_true rfl) dX5_row_4 (fun q_2 H hP hD hS => ?_)
  have hP : va_P (dC, dI) vwCl [(p0, .inr (7, [.ref t0, .ref w0, .ref g0, .ref h0, .ref s0, .ref v0, .int (nI kn)])), (g0, .inr (3, [.ref g1, .ref g2, .ref g3, .ref g4, .ref g5, .int (nI cnt)])), (g2, .inl (cyZ, 24, .inl (fun k => xb (bro k)))), (h0, .inr (2, [.ref h1, .ref h2])), (h1, .inl (cyJ, 72, .inr (.inl plc))), (w0, .inr (6, [.ref g0, .ref h0, .ref s0, .int (nI wnd), .int (nI gov), .int (nI plo), .int (nI shf), .int (nI stp), .int (nI buz), .int (nI wor), .double cks])), (q_2, .inr (1, [.null, .int (nI 0), .int (nI 0), .int (nI 0)]))] H := hP
  have hD : va_D A [(p0, .inr (7, [.ref t0, .ref w0, .ref g0, .ref h0, .ref s0, .ref v0, .int (nI kn)])), (g0, .inr (3, [.ref g1, .ref g2, .ref g3, .ref g4, .ref g5, .int (nI cnt)])), (g2, .inl (cyZ, 24, .inl (fun k => xb (bro k)))), (h0, .inr (2, [.ref h1, .ref h2])), (h1, .inl (cyJ, 72, .inr (.inl plc))), (w0, .inr (6, [.ref g0, .ref h0, .ref s0, .int (nI wnd), .int (nI gov), .int (nI plo), .int (nI shf), .int (nI stp), .int (nI buz), .int (nI wor), .double cks])), (q_2, .inr (1, [.null, .int (nI 0), .int (nI 0), .int (nI 0)]))] := hD
  refine W.widen (k := 1) (n := 4) (Nat.le_of_ble_eq_true rfl) (Nat.le_of_ble_eq_true rfl) ?_
  refine lv_dup hx hb dX5_row_7 rfl ?_
  refine xrN_v (va_runI (As := []) (rest := [.ref q_2]) ⟨hx, hb, hml, hown, hts⟩ (kJ4_init_da8c8 l dC dI cyI cyZ cyJ cyD cyB q_2 H.size) (cwI 0 hts gX5_row_J4_init_da8c8 rfl rfl rfl (hts _ mX5_row_initialized_RJ4) (hts _ mX5_row_methodLink_RX5_187_yJ4_init_da8c8) (hts _ mX5_row_instanceMethod_yJ4_init_da8c8) rfl (by decide +kernel) ⟨Nat.le_of_ble_eq_true rfl, Nat.le_of_ble_eq_true rfl⟩) ⟨(xY_blind xN_blind), fun U hU hW => ⟨rfl, ⟨by rw [hU], by rw [hU]; exact xW_sub hP [6] rfl, va_K.moved hW.alike hK, (hD.sub [6] (by decide) rfl).weaken (fun _ _ _ _ => trivial)⟩, xY_go hZ hS hU hW (fun q _ h => va_free hD hS hA [6] rfl q h)⟩⟩ rfl rfl hl.1 rfl (lv_room (Nat.le_of_ble_eq_true rfl)) dX5_row_8 ⟨Nat.le_of_ble_eq_true rfl, Nat.le_of_ble_eq_true rfl⟩) hD hS hA [6] rfl (fun q_3  H1 locs hP1 hD1 hk1 hS1 => ?_)
  obtain ⟨hP, hD⟩ := va_join (wr := [(p0, .inr (7, [.ref t0, .ref w0, .ref g0, .ref h0, .ref s0, .ref v0, .int (nI kn)])), (g0, .inr (3, [.ref g1, .ref g2, .ref g3, .ref g4, .ref g5, .int (nI cnt)])), (g2, .inl (cyZ, 24, .inl (fun k => xb (bro k)))), (h0, .inr (2, [.ref h1, .ref h2])), (h1, .inl (cyJ, 72, .inr (.inl plc))), (w0, .inr (6, [.ref g0, .ref h0, .ref s0, .int (nI wnd), .int (nI gov), .int (nI plo), .int (nI shf), .int (nI stp), .int (nI buz), .int (nI wor), .double cks]))]) (w1 := [(q_2, .inr (1, [.ref q_3, .int (nI 0), .int (nI 0), .int (nI 0)])), (q_3, .inl (cyB, 16, .inl (fun _ => 0)))]) hP hD [6] [0, 1, 2, 3, 4, 5] rfl rfl (by decide) (by decide) hk1 (va_free (wc := [(q_2, .inr (1, [.null, .int (nI 0), .int (nI 0), .int (nI 0)]))]) hD hS hA [6] rfl) hP1 hD1
  clear hP1 hD1 hk1
  have hS := hS1
  clear hS1
  generalize H1 = H at hP hS ⊢
  have hP : va_P (dC, dI) vwCl [(p0, .inr (7, [.ref t0, .ref w0, .ref g0, .ref h0, .ref s0, .ref v0, .int (nI kn)])), (g0, .inr (3, [.ref g1, .ref g2, .ref g3, .ref g4, .ref g5, .int (nI cnt)])), (g2, .inl (cyZ, 24, .inl (fun k => xb (bro k)))), (h0, .inr (2, [.ref h1, .ref h2])), (h1, .inl (cyJ, 72, .inr (.inl plc))), (w0, .inr (6, [.ref g0, .ref h0, .ref s0, .int (nI wnd), .int (nI gov), .int (nI plo), .int (nI shf), .int (nI stp), .int (nI buz), .int (nI wor), .double cks])), (q_2, .inr (1, [.ref q_3, .int (nI 0), .int (nI 0), .int (nI 0)])), (q_3, .inl (cyB, 16, .inl (fun _ => 0)))] H := hP
  have hD : va_D A [(p0, .inr (7, [.ref t0, .ref w0, .ref g0, .ref h0, .ref s0, .ref v0, .int (nI kn)])), (g0, .inr (3, [.ref g1, .ref g2, .ref g3, .ref g4, .ref g5, .int (nI cnt)])), (g2, .inl (cyZ, 24, .inl (fun k => xb (bro k)))), (h0, .inr (2, [.ref h1, .ref h2])), (h1, .inl (cyJ, 72, .inr (.inl plc))), (w0, .inr (6, [.ref g0, .ref h0, .ref s0, .int (nI wnd), .int (nI gov), .int (nI plo), .int (nI shf), .int (nI stp), .int (nI buz), .int (nI wor), .double cks])), (q_2, .inr (1, [.ref q_3, .int (nI 0), .int (nI 0), .int (nI 0)])), (q_3, .inl (cyB, 16, .inl (fun _ => 0)))] := hD
  refine W.widen (k := 2) (n := 20) (Nat.le_of_ble_eq_true rfl) (by first | exact Nat.le_of_ble_eq_true rfl | omega) ?_
  refine lv_astore_n (lv' := [(2, .ref q_2), (0, .ref p0), (1, .int (nI pl))]) hx hb dX5_row_11 rfl hl (by decide) rfl (fun ls hl => ?_)
  refine lv_iconst (v := nI 0) hx hb dX5_row_12 (by decide) ?_
  refine lv_istore_n (lv' := [(3, .int (nI 0)), (2, .ref q_2), (0, .ref p0), (1, .int (nI pl))]) hx hb dX5_row_13 rfl hl (by decide) rfl (fun ls hl => ?_)
  have ze0 := txF_0 (fun tn => sgF bro plc shf tn pl)
  refine (?_ : ∀ (n_4 i_5 : Nat), i_5 + n_4 = cnt → ∀ (H : Heap) (locs : List Loc) (hP : va_P (dC, dI) vwCl [(p0, .inr (7, [.ref t0, .ref w0, .ref g0, .ref h0, .ref s0, .ref v0, .int (nI kn)])), (g0, .inr (3, [.ref g1, .ref g2, .ref g3, .ref g4, .ref g5, .int (nI cnt)])), (g2, .inl (cyZ, 24, .inl (fun k => xb (bro k)))), (h0, .inr (2, [.ref h1, .ref h2])), (h1, .inl (cyJ, 72, .inr (.inl plc))), (w0, .inr (6, [.ref g0, .ref h0, .ref s0, .int (nI wnd), .int (nI gov), .int (nI plo), .int (nI shf), .int (nI stp), .int (nI buz), .int (nI wor), .double cks])), (q_2, .inr (1, [.ref q_3, .int (nI 0), .int (nI 0), .int (nI i_5)])), (q_3, .inl (cyB, 16, .inl (txF (fun tn => sgF bro plc shf tn pl) i_5)))] H) (hD : va_D A [(p0, .inr (7, [.ref t0, .ref w0, .ref g0, .ref h0, .ref s0, .ref v0, .int (nI kn)])), (g0, .inr (3, [.ref g1, .ref g2, .ref g3, .ref g4, .ref g5, .int (nI cnt)])), (g2, .inl (cyZ, 24, .inl (fun k => xb (bro k)))), (h0, .inr (2, [.ref h1, .ref h2])), (h1, .inl (cyJ, 72, .inr (.inl plc))), (w0, .inr (6, [.ref g0, .ref h0, .ref s0, .int (nI wnd), .int (nI gov), .int (nI plo), .int (nI shf), .int (nI stp), .int (nI buz), .int (nI wor), .double cks])), (q_2, .inr (1, [.ref q_3, .int (nI 0), .int (nI 0), .int (nI i_5)])), (q_3, .inl (cyB, 16, .inl (txF (fun tn => sgF bro plc shf tn pl) i_5)))]) (hS : va_S A s.heap H locs) (ls : Array Slot) (hl : lv_has ls 4 [(3, .int (nI i_5)), (2, .ref q_2), (0, .ref p0), (1, .int (nI pl))]), W p l e _ s m _ below meth c H locs 2 20 _ (F0 m 14 ls [])) (cnt - 0) 0 (by omega) _ _ (by first | exact hP | (simp only [ze0]; exact hP)) (by first | exact hD | (simp only [ze0]; exact hD)) hS _ (by first | exact (lv_sub hl [0, 1, 2, 3] rfl) | (simp only [ze0]; exact (lv_sub hl [0, 1, 2, 3] rfl)))
  clear hl hP hS hD
  intro n_4
  induction n_4 with
  | zero =>
    intro i_5 hi_6 H locs hP hD hS ls hl
    refine lv_iload_n hx hb dX5_row_14 rfl (lv_at hl 0 rfl) ?_
    refine lv_aload_n hx hb dX5_row_15 rfl (lv_at hl 2 rfl) ?_
    refine va_get (D := (dC, dI)) (ci := 7) (v := .ref g0) (C := RX5) (T := TX5) (N := 7) hx hb hts inX5_row_X5 hown hK hP 0 rfl rfl 2 (by decide) (hts _ mX5_row_fieldLink_RX5_27_PinBarrel_comb_LPinBarrel_Comb) (fun _ h9 => h9) rfl dX5_row_16 ?_
    refine va_get (D := (dC, dI)) (ci := 3) (v := .int (nI cnt)) (C := RX1) (T := TX1) (N := 6) hx hb hts inX5_row_X1 hown hK hP 1 rfl rfl 5 (by decide) (hts _ mX5_row_fieldLink_RX5_45_PinBarrel_Comb_count_I) (fun _ h9 => h9) rfl dX5_row_19 ?_
    refine xc_ge (tgt := 42) hx hb dX5_row_22 (by decide) (by omega) (by omega) (fun c_9 => ?_) (fun c_9 => by omega)
    have h8 : i_5 = cnt := by omega
    rw [h8] at hP hD hl
    refine lv_aload_n hx hb dX5_row_42 rfl (lv_at hl 1 rfl) ?_
    refine xrN_r (va_runV (As := []) (rest := []) ⟨hx, hb, hml, hown, hts⟩ (kJ4_toString_0e30d l dC dI cyI cyZ cyJ cyD cyB q_2 q_3 H.size cnt (txF (fun tn => sgF bro plc shf tn pl) cnt) (by omega) (txF_fit _ _)) (cwV 0 hts gX5_row_J4_toString_0e30d rfl rfl rfl (by decide +kernel) ⟨Nat.le_of_ble_eq_true rfl, Nat.le_of_ble_eq_true rfl⟩) ⟨(xY_blind xN_blind), va_recv (q := (RJ4, TJ4, 4)) hK hP (q0 := 6) (ci := 1) rfl rfl, fun U hU hW => ⟨rfl, ⟨by rw [hU], by rw [hU]; exact xW_sub hP [6, 7] rfl, va_K.moved hW.alike hK, (hD.sub [6, 7] (by decide) rfl).weaken (fun _ _ _ _ => trivial)⟩, xY_go hZ hS hU hW (fun q _ h => va_free hD hS hA [6, 7] rfl q h)⟩⟩ rfl rfl hl.1 rfl (lv_room (Nat.le_of_ble_eq_true rfl)) dX5_row_43 ⟨Nat.le_of_ble_eq_true rfl, Nat.le_of_ble_eq_true rfl⟩) hD hS hA [6, 7] rfl (fun q_10 q_11 H1 locs hP1 hD1 hk1 hS1 => ?_)
    obtain ⟨hP, hD⟩ := va_join (wr := [(p0, .inr (7, [.ref t0, .ref w0, .ref g0, .ref h0, .ref s0, .ref v0, .int (nI kn)])), (g0, .inr (3, [.ref g1, .ref g2, .ref g3, .ref g4, .ref g5, .int (nI cnt)])), (g2, .inl (cyZ, 24, .inl (fun k => xb (bro k)))), (h0, .inr (2, [.ref h1, .ref h2])), (h1, .inl (cyJ, 72, .inr (.inl plc))), (w0, .inr (6, [.ref g0, .ref h0, .ref s0, .int (nI wnd), .int (nI gov), .int (nI plo), .int (nI shf), .int (nI stp), .int (nI buz), .int (nI wor), .double cks]))]) (w1 := [(q_2, .inr (1, [.ref q_3, .int (nI 0), .int (nI 0), .int (nI cnt)])), (q_3, .inl (cyB, 16, .inl (txF (fun tn => sgF bro plc shf tn pl) cnt))), (q_11, .inr (0, [.ref q_10, .int (nI 0), .int (nI 0), .int (nI 0)])), (q_10, .inl (cyB, cnt, .inl (va_cpy (txF (fun tn => sgF bro plc shf tn pl) cnt) (fun _ => 0) 0 0 cnt)))]) hP hD [6, 7] [0, 1, 2, 3, 4, 5] rfl rfl (by decide) (by decide) hk1 (va_free (wc := [(q_2, .inr (1, [.ref q_3, .int (nI 0), .int (nI 0), .int (nI cnt)])), (q_3, .inl (cyB, 16, .inl (txF (fun tn => sgF bro plc shf tn pl) cnt)))]) hD hS hA [6, 7] rfl) hP1 hD1
    clear hP1 hD1 hk1
    have hS := hS1
    clear hS1
    generalize H1 = H at hP hS ⊢
    have hP : va_P (dC, dI) vwCl [(p0, .inr (7, [.ref t0, .ref w0, .ref g0, .ref h0, .ref s0, .ref v0, .int (nI kn)])), (g0, .inr (3, [.ref g1, .ref g2, .ref g3, .ref g4, .ref g5, .int (nI cnt)])), (g2, .inl (cyZ, 24, .inl (fun k => xb (bro k)))), (h0, .inr (2, [.ref h1, .ref h2])), (h1, .inl (cyJ, 72, .inr (.inl plc))), (w0, .inr (6, [.ref g0, .ref h0, .ref s0, .int (nI wnd), .int (nI gov), .int (nI plo), .int (nI shf), .int (nI stp), .int (nI buz), .int (nI wor), .double cks])), (q_2, .inr (1, [.ref q_3, .int (nI 0), .int (nI 0), .int (nI cnt)])), (q_3, .inl (cyB, 16, .inl (txF (fun tn => sgF bro plc shf tn pl) cnt))), (q_11, .inr (0, [.ref q_10, .int (nI 0), .int (nI 0), .int (nI 0)])), (q_10, .inl (cyB, cnt, .inl (va_cpy (txF (fun tn => sgF bro plc shf tn pl) cnt) (fun _ => 0) 0 0 cnt)))] H := hP
    have hD : va_D A [(p0, .inr (7, [.ref t0, .ref w0, .ref g0, .ref h0, .ref s0, .ref v0, .int (nI kn)])), (g0, .inr (3, [.ref g1, .ref g2, .ref g3, .ref g4, .ref g5, .int (nI cnt)])), (g2, .inl (cyZ, 24, .inl (fun k => xb (bro k)))), (h0, .inr (2, [.ref h1, .ref h2])), (h1, .inl (cyJ, 72, .inr (.inl plc))), (w0, .inr (6, [.ref g0, .ref h0, .ref s0, .int (nI wnd), .int (nI gov), .int (nI plo), .int (nI shf), .int (nI stp), .int (nI buz), .int (nI wor), .double cks])), (q_2, .inr (1, [.ref q_3, .int (nI 0), .int (nI 0), .int (nI cnt)])), (q_3, .inl (cyB, 16, .inl (txF (fun tn => sgF bro plc shf tn pl) cnt))), (q_11, .inr (0, [.ref q_10, .int (nI 0), .int (nI 0), .int (nI 0)])), (q_10, .inl (cyB, cnt, .inl (va_cpy (txF (fun tn => sgF bro plc shf tn pl) cnt) (fun _ => 0) 0 0 cnt)))] := hD
    refine W.widen (k := 4) (n := 40) (Nat.le_of_ble_eq_true rfl) (by first | exact Nat.le_of_ble_eq_true rfl | omega) ?_
    rw [txF_cpy] at hP hD
    have hP : va_P (dC, dI) vwCl [(p0, .inr (7, [.ref t0, .ref w0, .ref g0, .ref h0, .ref s0, .ref v0, .int (nI kn)])), (g0, .inr (3, [.ref g1, .ref g2, .ref g3, .ref g4, .ref g5, .int (nI cnt)])), (g2, .inl (cyZ, 24, .inl (fun k => xb (bro k)))), (h0, .inr (2, [.ref h1, .ref h2])), (h1, .inl (cyJ, 72, .inr (.inl plc))), (w0, .inr (6, [.ref g0, .ref h0, .ref s0, .int (nI wnd), .int (nI gov), .int (nI plo), .int (nI shf), .int (nI stp), .int (nI buz), .int (nI wor), .double cks])), (q_2, .inr (1, [.ref q_3, .int (nI 0), .int (nI 0), .int (nI cnt)])), (q_3, .inl (cyB, 16, .inl (txF (fun tn => sgF bro plc shf tn pl) cnt))), (q_11, .inr (0, [.ref q_10, .int (nI 0), .int (nI 0), .int (nI 0)])), (q_10, .inl (cyB, cnt, .inl (txF (fun tn => sgF bro plc shf tn pl) cnt)))] H := hP
    have hD : va_D A [(p0, .inr (7, [.ref t0, .ref w0, .ref g0, .ref h0, .ref s0, .ref v0, .int (nI kn)])), (g0, .inr (3, [.ref g1, .ref g2, .ref g3, .ref g4, .ref g5, .int (nI cnt)])), (g2, .inl (cyZ, 24, .inl (fun k => xb (bro k)))), (h0, .inr (2, [.ref h1, .ref h2])), (h1, .inl (cyJ, 72, .inr (.inl plc))), (w0, .inr (6, [.ref g0, .ref h0, .ref s0, .int (nI wnd), .int (nI gov), .int (nI plo), .int (nI shf), .int (nI stp), .int (nI buz), .int (nI wor), .double cks])), (q_2, .inr (1, [.ref q_3, .int (nI 0), .int (nI 0), .int (nI cnt)])), (q_3, .inl (cyB, 16, .inl (txF (fun tn => sgF bro plc shf tn pl) cnt))), (q_11, .inr (0, [.ref q_10, .int (nI 0), .int (nI 0), .int (nI 0)])), (q_10, .inl (cyB, cnt, .inl (txF (fun tn => sgF bro plc shf tn pl) cnt)))] := hD
    have hP9 := xW_sub (w1 := [(p0, .inr (7, [.ref t0, .ref w0, .ref g0, .ref h0, .ref s0, .ref v0, .int (nI kn)])), (g0, .inr (3, [.ref g1, .ref g2, .ref g3, .ref g4, .ref g5, .int (nI cnt)])), (g2, .inl (cyZ, 24, .inl (fun k => xb (bro k)))), (h0, .inr (2, [.ref h1, .ref h2])), (h1, .inl (cyJ, 72, .inr (.inl plc))), (w0, .inr (6, [.ref g0, .ref h0, .ref s0, .int (nI wnd), .int (nI gov), .int (nI plo), .int (nI shf), .int (nI stp), .int (nI buz), .int (nI wor), .double cks])), (q_11, .inr (0, [.ref q_10, .int (nI 0), .int (nI 0), .int (nI 0)])), (q_10, .inl (cyB, cnt, .inl (txF (fun tn => sgF bro plc shf tn pl) cnt)))]) hP [0, 1, 2, 3, 4, 5, 8, 9] rfl
    have hD9 := hD.sub (ws' := [(p0, .inr (7, [.ref t0, .ref w0, .ref g0, .ref h0, .ref s0, .ref v0, .int (nI kn)])), (g0, .inr (3, [.ref g1, .ref g2, .ref g3, .ref g4, .ref g5, .int (nI cnt)])), (g2, .inl (cyZ, 24, .inl (fun k => xb (bro k)))), (h0, .inr (2, [.ref h1, .ref h2])), (h1, .inl (cyJ, 72, .inr (.inl plc))), (w0, .inr (6, [.ref g0, .ref h0, .ref s0, .int (nI wnd), .int (nI gov), .int (nI plo), .int (nI shf), .int (nI stp), .int (nI buz), .int (nI wor), .double cks])), (q_11, .inr (0, [.ref q_10, .int (nI 0), .int (nI 0), .int (nI 0)])), (q_10, .inl (cyB, cnt, .inl (txF (fun tn => sgF bro plc shf tn pl) cnt)))]) [0, 1, 2, 3, 4, 5, 8, 9] (by decide) rfl
    exact W.aret (v := .ref q_11) hx hb hr (by simp) (Or.inr ⟨_, rfl⟩) (fun t ht hW => ⟨⟨(q_10), q_11, rfl, trivial, by rw [ht]; exact hP9, hD9⟩, hS.F ht⟩) hS.2.2 dX5_row_46
  | succ n_4 ih_7 =>
    intro i_5 hi_6 H locs hP hD hS ls hl
    refine lv_iload_n hx hb dX5_row_14 rfl (lv_at hl 0 rfl) ?_
    refine lv_aload_n hx hb dX5_row_15 rfl (lv_at hl 2 rfl) ?_
    refine va_get (D := (dC, dI)) (ci := 7) (v := .ref g0) (C := RX5) (T := TX5) (N := 7) hx hb hts inX5_row_X5 hown hK hP 0 rfl rfl 2 (by decide) (hts _ mX5_row_fieldLink_RX5_27_PinBarrel_comb_LPinBarrel_Comb) (fun _ h9 => h9) rfl dX5_row_16 ?_
    refine va_get (D := (dC, dI)) (ci := 3) (v := .int (nI cnt)) (C := RX1) (T := TX1) (N := 6) hx hb hts inX5_row_X1 hown hK hP 1 rfl rfl 5 (by decide) (hts _ mX5_row_fieldLink_RX5_45_PinBarrel_Comb_count_I) (fun _ h9 => h9) rfl dX5_row_19 ?_
    refine xc_ge (tgt := 42) hx hb dX5_row_22 (by decide) (by omega) (by omega) (fun c_12 => by omega) (fun c_12 => ?_)
    refine lv_aload_n hx hb dX5_row_25 rfl (lv_at hl 1 rfl) ?_
    refine lv_aload_n hx hb dX5_row_26 rfl (lv_at hl 2 rfl) ?_
    refine lv_iload_n hx hb dX5_row_27 rfl (lv_at hl 0 rfl) ?_
    refine lv_iload_n hx hb dX5_row_28 rfl (lv_at hl 3 rfl) ?_
    refine xv_i (As := [.int (nI i_5), .int (nI pl)]) (rest := [.ref q_2]) (q := (RX5, TX5, 7)) ⟨hx, hb, hml, hown, hts⟩ (kX5_signOf l dC dI cyI cyZ cyJ cyD cyB p0 g0 g2 h0 h1 w0 t0 s0 v0 kn g1 g3 g4 g5 cnt bro h2 plc wnd gov plo shf stp buz wor cks i_5 pl (by omega) (by omega) (by omega)) (cwV 2 hts gX5_row_X5_signOf rfl rfl rfl (by decide +kernel) ⟨Nat.le_of_ble_eq_true rfl, Nat.le_of_ble_eq_true rfl⟩) hK hP hS [0, 1, 2, 3, 4, 5] rfl 0 7 rfl rfl rfl hl.1 rfl (Nat.le_of_ble_eq_true rfl) dX5_row_29 ⟨Nat.le_of_ble_eq_true rfl, Nat.le_of_ble_eq_true rfl⟩ (fun r_13 H locs hw hP hS => ?_)
    have hw : r_13 = nI (sgF bro plc shf i_5 pl) := hw
    subst hw
    refine xrM_r (va_runV (As := [.int (nI (sgF bro plc shf i_5 pl))]) (rest := []) ⟨hx, hb, hml, hown, hts⟩ (kJ4_append_cf468 l dC dI cyI cyZ cyJ cyD cyB q_2 q_3 i_5 (txF (fun tn => sgF bro plc shf tn pl) i_5) (sgF bro plc shf i_5 pl) (by omega) (sgF_lt _ _ _ _ _)) (cwV 1 hts gX5_row_J4_append_cf468 rfl rfl rfl (by decide +kernel) ⟨Nat.le_of_ble_eq_true rfl, Nat.le_of_ble_eq_true rfl⟩) ⟨(xY_blind xM_blind), va_recv (q := (RJ4, TJ4, 4)) hK hP (q0 := 6) (ci := 1) rfl rfl, fun U hU hW => ⟨rfl, ⟨by rw [hU]; exact xW_sub hP [6, 7] rfl, va_K.moved hW.alike hK, (hD.sub [6, 7] (by decide) rfl).weaken (fun _ _ _ _ => trivial)⟩, xY_go hZ hS hU hW (fun q _ h => xA_in hD [6, 7] rfl q h)⟩⟩ rfl rfl hl.1 rfl (lv_room (Nat.le_of_ble_eq_true rfl)) dX5_row_32 ⟨Nat.le_of_ble_eq_true rfl, Nat.le_of_ble_eq_true rfl⟩) hD hS [6, 7] rfl (fun H1 locs hP1 hD1 hk1 hS => ?_)
    obtain ⟨hP, hD⟩ := xW_join (wr := [(p0, .inr (7, [.ref t0, .ref w0, .ref g0, .ref h0, .ref s0, .ref v0, .int (nI kn)])), (g0, .inr (3, [.ref g1, .ref g2, .ref g3, .ref g4, .ref g5, .int (nI cnt)])), (g2, .inl (cyZ, 24, .inl (fun k => xb (bro k)))), (h0, .inr (2, [.ref h1, .ref h2])), (h1, .inl (cyJ, 72, .inr (.inl plc))), (w0, .inr (6, [.ref g0, .ref h0, .ref s0, .int (nI wnd), .int (nI gov), .int (nI plo), .int (nI shf), .int (nI stp), .int (nI buz), .int (nI wor), .double cks]))]) (w1 := [(q_2, .inr (1, [.ref q_3, .int (nI 0), .int (nI 0), .int (nI (i_5 + 1))])), (q_3, .inl (cyB, 16, .inl (upd (txF (fun tn => sgF bro plc shf tn pl) i_5) i_5 (sb_b (sgF bro plc shf i_5 pl)))))]) (wN := [(p0, .inr (7, [.ref t0, .ref w0, .ref g0, .ref h0, .ref s0, .ref v0, .int (nI kn)])), (g0, .inr (3, [.ref g1, .ref g2, .ref g3, .ref g4, .ref g5, .int (nI cnt)])), (g2, .inl (cyZ, 24, .inl (fun k => xb (bro k)))), (h0, .inr (2, [.ref h1, .ref h2])), (h1, .inl (cyJ, 72, .inr (.inl plc))), (w0, .inr (6, [.ref g0, .ref h0, .ref s0, .int (nI wnd), .int (nI gov), .int (nI plo), .int (nI shf), .int (nI stp), .int (nI buz), .int (nI wor), .double cks])), (q_2, .inr (1, [.ref q_3, .int (nI 0), .int (nI 0), .int (nI (i_5 + 1))])), (q_3, .inl (cyB, 16, .inl (upd (txF (fun tn => sgF bro plc shf tn pl) i_5) i_5 (sb_b (sgF bro plc shf i_5 pl)))))]) hP hD [6, 7] [0, 1, 2, 3, 4, 5] [0, 1, 2, 3, 4, 5, 6, 7] rfl rfl (by decide) (by decide) hk1 hP1 hD1 (by decide) rfl
    clear hP1 hD1 hk1
    generalize H1 = H at hP hS ⊢
    refine lv_pop hx hb dX5_row_35 rfl ?_
    refine xi_inc (k := 0) (lv' := [(3, .int (nI (i_5 + 1))), (2, .ref q_2), (0, .ref p0), (1, .int (nI pl))]) hx hb dX5_row_36 hl rfl (by decide) rfl (fun ls hl => ?_)
    refine lv_goto (tgt := 14) hx hb dX5_row_39 (by decide) ?_
    have ze1 : txF (fun tn => sgF bro plc shf tn pl) (i_5 + 1) = upd (txF (fun tn => sgF bro plc shf tn pl) i_5) i_5 (sb_b (sgF bro plc shf i_5 pl)) := (txF_s (fun tn => sgF bro plc shf tn pl) i_5).symm
    exact ih_7 (i_5 + 1) (by omega)  _ _ (by first | exact hP | (simp only [ze1]; exact hP) | (simp only [ze1] at hP ⊢; exact hP)) (by first | exact hD | (simp only [ze1]; exact hD) | (simp only [ze1] at hD ⊢; exact hD)) hS _ (by first | exact (lv_sub hl [0, 1, 2, 3] rfl) | (simp only [ze1]; exact (lv_sub hl [0, 1, 2, 3] rfl)) | (simp only [ze1] at hl ⊢; exact (lv_sub hl [0, 1, 2, 3] rfl)))
