section XJ
variable {p : Program} {l : Launch} {e : Env} {R : Room} {s : State} {m : MethodId} {args : Array Value} {below : List Frame} {meth : Method} {c : Code} {H : Heap} {locs : List Loc} {cells slots : Nat} {Q : State → Prop}
variable {cc : ByteArray} {pc : Nat} {ls : Array Slot} {rest st : List Value} {D : va_G} {cl : List vw_C} {A : Nat → Prop} {a : Nat} {tys : List (ClassId × FieldType)} {ws wc : va_W} {H0 : Heap} {av : Array Value} {mc ms : Nat}
/-- the two statics that the text methods look at -/
def xCZ (A : Nat → Prop) (U : State) (H : Heap) : Prop := va_Z "java/lang/String" "COMPACT_STRINGS" "Z" (.int (nI 1)) A U H ∧ va_Zq "jdk/internal/util/Preconditions" "SIOOBE_FORMATTER" "Ljava/util/function/BiFunction;" A U H
def xY (A : Nat → Prop) (B : State → Prop) (U : State) : Prop := B U ∧ xCZ A U U.heap
theorem xY_blind {av : List Value} {A : Nat → Prop} {B : State → Prop} (hB : FrameBlind (va_Pc av B)) : FrameBlind (va_Pc av (xY A B)) := fun a U g mk q => ⟨q.1, (hB a U g mk ⟨q.1, q.2.1⟩).2, va_Z.moved (u := U) (U := U.calling g mk a) (Vm.Alike.refl U.vm) q.2.2.1, va_Zq.moved (u := U) (U := U.calling g mk a) (Vm.Alike.refl U.vm) q.2.2.2⟩
theorem xZ_nar {C n d : String} {v : Value} {A1 : Nat → Prop} {U : State} (h : va_Z C n d v A U H) (hA : ∀ q, q < H.size → A1 q → A q) : va_Z C n d v A1 U H := by
  obtain ⟨cf, kf, fi, f, a, cell, h1, h2, h3, h4, h5, h6, h7, h8⟩ := h
  exact ⟨cf, kf, fi, f, a, cell, h1, h2, h3, h4, h5, h6, h7, fun z => h8 (hA a (Array.getElem?_eq_some_iff.mp h5).1 z)⟩
theorem xZq_nar {C n d : String} {A1 : Nat → Prop} {U : State} (h : va_Zq C n d A U H) (hA : ∀ q, q < H.size → A1 q → A q) : va_Zq C n d A1 U H := by
  rcases h with h | ⟨t, h⟩
  · exact Or.inl (xZ_nar h hA)
  · exact Or.inr ⟨t, xZ_nar h hA⟩
theorem xY_go {A1 : Nat → Prop} {U : State} (hZ : xCZ A s s.heap) (hS : va_S A s.heap H locs) (hU : U.heap = H) (hW : s.WarmedH U.vm) (hA : ∀ q, q < H.size → A1 q → A q) : xCZ A1 U U.heap := by
  rw [hU]
  exact ⟨xZ_nar ((hZ.1.kept (fun a h1 h2 => hS.2.1 a h1 h2)).moved hW.alike) hA, xZq_nar ((hZ.2.kept (fun a h1 h2 => hS.2.1 a h1 h2)).moved hW.alike) hA⟩
theorem xCZ_sub {A1 : Nat → Prop} (hZ : xCZ A s H) (hA : ∀ q, q < H.size → A1 q → A q) : xCZ A1 s H := ⟨xZ_nar hZ.1 hA, xZq_nar hZ.2 hA⟩
theorem xrP_i {post : Int32 → Unit → Prop} (hr : va_Run p l e R s m args below meth c H locs cells slots 0 0 (F0 m pc ls st) rest (va_Qi post (fun _ _ => True) (fun _ => False) av) (fun _ => False)) (hP : va_P D cl ws H) (hS : va_S A H0 H locs) (kk : ∀ (r : Int32) (H1 : Heap) (locs1 : List Loc), post r () → va_P D cl ws H1 → va_S A H0 H1 locs1 → W p l e R s m args below meth c H1 locs1 cells slots Q (F0 m (pc + 3) ls (.int r :: rest))) : W p l e R s m args below meth c H locs cells slots Q (F0 m pc ls (st)) := va_calli hr hS (fun q _ h => h.elim) (fun q h => h.elim) (fun r u t H1 locs1 ht hvm hw hB hz hk hS1 => kk r H1 locs1 hw (hP.kept (fun k x hx => hk x.1 ((hP k x hx).lt) (fun h => h))) hS1)
theorem xrP_v {post : Unit → Prop} (hr : va_Run p l e R s m args below meth c H locs cells slots 0 0 (F0 m pc ls st) rest (va_Qv post (fun _ _ => True) (fun _ => False) av) (fun _ => False)) (hP : va_P D cl ws H) (hS : va_S A H0 H locs) (kk : ∀ (H1 : Heap) (locs1 : List Loc), post () → va_P D cl ws H1 → va_S A H0 H1 locs1 → W p l e R s m args below meth c H1 locs1 cells slots Q (F0 m (pc + 3) ls (rest))) : W p l e R s m args below meth c H locs cells slots Q (F0 m pc ls (st)) := va_callv hr hS (fun q _ h => h.elim) (fun q h => h.elim) (fun u t H1 locs1 ht hvm hw hB hz hk hS1 => kk H1 locs1 hw (hP.kept (fun k x hx => hk x.1 ((hP k x hx).lt) (fun h => h))) hS1)
theorem xrP_r {ra : Nat} (hr : va_Run p l e R s m args below meth c H locs cells slots 0 0 (F0 m pc ls st) rest (va_Qr (fun (_ : Unit) => True) (fun _ a _ => a = ra) (fun _ => False) av) (fun _ => False)) (hP : va_P D cl ws H) (hS : va_S A H0 H locs) (kk : ∀ (H1 : Heap) (locs1 : List Loc), va_P D cl ws H1 → va_S A H0 H1 locs1 → W p l e R s m args below meth c H1 locs1 cells slots Q (F0 m (pc + 3) ls (.ref ra :: rest))) : W p l e R s m args below meth c H locs cells slots Q (F0 m pc ls (st)) := va_callr hr hS (fun q _ h => h.elim) (fun q h => h.elim) (fun u r t H1 locs1 ht hvm hw hB hz hk hS1 => by have hB : r = ra := hB; subst hB; exact kk H1 locs1 (hP.kept (fun k x hx => hk x.1 ((hP k x hx).lt) (fun h => h))) hS1)
theorem xrM_r {ra : Nat} {w1 : va_W} (hr : va_Run p l e R s m args below meth c H locs cells slots 0 0 (F0 m pc ls st) rest (va_Qr (fun (_ : Unit) => True) (fun _ a t => a = ra ∧ va_P D cl w1 t.heap ∧ va_D (xA wc) w1) (xA wc) av) (xA wc)) (hD : va_D A ws) (hS : va_S A H0 H locs) (isC : List Nat) (hC : isC.map (fun i => ws[i]?) = wc.map some) (kk : ∀ (H1 : Heap) (locs1 : List Loc), va_P D cl w1 H1 → va_D (xA wc) w1 → (∀ q : Nat, q < H.size → ¬ xA wc q → H1[q]? = H[q]?) → va_S A H0 H1 locs1 → W p l e R s m args below meth c H1 locs1 cells slots Q (F0 m (pc + 3) ls (.ref ra :: rest))) : W p l e R s m args below meth c H locs cells slots Q (F0 m pc ls (st)) := va_callr hr hS (fun q _ h => xA_in hD isC hC q h) (xA_in hD isC hC) (fun u r t H1 locs1 ht hvm hw hB hz hk hS1 => by obtain ⟨hr1, hB1, hB2⟩ := hB; subst hr1; exact kk H1 locs1 (ht ▸ hB1) hB2 hk hS1)
theorem xrN_v {U : Type} {post : U → Prop} {w1 : U → va_W} (hr : va_Run p l e R s m args below meth c H locs cells slots mc ms (F0 m pc ls st) rest (va_Qv post (fun u t => va_P D cl (w1 u) t.heap ∧ va_D (va_A wc H.size) (w1 u)) (va_A wc H.size) av) (va_A wc H.size)) (hD : va_D A ws) (hS : va_S A H0 H locs) (hA : ∀ q, H0.size ≤ q → A q) (isC : List Nat) (hC : isC.map (fun i => ws[i]?) = wc.map some) (kk : ∀ (u : U) (H1 : Heap) (locs1 : List Loc), va_P D cl (w1 u) H1 → va_D (va_A wc H.size) (w1 u) → (∀ q : Nat, q < H.size → ¬ va_A wc H.size q → H1[q]? = H[q]?) → va_S A H0 H1 locs1 → W p l e R s m args below meth c H1 locs1 (cells + mc) (slots + ms) Q (F0 m (pc + 3) ls (rest))) : W p l e R s m args below meth c H locs cells slots Q (F0 m pc ls (st)) := va_callv hr hS (fun q _ h => va_free hD hS hA isC hC q h) (va_free hD hS hA isC hC) (fun u t H1 locs1 ht hvm hw hB hz hk hS1 => kk u H1 locs1 (ht ▸ hB.1) hB.2 hk hS1)
theorem xrN_r {U : Type} {post : U → Prop} {w1 : U → Nat → va_W} (hr : va_Run p l e R s m args below meth c H locs cells slots mc ms (F0 m pc ls st) rest (va_Qr post (fun u a t => va_P D cl (w1 u a) t.heap ∧ va_D (va_A wc H.size) (w1 u a)) (va_A wc H.size) av) (va_A wc H.size)) (hD : va_D A ws) (hS : va_S A H0 H locs) (hA : ∀ q, H0.size ≤ q → A q) (isC : List Nat) (hC : isC.map (fun i => ws[i]?) = wc.map some) (kk : ∀ (u : U) (ra : Nat) (H1 : Heap) (locs1 : List Loc), va_P D cl (w1 u ra) H1 → va_D (va_A wc H.size) (w1 u ra) → (∀ q : Nat, q < H.size → ¬ va_A wc H.size q → H1[q]? = H[q]?) → va_S A H0 H1 locs1 → W p l e R s m args below meth c H1 locs1 (cells + mc) (slots + ms) Q (F0 m (pc + 3) ls (.ref ra :: rest))) : W p l e R s m args below meth c H locs cells slots Q (F0 m pc ls (st)) := va_callr hr hS (fun q _ h => va_free hD hS hA isC hC q h) (va_free hD hS hA isC hC) (fun u r t H1 locs1 ht hvm hw hB hz hk hS1 => kk u r H1 locs1 (ht ▸ hB.1) hB.2 hk hS1)
theorem xj_le {a b : Nat} (h : a ≤ b) (hb : b < 2 ^ 30) : nI a - nI b ≤ 0 := by rw [Int32.le_iff_toInt_le, pk_sub_toInt (by omega) hb, Int32.toInt_zero]; omega
/-- the bytes of a text that is being written: the first k letters of g -/
def txF (g : Nat → Nat) (k : Nat) : Nat → Int32 := fun j => if j < k then sb_b (g j) else 0
theorem txF_0 (g : Nat → Nat) : txF g 0 = fun _ => 0 := by funext j; unfold txF; rw [if_neg (by omega)]
theorem txF_s (g : Nat → Nat) (k : Nat) : upd (txF g k) k (sb_b (g k)) = txF g (k + 1) := by
  funext j; unfold txF upd
  by_cases h : j = k
  · subst h; rw [if_pos rfl, if_pos (by omega)]
  · rw [if_neg h]; by_cases h2 : j < k
    · rw [if_pos h2, if_pos (by omega)]
    · rw [if_neg h2, if_neg (by omega)]
theorem txF_fit (g : Nat → Nat) (k : Nat) : sb_Fit (txF g k) := fun j => by
  unfold txF; split
  · exact sb_fitB _
  · exact sb_fit0 j
theorem txF_cpy (g : Nat → Nat) (k : Nat) : va_cpy (txF g k) (fun _ => 0) 0 0 k = txF g k := by
  funext j; unfold va_cpy txF
  by_cases h : j < k
  · rw [if_pos ⟨by omega, by omega⟩, Nat.sub_zero, Nat.zero_add]
  · rw [if_neg (by omega), if_neg h]
end XJ
