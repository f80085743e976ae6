section XLB
variable {p : Program} {l : Launch} {e : Env} {R : Room} {s : State} {m : MethodId} {args : Array Value} {below : List Frame} {meth : Method} {c : Code} {H : Heap} {locs : List Loc} {cells slots : Nat} {Q : State → Prop}
variable {cc : ByteArray} {pc : Nat} {ls : Array Slot} {rest st : List Value} {D : va_G} {cl : List vw_C} {A : Nat → Prop} {a : Nat} {tys : List (ClassId × FieldType)} {ws wc : va_W} {H0 : Heap} {av : Array Value} {mc ms : Nat}
theorem xrN_i {U : Type} {post : Int32 → U → Prop} {w1 : U → va_W} (hr : va_Run p l e R s m args below meth c H locs cells slots mc ms (F0 m pc ls st) rest (va_Qi post (fun u t => va_P D cl (w1 u) t.heap ∧ va_D (va_A wc H.size) (w1 u)) (va_A wc H.size) av) (va_A wc H.size)) (hD : va_D A ws) (hS : va_S A H0 H locs) (hA : ∀ q, H0.size ≤ q → A q) (isC : List Nat) (hC : isC.map (fun i => ws[i]?) = wc.map some) (kk : ∀ (r : Int32) (u : U) (H1 : Heap) (locs1 : List Loc), post r u → va_P D cl (w1 u) H1 → va_D (va_A wc H.size) (w1 u) → (∀ q : Nat, q < H.size → ¬ va_A wc H.size q → H1[q]? = H[q]?) → va_S A H0 H1 locs1 → W p l e R s m args below meth c H1 locs1 (cells + mc) (slots + ms) Q (F0 m (pc + 3) ls (.int r :: rest))) : W p l e R s m args below meth c H locs cells slots Q (F0 m pc ls (st)) := va_calli hr hS (fun q _ h => va_free hD hS hA isC hC q h) (va_free hD hS hA isC hC) (fun r u t H1 locs1 ht hvm hw hB hz hk hS1 => kk r u H1 locs1 hw (ht ▸ hB.1) hB.2 hk hS1)
theorem xk_wnd2 {w a k : Nat} (hw : w < 2 ^ 29) (ha : a < 2 ^ 29) (hk : k < 2 ^ 29) : (if nI 0 < nI w - nI a - nI k then nI w - nI a - nI k else nI 0) = nI (w - a - k) := by
  have e1 : (nI w - nI a).toInt = (w : Int) - a := pk_sub_toInt (by omega) (by omega)
  have e2 : (nI w - nI a - nI k).toInt = (w : Int) - a - k := by
    rw [Int32.toInt_sub, e1, nI_toInt (by omega)]
    exact Int.bmod_eq_of_le (by omega) (by omega)
  by_cases h : a + k < w
  · rw [if_pos (by rw [Int32.lt_iff_toInt_lt, e2, nI_toInt (by omega)]; omega), pk_sub (by omega), pk_sub (by omega)]
  · rw [if_neg (by rw [Int32.lt_iff_toInt_lt, e2, nI_toInt (by omega)]; omega), show w - a - k = 0 from by omega]
theorem we_le {b : Bool} {w : Nat} (h : b = true → w ≤ 4) : (if b then nI w else (-1 : Int32)) ≤ nI 4 := by
  cases b with
  | true => exact nI_le (h rfl) (by decide)
  | false => exact (show (-1 : Int32) ≤ nI 4 from by decide)
theorem ap_le (plc : Nat → Int64) : ∀ n, apF plc n ≤ 192 * n
  | 0 => Nat.le_refl _
  | n + 1 => by
    have ih := ap_le plc n
    have h1 := bcN_le (plc (0 * 24 + n))
    have h2 := bcN_le (plc ((0 + 1) * 24 + n))
    have h3 := bcN_le (plc ((0 + 1 + 1) * 24 + n))
    rw [apF]
    unfold pinsF
    omega


theorem smP_rf {cnt shf : Nat} {bro : Nat → Bool} {scr plu las : Nat → Nat} {plc : Nat → Int64} {wea pts : Nat → Nat} {clk : Nat → UInt64} {old kep evr buz wor : Nat} : smP cnt shf (bro, scr, plu, las, plc, wea, zN, zD, 0, 0, 0, buz, wor) (bro, scr, plu, las, plc, wea, pts, clk, old, kep, evr, buz, wor) := ⟨fun _ _ => ⟨rfl, rfl, rfl, rfl, rfl⟩, fun _ _ _ _ => rfl, rfl⟩
end XLB

theorem mL_isPlayed_methodLink_RL_58_Lib_Math_min_name : Cond.methodLink RL 58 Lib.Math.min.name ∈ wsL_isPlayed := List.mem_of_getElem? (i := 1) (by decide +kernel)
theorem mL_isPlayed_static_Lib_Math_min_name : Cond.static Lib.Math.min.name ∈ wsL_isPlayed := List.mem_of_getElem? (i := 2) (by decide +kernel)
theorem mL_isPlayed_initialized_java_lang_Math : Cond.initialized "java/lang/Math" ∈ wsL_isPlayed := List.mem_of_getElem? (i := 3) (by decide +kernel)
theorem mL_isPlayed_code_Lib_Math_min_name_Lib_Math_min_code_2_some_int : Cond.code Lib.Math.min.name Lib.Math.min.code 2 (some .int) ∈ wsL_isPlayed := List.mem_of_getElem? (i := 4) (by decide +kernel)
theorem mL_isPlayed_methodLink_RL_114_Lib_Math_max_name : Cond.methodLink RL 114 Lib.Math.max.name ∈ wsL_isPlayed := List.mem_of_getElem? (i := 5) (by decide +kernel)
theorem mL_isPlayed_static_Lib_Math_max_name : Cond.static Lib.Math.max.name ∈ wsL_isPlayed := List.mem_of_getElem? (i := 6) (by decide +kernel)
theorem mL_isPlayed_code_Lib_Math_max_name_Lib_Math_max_code_2_some_int : Cond.code Lib.Math.max.name Lib.Math.max.code 2 (some .int) ∈ wsL_isPlayed := List.mem_of_getElem? (i := 7) (by decide +kernel)
set_option maxHeartbeats 4000000 in
set_option maxRecDepth 100000 in
theorem kL_isPlayed (l : Launch) (dC : Nat → ClassId) (dI : Nat → Nat → Nat) (cyI cyZ cyJ cyD cyB : ClassId) (p0 t0 w0 g0 g1 g2 g3 g4 g5 h0 h1 h2 s0 s1 s2 v0 e0 e1 e2 e3 e4 e5 b0 b1 b2 d0 d1 d2 : Nat) (kn : Nat) (t1 : Nat) (t2 : Nat) (tcn : Nat) (wnd : Nat) (gov : Nat) (plo : Nat) (shf : Nat) (stp : Nat) (buz : Nat) (wor : Nat) (cks : UInt64) (cnt : Nat) (pit : Nat → Nat) (bro : Nat → Bool) (scr : Nat → Nat) (plu : Nat → Nat) (las : Nat → Nat) (plc : Nat → Int64) (wea : Nat → Nat) (old : Nat) (kep : Nat) (evr : Nat) (pts : Nat → Nat) (clk : Nat → UInt64) (vwnd : Nat) (vgov : Nat) (vplo : Nat) (vshf : Nat) (vstp : Nat) (vbuz : Nat) (vwor : Nat) (vcks : UInt64) (vcnt : Nat) (vpit : Nat → Nat) (vbro : Nat → Bool) (vscr : Nat → Nat) (vplu : Nat → Nat) (vlas : Nat → Nat) (vplc : Nat → Int64) (vwea : Nat → Nat) (vold : Nat) (vkep : Nat) (vevr : Nat) (vpts : Nat → Nat) (vclk : Nat → UInt64) (sp : Nat) (nc : Nat) (hcn : cnt ≤ 24) (hsh : shf < 3) (hplo : plo < 64) (hgv : 1 ≤ gov ∧ gov ≤ 8) (hwn : wnd ≤ 2000) (hmn : 1 ≤ sp ∧ sp ≤ 128) (hnc : nc ≤ 80000) (hck : okC nc cks) (hI : IP cnt cks (bro, scr, plu, las, plc, wea, pts, clk, old, kep, evr, buz, wor)) (hpit : ∀ k, pit k < 48) (hpl : plo = stp % 64) (hst : stp < 2 ^ 29) (hvo : vold < 40) (hvk : vkep ≤ 40) : Met l yL_isPlayed wsL_isPlayed ({ frames := 6, cells := 0, slots := 0, locals := 133 }) (va_Pc [.ref p0, .int (nI sp), .int (nI cnt)] (xM (dC, dI) vwCl (xT cyI cyZ cyJ cyD cyB) [(p0, .inr (7, [.ref t0, .ref w0, .ref g0, .ref h0, .ref s0, .ref v0, .int (nI kn)])), (t0, .inr (5, [.ref t1, .ref t2, .int (nI tcn)])), (w0, .inr (6, [.ref g0, .ref h0, .ref s0, .int (nI wnd), .int (nI gov), .int (nI plo), .int (nI shf), .int (nI stp), .int (nI buz), .int (nI wor), .double cks])), (g0, .inr (3, [.ref g1, .ref g2, .ref g3, .ref g4, .ref g5, .int (nI cnt)])), (g1, .inl (cyI, 24, .inl (fun k => nI (pit k)))), (g2, .inl (cyZ, 24, .inl (fun k => xb (bro k)))), (g3, .inl (cyI, 24, .inl (fun k => nI (scr k)))), (g4, .inl (cyI, 24, .inl (fun k => nI (plu k)))), (g5, .inl (cyI, 24, .inl (fun k => nI (las k)))), (h0, .inr (2, [.ref h1, .ref h2])), (h1, .inl (cyJ, 72, .inr (.inl plc))), (h2, .inl (cyI, 4608, .inl (fun k => nI (wea k)))), (s0, .inr (4, [.ref s1, .ref s2, .int (nI old), .int (nI kep), .int (nI evr)])), (s1, .inl (cyI, 40, .inl (fun k => nI (pts k)))), (s2, .inl (cyD, 40, .inr (.inr (.inr (.inl clk))))), (v0, .inr (6, [.ref e0, .ref b0, .ref d0, .int (nI vwnd), .int (nI vgov), .int (nI vplo), .int (nI vshf), .int (nI vstp), .int (nI vbuz), .int (nI vwor), .double vcks])), (e0, .inr (3, [.ref e1, .ref e2, .ref e3, .ref e4, .ref e5, .int (nI vcnt)])), (e1, .inl (cyI, 24, .inl (fun k => nI (vpit k)))), (e2, .inl (cyZ, 24, .inl (fun k => xb (vbro k)))), (e3, .inl (cyI, 24, .inl (fun k => nI (vscr k)))), (e4, .inl (cyI, 24, .inl (fun k => nI (vplu k)))), (e5, .inl (cyI, 24, .inl (fun k => nI (vlas k)))), (b0, .inr (2, [.ref b1, .ref b2])), (b1, .inl (cyJ, 72, .inr (.inl vplc))), (b2, .inl (cyI, 4608, .inl (fun k => nI (vwea k)))), (d0, .inr (4, [.ref d1, .ref d2, .int (nI vold), .int (nI vkep), .int (nI vevr)])), (d1, .inl (cyI, 40, .inl (fun k => nI (vpts k)))), (d2, .inl (cyD, 40, .inr (.inr (.inr (.inl vclk)))))])) (va_Qi (fun (r : Int32) (u : Wst × Tst) => r = nI 1 ∧ u.1 = runW pit cnt shf gov sp ((bro, scr, plu, las, plc, wea, pts, clk, old, kep, evr, buz, wor), wnd, plo, stp, cks) ∧ u.2.2.2.2.2.2.2.2.2.2.2.1 < 40 ∧ u.2.2.2.2.2.2.2.2.2.2.2.2.1 ≤ 40) (fun u t => va_P (dC, dI) vwCl [(p0, .inr (7, [.ref t0, .ref w0, .ref g0, .ref h0, .ref s0, .ref v0, .int (nI kn)])), (t0, .inr (5, [.ref t1, .ref t2, .int (nI tcn)])), (w0, .inr (6, [.ref g0, .ref h0, .ref s0, .int (nI u.1.2.1), .int (nI gov), .int (nI u.1.2.2.1), .int (nI shf), .int (nI u.1.2.2.2.1), .int (nI u.1.1.2.2.2.2.2.2.2.2.2.2.2.1), .int (nI u.1.1.2.2.2.2.2.2.2.2.2.2.2.2), .double u.1.2.2.2.2])), (g0, .inr (3, [.ref g1, .ref g2, .ref g3, .ref g4, .ref g5, .int (nI cnt)])), (g1, .inl (cyI, 24, .inl (fun k => nI (pit k)))), (g2, .inl (cyZ, 24, .inl (fun k => xb (u.1.1.1 k)))), (g3, .inl (cyI, 24, .inl (fun k => nI (u.1.1.2.1 k)))), (g4, .inl (cyI, 24, .inl (fun k => nI (u.1.1.2.2.1 k)))), (g5, .inl (cyI, 24, .inl (fun k => nI (u.1.1.2.2.2.1 k)))), (h0, .inr (2, [.ref h1, .ref h2])), (h1, .inl (cyJ, 72, .inr (.inl u.1.1.2.2.2.2.1))), (h2, .inl (cyI, 4608, .inl (fun k => nI (u.1.1.2.2.2.2.2.1 k)))), (s0, .inr (4, [.ref s1, .ref s2, .int (nI u.1.1.2.2.2.2.2.2.2.2.1), .int (nI u.1.1.2.2.2.2.2.2.2.2.2.1), .int (nI u.1.1.2.2.2.2.2.2.2.2.2.2.1)])), (s1, .inl (cyI, 40, .inl (fun k => nI (u.1.1.2.2.2.2.2.2.1 k)))), (s2, .inl (cyD, 40, .inr (.inr (.inr (.inl u.1.1.2.2.2.2.2.2.2.1))))), (v0, .inr (6, [.ref e0, .ref b0, .ref d0, .int (nI u.2.2.2.2.2.2.2.2.2.2.2.2.2.2.1), .int (nI u.2.2.2.2.2.2.2.2.2.2.2.2.2.2.2.1), .int (nI u.2.2.2.2.2.2.2.2.2.2.2.2.2.2.2.2.1), .int (nI u.2.2.2.2.2.2.2.2.2.2.2.2.2.2.2.2.2.1), .int (nI u.2.2.2.2.2.2.2.2.2.2.2.2.2.2.2.2.2.2.1), .int (nI u.2.2.2.2.2.2.2.2.2.2.2.2.2.2.2.2.2.2.2.1), .int (nI u.2.2.2.2.2.2.2.2.2.2.2.2.2.2.2.2.2.2.2.2.1), .double u.2.2.2.2.2.2.2.2.2.2.2.2.2.2.2.2.2.2.2.2.2])), (e0, .inr (3, [.ref e1, .ref e2, .ref e3, .ref e4, .ref e5, .int (nI u.2.2.2.2.2.2.1)])), (e1, .inl (cyI, 24, .inl (fun k => nI (u.2.1 k)))), (e2, .inl (cyZ, 24, .inl (fun k => xb (u.2.2.1 k)))), (e3, .inl (cyI, 24, .inl (fun k => nI (u.2.2.2.1 k)))), (e4, .inl (cyI, 24, .inl (fun k => nI (u.2.2.2.2.1 k)))), (e5, .inl (cyI, 24, .inl (fun k => nI (u.2.2.2.2.2.1 k)))), (b0, .inr (2, [.ref b1, .ref b2])), (b1, .inl (cyJ, 72, .inr (.inl u.2.2.2.2.2.2.2.1))), (b2, .inl (cyI, 4608, .inl (fun k => nI (u.2.2.2.2.2.2.2.2.1 k)))), (d0, .inr (4, [.ref d1, .ref d2, .int (nI u.2.2.2.2.2.2.2.2.2.2.2.1), .int (nI u.2.2.2.2.2.2.2.2.2.2.2.2.1), .int (nI u.2.2.2.2.2.2.2.2.2.2.2.2.2.1)])), (d1, .inl (cyI, 40, .inl (fun k => nI (u.2.2.2.2.2.2.2.2.2.1 k)))), (d2, .inl (cyD, 40, .inr (.inr (.inr (.inl u.2.2.2.2.2.2.2.2.2.2.1)))))] t.heap ∧ va_D (xA [(p0, .inr (7, [.ref t0, .ref w0, .ref g0, .ref h0, .ref s0, .ref v0, .int (nI kn)])), (t0, .inr (5, [.ref t1, .ref t2, .int (nI tcn)])), (w0, .inr (6, [.ref g0, .ref h0, .ref s0, .int (nI wnd), .int (nI gov), .int (nI plo), .int (nI shf), .int (nI stp), .int (nI buz), .int (nI wor), .double cks])), (g0, .inr (3, [.ref g1, .ref g2, .ref g3, .ref g4, .ref g5, .int (nI cnt)])), (g1, .inl (cyI, 24, .inl (fun k => nI (pit k)))), (g2, .inl (cyZ, 24, .inl (fun k => xb (bro k)))), (g3, .inl (cyI, 24, .inl (fun k => nI (scr k)))), (g4, .inl (cyI, 24, .inl (fun k => nI (plu k)))), (g5, .inl (cyI, 24, .inl (fun k => nI (las k)))), (h0, .inr (2, [.ref h1, .ref h2])), (h1, .inl (cyJ, 72, .inr (.inl plc))), (h2, .inl (cyI, 4608, .inl (fun k => nI (wea k)))), (s0, .inr (4, [.ref s1, .ref s2, .int (nI old), .int (nI kep), .int (nI evr)])), (s1, .inl (cyI, 40, .inl (fun k => nI (pts k)))), (s2, .inl (cyD, 40, .inr (.inr (.inr (.inl clk))))), (v0, .inr (6, [.ref e0, .ref b0, .ref d0, .int (nI vwnd), .int (nI vgov), .int (nI vplo), .int (nI vshf), .int (nI vstp), .int (nI vbuz), .int (nI vwor), .double vcks])), (e0, .inr (3, [.ref e1, .ref e2, .ref e3, .ref e4, .ref e5, .int (nI vcnt)])), (e1, .inl (cyI, 24, .inl (fun k => nI (vpit k)))), (e2, .inl (cyZ, 24, .inl (fun k => xb (vbro k)))), (e3, .inl (cyI, 24, .inl (fun k => nI (vscr k)))), (e4, .inl (cyI, 24, .inl (fun k => nI (vplu k)))), (e5, .inl (cyI, 24, .inl (fun k => nI (vlas k)))), (b0, .inr (2, [.ref b1, .ref b2])), (b1, .inl (cyJ, 72, .inr (.inl vplc))), (b2, .inl (cyI, 4608, .inl (fun k => nI (vwea k)))), (d0, .inr (4, [.ref d1, .ref d2, .int (nI vold), .int (nI vkep), .int (nI vevr)])), (d1, .inl (cyI, 40, .inl (fun k => nI (vpts k)))), (d2, .inl (cyD, 40, .inr (.inr (.inr (.inl vclk)))))]) [(p0, .inr (7, [.ref t0, .ref w0, .ref g0, .ref h0, .ref s0, .ref v0, .int (nI kn)])), (t0, .inr (5, [.ref t1, .ref t2, .int (nI tcn)])), (w0, .inr (6, [.ref g0, .ref h0, .ref s0, .int (nI u.1.2.1), .int (nI gov), .int (nI u.1.2.2.1), .int (nI shf), .int (nI u.1.2.2.2.1), .int (nI u.1.1.2.2.2.2.2.2.2.2.2.2.2.1), .int (nI u.1.1.2.2.2.2.2.2.2.2.2.2.2.2), .double u.1.2.2.2.2])), (g0, .inr (3, [.ref g1, .ref g2, .ref g3, .ref g4, .ref g5, .int (nI cnt)])), (g1, .inl (cyI, 24, .inl (fun k => nI (pit k)))), (g2, .inl (cyZ, 24, .inl (fun k => xb (u.1.1.1 k)))), (g3, .inl (cyI, 24, .inl (fun k => nI (u.1.1.2.1 k)))), (g4, .inl (cyI, 24, .inl (fun k => nI (u.1.1.2.2.1 k)))), (g5, .inl (cyI, 24, .inl (fun k => nI (u.1.1.2.2.2.1 k)))), (h0, .inr (2, [.ref h1, .ref h2])), (h1, .inl (cyJ, 72, .inr (.inl u.1.1.2.2.2.2.1))), (h2, .inl (cyI, 4608, .inl (fun k => nI (u.1.1.2.2.2.2.2.1 k)))), (s0, .inr (4, [.ref s1, .ref s2, .int (nI u.1.1.2.2.2.2.2.2.2.2.1), .int (nI u.1.1.2.2.2.2.2.2.2.2.2.1), .int (nI u.1.1.2.2.2.2.2.2.2.2.2.2.1)])), (s1, .inl (cyI, 40, .inl (fun k => nI (u.1.1.2.2.2.2.2.2.1 k)))), (s2, .inl (cyD, 40, .inr (.inr (.inr (.inl u.1.1.2.2.2.2.2.2.2.1))))), (v0, .inr (6, [.ref e0, .ref b0, .ref d0, .int (nI u.2.2.2.2.2.2.2.2.2.2.2.2.2.2.1), .int (nI u.2.2.2.2.2.2.2.2.2.2.2.2.2.2.2.1), .int (nI u.2.2.2.2.2.2.2.2.2.2.2.2.2.2.2.2.1), .int (nI u.2.2.2.2.2.2.2.2.2.2.2.2.2.2.2.2.2.1), .int (nI u.2.2.2.2.2.2.2.2.2.2.2.2.2.2.2.2.2.2.1), .int (nI u.2.2.2.2.2.2.2.2.2.2.2.2.2.2.2.2.2.2.2.1), .int (nI u.2.2.2.2.2.2.2.2.2.2.2.2.2.2.2.2.2.2.2.2.1), .double u.2.2.2.2.2.2.2.2.2.2.2.2.2.2.2.2.2.2.2.2.2])), (e0, .inr (3, [.ref e1, .ref e2, .ref e3, .ref e4, .ref e5, .int (nI u.2.2.2.2.2.2.1)])), (e1, .inl (cyI, 24, .inl (fun k => nI (u.2.1 k)))), (e2, .inl (cyZ, 24, .inl (fun k => xb (u.2.2.1 k)))), (e3, .inl (cyI, 24, .inl (fun k => nI (u.2.2.2.1 k)))), (e4, .inl (cyI, 24, .inl (fun k => nI (u.2.2.2.2.1 k)))), (e5, .inl (cyI, 24, .inl (fun k => nI (u.2.2.2.2.2.1 k)))), (b0, .inr (2, [.ref b1, .ref b2])), (b1, .inl (cyJ, 72, .inr (.inl u.2.2.2.2.2.2.2.1))), (b2, .inl (cyI, 4608, .inl (fun k => nI (u.2.2.2.2.2.2.2.2.1 k)))), (d0, .inr (4, [.ref d1, .ref d2, .int (nI u.2.2.2.2.2.2.2.2.2.2.2.1), .int (nI u.2.2.2.2.2.2.2.2.2.2.2.2.1), .int (nI u.2.2.2.2.2.2.2.2.2.2.2.2.2.1)])), (d1, .inl (cyI, 40, .inl (fun k => nI (u.2.2.2.2.2.2.2.2.2.1 k)))), (d2, .inl (cyD, 40, .inr (.inr (.inr (.inl u.2.2.2.2.2.2.2.2.2.2.1)))))]) (xA [(p0, .inr (7, [.ref t0, .ref w0, .ref g0, .ref h0, .ref s0, .ref v0, .int (nI kn)])), (t0, .inr (5, [.ref t1, .ref t2, .int (nI tcn)])), (w0, .inr (6, [.ref g0, .ref h0, .ref s0, .int (nI wnd), .int (nI gov), .int (nI plo), .int (nI shf), .int (nI stp), .int (nI buz), .int (nI wor), .double cks])), (g0, .inr (3, [.ref g1, .ref g2, .ref g3, .ref g4, .ref g5, .int (nI cnt)])), (g1, .inl (cyI, 24, .inl (fun k => nI (pit k)))), (g2, .inl (cyZ, 24, .inl (fun k => xb (bro k)))), (g3, .inl (cyI, 24, .inl (fun k => nI (scr k)))), (g4, .inl (cyI, 24, .inl (fun k => nI (plu k)))), (g5, .inl (cyI, 24, .inl (fun k => nI (las k)))), (h0, .inr (2, [.ref h1, .ref h2])), (h1, .inl (cyJ, 72, .inr (.inl plc))), (h2, .inl (cyI, 4608, .inl (fun k => nI (wea k)))), (s0, .inr (4, [.ref s1, .ref s2, .int (nI old), .int (nI kep), .int (nI evr)])), (s1, .inl (cyI, 40, .inl (fun k => nI (pts k)))), (s2, .inl (cyD, 40, .inr (.inr (.inr (.inl clk))))), (v0, .inr (6, [.ref e0, .ref b0, .ref d0, .int (nI vwnd), .int (nI vgov), .int (nI vplo), .int (nI vshf), .int (nI vstp), .int (nI vbuz), .int (nI vwor), .double vcks])), (e0, .inr (3, [.ref e1, .ref e2, .ref e3, .ref e4, .ref e5, .int (nI vcnt)])), (e1, .inl (cyI, 24, .inl (fun k => nI (vpit k)))), (e2, .inl (cyZ, 24, .inl (fun k => xb (vbro k)))), (e3, .inl (cyI, 24, .inl (fun k => nI (vscr k)))), (e4, .inl (cyI, 24, .inl (fun k => nI (vplu k)))), (e5, .inl (cyI, 24, .inl (fun k => nI (vlas k)))), (b0, .inr (2, [.ref b1, .ref b2])), (b1, .inl (cyJ, 72, .inr (.inl vplc))), (b2, .inl (cyI, 4608, .inl (fun k => nI (vwea k)))), (d0, .inr (4, [.ref d1, .ref d2, .int (nI vold), .int (nI vkep), .int (nI vevr)])), (d1, .inl (cyI, 40, .inl (fun k => nI (vpts k)))), (d2, .inl (cyD, 40, .inr (.inr (.inr (.inl vclk)))))])) 0 0 (xA [(p0, .inr (7, [.ref t0, .ref w0, .ref g0, .ref h0, .ref s0, .ref v0, .int (nI kn)])), (t0, .inr (5, [.ref t1, .ref t2, .int (nI tcn)])), (w0, .inr (6, [.ref g0, .ref h0, .ref s0, .int (nI wnd), .int (nI gov), .int (nI plo), .int (nI shf), .int (nI stp), .int (nI buz), .int (nI wor), .double cks])), (g0, .inr (3, [.ref g1, .ref g2, .ref g3, .ref g4, .ref g5, .int (nI cnt)])), (g1, .inl (cyI, 24, .inl (fun k => nI (pit k)))), (g2, .inl (cyZ, 24, .inl (fun k => xb (bro k)))), (g3, .inl (cyI, 24, .inl (fun k => nI (scr k)))), (g4, .inl (cyI, 24, .inl (fun k => nI (plu k)))), (g5, .inl (cyI, 24, .inl (fun k => nI (las k)))), (h0, .inr (2, [.ref h1, .ref h2])), (h1, .inl (cyJ, 72, .inr (.inl plc))), (h2, .inl (cyI, 4608, .inl (fun k => nI (wea k)))), (s0, .inr (4, [.ref s1, .ref s2, .int (nI old), .int (nI kep), .int (nI evr)])), (s1, .inl (cyI, 40, .inl (fun k => nI (pts k)))), (s2, .inl (cyD, 40, .inr (.inr (.inr (.inl clk))))), (v0, .inr (6, [.ref e0, .ref b0, .ref d0, .int (nI vwnd), .int (nI vgov), .int (nI vplo), .int (nI vshf), .int (nI vstp), .int (nI vbuz), .int (nI vwor), .double vcks])), (e0, .inr (3, [.ref e1, .ref e2, .ref e3, .ref e4, .ref e5, .int (nI vcnt)])), (e1, .inl (cyI, 24, .inl (fun k => nI (vpit k)))), (e2, .inl (cyZ, 24, .inl (fun k => xb (vbro k)))), (e3, .inl (cyI, 24, .inl (fun k => nI (vscr k)))), (e4, .inl (cyI, 24, .inl (fun k => nI (vplu k)))), (e5, .inl (cyI, 24, .inl (fun k => nI (vlas k)))), (b0, .inr (2, [.ref b1, .ref b2])), (b1, .inl (cyJ, 72, .inr (.inl vplc))), (b2, .inl (cyI, 4608, .inl (fun k => nI (vwea k)))), (d0, .inr (4, [.ref d1, .ref d2, .int (nI vold), .int (nI vkep), .int (nI vevr)])), (d1, .inl (cyI, 40, .inl (fun k => nI (vpts k)))), (d2, .inl (cyD, 40, .inr (.inr (.inr (.inl vclk)))))]) := by
  refine Met.ofW (cc := cL_isPlayed) (maxL := 15) (ret := (some .boolean)) (by decide) rfl ?_
  intro p e s m args below meth c s₁ B hml hv
  obtain ⟨rfl, hP, hK, hD0⟩ := hv
  have hx := B.exec
  have hb := B.bytes
  have hr := B.returns
  have hts := atoms_spec (ws := wsL_isPlayed) B.pre
  have hown : s.vm.findClass RL = some m.cls := findClass_of_methodNamed B.named
  have hlocks := B.notSynchronized
  have hD := xA_self hD0
  clear hD0
  generalize hAe : xA [(p0, .inr (7, [.ref t0, .ref w0, .ref g0, .ref h0, .ref s0, .ref v0, .int (nI kn)])), (t0, .inr (5, [.ref t1, .ref t2, .int (nI tcn)])), (w0, .inr (6, [.ref g0, .ref h0, .ref s0, .int (nI wnd), .int (nI gov), .int (nI plo), .int (nI shf), .int (nI stp), .int (nI buz), .int (nI wor), .double cks])), (g0, .inr (3, [.ref g1, .ref g2, .ref g3, .ref g4, .ref g5, .int (nI cnt)])), (g1, .inl (cyI, 24, .inl (fun k => nI (pit k)))), (g2, .inl (cyZ, 24, .inl (fun k => xb (bro k)))), (g3, .inl (cyI, 24, .inl (fun k => nI (scr k)))), (g4, .inl (cyI, 24, .inl (fun k => nI (plu k)))), (g5, .inl (cyI, 24, .inl (fun k => nI (las k)))), (h0, .inr (2, [.ref h1, .ref h2])), (h1, .inl (cyJ, 72, .inr (.inl plc))), (h2, .inl (cyI, 4608, .inl (fun k => nI (wea k)))), (s0, .inr (4, [.ref s1, .ref s2, .int (nI old), .int (nI kep), .int (nI evr)])), (s1, .inl (cyI, 40, .inl (fun k => nI (pts k)))), (s2, .inl (cyD, 40, .inr (.inr (.inr (.inl clk))))), (v0, .inr (6, [.ref e0, .ref b0, .ref d0, .int (nI vwnd), .int (nI vgov), .int (nI vplo), .int (nI vshf), .int (nI vstp), .int (nI vbuz), .int (nI vwor), .double vcks])), (e0, .inr (3, [.ref e1, .ref e2, .ref e3, .ref e4, .ref e5, .int (nI vcnt)])), (e1, .inl (cyI, 24, .inl (fun k => nI (vpit k)))), (e2, .inl (cyZ, 24, .inl (fun k => xb (vbro k)))), (e3, .inl (cyI, 24, .inl (fun k => nI (vscr k)))), (e4, .inl (cyI, 24, .inl (fun k => nI (vplu k)))), (e5, .inl (cyI, 24, .inl (fun k => nI (vlas k)))), (b0, .inr (2, [.ref b1, .ref b2])), (b1, .inl (cyJ, 72, .inr (.inl vplc))), (b2, .inl (cyI, 4608, .inl (fun k => nI (vwea k)))), (d0, .inr (4, [.ref d1, .ref d2, .int (nI vold), .int (nI vkep), .int (nI vevr)])), (d1, .inl (cyI, 40, .inl (fun k => nI (vpts k)))), (d2, .inl (cyD, 40, .inr (.inr (.inr (.inl vclk)))))] = A at hD ⊢
  have hS : va_S A s.heap s.heap [] := va_S.rf
  have hP : va_P (dC, dI) vwCl [(p0, .inr (7, [.ref t0, .ref w0, .ref g0, .ref h0, .ref s0, .ref v0, .int (nI kn)])), (t0, .inr (5, [.ref t1, .ref t2, .int (nI tcn)])), (w0, .inr (6, [.ref g0, .ref h0, .ref s0, .int (nI wnd), .int (nI gov), .int (nI plo), .int (nI shf), .int (nI stp), .int (nI buz), .int (nI wor), .double cks])), (g0, .inr (3, [.ref g1, .ref g2, .ref g3, .ref g4, .ref g5, .int (nI cnt)])), (g1, .inl (cyI, 24, .inl (fun k => nI (pit k)))), (g2, .inl (cyZ, 24, .inl (fun k => xb (bro k)))), (g3, .inl (cyI, 24, .inl (fun k => nI (scr k)))), (g4, .inl (cyI, 24, .inl (fun k => nI (plu k)))), (g5, .inl (cyI, 24, .inl (fun k => nI (las k)))), (h0, .inr (2, [.ref h1, .ref h2])), (h1, .inl (cyJ, 72, .inr (.inl plc))), (h2, .inl (cyI, 4608, .inl (fun k => nI (wea k)))), (s0, .inr (4, [.ref s1, .ref s2, .int (nI old), .int (nI kep), .int (nI evr)])), (s1, .inl (cyI, 40, .inl (fun k => nI (pts k)))), (s2, .inl (cyD, 40, .inr (.inr (.inr (.inl clk))))), (v0, .inr (6, [.ref e0, .ref b0, .ref d0, .int (nI vwnd), .int (nI vgov), .int (nI vplo), .int (nI vshf), .int (nI vstp), .int (nI vbuz), .int (nI vwor), .double vcks])), (e0, .inr (3, [.ref e1, .ref e2, .ref e3, .ref e4, .ref e5, .int (nI vcnt)])), (e1, .inl (cyI, 24, .inl (fun k => nI (vpit k)))), (e2, .inl (cyZ, 24, .inl (fun k => xb (vbro k)))), (e3, .inl (cyI, 24, .inl (fun k => nI (vscr k)))), (e4, .inl (cyI, 24, .inl (fun k => nI (vplu k)))), (e5, .inl (cyI, 24, .inl (fun k => nI (vlas k)))), (b0, .inr (2, [.ref b1, .ref b2])), (b1, .inl (cyJ, 72, .inr (.inl vplc))), (b2, .inl (cyI, 4608, .inl (fun k => nI (vwea k)))), (d0, .inr (4, [.ref d1, .ref d2, .int (nI vold), .int (nI vkep), .int (nI vevr)])), (d1, .inl (cyI, 40, .inl (fun k => nI (vpts k)))), (d2, .inl (cyD, 40, .inr (.inr (.inr (.inl vclk)))))] s.heap := hP
  have hl := lv_entry ([.ref p0, .int (nI sp), .int (nI cnt)]) (n := 15) (Nat.le_of_ble_eq_true rfl)
  rw [lg_entry_eq]
  generalize (lg_sl ([.ref p0, .int (nI sp), .int (nI cnt)]) ++ List.replicate (15 - (lg_sl ([.ref p0, .int (nI sp), .int (nI cnt)])).length) Slot.unset).toArray = ls at hl ⊢
  have hl : lv_has ls 15 [(0, .ref p0), (1, .int (nI sp)), (2, .int (nI cnt))] := hl
  have hok := okP_IP hI hsh
  have hIr := IP_run (pit := pit) (gov := gov) hgv hcn hsh hpit sp nc ((bro, scr, plu, las, plc, wea, pts, clk, old, kep, evr, buz, wor), wnd, plo, stp, cks) hI hck (by omega) hwn
  have hcr := run_clk (pit := pit) (cnt := cnt) (shf := shf) hgv sp nc ((bro, scr, plu, las, plc, wea, pts, clk, old, kep, evr, buz, wor), wnd, plo, stp, cks) hck (by omega) hwn
  have hwr := run_wnd (pit := pit) (cnt := cnt) (shf := shf) (gov := gov) sp ((bro, scr, plu, las, plc, wea, pts, clk, old, kep, evr, buz, wor), wnd, plo, stp, cks)
  have hps := ls_pos (pit := pit) (cnt := cnt) (shf := shf) (gov := gov) sp 2000 ((bro, scr, plu, las, plc, wea, pts, clk, old, kep, evr, buz, wor), wnd, plo, stp, cks) (by omega)
  have hmi := ls_min (pit := pit) (cnt := cnt) (shf := shf) (gov := gov) sp 2000 ((bro, scr, plu, las, plc, wea, pts, clk, old, kep, evr, buz, wor), wnd, plo, stp, cks) (by omega)
  have hla := ls_last (pit := pit) (cnt := cnt) (shf := shf) (gov := gov) (n := sp) (x := ((bro, scr, plu, las, plc, wea, pts, clk, old, kep, evr, buz, wor), wnd, plo, stp, cks)) hwn
  have hle := ls_le (pit := pit) (cnt := cnt) (shf := shf) (gov := gov) 2000 ((bro, scr, plu, las, plc, wea, pts, clk, old, kep, evr, buz, wor), wnd, plo, stp, cks)
  have hw9 : 2 * lsW pit cnt shf gov 2000 ((bro, scr, plu, las, plc, wea, pts, clk, old, kep, evr, buz, wor), wnd, plo, stp, cks) ≤ wnd + 1 := hle
  obtain ⟨pp, f1, f2, f3, f4, f5, f6, f7, f8⟩ := run_sum (pit := pit) (shf := shf) (gov := gov) hcn sp ((bro, scr, plu, las, plc, wea, pts, clk, old, kep, evr, buz, wor), wnd, plo, stp, cks) hpl
  have hsm1 : buzP (runW pit cnt shf gov sp ((bro, scr, plu, las, plc, wea, zN, zD, 0, 0, 0, buz, wor), wnd, plo, stp, cks)).1 = buzP (runW pit cnt shf gov sp ((bro, scr, plu, las, plc, wea, pts, clk, old, kep, evr, buz, wor), wnd, plo, stp, cks)).1 := smP_buz (smW_run (pit := pit) (pit2 := pit) (gov := gov) sp (x := ((bro, scr, plu, las, plc, wea, zN, zD, 0, 0, 0, buz, wor), wnd, plo, stp, cks)) (y := ((bro, scr, plu, las, plc, wea, pts, clk, old, kep, evr, buz, wor), wnd, plo, stp, cks)) ⟨smP_rf, rfl⟩).1
  have hsm2 : lsW pit cnt shf gov 2000 ((bro, scr, plu, las, plc, wea, zN, zD, 0, 0, 0, buz, wor), wnd, plo, stp, cks) = lsW pit cnt shf gov 2000 ((bro, scr, plu, las, plc, wea, pts, clk, old, kep, evr, buz, wor), wnd, plo, stp, cks) := smW_ls (pit := pit) (pit2 := pit) (gov := gov) 2000 ⟨smP_rf, rfl⟩
  generalize hR : runW pit cnt shf gov sp ((bro, scr, plu, las, plc, wea, pts, clk, old, kep, evr, buz, wor), wnd, plo, stp, cks) = w9 at *
  obtain ⟨⟨bro9, scr9, plu9, las9, plc9, wea9, pts9, clk9, old9, kep9, evr9, buz9, wor9⟩, wnd9, plo9, stp9, cks9⟩ := w9
  generalize hL2 : lsW pit cnt shf gov 2000 ((bro, scr, plu, las, plc, wea, pts, clk, old, kep, evr, buz, wor), wnd, plo, stp, cks) = l2 at *
  generalize hL1 : lsW pit cnt shf gov sp ((bro, scr, plu, las, plc, wea, pts, clk, old, kep, evr, buz, wor), wnd, plo, stp, cks) = l1 at *
  have f1 : stp9 = stp + l1 := f1
  have f2 : suF plu9 cnt = suF plu cnt + pp := f2
  have f3 : evr9 + buz9 = evr + buz + pp := f3
  have f4 : wnd9 = wnd - (2 * l1 + pp) := f4
  have f6 : evr ≤ evr9 := f6
  have f7 : buz ≤ buz9 := f7
  have f8 : plo9 = stp9 % 64 := f8
  have hps : 0 < wnd9 ↔ sp < l2 := hps
  have hwr : wnd9 ≤ wnd := hwr
  have hI9 : IP cnt cks9 (bro9, scr9, plu9, las9, plc9, wea9, pts9, clk9, old9, kep9, evr9, buz9, wor9) := hIr
  have hok9 := okP_IP hI9 hsh
  have hck9 : okC (nc + sp) cks9 := hcr.1
  have hmono : FP.d2i cks ≤ FP.d2i cks9 := d2i_mono hck hck9 (by omega) (by omega) hcr.2
  have hsm3 : lsW pit cnt shf gov 2000 ((bro9, scr9, plu9, las9, plc9, wea9, zN, zD, 0, 0, 0, buz9, wor9), wnd9, plo9, stp9, cks9) = l2 - l1 := (smW_ls (pit := pit) (pit2 := pit) (gov := gov) 2000 (x := ((bro9, scr9, plu9, las9, plc9, wea9, zN, zD, 0, 0, 0, buz9, wor9), wnd9, plo9, stp9, cks9)) (y := ((bro9, scr9, plu9, las9, plc9, wea9, pts9, clk9, old9, kep9, evr9, buz9, wor9), wnd9, plo9, stp9, cks9)) ⟨smP_rf, rfl⟩).trans hla
  have hplo9 : plo9 < 64 := by omega
  refine lv_aload_n hx hb dL_isPlayed_0 rfl (lv_at hl 0 rfl) ?_
  refine lv_iload_n hx hb dL_isPlayed_1 rfl (lv_at hl 2 rfl) ?_
  refine xsp_i (As := [.ref p0, .int (nI cnt)]) (rest := []) ⟨hx, hb, hml, hown, hts⟩ (kL_plucks l dC dI cyI cyZ cyJ cyD cyB p0 g0 g1 g2 g3 g4 h0 h1 t0 w0 s0 v0 kn g5 cnt pit bro scr plu h2 plc (by omega)) (va_cwS 2 hts gL_isPlayed_L_plucks rfl rfl rfl (by decide +kernel) ⟨Nat.le_of_ble_eq_true rfl, Nat.le_of_ble_eq_true rfl⟩) hK hP hS [0, 3, 4, 5, 6, 7, 9, 10] rfl rfl hl.1 rfl (Nat.le_of_ble_eq_true rfl) dL_isPlayed_2 ⟨Nat.zero_le _, Nat.zero_le _⟩ (fun r_1 H locs hw hP hS => ?_)
  have hw : r_1 = nI (suF plu cnt) := hw
  subst hw
  refine lv_istore_n (lv' := [(3, .int (nI (suF plu cnt))), (0, .ref p0), (1, .int (nI sp)), (2, .int (nI cnt))]) hx hb dL_isPlayed_5 rfl hl (by decide) rfl (fun ls hl => ?_)
  refine lv_aload_n hx hb dL_isPlayed_6 rfl (lv_at hl 1 rfl) ?_
  refine lv_bipush (v := nI 9) hx hb dL_isPlayed_7 (by decide) ?_
  refine xv_i (As := [.int (nI 9)]) (rest := []) (q := (RX5, TX5, 7)) ⟨hx, hb, hml, hown, hts⟩ (kX5_many l dC dI cyI cyZ cyJ cyD cyB p0 g0 g2 t0 h0 h1 w0 s0 v0 kn g1 g3 g4 g5 cnt bro t1 t2 tcn h2 plc wnd gov plo shf stp buz wor cks s1 s2 old kep evr 9 (by omega) (by omega)) (cwV 1 hts gL_isPlayed_X5_many rfl rfl rfl (by decide +kernel) ⟨Nat.le_of_ble_eq_true rfl, Nat.le_of_ble_eq_true rfl⟩) hK hP hS [0, 3, 5, 1, 9, 10, 2, 12] rfl 0 7 rfl rfl rfl hl.1 rfl (Nat.le_of_ble_eq_true rfl) dL_isPlayed_9 ⟨Nat.zero_le _, Nat.zero_le _⟩ (fun r_2 H locs hw hP hS => ?_)
  have hw : r_2 = mnF cnt bro tcn plc plo shf wnd gov stp evr kep buz wor kn cks 9 := hw
  subst hw
  rw [show mnF cnt bro tcn plc plo shf wnd gov stp evr kep buz wor kn cks 9 = nI evr from rfl]
  refine lv_istore (lv' := [(4, .int (nI evr)), (3, .int (nI (suF plu cnt))), (0, .ref p0), (1, .int (nI sp)), (2, .int (nI cnt))]) hx hb dL_isPlayed_12 hl (by decide) rfl (fun ls hl => ?_)
  refine lv_aload_n hx hb dL_isPlayed_14 rfl (lv_at hl 2 rfl) ?_
  refine lv_bipush (v := nI 11) hx hb dL_isPlayed_15 (by decide) ?_
  refine xv_i (As := [.int (nI 11)]) (rest := []) (q := (RX5, TX5, 7)) ⟨hx, hb, hml, hown, hts⟩ (kX5_many l dC dI cyI cyZ cyJ cyD cyB p0 g0 g2 t0 h0 h1 w0 s0 v0 kn g1 g3 g4 g5 cnt bro t1 t2 tcn h2 plc wnd gov plo shf stp buz wor cks s1 s2 old kep evr 11 (by omega) (by omega)) (cwV 1 hts gL_isPlayed_X5_many rfl rfl rfl (by decide +kernel) ⟨Nat.le_of_ble_eq_true rfl, Nat.le_of_ble_eq_true rfl⟩) hK hP hS [0, 3, 5, 1, 9, 10, 2, 12] rfl 0 7 rfl rfl rfl hl.1 rfl (Nat.le_of_ble_eq_true rfl) dL_isPlayed_17 ⟨Nat.zero_le _, Nat.zero_le _⟩ (fun r_3 H locs hw hP hS => ?_)
  have hw : r_3 = mnF cnt bro tcn plc plo shf wnd gov stp evr kep buz wor kn cks 11 := hw
  subst hw
  rw [show mnF cnt bro tcn plc plo shf wnd gov stp evr kep buz wor kn cks 11 = nI buz from rfl]
  refine lv_istore (lv' := [(5, .int (nI buz)), (4, .int (nI evr)), (3, .int (nI (suF plu cnt))), (0, .ref p0), (1, .int (nI sp)), (2, .int (nI cnt))]) hx hb dL_isPlayed_20 hl (by decide) rfl (fun ls hl => ?_)
  refine lv_aload_n hx hb dL_isPlayed_22 rfl (lv_at hl 3 rfl) ?_
  refine lv_bipush (v := nI 6) hx hb dL_isPlayed_23 (by decide) ?_
  refine xv_i (As := [.int (nI 6)]) (rest := []) (q := (RX5, TX5, 7)) ⟨hx, hb, hml, hown, hts⟩ (kX5_many l dC dI cyI cyZ cyJ cyD cyB p0 g0 g2 t0 h0 h1 w0 s0 v0 kn g1 g3 g4 g5 cnt bro t1 t2 tcn h2 plc wnd gov plo shf stp buz wor cks s1 s2 old kep evr 6 (by omega) (by omega)) (cwV 1 hts gL_isPlayed_X5_many rfl rfl rfl (by decide +kernel) ⟨Nat.le_of_ble_eq_true rfl, Nat.le_of_ble_eq_true rfl⟩) hK hP hS [0, 3, 5, 1, 9, 10, 2, 12] rfl 0 7 rfl rfl rfl hl.1 rfl (Nat.le_of_ble_eq_true rfl) dL_isPlayed_25 ⟨Nat.zero_le _, Nat.zero_le _⟩ (fun r_4 H locs hw hP hS => ?_)
  have hw : r_4 = mnF cnt bro tcn plc plo shf wnd gov stp evr kep buz wor kn cks 6 := hw
  subst hw
  rw [show mnF cnt bro tcn plc plo shf wnd gov stp evr kep buz wor kn cks 6 = nI wnd from rfl]
  refine lv_istore (lv' := [(6, .int (nI wnd)), (5, .int (nI buz)), (4, .int (nI evr)), (3, .int (nI (suF plu cnt))), (0, .ref p0), (1, .int (nI sp)), (2, .int (nI cnt))]) hx hb dL_isPlayed_28 hl (by decide) rfl (fun ls hl => ?_)
  refine lv_aload_n hx hb dL_isPlayed_30 rfl (lv_at hl 4 rfl) ?_
  refine lv_bipush (v := nI 8) hx hb dL_isPlayed_31 (by decide) ?_
  refine xv_i (As := [.int (nI 8)]) (rest := []) (q := (RX5, TX5, 7)) ⟨hx, hb, hml, hown, hts⟩ (kX5_many l dC dI cyI cyZ cyJ cyD cyB p0 g0 g2 t0 h0 h1 w0 s0 v0 kn g1 g3 g4 g5 cnt bro t1 t2 tcn h2 plc wnd gov plo shf stp buz wor cks s1 s2 old kep evr 8 (by omega) (by omega)) (cwV 1 hts gL_isPlayed_X5_many rfl rfl rfl (by decide +kernel) ⟨Nat.le_of_ble_eq_true rfl, Nat.le_of_ble_eq_true rfl⟩) hK hP hS [0, 3, 5, 1, 9, 10, 2, 12] rfl 0 7 rfl rfl rfl hl.1 rfl (Nat.le_of_ble_eq_true rfl) dL_isPlayed_33 ⟨Nat.zero_le _, Nat.zero_le _⟩ (fun r_5 H locs hw hP hS => ?_)
  have hw : r_5 = mnF cnt bro tcn plc plo shf wnd gov stp evr kep buz wor kn cks 8 := hw
  subst hw
  rw [show mnF cnt bro tcn plc plo shf wnd gov stp evr kep buz wor kn cks 8 = nI stp from rfl]
  refine lv_istore (lv' := [(7, .int (nI stp)), (6, .int (nI wnd)), (5, .int (nI buz)), (4, .int (nI evr)), (3, .int (nI (suF plu cnt))), (0, .ref p0), (1, .int (nI sp)), (2, .int (nI cnt))]) hx hb dL_isPlayed_36 hl (by decide) rfl (fun ls hl => ?_)
  refine lv_aload_n hx hb dL_isPlayed_38 rfl (lv_at hl 5 rfl) ?_
  refine lv_bipush (v := nI 14) hx hb dL_isPlayed_39 (by decide) ?_
  refine xv_i (As := [.int (nI 14)]) (rest := []) (q := (RX5, TX5, 7)) ⟨hx, hb, hml, hown, hts⟩ (kX5_many l dC dI cyI cyZ cyJ cyD cyB p0 g0 g2 t0 h0 h1 w0 s0 v0 kn g1 g3 g4 g5 cnt bro t1 t2 tcn h2 plc wnd gov plo shf stp buz wor cks s1 s2 old kep evr 14 (by omega) (by omega)) (cwV 1 hts gL_isPlayed_X5_many rfl rfl rfl (by decide +kernel) ⟨Nat.le_of_ble_eq_true rfl, Nat.le_of_ble_eq_true rfl⟩) hK hP hS [0, 3, 5, 1, 9, 10, 2, 12] rfl 0 7 rfl rfl rfl hl.1 rfl (Nat.le_of_ble_eq_true rfl) dL_isPlayed_41 ⟨Nat.zero_le _, Nat.zero_le _⟩ (fun r_6 H locs hw hP hS => ?_)
  have hw : r_6 = mnF cnt bro tcn plc plo shf wnd gov stp evr kep buz wor kn cks 14 := hw
  subst hw
  rw [show mnF cnt bro tcn plc plo shf wnd gov stp evr kep buz wor kn cks 14 = FP.d2i cks from rfl]
  refine lv_istore (lv' := [(8, .int (FP.d2i cks)), (7, .int (nI stp)), (6, .int (nI wnd)), (5, .int (nI buz)), (4, .int (nI evr)), (3, .int (nI (suF plu cnt))), (0, .ref p0), (1, .int (nI sp)), (2, .int (nI cnt))]) hx hb dL_isPlayed_44 hl (by decide) rfl (fun ls hl => ?_)
  refine lv_aload_n hx hb dL_isPlayed_46 rfl (lv_at hl 6 rfl) ?_
  refine lv_iload_n hx hb dL_isPlayed_47 rfl (lv_at hl 7 rfl) ?_
  refine xm_i (As := [.int (nI sp)]) (rest := []) (q := (RX5, TX5, 7)) ⟨hx, hb, hml, hown, hts⟩ (kX5_wouldBuzz l dC dI cyI cyZ cyJ cyD cyB p0 v0 e0 e1 e2 e3 e4 e5 b0 b1 b2 d0 d1 d2 w0 g0 g1 g2 g3 g4 g5 h0 h1 h2 t0 s0 kn vwnd vgov vplo vshf vstp vbuz vwor vcks vcnt vpit vbro vscr vplu vlas vplc vwea vold vkep vevr vpts vclk wnd gov plo shf stp buz wor cks cnt pit bro scr plu las plc wea sp nc (by omega) (by omega) (by omega) (by omega) (by omega) (by omega) (by omega) hck (okP_dum hok) hvo hvk) (cwV 1 hts gL_isPlayed_X5_wouldBuzz rfl rfl rfl (by decide +kernel) ⟨Nat.le_of_ble_eq_true rfl, Nat.le_of_ble_eq_true rfl⟩) hK hP hD hS [0, 15, 16, 17, 18, 19, 20, 21, 22, 23, 24, 25, 26, 27, 2, 3, 4, 5, 6, 7, 8, 9, 10, 11] rfl (by decide) 0 7 rfl rfl rfl hl.1 rfl (Nat.le_of_ble_eq_true rfl) dL_isPlayed_48 ⟨Nat.zero_le _, Nat.zero_le _⟩ (fun r_7 u_8 H1 locs hw hP1 hD1 hk1 hS => ?_)
  obtain ⟨vpit2_9, vbro2_10, vscr2_11, vplu2_12, vlas2_13, vcnt2_14, vplc2_15, vwea2_16, vpts2_17, vclk2_18, vold2_19, vkep2_20, vevr2_21, vwnd2_22, vgov2_23, vplo2_24, vshf2_25, vstp2_26, vbuz2_27, vwor2_28, vcks2_29⟩ := u_8
  obtain ⟨hw, hu_30⟩ := hw
  have hu_30 : vold2_19 < 40 ∧ vkep2_20 ≤ 40 := hu_30
  have hw : r_7 = nI (buzP (runW pit cnt shf gov sp ((bro, scr, plu, las, plc, wea, zN, zD, 0, 0, 0, buz, wor), wnd, plo, stp, cks)).1) - nI buz := hw
  rw [hw]
  obtain ⟨hP, hD⟩ := xW_join (wr := [(t0, .inr (5, [.ref t1, .ref t2, .int (nI tcn)])), (s0, .inr (4, [.ref s1, .ref s2, .int (nI old), .int (nI kep), .int (nI evr)])), (s1, .inl (cyI, 40, .inl (fun k => nI (pts k)))), (s2, .inl (cyD, 40, .inr (.inr (.inr (.inl clk)))))]) (w1 := [(p0, .inr (7, [.ref t0, .ref w0, .ref g0, .ref h0, .ref s0, .ref v0, .int (nI kn)])), (v0, .inr (6, [.ref e0, .ref b0, .ref d0, .int (nI vwnd2_22), .int (nI vgov2_23), .int (nI vplo2_24), .int (nI vshf2_25), .int (nI vstp2_26), .int (nI vbuz2_27), .int (nI vwor2_28), .double vcks2_29])), (e0, .inr (3, [.ref e1, .ref e2, .ref e3, .ref e4, .ref e5, .int (nI vcnt2_14)])), (e1, .inl (cyI, 24, .inl (fun k => nI (vpit2_9 k)))), (e2, .inl (cyZ, 24, .inl (fun k => xb (vbro2_10 k)))), (e3, .inl (cyI, 24, .inl (fun k => nI (vscr2_11 k)))), (e4, .inl (cyI, 24, .inl (fun k => nI (vplu2_12 k)))), (e5, .inl (cyI, 24, .inl (fun k => nI (vlas2_13 k)))), (b0, .inr (2, [.ref b1, .ref b2])), (b1, .inl (cyJ, 72, .inr (.inl vplc2_15))), (b2, .inl (cyI, 4608, .inl (fun k => nI (vwea2_16 k)))), (d0, .inr (4, [.ref d1, .ref d2, .int (nI vold2_19), .int (nI vkep2_20), .int (nI vevr2_21)])), (d1, .inl (cyI, 40, .inl (fun k => nI (vpts2_17 k)))), (d2, .inl (cyD, 40, .inr (.inr (.inr (.inl vclk2_18))))), (w0, .inr (6, [.ref g0, .ref h0, .ref s0, .int (nI wnd), .int (nI gov), .int (nI plo), .int (nI shf), .int (nI stp), .int (nI buz), .int (nI wor), .double cks])), (g0, .inr (3, [.ref g1, .ref g2, .ref g3, .ref g4, .ref g5, .int (nI cnt)])), (g1, .inl (cyI, 24, .inl (fun k => nI (pit k)))), (g2, .inl (cyZ, 24, .inl (fun k => xb (bro k)))), (g3, .inl (cyI, 24, .inl (fun k => nI (scr k)))), (g4, .inl (cyI, 24, .inl (fun k => nI (plu k)))), (g5, .inl (cyI, 24, .inl (fun k => nI (las k)))), (h0, .inr (2, [.ref h1, .ref h2])), (h1, .inl (cyJ, 72, .inr (.inl plc))), (h2, .inl (cyI, 4608, .inl (fun k => nI (wea k))))]) (wN := [(p0, .inr (7, [.ref t0, .ref w0, .ref g0, .ref h0, .ref s0, .ref v0, .int (nI kn)])), (t0, .inr (5, [.ref t1, .ref t2, .int (nI tcn)])), (w0, .inr (6, [.ref g0, .ref h0, .ref s0, .int (nI wnd), .int (nI gov), .int (nI plo), .int (nI shf), .int (nI stp), .int (nI buz), .int (nI wor), .double cks])), (g0, .inr (3, [.ref g1, .ref g2, .ref g3, .ref g4, .ref g5, .int (nI cnt)])), (g1, .inl (cyI, 24, .inl (fun k => nI (pit k)))), (g2, .inl (cyZ, 24, .inl (fun k => xb (bro k)))), (g3, .inl (cyI, 24, .inl (fun k => nI (scr k)))), (g4, .inl (cyI, 24, .inl (fun k => nI (plu k)))), (g5, .inl (cyI, 24, .inl (fun k => nI (las k)))), (h0, .inr (2, [.ref h1, .ref h2])), (h1, .inl (cyJ, 72, .inr (.inl plc))), (h2, .inl (cyI, 4608, .inl (fun k => nI (wea k)))), (s0, .inr (4, [.ref s1, .ref s2, .int (nI old), .int (nI kep), .int (nI evr)])), (s1, .inl (cyI, 40, .inl (fun k => nI (pts k)))), (s2, .inl (cyD, 40, .inr (.inr (.inr (.inl clk))))), (v0, .inr (6, [.ref e0, .ref b0, .ref d0, .int (nI vwnd2_22), .int (nI vgov2_23), .int (nI vplo2_24), .int (nI vshf2_25), .int (nI vstp2_26), .int (nI vbuz2_27), .int (nI vwor2_28), .double vcks2_29])), (e0, .inr (3, [.ref e1, .ref e2, .ref e3, .ref e4, .ref e5, .int (nI vcnt2_14)])), (e1, .inl (cyI, 24, .inl (fun k => nI (vpit2_9 k)))), (e2, .inl (cyZ, 24, .inl (fun k => xb (vbro2_10 k)))), (e3, .inl (cyI, 24, .inl (fun k => nI (vscr2_11 k)))), (e4, .inl (cyI, 24, .inl (fun k => nI (vplu2_12 k)))), (e5, .inl (cyI, 24, .inl (fun k => nI (vlas2_13 k)))), (b0, .inr (2, [.ref b1, .ref b2])), (b1, .inl (cyJ, 72, .inr (.inl vplc2_15))), (b2, .inl (cyI, 4608, .inl (fun k => nI (vwea2_16 k)))), (d0, .inr (4, [.ref d1, .ref d2, .int (nI vold2_19), .int (nI vkep2_20), .int (nI vevr2_21)])), (d1, .inl (cyI, 40, .inl (fun k => nI (vpts2_17 k)))), (d2, .inl (cyD, 40, .inr (.inr (.inr (.inl vclk2_18)))))]) hP hD [0, 15, 16, 17, 18, 19, 20, 21, 22, 23, 24, 25, 26, 27, 2, 3, 4, 5, 6, 7, 8, 9, 10, 11] [1, 12, 13, 14] [4, 0, 18, 19, 20, 21, 22, 23, 24, 25, 26, 27, 1, 2, 3, 5, 6, 7, 8, 9, 10, 11, 12, 13, 14, 15, 16, 17] rfl rfl (by decide) (by decide) hk1 hP1 hD1 (by decide) rfl
  clear hP1 hD1 hk1
  generalize H1 = H at hP hS ⊢
  rw [hsm1]
  rw [show buzP ((bro9, scr9, plu9, las9, plc9, wea9, pts9, clk9, old9, kep9, evr9, buz9, wor9), wnd9, plo9, stp9, cks9).1 = buz9 from rfl, pk_sub f7]
  refine lv_istore (lv' := [(9, .int (nI (buz9 - buz))), (8, .int (FP.d2i cks)), (7, .int (nI stp)), (6, .int (nI wnd)), (5, .int (nI buz)), (4, .int (nI evr)), (3, .int (nI (suF plu cnt))), (0, .ref p0), (1, .int (nI sp)), (2, .int (nI cnt))]) hx hb dL_isPlayed_51 hl (by decide) rfl (fun ls hl => ?_)
  refine lv_aload_n hx hb dL_isPlayed_53 rfl (lv_at hl 7 rfl) ?_
  refine xm_i (As := []) (rest := []) (q := (RX5, TX5, 7)) ⟨hx, hb, hml, hown, hts⟩ (kX5_lasts l dC dI cyI cyZ cyJ cyD cyB p0 v0 e0 e1 e2 e3 e4 e5 b0 b1 b2 d0 d1 d2 w0 g0 g1 g2 g3 g4 g5 h0 h1 h2 t0 s0 kn vwnd2_22 vgov2_23 vplo2_24 vshf2_25 vstp2_26 vbuz2_27 vwor2_28 vcks2_29 vcnt2_14 vpit2_9 vbro2_10 vscr2_11 vplu2_12 vlas2_13 vplc2_15 vwea2_16 vold2_19 vkep2_20 vevr2_21 vpts2_17 vclk2_18 wnd gov plo shf stp buz wor cks cnt pit bro scr plu las plc wea nc (by omega) (by omega) (by omega) (by omega) (by omega) (by omega) hck (okP_dum hok) hu_30.1 hu_30.2) (cwV 0 hts gL_isPlayed_X5_lasts rfl rfl rfl (by decide +kernel) ⟨Nat.le_of_ble_eq_true rfl, Nat.le_of_ble_eq_true rfl⟩) hK hP hD hS [0, 15, 16, 17, 18, 19, 20, 21, 22, 23, 24, 25, 26, 27, 2, 3, 4, 5, 6, 7, 8, 9, 10, 11] rfl (by decide) 0 7 rfl rfl rfl hl.1 rfl (Nat.le_of_ble_eq_true rfl) dL_isPlayed_54 ⟨Nat.zero_le _, Nat.zero_le _⟩ (fun r_31 u_32 H1 locs hw hP1 hD1 hk1 hS => ?_)
  obtain ⟨vpit2_33, vbro2_34, vscr2_35, vplu2_36, vlas2_37, vcnt2_38, vplc2_39, vwea2_40, vpts2_41, vclk2_42, vold2_43, vkep2_44, vevr2_45, vwnd2_46, vgov2_47, vplo2_48, vshf2_49, vstp2_50, vbuz2_51, vwor2_52, vcks2_53⟩ := u_32
  obtain ⟨hw, hu_54⟩ := hw
  have hu_54 : vold2_43 < 40 ∧ vkep2_44 ≤ 40 := hu_54
  have hw : r_31 = nI (lsW pit cnt shf gov 2000 ((bro, scr, plu, las, plc, wea, zN, zD, 0, 0, 0, buz, wor), wnd, plo, stp, cks)) := hw
  rw [hw]
  obtain ⟨hP, hD⟩ := xW_join (wr := [(t0, .inr (5, [.ref t1, .ref t2, .int (nI tcn)])), (s0, .inr (4, [.ref s1, .ref s2, .int (nI old), .int (nI kep), .int (nI evr)])), (s1, .inl (cyI, 40, .inl (fun k => nI (pts k)))), (s2, .inl (cyD, 40, .inr (.inr (.inr (.inl clk)))))]) (w1 := [(p0, .inr (7, [.ref t0, .ref w0, .ref g0, .ref h0, .ref s0, .ref v0, .int (nI kn)])), (v0, .inr (6, [.ref e0, .ref b0, .ref d0, .int (nI vwnd2_46), .int (nI vgov2_47), .int (nI vplo2_48), .int (nI vshf2_49), .int (nI vstp2_50), .int (nI vbuz2_51), .int (nI vwor2_52), .double vcks2_53])), (e0, .inr (3, [.ref e1, .ref e2, .ref e3, .ref e4, .ref e5, .int (nI vcnt2_38)])), (e1, .inl (cyI, 24, .inl (fun k => nI (vpit2_33 k)))), (e2, .inl (cyZ, 24, .inl (fun k => xb (vbro2_34 k)))), (e3, .inl (cyI, 24, .inl (fun k => nI (vscr2_35 k)))), (e4, .inl (cyI, 24, .inl (fun k => nI (vplu2_36 k)))), (e5, .inl (cyI, 24, .inl (fun k => nI (vlas2_37 k)))), (b0, .inr (2, [.ref b1, .ref b2])), (b1, .inl (cyJ, 72, .inr (.inl vplc2_39))), (b2, .inl (cyI, 4608, .inl (fun k => nI (vwea2_40 k)))), (d0, .inr (4, [.ref d1, .ref d2, .int (nI vold2_43), .int (nI vkep2_44), .int (nI vevr2_45)])), (d1, .inl (cyI, 40, .inl (fun k => nI (vpts2_41 k)))), (d2, .inl (cyD, 40, .inr (.inr (.inr (.inl vclk2_42))))), (w0, .inr (6, [.ref g0, .ref h0, .ref s0, .int (nI wnd), .int (nI gov), .int (nI plo), .int (nI shf), .int (nI stp), .int (nI buz), .int (nI wor), .double cks])), (g0, .inr (3, [.ref g1, .ref g2, .ref g3, .ref g4, .ref g5, .int (nI cnt)])), (g1, .inl (cyI, 24, .inl (fun k => nI (pit k)))), (g2, .inl (cyZ, 24, .inl (fun k => xb (bro k)))), (g3, .inl (cyI, 24, .inl (fun k => nI (scr k)))), (g4, .inl (cyI, 24, .inl (fun k => nI (plu k)))), (g5, .inl (cyI, 24, .inl (fun k => nI (las k)))), (h0, .inr (2, [.ref h1, .ref h2])), (h1, .inl (cyJ, 72, .inr (.inl plc))), (h2, .inl (cyI, 4608, .inl (fun k => nI (wea k))))]) (wN := [(p0, .inr (7, [.ref t0, .ref w0, .ref g0, .ref h0, .ref s0, .ref v0, .int (nI kn)])), (t0, .inr (5, [.ref t1, .ref t2, .int (nI tcn)])), (w0, .inr (6, [.ref g0, .ref h0, .ref s0, .int (nI wnd), .int (nI gov), .int (nI plo), .int (nI shf), .int (nI stp), .int (nI buz), .int (nI wor), .double cks])), (g0, .inr (3, [.ref g1, .ref g2, .ref g3, .ref g4, .ref g5, .int (nI cnt)])), (g1, .inl (cyI, 24, .inl (fun k => nI (pit k)))), (g2, .inl (cyZ, 24, .inl (fun k => xb (bro k)))), (g3, .inl (cyI, 24, .inl (fun k => nI (scr k)))), (g4, .inl (cyI, 24, .inl (fun k => nI (plu k)))), (g5, .inl (cyI, 24, .inl (fun k => nI (las k)))), (h0, .inr (2, [.ref h1, .ref h2])), (h1, .inl (cyJ, 72, .inr (.inl plc))), (h2, .inl (cyI, 4608, .inl (fun k => nI (wea k)))), (s0, .inr (4, [.ref s1, .ref s2, .int (nI old), .int (nI kep), .int (nI evr)])), (s1, .inl (cyI, 40, .inl (fun k => nI (pts k)))), (s2, .inl (cyD, 40, .inr (.inr (.inr (.inl clk))))), (v0, .inr (6, [.ref e0, .ref b0, .ref d0, .int (nI vwnd2_46), .int (nI vgov2_47), .int (nI vplo2_48), .int (nI vshf2_49), .int (nI vstp2_50), .int (nI vbuz2_51), .int (nI vwor2_52), .double vcks2_53])), (e0, .inr (3, [.ref e1, .ref e2, .ref e3, .ref e4, .ref e5, .int (nI vcnt2_38)])), (e1, .inl (cyI, 24, .inl (fun k => nI (vpit2_33 k)))), (e2, .inl (cyZ, 24, .inl (fun k => xb (vbro2_34 k)))), (e3, .inl (cyI, 24, .inl (fun k => nI (vscr2_35 k)))), (e4, .inl (cyI, 24, .inl (fun k => nI (vplu2_36 k)))), (e5, .inl (cyI, 24, .inl (fun k => nI (vlas2_37 k)))), (b0, .inr (2, [.ref b1, .ref b2])), (b1, .inl (cyJ, 72, .inr (.inl vplc2_39))), (b2, .inl (cyI, 4608, .inl (fun k => nI (vwea2_40 k)))), (d0, .inr (4, [.ref d1, .ref d2, .int (nI vold2_43), .int (nI vkep2_44), .int (nI vevr2_45)])), (d1, .inl (cyI, 40, .inl (fun k => nI (vpts2_41 k)))), (d2, .inl (cyD, 40, .inr (.inr (.inr (.inl vclk2_42)))))]) hP hD [0, 15, 16, 17, 18, 19, 20, 21, 22, 23, 24, 25, 26, 27, 2, 3, 4, 5, 6, 7, 8, 9, 10, 11] [1, 12, 13, 14] [4, 0, 18, 19, 20, 21, 22, 23, 24, 25, 26, 27, 1, 2, 3, 5, 6, 7, 8, 9, 10, 11, 12, 13, 14, 15, 16, 17] rfl rfl (by decide) (by decide) hk1 hP1 hD1 (by decide) rfl
  clear hP1 hD1 hk1
  generalize H1 = H at hP hS ⊢
  rw [hsm2]
  refine lv_istore (lv' := [(10, .int (nI l2)), (9, .int (nI (buz9 - buz))), (8, .int (FP.d2i cks)), (7, .int (nI stp)), (6, .int (nI wnd)), (5, .int (nI buz)), (4, .int (nI evr)), (3, .int (nI (suF plu cnt))), (0, .ref p0), (1, .int (nI sp)), (2, .int (nI cnt))]) hx hb dL_isPlayed_57 hl (by decide) rfl (fun ls hl => ?_)
  refine lv_aload_n hx hb dL_isPlayed_59 rfl (lv_at hl 8 rfl) ?_
  refine lv_iload_n hx hb dL_isPlayed_60 rfl (lv_at hl 9 rfl) ?_
  refine xm_i (As := [.int (nI sp)]) (rest := []) (q := (RX5, TX5, 7)) ⟨hx, hb, hml, hown, hts⟩ (kX5_play l dC dI cyI cyZ cyJ cyD cyB p0 w0 g0 g1 g2 g3 g4 g5 h0 h1 h2 s0 s1 s2 t0 v0 kn wnd gov plo shf stp buz wor cks cnt pit bro scr plu las plc wea old kep evr pts clk sp nc (by omega) (by omega) (by omega) (by omega) (by omega) (by omega) (by omega) hck hok) (cwV 1 hts gL_isPlayed_X5_play rfl rfl rfl (by decide +kernel) ⟨Nat.le_of_ble_eq_true rfl, Nat.le_of_ble_eq_true rfl⟩) hK hP hD hS [0, 2, 3, 4, 5, 6, 7, 8, 9, 10, 11, 12, 13, 14] rfl (by decide) 0 7 rfl rfl rfl hl.1 rfl (Nat.le_of_ble_eq_true rfl) dL_isPlayed_61 ⟨Nat.zero_le _, Nat.zero_le _⟩ (fun r_55 u_56 H1 locs hw hP1 hD1 hk1 hS => ?_)
  obtain ⟨⟨bro2_57, scr2_58, plu2_59, las2_60, plc2_61, wea2_62, pts2_63, clk2_64, old2_65, kep2_66, evr2_67, buz2_68, wor2_69⟩, wnd2_70, plo2_71, stp2_72, cks2_73⟩ := u_56
  obtain ⟨hw, hu_74⟩ := hw
  have hu_74 : ((bro2_57, scr2_58, plu2_59, las2_60, plc2_61, wea2_62, pts2_63, clk2_64, old2_65, kep2_66, evr2_67, buz2_68, wor2_69), wnd2_70, plo2_71, stp2_72, cks2_73) = runW pit cnt shf gov sp ((bro, scr, plu, las, plc, wea, pts, clk, old, kep, evr, buz, wor), wnd, plo, stp, cks) := hu_74
  have hw : r_55 = nI evr2_67 - nI evr := hw
  subst hw
  obtain ⟨hP, hD⟩ := xW_join (wr := [(t0, .inr (5, [.ref t1, .ref t2, .int (nI tcn)])), (v0, .inr (6, [.ref e0, .ref b0, .ref d0, .int (nI vwnd2_46), .int (nI vgov2_47), .int (nI vplo2_48), .int (nI vshf2_49), .int (nI vstp2_50), .int (nI vbuz2_51), .int (nI vwor2_52), .double vcks2_53])), (e0, .inr (3, [.ref e1, .ref e2, .ref e3, .ref e4, .ref e5, .int (nI vcnt2_38)])), (e1, .inl (cyI, 24, .inl (fun k => nI (vpit2_33 k)))), (e2, .inl (cyZ, 24, .inl (fun k => xb (vbro2_34 k)))), (e3, .inl (cyI, 24, .inl (fun k => nI (vscr2_35 k)))), (e4, .inl (cyI, 24, .inl (fun k => nI (vplu2_36 k)))), (e5, .inl (cyI, 24, .inl (fun k => nI (vlas2_37 k)))), (b0, .inr (2, [.ref b1, .ref b2])), (b1, .inl (cyJ, 72, .inr (.inl vplc2_39))), (b2, .inl (cyI, 4608, .inl (fun k => nI (vwea2_40 k)))), (d0, .inr (4, [.ref d1, .ref d2, .int (nI vold2_43), .int (nI vkep2_44), .int (nI vevr2_45)])), (d1, .inl (cyI, 40, .inl (fun k => nI (vpts2_41 k)))), (d2, .inl (cyD, 40, .inr (.inr (.inr (.inl vclk2_42)))))]) (w1 := [(p0, .inr (7, [.ref t0, .ref w0, .ref g0, .ref h0, .ref s0, .ref v0, .int (nI kn)])), (w0, .inr (6, [.ref g0, .ref h0, .ref s0, .int (nI wnd2_70), .int (nI gov), .int (nI plo2_71), .int (nI shf), .int (nI stp2_72), .int (nI buz2_68), .int (nI wor2_69), .double cks2_73])), (g0, .inr (3, [.ref g1, .ref g2, .ref g3, .ref g4, .ref g5, .int (nI cnt)])), (g1, .inl (cyI, 24, .inl (fun k => nI (pit k)))), (g2, .inl (cyZ, 24, .inl (fun k => xb (bro2_57 k)))), (g3, .inl (cyI, 24, .inl (fun k => nI (scr2_58 k)))), (g4, .inl (cyI, 24, .inl (fun k => nI (plu2_59 k)))), (g5, .inl (cyI, 24, .inl (fun k => nI (las2_60 k)))), (h0, .inr (2, [.ref h1, .ref h2])), (h1, .inl (cyJ, 72, .inr (.inl plc2_61))), (h2, .inl (cyI, 4608, .inl (fun k => nI (wea2_62 k)))), (s0, .inr (4, [.ref s1, .ref s2, .int (nI old2_65), .int (nI kep2_66), .int (nI evr2_67)])), (s1, .inl (cyI, 40, .inl (fun k => nI (pts2_63 k)))), (s2, .inl (cyD, 40, .inr (.inr (.inr (.inl clk2_64)))))]) (wN := [(p0, .inr (7, [.ref t0, .ref w0, .ref g0, .ref h0, .ref s0, .ref v0, .int (nI kn)])), (t0, .inr (5, [.ref t1, .ref t2, .int (nI tcn)])), (w0, .inr (6, [.ref g0, .ref h0, .ref s0, .int (nI wnd2_70), .int (nI gov), .int (nI plo2_71), .int (nI shf), .int (nI stp2_72), .int (nI buz2_68), .int (nI wor2_69), .double cks2_73])), (g0, .inr (3, [.ref g1, .ref g2, .ref g3, .ref g4, .ref g5, .int (nI cnt)])), (g1, .inl (cyI, 24, .inl (fun k => nI (pit k)))), (g2, .inl (cyZ, 24, .inl (fun k => xb (bro2_57 k)))), (g3, .inl (cyI, 24, .inl (fun k => nI (scr2_58 k)))), (g4, .inl (cyI, 24, .inl (fun k => nI (plu2_59 k)))), (g5, .inl (cyI, 24, .inl (fun k => nI (las2_60 k)))), (h0, .inr (2, [.ref h1, .ref h2])), (h1, .inl (cyJ, 72, .inr (.inl plc2_61))), (h2, .inl (cyI, 4608, .inl (fun k => nI (wea2_62 k)))), (s0, .inr (4, [.ref s1, .ref s2, .int (nI old2_65), .int (nI kep2_66), .int (nI evr2_67)])), (s1, .inl (cyI, 40, .inl (fun k => nI (pts2_63 k)))), (s2, .inl (cyD, 40, .inr (.inr (.inr (.inl clk2_64))))), (v0, .inr (6, [.ref e0, .ref b0, .ref d0, .int (nI vwnd2_46), .int (nI vgov2_47), .int (nI vplo2_48), .int (nI vshf2_49), .int (nI vstp2_50), .int (nI vbuz2_51), .int (nI vwor2_52), .double vcks2_53])), (e0, .inr (3, [.ref e1, .ref e2, .ref e3, .ref e4, .ref e5, .int (nI vcnt2_38)])), (e1, .inl (cyI, 24, .inl (fun k => nI (vpit2_33 k)))), (e2, .inl (cyZ, 24, .inl (fun k => xb (vbro2_34 k)))), (e3, .inl (cyI, 24, .inl (fun k => nI (vscr2_35 k)))), (e4, .inl (cyI, 24, .inl (fun k => nI (vplu2_36 k)))), (e5, .inl (cyI, 24, .inl (fun k => nI (vlas2_37 k)))), (b0, .inr (2, [.ref b1, .ref b2])), (b1, .inl (cyJ, 72, .inr (.inl vplc2_39))), (b2, .inl (cyI, 4608, .inl (fun k => nI (vwea2_40 k)))), (d0, .inr (4, [.ref d1, .ref d2, .int (nI vold2_43), .int (nI vkep2_44), .int (nI vevr2_45)])), (d1, .inl (cyI, 40, .inl (fun k => nI (vpts2_41 k)))), (d2, .inl (cyD, 40, .inr (.inr (.inr (.inl vclk2_42)))))]) hP hD [0, 2, 3, 4, 5, 6, 7, 8, 9, 10, 11, 12, 13, 14] [1, 15, 16, 17, 18, 19, 20, 21, 22, 23, 24, 25, 26, 27] [14, 0, 15, 16, 17, 18, 19, 20, 21, 22, 23, 24, 25, 26, 27, 1, 2, 3, 4, 5, 6, 7, 8, 9, 10, 11, 12, 13] rfl rfl (by decide) (by decide) hk1 hP1 hD1 (by decide) rfl
  clear hP1 hD1 hk1
  generalize H1 = H at hP hS ⊢
  rw [hR] at hu_74
  have ee0 : bro9 = bro2_57 := (congrArg (fun z : Wst => z.1.1) hu_74).symm
  have ee1 : scr9 = scr2_58 := (congrArg (fun z : Wst => z.1.2.1) hu_74).symm
  have ee2 : plu9 = plu2_59 := (congrArg (fun z : Wst => z.1.2.2.1) hu_74).symm
  have ee3 : las9 = las2_60 := (congrArg (fun z : Wst => z.1.2.2.2.1) hu_74).symm
  have ee4 : plc9 = plc2_61 := (congrArg (fun z : Wst => z.1.2.2.2.2.1) hu_74).symm
  have ee5 : wea9 = wea2_62 := (congrArg (fun z : Wst => z.1.2.2.2.2.2.1) hu_74).symm
  have ee6 : pts9 = pts2_63 := (congrArg (fun z : Wst => z.1.2.2.2.2.2.2.1) hu_74).symm
  have ee7 : clk9 = clk2_64 := (congrArg (fun z : Wst => z.1.2.2.2.2.2.2.2.1) hu_74).symm
  have ee8 : old9 = old2_65 := (congrArg (fun z : Wst => z.1.2.2.2.2.2.2.2.2.1) hu_74).symm
  have ee9 : kep9 = kep2_66 := (congrArg (fun z : Wst => z.1.2.2.2.2.2.2.2.2.2.1) hu_74).symm
  have ee10 : evr9 = evr2_67 := (congrArg (fun z : Wst => z.1.2.2.2.2.2.2.2.2.2.2.1) hu_74).symm
  have ee11 : buz9 = buz2_68 := (congrArg (fun z : Wst => z.1.2.2.2.2.2.2.2.2.2.2.2.1) hu_74).symm
  have ee12 : wor9 = wor2_69 := (congrArg (fun z : Wst => z.1.2.2.2.2.2.2.2.2.2.2.2.2) hu_74).symm
  have ee13 : wnd9 = wnd2_70 := (congrArg (fun z : Wst => z.2.1) hu_74).symm
  have ee14 : plo9 = plo2_71 := (congrArg (fun z : Wst => z.2.2.1) hu_74).symm
  have ee15 : stp9 = stp2_72 := (congrArg (fun z : Wst => z.2.2.2.1) hu_74).symm
  have ee16 : cks9 = cks2_73 := (congrArg (fun z : Wst => z.2.2.2.2) hu_74).symm
  clear hu_74
  subst ee0
  subst ee1
  subst ee2
  subst ee3
  subst ee4
  subst ee5
  subst ee6
  subst ee7
  subst ee8
  subst ee9
  subst ee10
  subst ee11
  subst ee12
  subst ee13
  subst ee14
  subst ee15
  subst ee16
  rw [pk_sub f6]
  have hP : va_P (dC, dI) vwCl [(p0, .inr (7, [.ref t0, .ref w0, .ref g0, .ref h0, .ref s0, .ref v0, .int (nI kn)])), (t0, .inr (5, [.ref t1, .ref t2, .int (nI tcn)])), (w0, .inr (6, [.ref g0, .ref h0, .ref s0, .int (nI wnd9), .int (nI gov), .int (nI plo9), .int (nI shf), .int (nI stp9), .int (nI buz9), .int (nI wor9), .double cks9])), (g0, .inr (3, [.ref g1, .ref g2, .ref g3, .ref g4, .ref g5, .int (nI cnt)])), (g1, .inl (cyI, 24, .inl (fun k => nI (pit k)))), (g2, .inl (cyZ, 24, .inl (fun k => xb (bro9 k)))), (g3, .inl (cyI, 24, .inl (fun k => nI (scr9 k)))), (g4, .inl (cyI, 24, .inl (fun k => nI (plu9 k)))), (g5, .inl (cyI, 24, .inl (fun k => nI (las9 k)))), (h0, .inr (2, [.ref h1, .ref h2])), (h1, .inl (cyJ, 72, .inr (.inl plc9))), (h2, .inl (cyI, 4608, .inl (fun k => nI (wea9 k)))), (s0, .inr (4, [.ref s1, .ref s2, .int (nI old9), .int (nI kep9), .int (nI evr9)])), (s1, .inl (cyI, 40, .inl (fun k => nI (pts9 k)))), (s2, .inl (cyD, 40, .inr (.inr (.inr (.inl clk9))))), (v0, .inr (6, [.ref e0, .ref b0, .ref d0, .int (nI vwnd2_46), .int (nI vgov2_47), .int (nI vplo2_48), .int (nI vshf2_49), .int (nI vstp2_50), .int (nI vbuz2_51), .int (nI vwor2_52), .double vcks2_53])), (e0, .inr (3, [.ref e1, .ref e2, .ref e3, .ref e4, .ref e5, .int (nI vcnt2_38)])), (e1, .inl (cyI, 24, .inl (fun k => nI (vpit2_33 k)))), (e2, .inl (cyZ, 24, .inl (fun k => xb (vbro2_34 k)))), (e3, .inl (cyI, 24, .inl (fun k => nI (vscr2_35 k)))), (e4, .inl (cyI, 24, .inl (fun k => nI (vplu2_36 k)))), (e5, .inl (cyI, 24, .inl (fun k => nI (vlas2_37 k)))), (b0, .inr (2, [.ref b1, .ref b2])), (b1, .inl (cyJ, 72, .inr (.inl vplc2_39))), (b2, .inl (cyI, 4608, .inl (fun k => nI (vwea2_40 k)))), (d0, .inr (4, [.ref d1, .ref d2, .int (nI vold2_43), .int (nI vkep2_44), .int (nI vevr2_45)])), (d1, .inl (cyI, 40, .inl (fun k => nI (vpts2_41 k)))), (d2, .inl (cyD, 40, .inr (.inr (.inr (.inl vclk2_42)))))] H := hP
  have hD : va_D A [(p0, .inr (7, [.ref t0, .ref w0, .ref g0, .ref h0, .ref s0, .ref v0, .int (nI kn)])), (t0, .inr (5, [.ref t1, .ref t2, .int (nI tcn)])), (w0, .inr (6, [.ref g0, .ref h0, .ref s0, .int (nI wnd9), .int (nI gov), .int (nI plo9), .int (nI shf), .int (nI stp9), .int (nI buz9), .int (nI wor9), .double cks9])), (g0, .inr (3, [.ref g1, .ref g2, .ref g3, .ref g4, .ref g5, .int (nI cnt)])), (g1, .inl (cyI, 24, .inl (fun k => nI (pit k)))), (g2, .inl (cyZ, 24, .inl (fun k => xb (bro9 k)))), (g3, .inl (cyI, 24, .inl (fun k => nI (scr9 k)))), (g4, .inl (cyI, 24, .inl (fun k => nI (plu9 k)))), (g5, .inl (cyI, 24, .inl (fun k => nI (las9 k)))), (h0, .inr (2, [.ref h1, .ref h2])), (h1, .inl (cyJ, 72, .inr (.inl plc9))), (h2, .inl (cyI, 4608, .inl (fun k => nI (wea9 k)))), (s0, .inr (4, [.ref s1, .ref s2, .int (nI old9), .int (nI kep9), .int (nI evr9)])), (s1, .inl (cyI, 40, .inl (fun k => nI (pts9 k)))), (s2, .inl (cyD, 40, .inr (.inr (.inr (.inl clk9))))), (v0, .inr (6, [.ref e0, .ref b0, .ref d0, .int (nI vwnd2_46), .int (nI vgov2_47), .int (nI vplo2_48), .int (nI vshf2_49), .int (nI vstp2_50), .int (nI vbuz2_51), .int (nI vwor2_52), .double vcks2_53])), (e0, .inr (3, [.ref e1, .ref e2, .ref e3, .ref e4, .ref e5, .int (nI vcnt2_38)])), (e1, .inl (cyI, 24, .inl (fun k => nI (vpit2_33 k)))), (e2, .inl (cyZ, 24, .inl (fun k => xb (vbro2_34 k)))), (e3, .inl (cyI, 24, .inl (fun k => nI (vscr2_35 k)))), (e4, .inl (cyI, 24, .inl (fun k => nI (vplu2_36 k)))), (e5, .inl (cyI, 24, .inl (fun k => nI (vlas2_37 k)))), (b0, .inr (2, [.ref b1, .ref b2])), (b1, .inl (cyJ, 72, .inr (.inl vplc2_39))), (b2, .inl (cyI, 4608, .inl (fun k => nI (vwea2_40 k)))), (d0, .inr (4, [.ref d1, .ref d2, .int (nI vold2_43), .int (nI vkep2_44), .int (nI vevr2_45)])), (d1, .inl (cyI, 40, .inl (fun k => nI (vpts2_41 k)))), (d2, .inl (cyD, 40, .inr (.inr (.inr (.inl vclk2_42)))))] := hD
  refine lv_istore (lv' := [(11, .int (nI (evr9 - evr))), (10, .int (nI l2)), (9, .int (nI (buz9 - buz))), (8, .int (FP.d2i cks)), (7, .int (nI stp)), (6, .int (nI wnd)), (5, .int (nI buz)), (4, .int (nI evr)), (3, .int (nI (suF plu cnt))), (0, .ref p0), (1, .int (nI sp)), (2, .int (nI cnt))]) hx hb dL_isPlayed_64 hl (by decide) rfl (fun ls hl => ?_)
  refine lv_aload_n hx hb dL_isPlayed_66 rfl (lv_at hl 9 rfl) ?_
  refine lv_bipush (v := nI 8) hx hb dL_isPlayed_67 (by decide) ?_
  refine xv_i (As := [.int (nI 8)]) (rest := []) (q := (RX5, TX5, 7)) ⟨hx, hb, hml, hown, hts⟩ (kX5_many l dC dI cyI cyZ cyJ cyD cyB p0 g0 g2 t0 h0 h1 w0 s0 v0 kn g1 g3 g4 g5 cnt bro9 t1 t2 tcn h2 plc9 wnd9 gov plo9 shf stp9 buz9 wor9 cks9 s1 s2 old9 kep9 evr9 8 (by omega) (by omega)) (cwV 1 hts gL_isPlayed_X5_many rfl rfl rfl (by decide +kernel) ⟨Nat.le_of_ble_eq_true rfl, Nat.le_of_ble_eq_true rfl⟩) hK hP hS [0, 3, 5, 1, 9, 10, 2, 12] rfl 0 7 rfl rfl rfl hl.1 rfl (Nat.le_of_ble_eq_true rfl) dL_isPlayed_69 ⟨Nat.zero_le _, Nat.zero_le _⟩ (fun r_75 H locs hw hP hS => ?_)
  have hw : r_75 = mnF cnt bro9 tcn plc9 plo9 shf wnd9 gov stp9 evr9 kep9 buz9 wor9 kn cks9 8 := hw
  subst hw
  rw [show mnF cnt bro9 tcn plc9 plo9 shf wnd9 gov stp9 evr9 kep9 buz9 wor9 kn cks9 8 = nI stp9 from rfl]
  refine lv_iload hx hb dL_isPlayed_72 (lv_at hl 4 rfl) ?_
  refine xi_sub hx hb dL_isPlayed_74 (by omega) ?_
  refine lv_istore (lv' := [(12, .int (nI (stp9 - stp))), (11, .int (nI (evr9 - evr))), (10, .int (nI l2)), (9, .int (nI (buz9 - buz))), (8, .int (FP.d2i cks)), (7, .int (nI stp)), (6, .int (nI wnd)), (5, .int (nI buz)), (4, .int (nI evr)), (3, .int (nI (suF plu cnt))), (0, .ref p0), (1, .int (nI sp)), (2, .int (nI cnt))]) hx hb dL_isPlayed_75 hl (by decide) rfl (fun ls hl => ?_)
  refine lv_aload_n hx hb dL_isPlayed_77 rfl (lv_at hl 10 rfl) ?_
  refine lv_iload_n hx hb dL_isPlayed_78 rfl (lv_at hl 12 rfl) ?_
  refine xsp_i (As := [.ref p0, .int (nI cnt)]) (rest := []) ⟨hx, hb, hml, hown, hts⟩ (kL_plucks l dC dI cyI cyZ cyJ cyD cyB p0 g0 g1 g2 g3 g4 h0 h1 t0 w0 s0 v0 kn g5 cnt pit bro9 scr9 plu9 h2 plc9 (by omega)) (va_cwS 2 hts gL_isPlayed_L_plucks rfl rfl rfl (by decide +kernel) ⟨Nat.le_of_ble_eq_true rfl, Nat.le_of_ble_eq_true rfl⟩) hK hP hS [0, 3, 4, 5, 6, 7, 9, 10] rfl rfl hl.1 rfl (Nat.le_of_ble_eq_true rfl) dL_isPlayed_79 ⟨Nat.zero_le _, Nat.zero_le _⟩ (fun r_76 H locs hw hP hS => ?_)
  have hw : r_76 = nI (suF plu9 cnt) := hw
  subst hw
  refine lv_iload_n hx hb dL_isPlayed_82 rfl (lv_at hl 9 rfl) ?_
  refine xi_sub hx hb dL_isPlayed_83 (by omega) ?_
  refine lv_istore (lv' := [(13, .int (nI ((suF plu9 cnt) - (suF plu cnt)))), (12, .int (nI (stp9 - stp))), (11, .int (nI (evr9 - evr))), (10, .int (nI l2)), (9, .int (nI (buz9 - buz))), (8, .int (FP.d2i cks)), (7, .int (nI stp)), (6, .int (nI wnd)), (5, .int (nI buz)), (4, .int (nI evr)), (3, .int (nI (suF plu cnt))), (0, .ref p0), (1, .int (nI sp)), (2, .int (nI cnt))]) hx hb dL_isPlayed_84 hl (by decide) rfl (fun ls hl => ?_)
  refine lv_aload_n hx hb dL_isPlayed_86 rfl (lv_at hl 11 rfl) ?_
  refine lv_bipush (v := nI 9) hx hb dL_isPlayed_87 (by decide) ?_
  refine xv_i (As := [.int (nI 9)]) (rest := []) (q := (RX5, TX5, 7)) ⟨hx, hb, hml, hown, hts⟩ (kX5_many l dC dI cyI cyZ cyJ cyD cyB p0 g0 g2 t0 h0 h1 w0 s0 v0 kn g1 g3 g4 g5 cnt bro9 t1 t2 tcn h2 plc9 wnd9 gov plo9 shf stp9 buz9 wor9 cks9 s1 s2 old9 kep9 evr9 9 (by omega) (by omega)) (cwV 1 hts gL_isPlayed_X5_many rfl rfl rfl (by decide +kernel) ⟨Nat.le_of_ble_eq_true rfl, Nat.le_of_ble_eq_true rfl⟩) hK hP hS [0, 3, 5, 1, 9, 10, 2, 12] rfl 0 7 rfl rfl rfl hl.1 rfl (Nat.le_of_ble_eq_true rfl) dL_isPlayed_89 ⟨Nat.zero_le _, Nat.zero_le _⟩ (fun r_77 H locs hw hP hS => ?_)
  have hw : r_77 = mnF cnt bro9 tcn plc9 plo9 shf wnd9 gov stp9 evr9 kep9 buz9 wor9 kn cks9 9 := hw
  subst hw
  rw [show mnF cnt bro9 tcn plc9 plo9 shf wnd9 gov stp9 evr9 kep9 buz9 wor9 kn cks9 9 = nI evr9 from rfl]
  refine lv_iload hx hb dL_isPlayed_92 (lv_at hl 9 rfl) ?_
  refine xi_sub hx hb dL_isPlayed_94 (by omega) ?_
  refine lv_iload hx hb dL_isPlayed_95 (lv_at hl 2 rfl) ?_
  refine xc_ne (tgt := 146) hx hb dL_isPlayed_97 (by decide) (by omega) (by omega) (fun c_78 => by omega) (fun c_78 => ?_)
  refine lv_aload_n hx hb dL_isPlayed_100 rfl (lv_at hl 11 rfl) ?_
  refine lv_bipush (v := nI 11) hx hb dL_isPlayed_101 (by decide) ?_
  refine xv_i (As := [.int (nI 11)]) (rest := []) (q := (RX5, TX5, 7)) ⟨hx, hb, hml, hown, hts⟩ (kX5_many l dC dI cyI cyZ cyJ cyD cyB p0 g0 g2 t0 h0 h1 w0 s0 v0 kn g1 g3 g4 g5 cnt bro9 t1 t2 tcn h2 plc9 wnd9 gov plo9 shf stp9 buz9 wor9 cks9 s1 s2 old9 kep9 evr9 11 (by omega) (by omega)) (cwV 1 hts gL_isPlayed_X5_many rfl rfl rfl (by decide +kernel) ⟨Nat.le_of_ble_eq_true rfl, Nat.le_of_ble_eq_true rfl⟩) hK hP hS [0, 3, 5, 1, 9, 10, 2, 12] rfl 0 7 rfl rfl rfl hl.1 rfl (Nat.le_of_ble_eq_true rfl) dL_isPlayed_103 ⟨Nat.zero_le _, Nat.zero_le _⟩ (fun r_79 H locs hw hP hS => ?_)
  have hw : r_79 = mnF cnt bro9 tcn plc9 plo9 shf wnd9 gov stp9 evr9 kep9 buz9 wor9 kn cks9 11 := hw
  subst hw
  rw [show mnF cnt bro9 tcn plc9 plo9 shf wnd9 gov stp9 evr9 kep9 buz9 wor9 kn cks9 11 = nI buz9 from rfl]
  refine lv_iload hx hb dL_isPlayed_106 (lv_at hl 8 rfl) ?_
  refine xi_sub hx hb dL_isPlayed_108 (by omega) ?_
  refine lv_iload hx hb dL_isPlayed_109 (lv_at hl 4 rfl) ?_
  refine xc_ne (tgt := 146) hx hb dL_isPlayed_111 (by decide) (by omega) (by omega) (fun c_80 => by omega) (fun c_80 => ?_)
  refine lv_iload hx hb dL_isPlayed_114 (lv_at hl 0 rfl) ?_
  refine lv_iload hx hb dL_isPlayed_116 (lv_at hl 2 rfl) ?_
  refine lv_iload hx hb dL_isPlayed_118 (lv_at hl 4 rfl) ?_
  refine xi_add hx hb dL_isPlayed_120 ?_
  refine xc_ne (tgt := 146) hx hb dL_isPlayed_121 (by decide) (by omega) (by omega) (fun c_81 => by omega) (fun c_81 => ?_)
  refine lv_iload hx hb dL_isPlayed_124 (lv_at hl 1 rfl) ?_
  refine lv_iload_n hx hb dL_isPlayed_126 rfl (lv_at hl 12 rfl) ?_
  refine lv_iload hx hb dL_isPlayed_127 (lv_at hl 3 rfl) ?_
  refine va_mmin hx hb (hml.trans hl.1.symm) hown (hts _ mL_isPlayed_methodLink_RL_58_Lib_Math_min_name) (hts _ mL_isPlayed_static_Lib_Math_min_name) (hts _ mL_isPlayed_initialized_java_lang_Math) (hts _ mL_isPlayed_code_Lib_Math_min_name_Lib_Math_min_code_2_some_int) (Nat.le_of_ble_eq_true rfl) (Nat.le_of_ble_eq_true rfl) (Nat.zero_le _) ( Nat.zero_le _) dL_isPlayed_129 ?_
  rw [xk_min (x := sp) (y := l2) (by omega) (by omega)]
  refine xc_ne (tgt := 146) hx hb dL_isPlayed_132 (by decide) (by omega) (by omega) (fun c_82 => by omega) (fun c_82 => ?_)
  refine lv_aload_n hx hb dL_isPlayed_135 rfl (lv_at hl 11 rfl) ?_
  refine lv_bipush (v := nI 14) hx hb dL_isPlayed_136 (by decide) ?_
  refine xv_i (As := [.int (nI 14)]) (rest := []) (q := (RX5, TX5, 7)) ⟨hx, hb, hml, hown, hts⟩ (kX5_many l dC dI cyI cyZ cyJ cyD cyB p0 g0 g2 t0 h0 h1 w0 s0 v0 kn g1 g3 g4 g5 cnt bro9 t1 t2 tcn h2 plc9 wnd9 gov plo9 shf stp9 buz9 wor9 cks9 s1 s2 old9 kep9 evr9 14 (by omega) (by omega)) (cwV 1 hts gL_isPlayed_X5_many rfl rfl rfl (by decide +kernel) ⟨Nat.le_of_ble_eq_true rfl, Nat.le_of_ble_eq_true rfl⟩) hK hP hS [0, 3, 5, 1, 9, 10, 2, 12] rfl 0 7 rfl rfl rfl hl.1 rfl (Nat.le_of_ble_eq_true rfl) dL_isPlayed_138 ⟨Nat.zero_le _, Nat.zero_le _⟩ (fun r_83 H locs hw hP hS => ?_)
  have hw : r_83 = mnF cnt bro9 tcn plc9 plo9 shf wnd9 gov stp9 evr9 kep9 buz9 wor9 kn cks9 14 := hw
  subst hw
  rw [show mnF cnt bro9 tcn plc9 plo9 shf wnd9 gov stp9 evr9 kep9 buz9 wor9 kn cks9 14 = FP.d2i cks9 from rfl]
  refine lv_iload hx hb dL_isPlayed_141 (lv_at hl 5 rfl) ?_
  refine lv_icmp_ge (tgt := 148) hx hb dL_isPlayed_143 (by decide) (fun c_84 => ?_) (fun c_84 => absurd hmono c_84)
  refine lv_iload hx hb dL_isPlayed_148 (lv_at hl 7 rfl) ?_
  refine lv_iconst (v := nI 2) hx hb dL_isPlayed_150 (by decide) ?_
  refine lv_iload hx hb dL_isPlayed_151 (lv_at hl 1 rfl) ?_
  refine xi_mul hx hb dL_isPlayed_153 ?_
  refine lv_isub hx hb dL_isPlayed_154 ?_
  refine lv_iload hx hb dL_isPlayed_155 (lv_at hl 0 rfl) ?_
  refine lv_isub hx hb dL_isPlayed_157 ?_
  refine lv_istore (lv' := [(14, .int (((nI wnd) - (nI (2 * (stp9 - stp)))) - (nI ((suF plu9 cnt) - (suF plu cnt))))), (13, .int (nI ((suF plu9 cnt) - (suF plu cnt)))), (12, .int (nI (stp9 - stp))), (11, .int (nI (evr9 - evr))), (10, .int (nI l2)), (9, .int (nI (buz9 - buz))), (8, .int (FP.d2i cks)), (7, .int (nI stp)), (6, .int (nI wnd)), (5, .int (nI buz)), (4, .int (nI evr)), (3, .int (nI (suF plu cnt))), (0, .ref p0), (1, .int (nI sp)), (2, .int (nI cnt))]) hx hb dL_isPlayed_158 hl (by decide) rfl (fun ls hl => ?_)
  refine lv_aload_n hx hb dL_isPlayed_160 rfl (lv_at hl 12 rfl) ?_
  refine lv_bipush (v := nI 6) hx hb dL_isPlayed_161 (by decide) ?_
  refine xv_i (As := [.int (nI 6)]) (rest := []) (q := (RX5, TX5, 7)) ⟨hx, hb, hml, hown, hts⟩ (kX5_many l dC dI cyI cyZ cyJ cyD cyB p0 g0 g2 t0 h0 h1 w0 s0 v0 kn g1 g3 g4 g5 cnt bro9 t1 t2 tcn h2 plc9 wnd9 gov plo9 shf stp9 buz9 wor9 cks9 s1 s2 old9 kep9 evr9 6 (by omega) (by omega)) (cwV 1 hts gL_isPlayed_X5_many rfl rfl rfl (by decide +kernel) ⟨Nat.le_of_ble_eq_true rfl, Nat.le_of_ble_eq_true rfl⟩) hK hP hS [0, 3, 5, 1, 9, 10, 2, 12] rfl 0 7 rfl rfl rfl hl.1 rfl (Nat.le_of_ble_eq_true rfl) dL_isPlayed_163 ⟨Nat.zero_le _, Nat.zero_le _⟩ (fun r_85 H locs hw hP hS => ?_)
  have hw : r_85 = mnF cnt bro9 tcn plc9 plo9 shf wnd9 gov stp9 evr9 kep9 buz9 wor9 kn cks9 6 := hw
  subst hw
  rw [show mnF cnt bro9 tcn plc9 plo9 shf wnd9 gov stp9 evr9 kep9 buz9 wor9 kn cks9 6 = nI wnd9 from rfl]
  refine lv_iconst (v := nI 0) hx hb dL_isPlayed_166 (by decide) ?_
  refine lv_iload hx hb dL_isPlayed_167 (lv_at hl 0 rfl) ?_
  refine va_mmax hx hb (hml.trans hl.1.symm) hown (hts _ mL_isPlayed_methodLink_RL_114_Lib_Math_max_name) (hts _ mL_isPlayed_static_Lib_Math_max_name) (hts _ mL_isPlayed_initialized_java_lang_Math) (hts _ mL_isPlayed_code_Lib_Math_max_name_Lib_Math_max_code_2_some_int) (Nat.le_of_ble_eq_true rfl) (Nat.le_of_ble_eq_true rfl) (Nat.zero_le _) ( Nat.zero_le _) dL_isPlayed_169 ?_
  rw [xk_wnd2 (by omega) (by omega) (by omega)]
  refine xc_ne (tgt := 236) hx hb dL_isPlayed_172 (by decide) (by omega) (by omega) (fun c_86 => by omega) (fun c_86 => ?_)
  refine lv_aload_n hx hb dL_isPlayed_175 rfl (lv_at hl 12 rfl) ?_
  refine lv_bipush (v := nI 6) hx hb dL_isPlayed_176 (by decide) ?_
  refine xv_i (As := [.int (nI 6)]) (rest := []) (q := (RX5, TX5, 7)) ⟨hx, hb, hml, hown, hts⟩ (kX5_many l dC dI cyI cyZ cyJ cyD cyB p0 g0 g2 t0 h0 h1 w0 s0 v0 kn g1 g3 g4 g5 cnt bro9 t1 t2 tcn h2 plc9 wnd9 gov plo9 shf stp9 buz9 wor9 cks9 s1 s2 old9 kep9 evr9 6 (by omega) (by omega)) (cwV 1 hts gL_isPlayed_X5_many rfl rfl rfl (by decide +kernel) ⟨Nat.le_of_ble_eq_true rfl, Nat.le_of_ble_eq_true rfl⟩) hK hP hS [0, 3, 5, 1, 9, 10, 2, 12] rfl 0 7 rfl rfl rfl hl.1 rfl (Nat.le_of_ble_eq_true rfl) dL_isPlayed_178 ⟨Nat.zero_le _, Nat.zero_le _⟩ (fun r_87 H locs hw hP hS => ?_)
  have hw : r_87 = mnF cnt bro9 tcn plc9 plo9 shf wnd9 gov stp9 evr9 kep9 buz9 wor9 kn cks9 6 := hw
  subst hw
  rw [show mnF cnt bro9 tcn plc9 plo9 shf wnd9 gov stp9 evr9 kep9 buz9 wor9 kn cks9 6 = nI wnd9 from rfl]
  refine xz_le (tgt := 188) hx hb dL_isPlayed_181 (by decide) (by omega) (fun c_88 => ?_) (fun c_88 => ?_)
  · refine lv_iconst (v := nI 0) hx hb dL_isPlayed_188 (by decide) ?_
    refine lv_iload hx hb dL_isPlayed_189 (lv_at hl 4 rfl) ?_
    refine lv_iload_n hx hb dL_isPlayed_191 rfl (lv_at hl 13 rfl) ?_
    refine xc_le (tgt := 199) hx hb dL_isPlayed_192 (by decide) (by omega) (by omega) (fun c_89 => ?_) (fun c_89 => by omega)
    refine lv_iconst (v := nI 0) hx hb dL_isPlayed_199 (by decide) ?_
    refine xc_ne (tgt := 236) hx hb dL_isPlayed_200 (by decide) (by omega) (by omega) (fun c_90 => by omega) (fun c_90 => ?_)
    refine lv_aload_n hx hb dL_isPlayed_203 rfl (lv_at hl 12 rfl) ?_
    refine xm_i (As := []) (rest := []) (q := (RX5, TX5, 7)) ⟨hx, hb, hml, hown, hts⟩ (kX5_lasts l dC dI cyI cyZ cyJ cyD cyB p0 v0 e0 e1 e2 e3 e4 e5 b0 b1 b2 d0 d1 d2 w0 g0 g1 g2 g3 g4 g5 h0 h1 h2 t0 s0 kn vwnd2_46 vgov2_47 vplo2_48 vshf2_49 vstp2_50 vbuz2_51 vwor2_52 vcks2_53 vcnt2_38 vpit2_33 vbro2_34 vscr2_35 vplu2_36 vlas2_37 vplc2_39 vwea2_40 vold2_43 vkep2_44 vevr2_45 vpts2_41 vclk2_42 wnd9 gov plo9 shf stp9 buz9 wor9 cks9 cnt pit bro9 scr9 plu9 las9 plc9 wea9 (nc + sp) (by omega) (by omega) (by omega) (by omega) (by omega) (by omega) hck9 (okP_dum hok9) hu_54.1 hu_54.2) (cwV 0 hts gL_isPlayed_X5_lasts rfl rfl rfl (by decide +kernel) ⟨Nat.le_of_ble_eq_true rfl, Nat.le_of_ble_eq_true rfl⟩) hK hP hD hS [0, 15, 16, 17, 18, 19, 20, 21, 22, 23, 24, 25, 26, 27, 2, 3, 4, 5, 6, 7, 8, 9, 10, 11] rfl (by decide) 0 7 rfl rfl rfl hl.1 rfl (Nat.le_of_ble_eq_true rfl) dL_isPlayed_204 ⟨Nat.zero_le _, Nat.zero_le _⟩ (fun r_91 u_92 H1 locs hw hP1 hD1 hk1 hS => ?_)
    obtain ⟨vpit2_93, vbro2_94, vscr2_95, vplu2_96, vlas2_97, vcnt2_98, vplc2_99, vwea2_100, vpts2_101, vclk2_102, vold2_103, vkep2_104, vevr2_105, vwnd2_106, vgov2_107, vplo2_108, vshf2_109, vstp2_110, vbuz2_111, vwor2_112, vcks2_113⟩ := u_92
    obtain ⟨hw, hu_114⟩ := hw
    have hu_114 : vold2_103 < 40 ∧ vkep2_104 ≤ 40 := hu_114
    have hw : r_91 = nI (lsW pit cnt shf gov 2000 ((bro9, scr9, plu9, las9, plc9, wea9, zN, zD, 0, 0, 0, buz9, wor9), wnd9, plo9, stp9, cks9)) := hw
    rw [hw]
    obtain ⟨hP, hD⟩ := xW_join (wr := [(t0, .inr (5, [.ref t1, .ref t2, .int (nI tcn)])), (s0, .inr (4, [.ref s1, .ref s2, .int (nI old9), .int (nI kep9), .int (nI evr9)])), (s1, .inl (cyI, 40, .inl (fun k => nI (pts9 k)))), (s2, .inl (cyD, 40, .inr (.inr (.inr (.inl clk9)))))]) (w1 := [(p0, .inr (7, [.ref t0, .ref w0, .ref g0, .ref h0, .ref s0, .ref v0, .int (nI kn)])), (v0, .inr (6, [.ref e0, .ref b0, .ref d0, .int (nI vwnd2_106), .int (nI vgov2_107), .int (nI vplo2_108), .int (nI vshf2_109), .int (nI vstp2_110), .int (nI vbuz2_111), .int (nI vwor2_112), .double vcks2_113])), (e0, .inr (3, [.ref e1, .ref e2, .ref e3, .ref e4, .ref e5, .int (nI vcnt2_98)])), (e1, .inl (cyI, 24, .inl (fun k => nI (vpit2_93 k)))), (e2, .inl (cyZ, 24, .inl (fun k => xb (vbro2_94 k)))), (e3, .inl (cyI, 24, .inl (fun k => nI (vscr2_95 k)))), (e4, .inl (cyI, 24, .inl (fun k => nI (vplu2_96 k)))), (e5, .inl (cyI, 24, .inl (fun k => nI (vlas2_97 k)))), (b0, .inr (2, [.ref b1, .ref b2])), (b1, .inl (cyJ, 72, .inr (.inl vplc2_99))), (b2, .inl (cyI, 4608, .inl (fun k => nI (vwea2_100 k)))), (d0, .inr (4, [.ref d1, .ref d2, .int (nI vold2_103), .int (nI vkep2_104), .int (nI vevr2_105)])), (d1, .inl (cyI, 40, .inl (fun k => nI (vpts2_101 k)))), (d2, .inl (cyD, 40, .inr (.inr (.inr (.inl vclk2_102))))), (w0, .inr (6, [.ref g0, .ref h0, .ref s0, .int (nI wnd9), .int (nI gov), .int (nI plo9), .int (nI shf), .int (nI stp9), .int (nI buz9), .int (nI wor9), .double cks9])), (g0, .inr (3, [.ref g1, .ref g2, .ref g3, .ref g4, .ref g5, .int (nI cnt)])), (g1, .inl (cyI, 24, .inl (fun k => nI (pit k)))), (g2, .inl (cyZ, 24, .inl (fun k => xb (bro9 k)))), (g3, .inl (cyI, 24, .inl (fun k => nI (scr9 k)))), (g4, .inl (cyI, 24, .inl (fun k => nI (plu9 k)))), (g5, .inl (cyI, 24, .inl (fun k => nI (las9 k)))), (h0, .inr (2, [.ref h1, .ref h2])), (h1, .inl (cyJ, 72, .inr (.inl plc9))), (h2, .inl (cyI, 4608, .inl (fun k => nI (wea9 k))))]) (wN := [(p0, .inr (7, [.ref t0, .ref w0, .ref g0, .ref h0, .ref s0, .ref v0, .int (nI kn)])), (t0, .inr (5, [.ref t1, .ref t2, .int (nI tcn)])), (w0, .inr (6, [.ref g0, .ref h0, .ref s0, .int (nI wnd9), .int (nI gov), .int (nI plo9), .int (nI shf), .int (nI stp9), .int (nI buz9), .int (nI wor9), .double cks9])), (g0, .inr (3, [.ref g1, .ref g2, .ref g3, .ref g4, .ref g5, .int (nI cnt)])), (g1, .inl (cyI, 24, .inl (fun k => nI (pit k)))), (g2, .inl (cyZ, 24, .inl (fun k => xb (bro9 k)))), (g3, .inl (cyI, 24, .inl (fun k => nI (scr9 k)))), (g4, .inl (cyI, 24, .inl (fun k => nI (plu9 k)))), (g5, .inl (cyI, 24, .inl (fun k => nI (las9 k)))), (h0, .inr (2, [.ref h1, .ref h2])), (h1, .inl (cyJ, 72, .inr (.inl plc9))), (h2, .inl (cyI, 4608, .inl (fun k => nI (wea9 k)))), (s0, .inr (4, [.ref s1, .ref s2, .int (nI old9), .int (nI kep9), .int (nI evr9)])), (s1, .inl (cyI, 40, .inl (fun k => nI (pts9 k)))), (s2, .inl (cyD, 40, .inr (.inr (.inr (.inl clk9))))), (v0, .inr (6, [.ref e0, .ref b0, .ref d0, .int (nI vwnd2_106), .int (nI vgov2_107), .int (nI vplo2_108), .int (nI vshf2_109), .int (nI vstp2_110), .int (nI vbuz2_111), .int (nI vwor2_112), .double vcks2_113])), (e0, .inr (3, [.ref e1, .ref e2, .ref e3, .ref e4, .ref e5, .int (nI vcnt2_98)])), (e1, .inl (cyI, 24, .inl (fun k => nI (vpit2_93 k)))), (e2, .inl (cyZ, 24, .inl (fun k => xb (vbro2_94 k)))), (e3, .inl (cyI, 24, .inl (fun k => nI (vscr2_95 k)))), (e4, .inl (cyI, 24, .inl (fun k => nI (vplu2_96 k)))), (e5, .inl (cyI, 24, .inl (fun k => nI (vlas2_97 k)))), (b0, .inr (2, [.ref b1, .ref b2])), (b1, .inl (cyJ, 72, .inr (.inl vplc2_99))), (b2, .inl (cyI, 4608, .inl (fun k => nI (vwea2_100 k)))), (d0, .inr (4, [.ref d1, .ref d2, .int (nI vold2_103), .int (nI vkep2_104), .int (nI vevr2_105)])), (d1, .inl (cyI, 40, .inl (fun k => nI (vpts2_101 k)))), (d2, .inl (cyD, 40, .inr (.inr (.inr (.inl vclk2_102)))))]) hP hD [0, 15, 16, 17, 18, 19, 20, 21, 22, 23, 24, 25, 26, 27, 2, 3, 4, 5, 6, 7, 8, 9, 10, 11] [1, 12, 13, 14] [4, 0, 18, 19, 20, 21, 22, 23, 24, 25, 26, 27, 1, 2, 3, 5, 6, 7, 8, 9, 10, 11, 12, 13, 14, 15, 16, 17] rfl rfl (by decide) (by decide) hk1 hP1 hD1 (by decide) rfl
    clear hP1 hD1 hk1
    generalize H1 = H at hP hS ⊢
    rw [hsm3]
    refine lv_iload hx hb dL_isPlayed_207 (lv_at hl 4 rfl) ?_
    refine lv_iload hx hb dL_isPlayed_209 (lv_at hl 2 rfl) ?_
    refine xi_sub hx hb dL_isPlayed_211 (by omega) ?_
    refine xc_ne (tgt := 236) hx hb dL_isPlayed_212 (by decide) (by omega) (by omega) (fun c_115 => by omega) (fun c_115 => ?_)
    refine lv_aload_n hx hb dL_isPlayed_215 rfl (lv_at hl 12 rfl) ?_
    refine lv_iconst (v := nI 4) hx hb dL_isPlayed_216 (by decide) ?_
    refine xv_i (As := [.int (nI 4)]) (rest := []) (q := (RX5, TX5, 7)) ⟨hx, hb, hml, hown, hts⟩ (kX5_many l dC dI cyI cyZ cyJ cyD cyB p0 g0 g2 t0 h0 h1 w0 s0 v0 kn g1 g3 g4 g5 cnt bro9 t1 t2 tcn h2 plc9 wnd9 gov plo9 shf stp9 buz9 wor9 cks9 s1 s2 old9 kep9 evr9 4 (by omega) (by omega)) (cwV 1 hts gL_isPlayed_X5_many rfl rfl rfl (by decide +kernel) ⟨Nat.le_of_ble_eq_true rfl, Nat.le_of_ble_eq_true rfl⟩) hK hP hS [0, 3, 5, 1, 9, 10, 2, 12] rfl 0 7 rfl rfl rfl hl.1 rfl (Nat.le_of_ble_eq_true rfl) dL_isPlayed_217 ⟨Nat.zero_le _, Nat.zero_le _⟩ (fun r_116 H locs hw hP hS => ?_)
    have hw : r_116 = mnF cnt bro9 tcn plc9 plo9 shf wnd9 gov stp9 evr9 kep9 buz9 wor9 kn cks9 4 := hw
    subst hw
    rw [show mnF cnt bro9 tcn plc9 plo9 shf wnd9 gov stp9 evr9 kep9 buz9 wor9 kn cks9 4 = nI plo9 from rfl]
    refine lv_aload_n hx hb dL_isPlayed_220 rfl (lv_at hl 12 rfl) ?_
    refine lv_bipush (v := nI 8) hx hb dL_isPlayed_221 (by decide) ?_
    refine xv_i (As := [.int (nI 8)]) (rest := [.int (nI plo9)]) (q := (RX5, TX5, 7)) ⟨hx, hb, hml, hown, hts⟩ (kX5_many l dC dI cyI cyZ cyJ cyD cyB p0 g0 g2 t0 h0 h1 w0 s0 v0 kn g1 g3 g4 g5 cnt bro9 t1 t2 tcn h2 plc9 wnd9 gov plo9 shf stp9 buz9 wor9 cks9 s1 s2 old9 kep9 evr9 8 (by omega) (by omega)) (cwV 1 hts gL_isPlayed_X5_many rfl rfl rfl (by decide +kernel) ⟨Nat.le_of_ble_eq_true rfl, Nat.le_of_ble_eq_true rfl⟩) hK hP hS [0, 3, 5, 1, 9, 10, 2, 12] rfl 0 7 rfl rfl rfl hl.1 rfl (Nat.le_of_ble_eq_true rfl) dL_isPlayed_223 ⟨Nat.zero_le _, Nat.zero_le _⟩ (fun r_117 H locs hw hP hS => ?_)
    have hw : r_117 = mnF cnt bro9 tcn plc9 plo9 shf wnd9 gov stp9 evr9 kep9 buz9 wor9 kn cks9 8 := hw
    subst hw
    rw [show mnF cnt bro9 tcn plc9 plo9 shf wnd9 gov stp9 evr9 kep9 buz9 wor9 kn cks9 8 = nI stp9 from rfl]
    refine lv_bipush (v := nI 64) hx hb dL_isPlayed_226 (by decide) ?_
    refine xi_rem hx hb dL_isPlayed_228 (by omega) (by omega) (by omega) ?_
    refine xc_ne (tgt := 236) hx hb dL_isPlayed_229 (by decide) (by omega) (by omega) (fun c_118 => by omega) (fun c_118 => ?_)
    refine lv_iconst (v := nI 1) hx hb dL_isPlayed_232 (by decide) ?_
    refine lv_goto (tgt := 237) hx hb dL_isPlayed_233 (by decide) ?_
    have hP9 : va_P (dC, dI) vwCl [(p0, .inr (7, [.ref t0, .ref w0, .ref g0, .ref h0, .ref s0, .ref v0, .int (nI kn)])), (t0, .inr (5, [.ref t1, .ref t2, .int (nI tcn)])), (w0, .inr (6, [.ref g0, .ref h0, .ref s0, .int (nI wnd9), .int (nI gov), .int (nI plo9), .int (nI shf), .int (nI stp9), .int (nI buz9), .int (nI wor9), .double cks9])), (g0, .inr (3, [.ref g1, .ref g2, .ref g3, .ref g4, .ref g5, .int (nI cnt)])), (g1, .inl (cyI, 24, .inl (fun k => nI (pit k)))), (g2, .inl (cyZ, 24, .inl (fun k => xb (bro9 k)))), (g3, .inl (cyI, 24, .inl (fun k => nI (scr9 k)))), (g4, .inl (cyI, 24, .inl (fun k => nI (plu9 k)))), (g5, .inl (cyI, 24, .inl (fun k => nI (las9 k)))), (h0, .inr (2, [.ref h1, .ref h2])), (h1, .inl (cyJ, 72, .inr (.inl plc9))), (h2, .inl (cyI, 4608, .inl (fun k => nI (wea9 k)))), (s0, .inr (4, [.ref s1, .ref s2, .int (nI old9), .int (nI kep9), .int (nI evr9)])), (s1, .inl (cyI, 40, .inl (fun k => nI (pts9 k)))), (s2, .inl (cyD, 40, .inr (.inr (.inr (.inl clk9))))), (v0, .inr (6, [.ref e0, .ref b0, .ref d0, .int (nI vwnd2_106), .int (nI vgov2_107), .int (nI vplo2_108), .int (nI vshf2_109), .int (nI vstp2_110), .int (nI vbuz2_111), .int (nI vwor2_112), .double vcks2_113])), (e0, .inr (3, [.ref e1, .ref e2, .ref e3, .ref e4, .ref e5, .int (nI vcnt2_98)])), (e1, .inl (cyI, 24, .inl (fun k => nI (vpit2_93 k)))), (e2, .inl (cyZ, 24, .inl (fun k => xb (vbro2_94 k)))), (e3, .inl (cyI, 24, .inl (fun k => nI (vscr2_95 k)))), (e4, .inl (cyI, 24, .inl (fun k => nI (vplu2_96 k)))), (e5, .inl (cyI, 24, .inl (fun k => nI (vlas2_97 k)))), (b0, .inr (2, [.ref b1, .ref b2])), (b1, .inl (cyJ, 72, .inr (.inl vplc2_99))), (b2, .inl (cyI, 4608, .inl (fun k => nI (vwea2_100 k)))), (d0, .inr (4, [.ref d1, .ref d2, .int (nI vold2_103), .int (nI vkep2_104), .int (nI vevr2_105)])), (d1, .inl (cyI, 40, .inl (fun k => nI (vpts2_101 k)))), (d2, .inl (cyD, 40, .inr (.inr (.inr (.inl vclk2_102)))))] _ := hP
    have hD9 : va_D A [(p0, .inr (7, [.ref t0, .ref w0, .ref g0, .ref h0, .ref s0, .ref v0, .int (nI kn)])), (t0, .inr (5, [.ref t1, .ref t2, .int (nI tcn)])), (w0, .inr (6, [.ref g0, .ref h0, .ref s0, .int (nI wnd9), .int (nI gov), .int (nI plo9), .int (nI shf), .int (nI stp9), .int (nI buz9), .int (nI wor9), .double cks9])), (g0, .inr (3, [.ref g1, .ref g2, .ref g3, .ref g4, .ref g5, .int (nI cnt)])), (g1, .inl (cyI, 24, .inl (fun k => nI (pit k)))), (g2, .inl (cyZ, 24, .inl (fun k => xb (bro9 k)))), (g3, .inl (cyI, 24, .inl (fun k => nI (scr9 k)))), (g4, .inl (cyI, 24, .inl (fun k => nI (plu9 k)))), (g5, .inl (cyI, 24, .inl (fun k => nI (las9 k)))), (h0, .inr (2, [.ref h1, .ref h2])), (h1, .inl (cyJ, 72, .inr (.inl plc9))), (h2, .inl (cyI, 4608, .inl (fun k => nI (wea9 k)))), (s0, .inr (4, [.ref s1, .ref s2, .int (nI old9), .int (nI kep9), .int (nI evr9)])), (s1, .inl (cyI, 40, .inl (fun k => nI (pts9 k)))), (s2, .inl (cyD, 40, .inr (.inr (.inr (.inl clk9))))), (v0, .inr (6, [.ref e0, .ref b0, .ref d0, .int (nI vwnd2_106), .int (nI vgov2_107), .int (nI vplo2_108), .int (nI vshf2_109), .int (nI vstp2_110), .int (nI vbuz2_111), .int (nI vwor2_112), .double vcks2_113])), (e0, .inr (3, [.ref e1, .ref e2, .ref e3, .ref e4, .ref e5, .int (nI vcnt2_98)])), (e1, .inl (cyI, 24, .inl (fun k => nI (vpit2_93 k)))), (e2, .inl (cyZ, 24, .inl (fun k => xb (vbro2_94 k)))), (e3, .inl (cyI, 24, .inl (fun k => nI (vscr2_95 k)))), (e4, .inl (cyI, 24, .inl (fun k => nI (vplu2_96 k)))), (e5, .inl (cyI, 24, .inl (fun k => nI (vlas2_97 k)))), (b0, .inr (2, [.ref b1, .ref b2])), (b1, .inl (cyJ, 72, .inr (.inl vplc2_99))), (b2, .inl (cyI, 4608, .inl (fun k => nI (vwea2_100 k)))), (d0, .inr (4, [.ref d1, .ref d2, .int (nI vold2_103), .int (nI vkep2_104), .int (nI vevr2_105)])), (d1, .inl (cyI, 40, .inl (fun k => nI (vpts2_101 k)))), (d2, .inl (cyD, 40, .inr (.inr (.inr (.inl vclk2_102)))))] := hD
    exact W.zret (v := nI 1) (ty := .boolean) hx hb hr rfl (fun t ht hW => ⟨⟨nI 1, (((bro9, scr9, plu9, las9, plc9, wea9, pts9, clk9, old9, kep9, evr9, buz9, wor9), wnd9, plo9, stp9, cks9), vpit2_93, vbro2_94, vscr2_95, vplu2_96, vlas2_97, vcnt2_98, vplc2_99, vwea2_100, vpts2_101, vclk2_102, vold2_103, vkep2_104, vevr2_105, vwnd2_106, vgov2_107, vplo2_108, vshf2_109, vstp2_110, vbuz2_111, vwor2_112, vcks2_113), rfl, ⟨rfl, rfl, hu_114⟩, ⟨by rw [ht]; exact hP9, hD9⟩⟩, hS.F ht⟩) hS.2.2 dL_isPlayed_237
  · refine lv_iconst (v := nI 1) hx hb dL_isPlayed_184 (by decide) ?_
    refine lv_goto (tgt := 189) hx hb dL_isPlayed_185 (by decide) ?_
    refine lv_iload hx hb dL_isPlayed_189 (lv_at hl 4 rfl) ?_
    refine lv_iload_n hx hb dL_isPlayed_191 rfl (lv_at hl 13 rfl) ?_
    refine xc_le (tgt := 199) hx hb dL_isPlayed_192 (by decide) (by omega) (by omega) (fun c_119 => by omega) (fun c_119 => ?_)
    refine lv_iconst (v := nI 1) hx hb dL_isPlayed_195 (by decide) ?_
    refine lv_goto (tgt := 200) hx hb dL_isPlayed_196 (by decide) ?_
    refine xc_ne (tgt := 236) hx hb dL_isPlayed_200 (by decide) (by omega) (by omega) (fun c_120 => by omega) (fun c_120 => ?_)
    refine lv_aload_n hx hb dL_isPlayed_203 rfl (lv_at hl 12 rfl) ?_
    refine xm_i (As := []) (rest := []) (q := (RX5, TX5, 7)) ⟨hx, hb, hml, hown, hts⟩ (kX5_lasts l dC dI cyI cyZ cyJ cyD cyB p0 v0 e0 e1 e2 e3 e4 e5 b0 b1 b2 d0 d1 d2 w0 g0 g1 g2 g3 g4 g5 h0 h1 h2 t0 s0 kn vwnd2_46 vgov2_47 vplo2_48 vshf2_49 vstp2_50 vbuz2_51 vwor2_52 vcks2_53 vcnt2_38 vpit2_33 vbro2_34 vscr2_35 vplu2_36 vlas2_37 vplc2_39 vwea2_40 vold2_43 vkep2_44 vevr2_45 vpts2_41 vclk2_42 wnd9 gov plo9 shf stp9 buz9 wor9 cks9 cnt pit bro9 scr9 plu9 las9 plc9 wea9 (nc + sp) (by omega) (by omega) (by omega) (by omega) (by omega) (by omega) hck9 (okP_dum hok9) hu_54.1 hu_54.2) (cwV 0 hts gL_isPlayed_X5_lasts rfl rfl rfl (by decide +kernel) ⟨Nat.le_of_ble_eq_true rfl, Nat.le_of_ble_eq_true rfl⟩) hK hP hD hS [0, 15, 16, 17, 18, 19, 20, 21, 22, 23, 24, 25, 26, 27, 2, 3, 4, 5, 6, 7, 8, 9, 10, 11] rfl (by decide) 0 7 rfl rfl rfl hl.1 rfl (Nat.le_of_ble_eq_true rfl) dL_isPlayed_204 ⟨Nat.zero_le _, Nat.zero_le _⟩ (fun r_121 u_122 H1 locs hw hP1 hD1 hk1 hS => ?_)
    obtain ⟨vpit2_123, vbro2_124, vscr2_125, vplu2_126, vlas2_127, vcnt2_128, vplc2_129, vwea2_130, vpts2_131, vclk2_132, vold2_133, vkep2_134, vevr2_135, vwnd2_136, vgov2_137, vplo2_138, vshf2_139, vstp2_140, vbuz2_141, vwor2_142, vcks2_143⟩ := u_122
    obtain ⟨hw, hu_144⟩ := hw
    have hu_144 : vold2_133 < 40 ∧ vkep2_134 ≤ 40 := hu_144
    have hw : r_121 = nI (lsW pit cnt shf gov 2000 ((bro9, scr9, plu9, las9, plc9, wea9, zN, zD, 0, 0, 0, buz9, wor9), wnd9, plo9, stp9, cks9)) := hw
    rw [hw]
    obtain ⟨hP, hD⟩ := xW_join (wr := [(t0, .inr (5, [.ref t1, .ref t2, .int (nI tcn)])), (s0, .inr (4, [.ref s1, .ref s2, .int (nI old9), .int (nI kep9), .int (nI evr9)])), (s1, .inl (cyI, 40, .inl (fun k => nI (pts9 k)))), (s2, .inl (cyD, 40, .inr (.inr (.inr (.inl clk9)))))]) (w1 := [(p0, .inr (7, [.ref t0, .ref w0, .ref g0, .ref h0, .ref s0, .ref v0, .int (nI kn)])), (v0, .inr (6, [.ref e0, .ref b0, .ref d0, .int (nI vwnd2_136), .int (nI vgov2_137), .int (nI vplo2_138), .int (nI vshf2_139), .int (nI vstp2_140), .int (nI vbuz2_141), .int (nI vwor2_142), .double vcks2_143])), (e0, .inr (3, [.ref e1, .ref e2, .ref e3, .ref e4, .ref e5, .int (nI vcnt2_128)])), (e1, .inl (cyI, 24, .inl (fun k => nI (vpit2_123 k)))), (e2, .inl (cyZ, 24, .inl (fun k => xb (vbro2_124 k)))), (e3, .inl (cyI, 24, .inl (fun k => nI (vscr2_125 k)))), (e4, .inl (cyI, 24, .inl (fun k => nI (vplu2_126 k)))), (e5, .inl (cyI, 24, .inl (fun k => nI (vlas2_127 k)))), (b0, .inr (2, [.ref b1, .ref b2])), (b1, .inl (cyJ, 72, .inr (.inl vplc2_129))), (b2, .inl (cyI, 4608, .inl (fun k => nI (vwea2_130 k)))), (d0, .inr (4, [.ref d1, .ref d2, .int (nI vold2_133), .int (nI vkep2_134), .int (nI vevr2_135)])), (d1, .inl (cyI, 40, .inl (fun k => nI (vpts2_131 k)))), (d2, .inl (cyD, 40, .inr (.inr (.inr (.inl vclk2_132))))), (w0, .inr (6, [.ref g0, .ref h0, .ref s0, .int (nI wnd9), .int (nI gov), .int (nI plo9), .int (nI shf), .int (nI stp9), .int (nI buz9), .int (nI wor9), .double cks9])), (g0, .inr (3, [.ref g1, .ref g2, .ref g3, .ref g4, .ref g5, .int (nI cnt)])), (g1, .inl (cyI, 24, .inl (fun k => nI (pit k)))), (g2, .inl (cyZ, 24, .inl (fun k => xb (bro9 k)))), (g3, .inl (cyI, 24, .inl (fun k => nI (scr9 k)))), (g4, .inl (cyI, 24, .inl (fun k => nI (plu9 k)))), (g5, .inl (cyI, 24, .inl (fun k => nI (las9 k)))), (h0, .inr (2, [.ref h1, .ref h2])), (h1, .inl (cyJ, 72, .inr (.inl plc9))), (h2, .inl (cyI, 4608, .inl (fun k => nI (wea9 k))))]) (wN := [(p0, .inr (7, [.ref t0, .ref w0, .ref g0, .ref h0, .ref s0, .ref v0, .int (nI kn)])), (t0, .inr (5, [.ref t1, .ref t2, .int (nI tcn)])), (w0, .inr (6, [.ref g0, .ref h0, .ref s0, .int (nI wnd9), .int (nI gov), .int (nI plo9), .int (nI shf), .int (nI stp9), .int (nI buz9), .int (nI wor9), .double cks9])), (g0, .inr (3, [.ref g1, .ref g2, .ref g3, .ref g4, .ref g5, .int (nI cnt)])), (g1, .inl (cyI, 24, .inl (fun k => nI (pit k)))), (g2, .inl (cyZ, 24, .inl (fun k => xb (bro9 k)))), (g3, .inl (cyI, 24, .inl (fun k => nI (scr9 k)))), (g4, .inl (cyI, 24, .inl (fun k => nI (plu9 k)))), (g5, .inl (cyI, 24, .inl (fun k => nI (las9 k)))), (h0, .inr (2, [.ref h1, .ref h2])), (h1, .inl (cyJ, 72, .inr (.inl plc9))), (h2, .inl (cyI, 4608, .inl (fun k => nI (wea9 k)))), (s0, .inr (4, [.ref s1, .ref s2, .int (nI old9), .int (nI kep9), .int (nI evr9)])), (s1, .inl (cyI, 40, .inl (fun k => nI (pts9 k)))), (s2, .inl (cyD, 40, .inr (.inr (.inr (.inl clk9))))), (v0, .inr (6, [.ref e0, .ref b0, .ref d0, .int (nI vwnd2_136), .int (nI vgov2_137), .int (nI vplo2_138), .int (nI vshf2_139), .int (nI vstp2_140), .int (nI vbuz2_141), .int (nI vwor2_142), .double vcks2_143])), (e0, .inr (3, [.ref e1, .ref e2, .ref e3, .ref e4, .ref e5, .int (nI vcnt2_128)])), (e1, .inl (cyI, 24, .inl (fun k => nI (vpit2_123 k)))), (e2, .inl (cyZ, 24, .inl (fun k => xb (vbro2_124 k)))), (e3, .inl (cyI, 24, .inl (fun k => nI (vscr2_125 k)))), (e4, .inl (cyI, 24, .inl (fun k => nI (vplu2_126 k)))), (e5, .inl (cyI, 24, .inl (fun k => nI (vlas2_127 k)))), (b0, .inr (2, [.ref b1, .ref b2])), (b1, .inl (cyJ, 72, .inr (.inl vplc2_129))), (b2, .inl (cyI, 4608, .inl (fun k => nI (vwea2_130 k)))), (d0, .inr (4, [.ref d1, .ref d2, .int (nI vold2_133), .int (nI vkep2_134), .int (nI vevr2_135)])), (d1, .inl (cyI, 40, .inl (fun k => nI (vpts2_131 k)))), (d2, .inl (cyD, 40, .inr (.inr (.inr (.inl vclk2_132)))))]) hP hD [0, 15, 16, 17, 18, 19, 20, 21, 22, 23, 24, 25, 26, 27, 2, 3, 4, 5, 6, 7, 8, 9, 10, 11] [1, 12, 13, 14] [4, 0, 18, 19, 20, 21, 22, 23, 24, 25, 26, 27, 1, 2, 3, 5, 6, 7, 8, 9, 10, 11, 12, 13, 14, 15, 16, 17] rfl rfl (by decide) (by decide) hk1 hP1 hD1 (by decide) rfl
    clear hP1 hD1 hk1
    generalize H1 = H at hP hS ⊢
    rw [hsm3]
    refine lv_iload hx hb dL_isPlayed_207 (lv_at hl 4 rfl) ?_
    refine lv_iload hx hb dL_isPlayed_209 (lv_at hl 2 rfl) ?_
    refine xi_sub hx hb dL_isPlayed_211 (by omega) ?_
    refine xc_ne (tgt := 236) hx hb dL_isPlayed_212 (by decide) (by omega) (by omega) (fun c_145 => by omega) (fun c_145 => ?_)
    refine lv_aload_n hx hb dL_isPlayed_215 rfl (lv_at hl 12 rfl) ?_
    refine lv_iconst (v := nI 4) hx hb dL_isPlayed_216 (by decide) ?_
    refine xv_i (As := [.int (nI 4)]) (rest := []) (q := (RX5, TX5, 7)) ⟨hx, hb, hml, hown, hts⟩ (kX5_many l dC dI cyI cyZ cyJ cyD cyB p0 g0 g2 t0 h0 h1 w0 s0 v0 kn g1 g3 g4 g5 cnt bro9 t1 t2 tcn h2 plc9 wnd9 gov plo9 shf stp9 buz9 wor9 cks9 s1 s2 old9 kep9 evr9 4 (by omega) (by omega)) (cwV 1 hts gL_isPlayed_X5_many rfl rfl rfl (by decide +kernel) ⟨Nat.le_of_ble_eq_true rfl, Nat.le_of_ble_eq_true rfl⟩) hK hP hS [0, 3, 5, 1, 9, 10, 2, 12] rfl 0 7 rfl rfl rfl hl.1 rfl (Nat.le_of_ble_eq_true rfl) dL_isPlayed_217 ⟨Nat.zero_le _, Nat.zero_le _⟩ (fun r_146 H locs hw hP hS => ?_)
    have hw : r_146 = mnF cnt bro9 tcn plc9 plo9 shf wnd9 gov stp9 evr9 kep9 buz9 wor9 kn cks9 4 := hw
    subst hw
    rw [show mnF cnt bro9 tcn plc9 plo9 shf wnd9 gov stp9 evr9 kep9 buz9 wor9 kn cks9 4 = nI plo9 from rfl]
    refine lv_aload_n hx hb dL_isPlayed_220 rfl (lv_at hl 12 rfl) ?_
    refine lv_bipush (v := nI 8) hx hb dL_isPlayed_221 (by decide) ?_
    refine xv_i (As := [.int (nI 8)]) (rest := [.int (nI plo9)]) (q := (RX5, TX5, 7)) ⟨hx, hb, hml, hown, hts⟩ (kX5_many l dC dI cyI cyZ cyJ cyD cyB p0 g0 g2 t0 h0 h1 w0 s0 v0 kn g1 g3 g4 g5 cnt bro9 t1 t2 tcn h2 plc9 wnd9 gov plo9 shf stp9 buz9 wor9 cks9 s1 s2 old9 kep9 evr9 8 (by omega) (by omega)) (cwV 1 hts gL_isPlayed_X5_many rfl rfl rfl (by decide +kernel) ⟨Nat.le_of_ble_eq_true rfl, Nat.le_of_ble_eq_true rfl⟩) hK hP hS [0, 3, 5, 1, 9, 10, 2, 12] rfl 0 7 rfl rfl rfl hl.1 rfl (Nat.le_of_ble_eq_true rfl) dL_isPlayed_223 ⟨Nat.zero_le _, Nat.zero_le _⟩ (fun r_147 H locs hw hP hS => ?_)
    have hw : r_147 = mnF cnt bro9 tcn plc9 plo9 shf wnd9 gov stp9 evr9 kep9 buz9 wor9 kn cks9 8 := hw
    subst hw
    rw [show mnF cnt bro9 tcn plc9 plo9 shf wnd9 gov stp9 evr9 kep9 buz9 wor9 kn cks9 8 = nI stp9 from rfl]
    refine lv_bipush (v := nI 64) hx hb dL_isPlayed_226 (by decide) ?_
    refine xi_rem hx hb dL_isPlayed_228 (by omega) (by omega) (by omega) ?_
    refine xc_ne (tgt := 236) hx hb dL_isPlayed_229 (by decide) (by omega) (by omega) (fun c_148 => by omega) (fun c_148 => ?_)
    refine lv_iconst (v := nI 1) hx hb dL_isPlayed_232 (by decide) ?_
    refine lv_goto (tgt := 237) hx hb dL_isPlayed_233 (by decide) ?_
    have hP9 : va_P (dC, dI) vwCl [(p0, .inr (7, [.ref t0, .ref w0, .ref g0, .ref h0, .ref s0, .ref v0, .int (nI kn)])), (t0, .inr (5, [.ref t1, .ref t2, .int (nI tcn)])), (w0, .inr (6, [.ref g0, .ref h0, .ref s0, .int (nI wnd9), .int (nI gov), .int (nI plo9), .int (nI shf), .int (nI stp9), .int (nI buz9), .int (nI wor9), .double cks9])), (g0, .inr (3, [.ref g1, .ref g2, .ref g3, .ref g4, .ref g5, .int (nI cnt)])), (g1, .inl (cyI, 24, .inl (fun k => nI (pit k)))), (g2, .inl (cyZ, 24, .inl (fun k => xb (bro9 k)))), (g3, .inl (cyI, 24, .inl (fun k => nI (scr9 k)))), (g4, .inl (cyI, 24, .inl (fun k => nI (plu9 k)))), (g5, .inl (cyI, 24, .inl (fun k => nI (las9 k)))), (h0, .inr (2, [.ref h1, .ref h2])), (h1, .inl (cyJ, 72, .inr (.inl plc9))), (h2, .inl (cyI, 4608, .inl (fun k => nI (wea9 k)))), (s0, .inr (4, [.ref s1, .ref s2, .int (nI old9), .int (nI kep9), .int (nI evr9)])), (s1, .inl (cyI, 40, .inl (fun k => nI (pts9 k)))), (s2, .inl (cyD, 40, .inr (.inr (.inr (.inl clk9))))), (v0, .inr (6, [.ref e0, .ref b0, .ref d0, .int (nI vwnd2_136), .int (nI vgov2_137), .int (nI vplo2_138), .int (nI vshf2_139), .int (nI vstp2_140), .int (nI vbuz2_141), .int (nI vwor2_142), .double vcks2_143])), (e0, .inr (3, [.ref e1, .ref e2, .ref e3, .ref e4, .ref e5, .int (nI vcnt2_128)])), (e1, .inl (cyI, 24, .inl (fun k => nI (vpit2_123 k)))), (e2, .inl (cyZ, 24, .inl (fun k => xb (vbro2_124 k)))), (e3, .inl (cyI, 24, .inl (fun k => nI (vscr2_125 k)))), (e4, .inl (cyI, 24, .inl (fun k => nI (vplu2_126 k)))), (e5, .inl (cyI, 24, .inl (fun k => nI (vlas2_127 k)))), (b0, .inr (2, [.ref b1, .ref b2])), (b1, .inl (cyJ, 72, .inr (.inl vplc2_129))), (b2, .inl (cyI, 4608, .inl (fun k => nI (vwea2_130 k)))), (d0, .inr (4, [.ref d1, .ref d2, .int (nI vold2_133), .int (nI vkep2_134), .int (nI vevr2_135)])), (d1, .inl (cyI, 40, .inl (fun k => nI (vpts2_131 k)))), (d2, .inl (cyD, 40, .inr (.inr (.inr (.inl vclk2_132)))))] _ := hP
    have hD9 : va_D A [(p0, .inr (7, [.ref t0, .ref w0, .ref g0, .ref h0, .ref s0, .ref v0, .int (nI kn)])), (t0, .inr (5, [.ref t1, .ref t2, .int (nI tcn)])), (w0, .inr (6, [.ref g0, .ref h0, .ref s0, .int (nI wnd9), .int (nI gov), .int (nI plo9), .int (nI shf), .int (nI stp9), .int (nI buz9), .int (nI wor9), .double cks9])), (g0, .inr (3, [.ref g1, .ref g2, .ref g3, .ref g4, .ref g5, .int (nI cnt)])), (g1, .inl (cyI, 24, .inl (fun k => nI (pit k)))), (g2, .inl (cyZ, 24, .inl (fun k => xb (bro9 k)))), (g3, .inl (cyI, 24, .inl (fun k => nI (scr9 k)))), (g4, .inl (cyI, 24, .inl (fun k => nI (plu9 k)))), (g5, .inl (cyI, 24, .inl (fun k => nI (las9 k)))), (h0, .inr (2, [.ref h1, .ref h2])), (h1, .inl (cyJ, 72, .inr (.inl plc9))), (h2, .inl (cyI, 4608, .inl (fun k => nI (wea9 k)))), (s0, .inr (4, [.ref s1, .ref s2, .int (nI old9), .int (nI kep9), .int (nI evr9)])), (s1, .inl (cyI, 40, .inl (fun k => nI (pts9 k)))), (s2, .inl (cyD, 40, .inr (.inr (.inr (.inl clk9))))), (v0, .inr (6, [.ref e0, .ref b0, .ref d0, .int (nI vwnd2_136), .int (nI vgov2_137), .int (nI vplo2_138), .int (nI vshf2_139), .int (nI vstp2_140), .int (nI vbuz2_141), .int (nI vwor2_142), .double vcks2_143])), (e0, .inr (3, [.ref e1, .ref e2, .ref e3, .ref e4, .ref e5, .int (nI vcnt2_128)])), (e1, .inl (cyI, 24, .inl (fun k => nI (vpit2_123 k)))), (e2, .inl (cyZ, 24, .inl (fun k => xb (vbro2_124 k)))), (e3, .inl (cyI, 24, .inl (fun k => nI (vscr2_125 k)))), (e4, .inl (cyI, 24, .inl (fun k => nI (vplu2_126 k)))), (e5, .inl (cyI, 24, .inl (fun k => nI (vlas2_127 k)))), (b0, .inr (2, [.ref b1, .ref b2])), (b1, .inl (cyJ, 72, .inr (.inl vplc2_129))), (b2, .inl (cyI, 4608, .inl (fun k => nI (vwea2_130 k)))), (d0, .inr (4, [.ref d1, .ref d2, .int (nI vold2_133), .int (nI vkep2_134), .int (nI vevr2_135)])), (d1, .inl (cyI, 40, .inl (fun k => nI (vpts2_131 k)))), (d2, .inl (cyD, 40, .inr (.inr (.inr (.inl vclk2_132)))))] := hD
    exact W.zret (v := nI 1) (ty := .boolean) hx hb hr rfl (fun t ht hW => ⟨⟨nI 1, (((bro9, scr9, plu9, las9, plc9, wea9, pts9, clk9, old9, kep9, evr9, buz9, wor9), wnd9, plo9, stp9, cks9), vpit2_123, vbro2_124, vscr2_125, vplu2_126, vlas2_127, vcnt2_128, vplc2_129, vwea2_130, vpts2_131, vclk2_132, vold2_133, vkep2_134, vevr2_135, vwnd2_136, vgov2_137, vplo2_138, vshf2_139, vstp2_140, vbuz2_141, vwor2_142, vcks2_143), rfl, ⟨rfl, rfl, hu_144⟩, ⟨by rw [ht]; exact hP9, hD9⟩⟩, hS.F ht⟩) hS.2.2 dL_isPlayed_237

theorem mL_areWell_methodLink_RL_58_Lib_Math_min_name : Cond.methodLink RL 58 Lib.Math.min.name ∈ wsL_areWell := List.mem_of_getElem? (i := 1) (by decide +kernel)
theorem mL_areWell_static_Lib_Math_min_name : Cond.static Lib.Math.min.name ∈ wsL_areWell := List.mem_of_getElem? (i := 2) (by decide +kernel)
theorem mL_areWell_initialized_java_lang_Math : Cond.initialized "java/lang/Math" ∈ wsL_areWell := List.mem_of_getElem? (i := 3) (by decide +kernel)
theorem mL_areWell_code_Lib_Math_min_name_Lib_Math_min_code_2_some_int : Cond.code Lib.Math.min.name Lib.Math.min.code 2 (some .int) ∈ wsL_areWell := List.mem_of_getElem? (i := 4) (by decide +kernel)
set_option maxHeartbeats 4000000 in
set_option maxRecDepth 100000 in
theorem kL_areWell (l : Launch) (dC : Nat → ClassId) (dI : Nat → Nat → Nat) (cyI cyZ cyJ cyD cyB : ClassId) (p0 t0 w0 g0 g1 g2 g3 g4 g5 h0 h1 h2 s0 s1 s2 : Nat) (sz : Nat) (v0 : Nat) (kn : Nat) (t1 : Nat) (t2 : Nat) (tcn : Nat) (wnd : Nat) (gov : Nat) (plo : Nat) (shf : Nat) (stp : Nat) (buz : Nat) (wor : Nat) (cks : UInt64) (cnt : Nat) (pit : Nat → Nat) (bro : Nat → Bool) (scr : Nat → Nat) (plu : Nat → Nat) (las : Nat → Nat) (plc : Nat → Int64) (wea : Nat → Nat) (old : Nat) (kep : Nat) (evr : Nat) (pts : Nat → Nat) (clk : Nat → UInt64) (hcn : cnt ≤ 12) (hsh : shf < 3) (hplo : plo < 64) (hI : IP cnt cks (bro, scr, plu, las, plc, wea, pts, clk, old, kep, evr, buz, wor)) (hev : evr < 2 ^ 30) : Met l yL_areWell wsL_areWell ({ frames := 7, cells := 4, slots := 40, locals := 174 }) (va_Pc [.ref p0, .int (nI cnt)] (xY (va_A [(p0, .inr (7, [.ref t0, .ref w0, .ref g0, .ref h0, .ref s0, .ref v0, .int (nI kn)])), (t0, .inr (5, [.ref t1, .ref t2, .int (nI tcn)])), (w0, .inr (6, [.ref g0, .ref h0, .ref s0, .int (nI wnd), .int (nI gov), .int (nI plo), .int (nI shf), .int (nI stp), .int (nI buz), .int (nI wor), .double cks])), (g0, .inr (3, [.ref g1, .ref g2, .ref g3, .ref g4, .ref g5, .int (nI cnt)])), (g1, .inl (cyI, 24, .inl (fun k => nI (pit k)))), (g2, .inl (cyZ, 24, .inl (fun k => xb (bro k)))), (g3, .inl (cyI, 24, .inl (fun k => nI (scr k)))), (g4, .inl (cyI, 24, .inl (fun k => nI (plu k)))), (g5, .inl (cyI, 24, .inl (fun k => nI (las k)))), (h0, .inr (2, [.ref h1, .ref h2])), (h1, .inl (cyJ, 72, .inr (.inl plc))), (h2, .inl (cyI, 4608, .inl (fun k => nI (wea k)))), (s0, .inr (4, [.ref s1, .ref s2, .int (nI old), .int (nI kep), .int (nI evr)])), (s1, .inl (cyI, 40, .inl (fun k => nI (pts k)))), (s2, .inl (cyD, 40, .inr (.inr (.inr (.inl clk)))))] sz) (xN (dC, dI) vwCl (xT cyI cyZ cyJ cyD cyB) [(p0, .inr (7, [.ref t0, .ref w0, .ref g0, .ref h0, .ref s0, .ref v0, .int (nI kn)])), (t0, .inr (5, [.ref t1, .ref t2, .int (nI tcn)])), (w0, .inr (6, [.ref g0, .ref h0, .ref s0, .int (nI wnd), .int (nI gov), .int (nI plo), .int (nI shf), .int (nI stp), .int (nI buz), .int (nI wor), .double cks])), (g0, .inr (3, [.ref g1, .ref g2, .ref g3, .ref g4, .ref g5, .int (nI cnt)])), (g1, .inl (cyI, 24, .inl (fun k => nI (pit k)))), (g2, .inl (cyZ, 24, .inl (fun k => xb (bro k)))), (g3, .inl (cyI, 24, .inl (fun k => nI (scr k)))), (g4, .inl (cyI, 24, .inl (fun k => nI (plu k)))), (g5, .inl (cyI, 24, .inl (fun k => nI (las k)))), (h0, .inr (2, [.ref h1, .ref h2])), (h1, .inl (cyJ, 72, .inr (.inl plc))), (h2, .inl (cyI, 4608, .inl (fun k => nI (wea k)))), (s0, .inr (4, [.ref s1, .ref s2, .int (nI old), .int (nI kep), .int (nI evr)])), (s1, .inl (cyI, 40, .inl (fun k => nI (pts k)))), (s2, .inl (cyD, 40, .inr (.inr (.inr (.inl clk)))))] sz))) (va_Qi (fun (r : Int32) (u : Unit) => r = nI 1) (fun u t => va_P (dC, dI) vwCl [(p0, .inr (7, [.ref t0, .ref w0, .ref g0, .ref h0, .ref s0, .ref v0, .int (nI kn)])), (t0, .inr (5, [.ref t1, .ref t2, .int (nI tcn)])), (w0, .inr (6, [.ref g0, .ref h0, .ref s0, .int (nI wnd), .int (nI gov), .int (nI plo), .int (nI shf), .int (nI stp), .int (nI buz), .int (nI wor), .double cks])), (g0, .inr (3, [.ref g1, .ref g2, .ref g3, .ref g4, .ref g5, .int (nI cnt)])), (g1, .inl (cyI, 24, .inl (fun k => nI (pit k)))), (g2, .inl (cyZ, 24, .inl (fun k => xb (bro k)))), (g3, .inl (cyI, 24, .inl (fun k => nI (scr k)))), (g4, .inl (cyI, 24, .inl (fun k => nI (plu k)))), (g5, .inl (cyI, 24, .inl (fun k => nI (las k)))), (h0, .inr (2, [.ref h1, .ref h2])), (h1, .inl (cyJ, 72, .inr (.inl plc))), (h2, .inl (cyI, 4608, .inl (fun k => nI (wea k)))), (s0, .inr (4, [.ref s1, .ref s2, .int (nI old), .int (nI kep), .int (nI evr)])), (s1, .inl (cyI, 40, .inl (fun k => nI (pts k)))), (s2, .inl (cyD, 40, .inr (.inr (.inr (.inl clk)))))] t.heap ∧ va_D (va_A [(p0, .inr (7, [.ref t0, .ref w0, .ref g0, .ref h0, .ref s0, .ref v0, .int (nI kn)])), (t0, .inr (5, [.ref t1, .ref t2, .int (nI tcn)])), (w0, .inr (6, [.ref g0, .ref h0, .ref s0, .int (nI wnd), .int (nI gov), .int (nI plo), .int (nI shf), .int (nI stp), .int (nI buz), .int (nI wor), .double cks])), (g0, .inr (3, [.ref g1, .ref g2, .ref g3, .ref g4, .ref g5, .int (nI cnt)])), (g1, .inl (cyI, 24, .inl (fun k => nI (pit k)))), (g2, .inl (cyZ, 24, .inl (fun k => xb (bro k)))), (g3, .inl (cyI, 24, .inl (fun k => nI (scr k)))), (g4, .inl (cyI, 24, .inl (fun k => nI (plu k)))), (g5, .inl (cyI, 24, .inl (fun k => nI (las k)))), (h0, .inr (2, [.ref h1, .ref h2])), (h1, .inl (cyJ, 72, .inr (.inl plc))), (h2, .inl (cyI, 4608, .inl (fun k => nI (wea k)))), (s0, .inr (4, [.ref s1, .ref s2, .int (nI old), .int (nI kep), .int (nI evr)])), (s1, .inl (cyI, 40, .inl (fun k => nI (pts k)))), (s2, .inl (cyD, 40, .inr (.inr (.inr (.inl clk)))))] sz) [(p0, .inr (7, [.ref t0, .ref w0, .ref g0, .ref h0, .ref s0, .ref v0, .int (nI kn)])), (t0, .inr (5, [.ref t1, .ref t2, .int (nI tcn)])), (w0, .inr (6, [.ref g0, .ref h0, .ref s0, .int (nI wnd), .int (nI gov), .int (nI plo), .int (nI shf), .int (nI stp), .int (nI buz), .int (nI wor), .double cks])), (g0, .inr (3, [.ref g1, .ref g2, .ref g3, .ref g4, .ref g5, .int (nI cnt)])), (g1, .inl (cyI, 24, .inl (fun k => nI (pit k)))), (g2, .inl (cyZ, 24, .inl (fun k => xb (bro k)))), (g3, .inl (cyI, 24, .inl (fun k => nI (scr k)))), (g4, .inl (cyI, 24, .inl (fun k => nI (plu k)))), (g5, .inl (cyI, 24, .inl (fun k => nI (las k)))), (h0, .inr (2, [.ref h1, .ref h2])), (h1, .inl (cyJ, 72, .inr (.inl plc))), (h2, .inl (cyI, 4608, .inl (fun k => nI (wea k)))), (s0, .inr (4, [.ref s1, .ref s2, .int (nI old), .int (nI kep), .int (nI evr)])), (s1, .inl (cyI, 40, .inl (fun k => nI (pts k)))), (s2, .inl (cyD, 40, .inr (.inr (.inr (.inl clk)))))]) (va_A [(p0, .inr (7, [.ref t0, .ref w0, .ref g0, .ref h0, .ref s0, .ref v0, .int (nI kn)])), (t0, .inr (5, [.ref t1, .ref t2, .int (nI tcn)])), (w0, .inr (6, [.ref g0, .ref h0, .ref s0, .int (nI wnd), .int (nI gov), .int (nI plo), .int (nI shf), .int (nI stp), .int (nI buz), .int (nI wor), .double cks])), (g0, .inr (3, [.ref g1, .ref g2, .ref g3, .ref g4, .ref g5, .int (nI cnt)])), (g1, .inl (cyI, 24, .inl (fun k => nI (pit k)))), (g2, .inl (cyZ, 24, .inl (fun k => xb (bro k)))), (g3, .inl (cyI, 24, .inl (fun k => nI (scr k)))), (g4, .inl (cyI, 24, .inl (fun k => nI (plu k)))), (g5, .inl (cyI, 24, .inl (fun k => nI (las k)))), (h0, .inr (2, [.ref h1, .ref h2])), (h1, .inl (cyJ, 72, .inr (.inl plc))), (h2, .inl (cyI, 4608, .inl (fun k => nI (wea k)))), (s0, .inr (4, [.ref s1, .ref s2, .int (nI old), .int (nI kep), .int (nI evr)])), (s1, .inl (cyI, 40, .inl (fun k => nI (pts k)))), (s2, .inl (cyD, 40, .inr (.inr (.inr (.inl clk)))))] sz)) 4 40 (va_A [(p0, .inr (7, [.ref t0, .ref w0, .ref g0, .ref h0, .ref s0, .ref v0, .int (nI kn)])), (t0, .inr (5, [.ref t1, .ref t2, .int (nI tcn)])), (w0, .inr (6, [.ref g0, .ref h0, .ref s0, .int (nI wnd), .int (nI gov), .int (nI plo), .int (nI shf), .int (nI stp), .int (nI buz), .int (nI wor), .double cks])), (g0, .inr (3, [.ref g1, .ref g2, .ref g3, .ref g4, .ref g5, .int (nI cnt)])), (g1, .inl (cyI, 24, .inl (fun k => nI (pit k)))), (g2, .inl (cyZ, 24, .inl (fun k => xb (bro k)))), (g3, .inl (cyI, 24, .inl (fun k => nI (scr k)))), (g4, .inl (cyI, 24, .inl (fun k => nI (plu k)))), (g5, .inl (cyI, 24, .inl (fun k => nI (las k)))), (h0, .inr (2, [.ref h1, .ref h2])), (h1, .inl (cyJ, 72, .inr (.inl plc))), (h2, .inl (cyI, 4608, .inl (fun k => nI (wea k)))), (s0, .inr (4, [.ref s1, .ref s2, .int (nI old), .int (nI kep), .int (nI evr)])), (s1, .inl (cyI, 40, .inl (fun k => nI (pts k)))), (s2, .inl (cyD, 40, .inr (.inr (.inr (.inl clk)))))] sz) := by
  refine Met.ofW (cc := cL_areWell) (maxL := 11) (ret := (some .boolean)) (by decide) rfl ?_
  intro p e s m args below meth c s₁ B hml hv
  obtain ⟨rfl, ⟨hsz, hP, hK, hD0⟩, hZ⟩ := hv
  have hx := B.exec
  have hb := B.bytes
  have hr := B.returns
  have hts := atoms_spec (ws := wsL_areWell) B.pre
  have hown : s.vm.findClass RL = some m.cls := findClass_of_methodNamed B.named
  have hlocks := B.notSynchronized
  subst hsz
  have hD := hD0.self (sz := s.heap.size)
  clear hD0
  generalize hAe : va_A [(p0, .inr (7, [.ref t0, .ref w0, .ref g0, .ref h0, .ref s0, .ref v0, .int (nI kn)])), (t0, .inr (5, [.ref t1, .ref t2, .int (nI tcn)])), (w0, .inr (6, [.ref g0, .ref h0, .ref s0, .int (nI wnd), .int (nI gov), .int (nI plo), .int (nI shf), .int (nI stp), .int (nI buz), .int (nI wor), .double cks])), (g0, .inr (3, [.ref g1, .ref g2, .ref g3, .ref g4, .ref g5, .int (nI cnt)])), (g1, .inl (cyI, 24, .inl (fun k => nI (pit k)))), (g2, .inl (cyZ, 24, .inl (fun k => xb (bro k)))), (g3, .inl (cyI, 24, .inl (fun k => nI (scr k)))), (g4, .inl (cyI, 24, .inl (fun k => nI (plu k)))), (g5, .inl (cyI, 24, .inl (fun k => nI (las k)))), (h0, .inr (2, [.ref h1, .ref h2])), (h1, .inl (cyJ, 72, .inr (.inl plc))), (h2, .inl (cyI, 4608, .inl (fun k => nI (wea k)))), (s0, .inr (4, [.ref s1, .ref s2, .int (nI old), .int (nI kep), .int (nI evr)])), (s1, .inl (cyI, 40, .inl (fun k => nI (pts k)))), (s2, .inl (cyD, 40, .inr (.inr (.inr (.inl clk)))))] s.heap.size = A at hD hZ ⊢
  have hA : ∀ q : Nat, s.heap.size ≤ q → A q := fun q h => by rw [← hAe]; exact Or.inr h
  have hS : va_S A s.heap s.heap [] := va_S.rf
  have hP : va_P (dC, dI) vwCl [(p0, .inr (7, [.ref t0, .ref w0, .ref g0, .ref h0, .ref s0, .ref v0, .int (nI kn)])), (t0, .inr (5, [.ref t1, .ref t2, .int (nI tcn)])), (w0, .inr (6, [.ref g0, .ref h0, .ref s0, .int (nI wnd), .int (nI gov), .int (nI plo), .int (nI shf), .int (nI stp), .int (nI buz), .int (nI wor), .double cks])), (g0, .inr (3, [.ref g1, .ref g2, .ref g3, .ref g4, .ref g5, .int (nI cnt)])), (g1, .inl (cyI, 24, .inl (fun k => nI (pit k)))), (g2, .inl (cyZ, 24, .inl (fun k => xb (bro k)))), (g3, .inl (cyI, 24, .inl (fun k => nI (scr k)))), (g4, .inl (cyI, 24, .inl (fun k => nI (plu k)))), (g5, .inl (cyI, 24, .inl (fun k => nI (las k)))), (h0, .inr (2, [.ref h1, .ref h2])), (h1, .inl (cyJ, 72, .inr (.inl plc))), (h2, .inl (cyI, 4608, .inl (fun k => nI (wea k)))), (s0, .inr (4, [.ref s1, .ref s2, .int (nI old), .int (nI kep), .int (nI evr)])), (s1, .inl (cyI, 40, .inl (fun k => nI (pts k)))), (s2, .inl (cyD, 40, .inr (.inr (.inr (.inl clk)))))] s.heap := hP
  have hl := lv_entry ([.ref p0, .int (nI cnt)]) (n := 11) (Nat.le_of_ble_eq_true rfl)
  rw [lg_entry_eq]
  generalize (lg_sl ([.ref p0, .int (nI cnt)]) ++ List.replicate (11 - (lg_sl ([.ref p0, .int (nI cnt)])).length) Slot.unset).toArray = ls at hl ⊢
  have hl : lv_has ls 11 [(0, .ref p0), (1, .int (nI cnt))] := hl
  obtain ⟨hbs, hw4, hw5, hnf, hol, hke2, hpts, hck9, hc9, hc10⟩ := id hI
  have hke : kep ≤ 40 := by omega
  have hcl : ∀ k, okW (clk k) := fun k => okC_W (hck9 k) (Nat.le_refl _)
  have hmo : ∀ k, 1 ≤ k → k < kep → ¬ Op.cmpValue (FP.dcmp (whF (clk ((old + k) % 40))) (whF (clk ((old + (k - 1)) % 40)))) .g < 0 := fun k h1 h2 => by have h3 := hc10 (k - 1) (by omega); rw [show k - 1 + 1 = k from by omega] at h3; exact wh_mono (hck9 _) (hck9 _) (Nat.le_refl _) (Nat.le_refl _) h3
  have hap := ap_le plc cnt
  have hbr := brF_le bro cnt
  refine lv_iconst (v := nI 0) hx hb dL_areWell_0 (by decide) ?_
  refine lv_istore_n (lv' := [(2, .int (nI 0)), (0, .ref p0), (1, .int (nI cnt))]) hx hb dL_areWell_1 rfl hl (by decide) rfl (fun ls hl => ?_)
  refine lv_iconst (v := nI 0) hx hb dL_areWell_2 (by decide) ?_
  refine lv_istore_n (lv' := [(3, .int (nI 0)), (2, .int (nI 0)), (0, .ref p0), (1, .int (nI cnt))]) hx hb dL_areWell_3 rfl hl (by decide) rfl (fun ls hl => ?_)
  refine lv_iconst (v := nI 0) hx hb dL_areWell_4 (by decide) ?_
  refine lv_istore (lv' := [(4, .int (nI 0)), (3, .int (nI 0)), (2, .int (nI 0)), (0, .ref p0), (1, .int (nI cnt))]) hx hb dL_areWell_5 hl (by decide) rfl (fun ls hl => ?_)
  have ze0 : apF plc 0 = 0 := rfl
  have ze1 : brF bro 0 = 0 := rfl
  refine (?_ : ∀ (n_1 i_2 : Nat), i_2 + n_1 = cnt → ∀ (H : Heap) (locs : List Loc) (hP : va_P (dC, dI) vwCl [(p0, .inr (7, [.ref t0, .ref w0, .ref g0, .ref h0, .ref s0, .ref v0, .int (nI kn)])), (t0, .inr (5, [.ref t1, .ref t2, .int (nI tcn)])), (w0, .inr (6, [.ref g0, .ref h0, .ref s0, .int (nI wnd), .int (nI gov), .int (nI plo), .int (nI shf), .int (nI stp), .int (nI buz), .int (nI wor), .double cks])), (g0, .inr (3, [.ref g1, .ref g2, .ref g3, .ref g4, .ref g5, .int (nI cnt)])), (g1, .inl (cyI, 24, .inl (fun k => nI (pit k)))), (g2, .inl (cyZ, 24, .inl (fun k => xb (bro k)))), (g3, .inl (cyI, 24, .inl (fun k => nI (scr k)))), (g4, .inl (cyI, 24, .inl (fun k => nI (plu k)))), (g5, .inl (cyI, 24, .inl (fun k => nI (las k)))), (h0, .inr (2, [.ref h1, .ref h2])), (h1, .inl (cyJ, 72, .inr (.inl plc))), (h2, .inl (cyI, 4608, .inl (fun k => nI (wea k)))), (s0, .inr (4, [.ref s1, .ref s2, .int (nI old), .int (nI kep), .int (nI evr)])), (s1, .inl (cyI, 40, .inl (fun k => nI (pts k)))), (s2, .inl (cyD, 40, .inr (.inr (.inr (.inl clk)))))] H) (hD : va_D A [(p0, .inr (7, [.ref t0, .ref w0, .ref g0, .ref h0, .ref s0, .ref v0, .int (nI kn)])), (t0, .inr (5, [.ref t1, .ref t2, .int (nI tcn)])), (w0, .inr (6, [.ref g0, .ref h0, .ref s0, .int (nI wnd), .int (nI gov), .int (nI plo), .int (nI shf), .int (nI stp), .int (nI buz), .int (nI wor), .double cks])), (g0, .inr (3, [.ref g1, .ref g2, .ref g3, .ref g4, .ref g5, .int (nI cnt)])), (g1, .inl (cyI, 24, .inl (fun k => nI (pit k)))), (g2, .inl (cyZ, 24, .inl (fun k => xb (bro k)))), (g3, .inl (cyI, 24, .inl (fun k => nI (scr k)))), (g4, .inl (cyI, 24, .inl (fun k => nI (plu k)))), (g5, .inl (cyI, 24, .inl (fun k => nI (las k)))), (h0, .inr (2, [.ref h1, .ref h2])), (h1, .inl (cyJ, 72, .inr (.inl plc))), (h2, .inl (cyI, 4608, .inl (fun k => nI (wea k)))), (s0, .inr (4, [.ref s1, .ref s2, .int (nI old), .int (nI kep), .int (nI evr)])), (s1, .inl (cyI, 40, .inl (fun k => nI (pts k)))), (s2, .inl (cyD, 40, .inr (.inr (.inr (.inl clk)))))]) (hS : va_S A s.heap H locs) (ls : Array Slot) (hl : lv_has ls 11 [(4, .int (nI i_2)), (3, .int (nI (brF bro i_2))), (2, .int (nI (apF plc i_2))), (0, .ref p0), (1, .int (nI cnt))]), W p l e _ s m _ below meth c H locs 0 0 _ (F0 m 7 ls [])) (cnt - 0) 0 (by omega) _ _ (by first | exact hP | (simp only [ze0, ze1]; exact hP)) (by first | exact hD | (simp only [ze0, ze1]; exact hD)) hS _ (by first | exact (lv_sub hl [0, 1, 2, 3, 4] rfl) | (simp only [ze0, ze1]; exact (lv_sub hl [0, 1, 2, 3, 4] rfl)))
  clear hl hP hS hD
  intro n_1
  induction n_1 with
  | zero =>
    intro i_2 hi_3 H locs hP hD hS ls hl
    have hb0 := bcN_le (plc (0 * 24 + i_2))
    have hb1 := bcN_le (plc ((0 + 1) * 24 + i_2))
    have hb2 := bcN_le (plc ((0 + 1 + 1) * 24 + i_2))
    have ha9 := ap_le plc i_2
    have hr9 := brF_le bro i_2
    refine lv_iload hx hb dL_areWell_7 (lv_at hl 0 rfl) ?_
    refine lv_iload_n hx hb dL_areWell_9 rfl (lv_at hl 4 rfl) ?_
    refine xc_ge (tgt := 173) hx hb dL_areWell_10 (by decide) (by omega) (by omega) (fun c_6 => ?_) (fun c_6 => by omega)
    have h8 : i_2 = cnt := by omega
    rw [h8] at hl
    refine lv_aload_n hx hb dL_areWell_173 rfl (lv_at hl 3 rfl) ?_
    refine lv_bipush (v := nI 10) hx hb dL_areWell_174 (by decide) ?_
    refine xv_i (As := [.int (nI 10)]) (rest := []) (q := (RX5, TX5, 7)) ⟨hx, hb, hml, hown, hts⟩ (kX5_many l dC dI cyI cyZ cyJ cyD cyB p0 g0 g2 t0 h0 h1 w0 s0 v0 kn g1 g3 g4 g5 cnt bro t1 t2 tcn h2 plc wnd gov plo shf stp buz wor cks s1 s2 old kep evr 10 (by omega) (by omega)) (cwV 1 hts gL_areWell_X5_many rfl rfl rfl (by decide +kernel) ⟨Nat.le_of_ble_eq_true rfl, Nat.le_of_ble_eq_true rfl⟩) hK hP hS [0, 3, 5, 1, 9, 10, 2, 12] rfl 0 7 rfl rfl rfl hl.1 rfl (Nat.le_of_ble_eq_true rfl) dL_areWell_176 ⟨Nat.le_of_ble_eq_true rfl, Nat.le_of_ble_eq_true rfl⟩ (fun r_7 H locs hw hP hS => ?_)
    have hw : r_7 = mnF cnt bro tcn plc plo shf wnd gov stp evr kep buz wor kn cks 10 := hw
    subst hw
    rw [show mnF cnt bro tcn plc plo shf wnd gov stp evr kep buz wor kn cks 10 = nI kep from rfl]
    refine lv_istore (lv' := [(4, .int (nI kep)), (3, .int (nI (brF bro cnt))), (2, .int (nI (apF plc cnt))), (0, .ref p0), (1, .int (nI cnt))]) hx hb dL_areWell_179 hl (by decide) rfl (fun ls hl => ?_)
    refine lv_iload hx hb dL_areWell_181 (lv_at hl 0 rfl) ?_
    refine lv_bipush (v := nI 40) hx hb dL_areWell_183 (by decide) ?_
    refine lv_aload_n hx hb dL_areWell_185 rfl (lv_at hl 3 rfl) ?_
    refine lv_bipush (v := nI 9) hx hb dL_areWell_186 (by decide) ?_
    refine xv_i (As := [.int (nI 9)]) (rest := [.int (nI 40), .int (nI kep)]) (q := (RX5, TX5, 7)) ⟨hx, hb, hml, hown, hts⟩ (kX5_many l dC dI cyI cyZ cyJ cyD cyB p0 g0 g2 t0 h0 h1 w0 s0 v0 kn g1 g3 g4 g5 cnt bro t1 t2 tcn h2 plc wnd gov plo shf stp buz wor cks s1 s2 old kep evr 9 (by omega) (by omega)) (cwV 1 hts gL_areWell_X5_many rfl rfl rfl (by decide +kernel) ⟨Nat.le_of_ble_eq_true rfl, Nat.le_of_ble_eq_true rfl⟩) hK hP hS [0, 3, 5, 1, 9, 10, 2, 12] rfl 0 7 rfl rfl rfl hl.1 rfl (Nat.le_of_ble_eq_true rfl) dL_areWell_188 ⟨Nat.le_of_ble_eq_true rfl, Nat.le_of_ble_eq_true rfl⟩ (fun r_8 H locs hw hP hS => ?_)
    have hw : r_8 = mnF cnt bro tcn plc plo shf wnd gov stp evr kep buz wor kn cks 9 := hw
    subst hw
    rw [show mnF cnt bro tcn plc plo shf wnd gov stp evr kep buz wor kn cks 9 = nI evr from rfl]
    refine va_mmin hx hb (hml.trans hl.1.symm) hown (hts _ mL_areWell_methodLink_RL_58_Lib_Math_min_name) (hts _ mL_areWell_static_Lib_Math_min_name) (hts _ mL_areWell_initialized_java_lang_Math) (hts _ mL_areWell_code_Lib_Math_min_name_Lib_Math_min_code_2_some_int) (Nat.le_of_ble_eq_true rfl) (Nat.le_of_ble_eq_true rfl) (Nat.le_of_ble_eq_true rfl) ( Nat.le_of_ble_eq_true rfl) dL_areWell_191 ?_
    rw [xk_min (x := 40) (y := evr) (by omega) (by omega)]
    refine xc_ne (tgt := 215) hx hb dL_areWell_194 (by decide) (by omega) (by omega) (fun c_9 => by omega) (fun c_9 => ?_)
    refine lv_aload_n hx hb dL_areWell_197 rfl (lv_at hl 3 rfl) ?_
    refine lv_iconst (v := nI 3) hx hb dL_areWell_198 (by decide) ?_
    refine xv_i (As := [.int (nI 3)]) (rest := []) (q := (RX5, TX5, 7)) ⟨hx, hb, hml, hown, hts⟩ (kX5_many l dC dI cyI cyZ cyJ cyD cyB p0 g0 g2 t0 h0 h1 w0 s0 v0 kn g1 g3 g4 g5 cnt bro t1 t2 tcn h2 plc wnd gov plo shf stp buz wor cks s1 s2 old kep evr 3 (by omega) (by omega)) (cwV 1 hts gL_areWell_X5_many rfl rfl rfl (by decide +kernel) ⟨Nat.le_of_ble_eq_true rfl, Nat.le_of_ble_eq_true rfl⟩) hK hP hS [0, 3, 5, 1, 9, 10, 2, 12] rfl 0 7 rfl rfl rfl hl.1 rfl (Nat.le_of_ble_eq_true rfl) dL_areWell_199 ⟨Nat.le_of_ble_eq_true rfl, Nat.le_of_ble_eq_true rfl⟩ (fun r_10 H locs hw hP hS => ?_)
    have hw : r_10 = mnF cnt bro tcn plc plo shf wnd gov stp evr kep buz wor kn cks 3 := hw
    subst hw
    rw [show mnF cnt bro tcn plc plo shf wnd gov stp evr kep buz wor kn cks 3 = nI (apF plc cnt) from rfl]
    refine lv_iload_n hx hb dL_areWell_202 rfl (lv_at hl 2 rfl) ?_
    refine xc_ne (tgt := 215) hx hb dL_areWell_203 (by decide) (by omega) (by omega) (fun c_11 => by omega) (fun c_11 => ?_)
    refine lv_aload_n hx hb dL_areWell_206 rfl (lv_at hl 3 rfl) ?_
    refine lv_iconst (v := nI 1) hx hb dL_areWell_207 (by decide) ?_
    refine xv_i (As := [.int (nI 1)]) (rest := []) (q := (RX5, TX5, 7)) ⟨hx, hb, hml, hown, hts⟩ (kX5_many l dC dI cyI cyZ cyJ cyD cyB p0 g0 g2 t0 h0 h1 w0 s0 v0 kn g1 g3 g4 g5 cnt bro t1 t2 tcn h2 plc wnd gov plo shf stp buz wor cks s1 s2 old kep evr 1 (by omega) (by omega)) (cwV 1 hts gL_areWell_X5_many rfl rfl rfl (by decide +kernel) ⟨Nat.le_of_ble_eq_true rfl, Nat.le_of_ble_eq_true rfl⟩) hK hP hS [0, 3, 5, 1, 9, 10, 2, 12] rfl 0 7 rfl rfl rfl hl.1 rfl (Nat.le_of_ble_eq_true rfl) dL_areWell_208 ⟨Nat.le_of_ble_eq_true rfl, Nat.le_of_ble_eq_true rfl⟩ (fun r_12 H locs hw hP hS => ?_)
    have hw : r_12 = mnF cnt bro tcn plc plo shf wnd gov stp evr kep buz wor kn cks 1 := hw
    subst hw
    rw [show mnF cnt bro tcn plc plo shf wnd gov stp evr kep buz wor kn cks 1 = nI (brF bro cnt) from rfl]
    refine lv_iload_n hx hb dL_areWell_211 rfl (lv_at hl 1 rfl) ?_
    refine xc_eq (tgt := 217) hx hb dL_areWell_212 (by decide) (by omega) (by omega) (fun c_13 => ?_) (fun c_13 => by omega)
    refine lv_iconst (v := nI 1) hx hb dL_areWell_217 (by decide) ?_
    refine lv_istore (lv' := [(5, .int (nI 1)), (4, .int (nI kep)), (3, .int (nI (brF bro cnt))), (2, .int (nI (apF plc cnt))), (0, .ref p0), (1, .int (nI cnt))]) hx hb dL_areWell_218 hl (by decide) rfl (fun ls hl => ?_)
    refine (?_ : ∀ (n_14 i_15 : Nat), i_15 + n_14 = max 1 kep → ∀ (hi1 : 1 ≤ i_15) (H : Heap) (locs : List Loc) (hP : va_P (dC, dI) vwCl [(p0, .inr (7, [.ref t0, .ref w0, .ref g0, .ref h0, .ref s0, .ref v0, .int (nI kn)])), (t0, .inr (5, [.ref t1, .ref t2, .int (nI tcn)])), (w0, .inr (6, [.ref g0, .ref h0, .ref s0, .int (nI wnd), .int (nI gov), .int (nI plo), .int (nI shf), .int (nI stp), .int (nI buz), .int (nI wor), .double cks])), (g0, .inr (3, [.ref g1, .ref g2, .ref g3, .ref g4, .ref g5, .int (nI cnt)])), (g1, .inl (cyI, 24, .inl (fun k => nI (pit k)))), (g2, .inl (cyZ, 24, .inl (fun k => xb (bro k)))), (g3, .inl (cyI, 24, .inl (fun k => nI (scr k)))), (g4, .inl (cyI, 24, .inl (fun k => nI (plu k)))), (g5, .inl (cyI, 24, .inl (fun k => nI (las k)))), (h0, .inr (2, [.ref h1, .ref h2])), (h1, .inl (cyJ, 72, .inr (.inl plc))), (h2, .inl (cyI, 4608, .inl (fun k => nI (wea k)))), (s0, .inr (4, [.ref s1, .ref s2, .int (nI old), .int (nI kep), .int (nI evr)])), (s1, .inl (cyI, 40, .inl (fun k => nI (pts k)))), (s2, .inl (cyD, 40, .inr (.inr (.inr (.inl clk)))))] H) (hD : va_D A [(p0, .inr (7, [.ref t0, .ref w0, .ref g0, .ref h0, .ref s0, .ref v0, .int (nI kn)])), (t0, .inr (5, [.ref t1, .ref t2, .int (nI tcn)])), (w0, .inr (6, [.ref g0, .ref h0, .ref s0, .int (nI wnd), .int (nI gov), .int (nI plo), .int (nI shf), .int (nI stp), .int (nI buz), .int (nI wor), .double cks])), (g0, .inr (3, [.ref g1, .ref g2, .ref g3, .ref g4, .ref g5, .int (nI cnt)])), (g1, .inl (cyI, 24, .inl (fun k => nI (pit k)))), (g2, .inl (cyZ, 24, .inl (fun k => xb (bro k)))), (g3, .inl (cyI, 24, .inl (fun k => nI (scr k)))), (g4, .inl (cyI, 24, .inl (fun k => nI (plu k)))), (g5, .inl (cyI, 24, .inl (fun k => nI (las k)))), (h0, .inr (2, [.ref h1, .ref h2])), (h1, .inl (cyJ, 72, .inr (.inl plc))), (h2, .inl (cyI, 4608, .inl (fun k => nI (wea k)))), (s0, .inr (4, [.ref s1, .ref s2, .int (nI old), .int (nI kep), .int (nI evr)])), (s1, .inl (cyI, 40, .inl (fun k => nI (pts k)))), (s2, .inl (cyD, 40, .inr (.inr (.inr (.inl clk)))))]) (hS : va_S A s.heap H locs) (ls : Array Slot) (hl : lv_has ls 11 [(5, .int (nI i_15)), (4, .int (nI kep)), (0, .ref p0), (1, .int (nI cnt))]), W p l e _ s m _ below meth c H locs 0 0 _ (F0 m 220 ls [])) ((max 1 kep) - 1) 1 (by omega) (Nat.le_refl _) _ _ hP hD hS _ (lv_sub hl [0, 1, 4, 5] rfl)
    clear hl hP hS hD
    intro n_14
    induction n_14 with
    | zero =>
      intro i_15 hi_16 hi1 H locs hP hD hS ls hl
      have hp9 := hpts ((old + i_15) % 40)
      refine lv_iload hx hb dL_areWell_220 (lv_at hl 0 rfl) ?_
      refine lv_iload hx hb dL_areWell_222 (lv_at hl 1 rfl) ?_
      refine xc_ge (tgt := 262) hx hb dL_areWell_224 (by decide) (by omega) (by omega) (fun c_19 => ?_) (fun c_19 => by omega)
      refine lv_aload_n hx hb dL_areWell_262 rfl (lv_at hl 2 rfl) ?_
      refine lv_iconst (v := nI 4) hx hb dL_areWell_263 (by decide) ?_
      refine xv_i (As := [.int (nI 4)]) (rest := []) (q := (RX5, TX5, 7)) ⟨hx, hb, hml, hown, hts⟩ (kX5_many l dC dI cyI cyZ cyJ cyD cyB p0 g0 g2 t0 h0 h1 w0 s0 v0 kn g1 g3 g4 g5 cnt bro t1 t2 tcn h2 plc wnd gov plo shf stp buz wor cks s1 s2 old kep evr 4 (by omega) (by omega)) (cwV 1 hts gL_areWell_X5_many rfl rfl rfl (by decide +kernel) ⟨Nat.le_of_ble_eq_true rfl, Nat.le_of_ble_eq_true rfl⟩) hK hP hS [0, 3, 5, 1, 9, 10, 2, 12] rfl 0 7 rfl rfl rfl hl.1 rfl (Nat.le_of_ble_eq_true rfl) dL_areWell_264 ⟨Nat.le_of_ble_eq_true rfl, Nat.le_of_ble_eq_true rfl⟩ (fun r_20 H locs hw hP hS => ?_)
      have hw : r_20 = mnF cnt bro tcn plc plo shf wnd gov stp evr kep buz wor kn cks 4 := hw
      subst hw
      rw [show mnF cnt bro tcn plc plo shf wnd gov stp evr kep buz wor kn cks 4 = nI plo from rfl]
      refine lv_istore (lv' := [(5, .int (nI plo)), (4, .int (nI kep)), (0, .ref p0), (1, .int (nI cnt))]) hx hb dL_areWell_267 hl (by decide) rfl (fun ls hl => ?_)
      refine lv_aload_n hx hb dL_areWell_269 rfl (lv_at hl 2 rfl) ?_
      refine lv_iload hx hb dL_areWell_270 (lv_at hl 0 rfl) ?_
      refine xrN_r (va_runV (As := [.int (nI plo)]) (rest := []) ⟨hx, hb, hml, hown, hts⟩ (kX5_row l dC dI cyI cyZ cyJ cyD cyB p0 g0 g2 h0 h1 w0 H.size t0 s0 v0 kn g1 g3 g4 g5 cnt bro h2 plc wnd gov plo shf stp buz wor cks plo (by omega) (by omega) (by omega)) (cwV 1 hts gL_areWell_X5_row rfl rfl rfl (by decide +kernel) ⟨Nat.le_of_ble_eq_true rfl, Nat.le_of_ble_eq_true rfl⟩) ⟨(xY_blind xN_blind), va_recv (q := (RX5, TX5, 7)) hK hP (q0 := 0) (ci := 7) rfl rfl, fun U hU hW => ⟨rfl, ⟨by rw [hU], by rw [hU]; exact xW_sub hP [0, 3, 5, 9, 10, 2] rfl, va_K.moved hW.alike hK, (hD.sub [0, 3, 5, 9, 10, 2] (by decide) rfl).weaken (fun _ _ _ _ => trivial)⟩, xY_go hZ hS hU hW (fun q _ h => va_free hD hS hA [0, 3, 5, 9, 10, 2] rfl q h)⟩⟩ rfl rfl hl.1 rfl (lv_room (Nat.le_of_ble_eq_true rfl)) dL_areWell_272 ⟨Nat.le_of_ble_eq_true rfl, Nat.le_of_ble_eq_true rfl⟩) hD hS hA [0, 3, 5, 9, 10, 2] rfl (fun q_21 q_22 H1 locs hP1 hD1 hk1 hS1 => ?_)
      obtain ⟨hP, hD⟩ := va_join (wr := [(t0, .inr (5, [.ref t1, .ref t2, .int (nI tcn)])), (g1, .inl (cyI, 24, .inl (fun k => nI (pit k)))), (g3, .inl (cyI, 24, .inl (fun k => nI (scr k)))), (g4, .inl (cyI, 24, .inl (fun k => nI (plu k)))), (g5, .inl (cyI, 24, .inl (fun k => nI (las k)))), (h2, .inl (cyI, 4608, .inl (fun k => nI (wea k)))), (s0, .inr (4, [.ref s1, .ref s2, .int (nI old), .int (nI kep), .int (nI evr)])), (s1, .inl (cyI, 40, .inl (fun k => nI (pts k)))), (s2, .inl (cyD, 40, .inr (.inr (.inr (.inl clk)))))]) (w1 := [(p0, .inr (7, [.ref t0, .ref w0, .ref g0, .ref h0, .ref s0, .ref v0, .int (nI kn)])), (g0, .inr (3, [.ref g1, .ref g2, .ref g3, .ref g4, .ref g5, .int (nI cnt)])), (g2, .inl (cyZ, 24, .inl (fun k => xb (bro k)))), (h0, .inr (2, [.ref h1, .ref h2])), (h1, .inl (cyJ, 72, .inr (.inl plc))), (w0, .inr (6, [.ref g0, .ref h0, .ref s0, .int (nI wnd), .int (nI gov), .int (nI plo), .int (nI shf), .int (nI stp), .int (nI buz), .int (nI wor), .double cks])), (q_22, .inr (0, [.ref q_21, .int (nI 0), .int (nI 0), .int (nI 0)])), (q_21, .inl (cyB, cnt, .inl (txF (fun tn => sgF bro plc shf tn plo) cnt)))]) hP hD [0, 3, 5, 9, 10, 2] [1, 4, 6, 7, 8, 11, 12, 13, 14] rfl rfl (by decide) (by decide) hk1 (va_free (wc := [(p0, .inr (7, [.ref t0, .ref w0, .ref g0, .ref h0, .ref s0, .ref v0, .int (nI kn)])), (g0, .inr (3, [.ref g1, .ref g2, .ref g3, .ref g4, .ref g5, .int (nI cnt)])), (g2, .inl (cyZ, 24, .inl (fun k => xb (bro k)))), (h0, .inr (2, [.ref h1, .ref h2])), (h1, .inl (cyJ, 72, .inr (.inl plc))), (w0, .inr (6, [.ref g0, .ref h0, .ref s0, .int (nI wnd), .int (nI gov), .int (nI plo), .int (nI shf), .int (nI stp), .int (nI buz), .int (nI wor), .double cks]))]) hD hS hA [0, 3, 5, 9, 10, 2] rfl) hP1 hD1
      clear hP1 hD1 hk1
      have hS := hS1
      clear hS1
      generalize H1 = H at hP hS ⊢
      have hP : va_P (dC, dI) vwCl [(t0, .inr (5, [.ref t1, .ref t2, .int (nI tcn)])), (g1, .inl (cyI, 24, .inl (fun k => nI (pit k)))), (g3, .inl (cyI, 24, .inl (fun k => nI (scr k)))), (g4, .inl (cyI, 24, .inl (fun k => nI (plu k)))), (g5, .inl (cyI, 24, .inl (fun k => nI (las k)))), (h2, .inl (cyI, 4608, .inl (fun k => nI (wea k)))), (s0, .inr (4, [.ref s1, .ref s2, .int (nI old), .int (nI kep), .int (nI evr)])), (s1, .inl (cyI, 40, .inl (fun k => nI (pts k)))), (s2, .inl (cyD, 40, .inr (.inr (.inr (.inl clk))))), (p0, .inr (7, [.ref t0, .ref w0, .ref g0, .ref h0, .ref s0, .ref v0, .int (nI kn)])), (g0, .inr (3, [.ref g1, .ref g2, .ref g3, .ref g4, .ref g5, .int (nI cnt)])), (g2, .inl (cyZ, 24, .inl (fun k => xb (bro k)))), (h0, .inr (2, [.ref h1, .ref h2])), (h1, .inl (cyJ, 72, .inr (.inl plc))), (w0, .inr (6, [.ref g0, .ref h0, .ref s0, .int (nI wnd), .int (nI gov), .int (nI plo), .int (nI shf), .int (nI stp), .int (nI buz), .int (nI wor), .double cks])), (q_22, .inr (0, [.ref q_21, .int (nI 0), .int (nI 0), .int (nI 0)])), (q_21, .inl (cyB, cnt, .inl (txF (fun tn => sgF bro plc shf tn plo) cnt)))] H := hP
      have hD : va_D A [(t0, .inr (5, [.ref t1, .ref t2, .int (nI tcn)])), (g1, .inl (cyI, 24, .inl (fun k => nI (pit k)))), (g3, .inl (cyI, 24, .inl (fun k => nI (scr k)))), (g4, .inl (cyI, 24, .inl (fun k => nI (plu k)))), (g5, .inl (cyI, 24, .inl (fun k => nI (las k)))), (h2, .inl (cyI, 4608, .inl (fun k => nI (wea k)))), (s0, .inr (4, [.ref s1, .ref s2, .int (nI old), .int (nI kep), .int (nI evr)])), (s1, .inl (cyI, 40, .inl (fun k => nI (pts k)))), (s2, .inl (cyD, 40, .inr (.inr (.inr (.inl clk))))), (p0, .inr (7, [.ref t0, .ref w0, .ref g0, .ref h0, .ref s0, .ref v0, .int (nI kn)])), (g0, .inr (3, [.ref g1, .ref g2, .ref g3, .ref g4, .ref g5, .int (nI cnt)])), (g2, .inl (cyZ, 24, .inl (fun k => xb (bro k)))), (h0, .inr (2, [.ref h1, .ref h2])), (h1, .inl (cyJ, 72, .inr (.inl plc))), (w0, .inr (6, [.ref g0, .ref h0, .ref s0, .int (nI wnd), .int (nI gov), .int (nI plo), .int (nI shf), .int (nI stp), .int (nI buz), .int (nI wor), .double cks])), (q_22, .inr (0, [.ref q_21, .int (nI 0), .int (nI 0), .int (nI 0)])), (q_21, .inl (cyB, cnt, .inl (txF (fun tn => sgF bro plc shf tn plo) cnt)))] := hD
      refine W.widen (k := 4) (n := 40) (Nat.le_of_ble_eq_true rfl) (by first | exact Nat.le_of_ble_eq_true rfl | omega) ?_
      refine lv_astore (lv' := [(6, .ref q_22), (5, .int (nI plo)), (4, .int (nI kep)), (0, .ref p0), (1, .int (nI cnt))]) hx hb dL_areWell_275 hl (by decide) rfl (fun ls hl => ?_)
      refine lv_aload hx hb dL_areWell_277 (lv_at hl 0 rfl) ?_
      refine xrP_i (va_runV (As := []) (rest := []) ⟨hx, hb, hml, hown, hts⟩ (kJ0_length_8abf5 l dC dI cyI cyZ cyJ cyD cyB q_22 q_21 cnt (txF (fun tn => sgF bro plc shf tn plo) cnt) (by omega)) (cwV 0 hts gL_areWell_J0_length_8abf5 rfl rfl rfl (by decide +kernel) ⟨Nat.le_of_ble_eq_true rfl, Nat.le_of_ble_eq_true rfl⟩) ⟨(xY_blind xP_blind), va_recv (q := (RJ0, TJ0, 4)) hK hP (q0 := 15) (ci := 0) rfl rfl, fun U hU hW => ⟨rfl, ⟨by rw [hU]; exact xW_sub hP [15, 16] rfl, va_K.moved hW.alike hK⟩, xY_go hZ hS hU hW (fun q _ h => h.elim)⟩⟩ rfl rfl hl.1 rfl (lv_room (Nat.le_of_ble_eq_true rfl)) dL_areWell_279 ⟨Nat.le_of_ble_eq_true rfl, Nat.le_of_ble_eq_true rfl⟩) hP hS (fun r_23 H locs hw hP hS => ?_)
      have hw : r_23 = nI cnt := hw
      subst hw
      refine lv_iload_n hx hb dL_areWell_282 rfl (lv_at hl 4 rfl) ?_
      refine xc_eq (tgt := 288) hx hb dL_areWell_283 (by decide) (by omega) (by omega) (fun c_24 => ?_) (fun c_24 => by omega)
      refine lv_iconst (v := nI 0) hx hb dL_areWell_288 (by decide) ?_
      refine lv_istore (lv' := [(7, .int (nI 0)), (6, .ref q_22), (5, .int (nI plo)), (4, .int (nI kep)), (0, .ref p0), (1, .int (nI cnt))]) hx hb dL_areWell_289 hl (by decide) rfl (fun ls hl => ?_)
      refine (?_ : ∀ (n_25 i_26 : Nat), i_26 + n_25 = cnt → ∀ (H : Heap) (locs : List Loc) (hP : va_P (dC, dI) vwCl [(t0, .inr (5, [.ref t1, .ref t2, .int (nI tcn)])), (g1, .inl (cyI, 24, .inl (fun k => nI (pit k)))), (g3, .inl (cyI, 24, .inl (fun k => nI (scr k)))), (g4, .inl (cyI, 24, .inl (fun k => nI (plu k)))), (g5, .inl (cyI, 24, .inl (fun k => nI (las k)))), (h2, .inl (cyI, 4608, .inl (fun k => nI (wea k)))), (s0, .inr (4, [.ref s1, .ref s2, .int (nI old), .int (nI kep), .int (nI evr)])), (s1, .inl (cyI, 40, .inl (fun k => nI (pts k)))), (s2, .inl (cyD, 40, .inr (.inr (.inr (.inl clk))))), (p0, .inr (7, [.ref t0, .ref w0, .ref g0, .ref h0, .ref s0, .ref v0, .int (nI kn)])), (g0, .inr (3, [.ref g1, .ref g2, .ref g3, .ref g4, .ref g5, .int (nI cnt)])), (g2, .inl (cyZ, 24, .inl (fun k => xb (bro k)))), (h0, .inr (2, [.ref h1, .ref h2])), (h1, .inl (cyJ, 72, .inr (.inl plc))), (w0, .inr (6, [.ref g0, .ref h0, .ref s0, .int (nI wnd), .int (nI gov), .int (nI plo), .int (nI shf), .int (nI stp), .int (nI buz), .int (nI wor), .double cks])), (q_22, .inr (0, [.ref q_21, .int (nI 0), .int (nI 0), .int (nI 0)])), (q_21, .inl (cyB, cnt, .inl (txF (fun tn => sgF bro plc shf tn plo) cnt)))] H) (hD : va_D A [(t0, .inr (5, [.ref t1, .ref t2, .int (nI tcn)])), (g1, .inl (cyI, 24, .inl (fun k => nI (pit k)))), (g3, .inl (cyI, 24, .inl (fun k => nI (scr k)))), (g4, .inl (cyI, 24, .inl (fun k => nI (plu k)))), (g5, .inl (cyI, 24, .inl (fun k => nI (las k)))), (h2, .inl (cyI, 4608, .inl (fun k => nI (wea k)))), (s0, .inr (4, [.ref s1, .ref s2, .int (nI old), .int (nI kep), .int (nI evr)])), (s1, .inl (cyI, 40, .inl (fun k => nI (pts k)))), (s2, .inl (cyD, 40, .inr (.inr (.inr (.inl clk))))), (p0, .inr (7, [.ref t0, .ref w0, .ref g0, .ref h0, .ref s0, .ref v0, .int (nI kn)])), (g0, .inr (3, [.ref g1, .ref g2, .ref g3, .ref g4, .ref g5, .int (nI cnt)])), (g2, .inl (cyZ, 24, .inl (fun k => xb (bro k)))), (h0, .inr (2, [.ref h1, .ref h2])), (h1, .inl (cyJ, 72, .inr (.inl plc))), (w0, .inr (6, [.ref g0, .ref h0, .ref s0, .int (nI wnd), .int (nI gov), .int (nI plo), .int (nI shf), .int (nI stp), .int (nI buz), .int (nI wor), .double cks])), (q_22, .inr (0, [.ref q_21, .int (nI 0), .int (nI 0), .int (nI 0)])), (q_21, .inl (cyB, cnt, .inl (txF (fun tn => sgF bro plc shf tn plo) cnt)))]) (hS : va_S A s.heap H locs) (ls : Array Slot) (hl : lv_has ls 11 [(7, .int (nI i_26)), (6, .ref q_22), (5, .int (nI plo)), (0, .ref p0), (1, .int (nI cnt))]), W p l e _ s m _ below meth c H locs 4 40 _ (F0 m 291 ls [])) (cnt - 0) 0 (by omega) _ _ hP hD hS _ (lv_sub hl [0, 1, 2, 4, 5] rfl)
      clear hl hP hS hD
      intro n_25
      induction n_25 with
      | zero =>
        intro i_26 hi_27 H locs hP hD hS ls hl
        have hw9 := hw5 ((shf * 24 + i_26) * 64 + plo)
        refine lv_iload hx hb dL_areWell_291 (lv_at hl 0 rfl) ?_
        refine lv_iload_n hx hb dL_areWell_293 rfl (lv_at hl 4 rfl) ?_
        refine xc_ge (tgt := 379) hx hb dL_areWell_294 (by decide) (by omega) (by omega) (fun c_30 => ?_) (fun c_30 => by omega)
        refine lv_iconst (v := nI 1) hx hb dL_areWell_379 (by decide) ?_
        have hP9 := xW_sub (w1 := [(p0, .inr (7, [.ref t0, .ref w0, .ref g0, .ref h0, .ref s0, .ref v0, .int (nI kn)])), (t0, .inr (5, [.ref t1, .ref t2, .int (nI tcn)])), (w0, .inr (6, [.ref g0, .ref h0, .ref s0, .int (nI wnd), .int (nI gov), .int (nI plo), .int (nI shf), .int (nI stp), .int (nI buz), .int (nI wor), .double cks])), (g0, .inr (3, [.ref g1, .ref g2, .ref g3, .ref g4, .ref g5, .int (nI cnt)])), (g1, .inl (cyI, 24, .inl (fun k => nI (pit k)))), (g2, .inl (cyZ, 24, .inl (fun k => xb (bro k)))), (g3, .inl (cyI, 24, .inl (fun k => nI (scr k)))), (g4, .inl (cyI, 24, .inl (fun k => nI (plu k)))), (g5, .inl (cyI, 24, .inl (fun k => nI (las k)))), (h0, .inr (2, [.ref h1, .ref h2])), (h1, .inl (cyJ, 72, .inr (.inl plc))), (h2, .inl (cyI, 4608, .inl (fun k => nI (wea k)))), (s0, .inr (4, [.ref s1, .ref s2, .int (nI old), .int (nI kep), .int (nI evr)])), (s1, .inl (cyI, 40, .inl (fun k => nI (pts k)))), (s2, .inl (cyD, 40, .inr (.inr (.inr (.inl clk)))))]) hP [9, 0, 14, 10, 1, 11, 2, 3, 4, 12, 13, 5, 6, 7, 8] rfl
        have hD9 := hD.sub (ws' := [(p0, .inr (7, [.ref t0, .ref w0, .ref g0, .ref h0, .ref s0, .ref v0, .int (nI kn)])), (t0, .inr (5, [.ref t1, .ref t2, .int (nI tcn)])), (w0, .inr (6, [.ref g0, .ref h0, .ref s0, .int (nI wnd), .int (nI gov), .int (nI plo), .int (nI shf), .int (nI stp), .int (nI buz), .int (nI wor), .double cks])), (g0, .inr (3, [.ref g1, .ref g2, .ref g3, .ref g4, .ref g5, .int (nI cnt)])), (g1, .inl (cyI, 24, .inl (fun k => nI (pit k)))), (g2, .inl (cyZ, 24, .inl (fun k => xb (bro k)))), (g3, .inl (cyI, 24, .inl (fun k => nI (scr k)))), (g4, .inl (cyI, 24, .inl (fun k => nI (plu k)))), (g5, .inl (cyI, 24, .inl (fun k => nI (las k)))), (h0, .inr (2, [.ref h1, .ref h2])), (h1, .inl (cyJ, 72, .inr (.inl plc))), (h2, .inl (cyI, 4608, .inl (fun k => nI (wea k)))), (s0, .inr (4, [.ref s1, .ref s2, .int (nI old), .int (nI kep), .int (nI evr)])), (s1, .inl (cyI, 40, .inl (fun k => nI (pts k)))), (s2, .inl (cyD, 40, .inr (.inr (.inr (.inl clk)))))]) [9, 0, 14, 10, 1, 11, 2, 3, 4, 12, 13, 5, 6, 7, 8] (by decide) rfl
        exact W.zret (v := nI 1) (ty := .boolean) hx hb hr rfl (fun t ht hW => ⟨⟨nI 1, (), rfl, rfl, ⟨by rw [ht]; exact hP9, hD9⟩⟩, hS.F ht⟩) hS.2.2 dL_areWell_380
      | succ n_25 ih_28 =>
        intro i_26 hi_27 H locs hP hD hS ls hl
        have hw9 := hw5 ((shf * 24 + i_26) * 64 + plo)
        refine lv_iload hx hb dL_areWell_291 (lv_at hl 0 rfl) ?_
        refine lv_iload_n hx hb dL_areWell_293 rfl (lv_at hl 4 rfl) ?_
        refine xc_ge (tgt := 379) hx hb dL_areWell_294 (by decide) (by omega) (by omega) (fun c_31 => by omega) (fun c_31 => ?_)
        rcases Bool.eq_false_or_eq_true (bro i_26) with hb_32 | hb_32
        · rcases Bool.eq_false_or_eq_true (bitL (plc (shf * 24 + i_26)) plo) with hq_33 | hq_33
          · refine lv_aload_n hx hb dL_areWell_297 rfl (lv_at hl 3 rfl) ?_
            refine lv_iload hx hb dL_areWell_298 (lv_at hl 0 rfl) ?_
            refine lv_aload_n hx hb dL_areWell_300 rfl (lv_at hl 3 rfl) ?_
            refine lv_iconst (v := nI 5) hx hb dL_areWell_301 (by decide) ?_
            refine xv_i (As := [.int (nI 5)]) (rest := [.int (nI i_26), .ref p0]) (q := (RX5, TX5, 7)) ⟨hx, hb, hml, hown, hts⟩ (kX5_many l dC dI cyI cyZ cyJ cyD cyB p0 g0 g2 t0 h0 h1 w0 s0 v0 kn g1 g3 g4 g5 cnt bro t1 t2 tcn h2 plc wnd gov plo shf stp buz wor cks s1 s2 old kep evr 5 (by omega) (by omega)) (cwV 1 hts gL_areWell_X5_many rfl rfl rfl (by decide +kernel) ⟨Nat.le_of_ble_eq_true rfl, Nat.le_of_ble_eq_true rfl⟩) hK hP hS [9, 10, 11, 0, 12, 13, 14, 6] rfl 9 7 rfl rfl rfl hl.1 rfl (Nat.le_of_ble_eq_true rfl) dL_areWell_302 ⟨Nat.le_of_ble_eq_true rfl, Nat.le_of_ble_eq_true rfl⟩ (fun r_34 H locs hw hP hS => ?_)
            have hw : r_34 = mnF cnt bro tcn plc plo shf wnd gov stp evr kep buz wor kn cks 5 := hw
            subst hw
            rw [show mnF cnt bro tcn plc plo shf wnd gov stp evr kep buz wor kn cks 5 = nI shf from rfl]
            refine lv_iload hx hb dL_areWell_305 (lv_at hl 2 rfl) ?_
            refine xv_i (As := [.int (nI i_26), .int (nI shf), .int (nI plo)]) (rest := []) (q := (RX5, TX5, 7)) ⟨hx, hb, hml, hown, hts⟩ (kX5_wear l dC dI cyI cyZ cyJ cyD cyB p0 g0 h0 h1 h2 t0 w0 s0 v0 kn g1 g2 g3 g4 g5 cnt plc wea i_26 shf plo (by omega) (by omega) (by omega) (by omega)) (cwV 3 hts gL_areWell_X5_wear rfl rfl rfl (by decide +kernel) ⟨Nat.le_of_ble_eq_true rfl, Nat.le_of_ble_eq_true rfl⟩) hK hP hS [9, 10, 12, 13, 5] rfl 9 7 rfl rfl rfl hl.1 rfl (Nat.le_of_ble_eq_true rfl) dL_areWell_307 ⟨Nat.le_of_ble_eq_true rfl, Nat.le_of_ble_eq_true rfl⟩ (fun r_35 H locs hw hP hS => ?_)
            have hw : r_35 = if bitL (plc (shf * 24 + i_26)) plo then nI (wea ((shf * 24 + i_26) * 64 + plo)) else (-1) := hw
            subst hw
            rw [if_pos hq_33]
            refine xz_lt (tgt := 317) hx hb dL_areWell_310 (by decide) (by omega) ?_
            refine lv_iconst (v := nI 1) hx hb dL_areWell_313 (by decide) ?_
            refine lv_goto (tgt := 318) hx hb dL_areWell_314 (by decide) ?_
            refine lv_istore (lv' := [(8, .int (nI 1)), (7, .int (nI i_26)), (6, .ref q_22), (5, .int (nI plo)), (0, .ref p0), (1, .int (nI cnt))]) hx hb dL_areWell_318 hl (by decide) rfl (fun ls hl => ?_)
            refine lv_aload hx hb dL_areWell_320 (lv_at hl 2 rfl) ?_
            refine lv_iload hx hb dL_areWell_322 (lv_at hl 1 rfl) ?_
            refine xrP_i (va_runV (As := [.int (nI i_26)]) (rest := []) ⟨hx, hb, hml, hown, hts⟩ (kJ0_charAt_5068e l dC dI cyI cyZ cyJ cyD cyB q_22 q_21 cnt (txF (fun tn => sgF bro plc shf tn plo) cnt) i_26 (sgF bro plc shf i_26 plo) (by omega) (sgF_lt _ _ _ _ _) (by unfold txF; rw [if_pos (by omega)])) (cwV 1 hts gL_areWell_J0_charAt_5068e rfl rfl rfl (by decide +kernel) ⟨Nat.le_of_ble_eq_true rfl, Nat.le_of_ble_eq_true rfl⟩) ⟨(xY_blind xP_blind), va_recv (q := (RJ0, TJ0, 4)) hK hP (q0 := 15) (ci := 0) rfl rfl, fun U hU hW => ⟨rfl, ⟨by rw [hU]; exact xW_sub hP [15, 16] rfl, va_K.moved hW.alike hK⟩, xY_go hZ hS hU hW (fun q _ h => h.elim)⟩⟩ rfl rfl hl.1 rfl (lv_room (Nat.le_of_ble_eq_true rfl)) dL_areWell_324 ⟨Nat.le_of_ble_eq_true rfl, Nat.le_of_ble_eq_true rfl⟩) hP hS (fun r_37 H locs hw hP hS => ?_)
            have hw : r_37 = nI (sgF bro plc shf i_26 plo) := hw
            subst hw
            rw [show sgF bro plc shf i_26 plo = 120 from by unfold sgF; rw [hb_32]; rfl]
            refine lv_aload_n hx hb dL_areWell_327 rfl (lv_at hl 4 rfl) ?_
            refine lv_iload hx hb dL_areWell_328 (lv_at hl 1 rfl) ?_
            refine lv_iconst (v := nI 1) hx hb dL_areWell_330 (by decide) ?_
            refine xv_i (As := [.int (nI i_26), .int (nI 1)]) (rest := [.int (nI 120)]) (q := (RX5, TX5, 7)) ⟨hx, hb, hml, hown, hts⟩ (kX5_ofTooth l dC dI cyI cyZ cyJ cyD cyB p0 g0 g1 g2 g3 g4 h0 h1 t0 w0 s0 v0 kn g5 cnt pit bro scr plu h2 plc i_26 1 (by omega) (by omega) (by omega)) (cwV 2 hts gL_areWell_X5_ofTooth rfl rfl rfl (by decide +kernel) ⟨Nat.le_of_ble_eq_true rfl, Nat.le_of_ble_eq_true rfl⟩) hK hP hS [9, 10, 1, 11, 2, 3, 12, 13] rfl 9 7 rfl rfl rfl hl.1 rfl (Nat.le_of_ble_eq_true rfl) dL_areWell_331 ⟨Nat.le_of_ble_eq_true rfl, Nat.le_of_ble_eq_true rfl⟩ (fun r_38 H locs hw hP hS => ?_)
            have hw : r_38 = nI (otF pit bro scr plu plc i_26 1) := hw
            subst hw
            rw [show otF pit bro scr plu plc i_26 1 = (if bro i_26 then 1 else 0) from rfl]
            rw [show (if bro i_26 then 1 else 0) = 1 from by rw [hb_32]; rfl]
            refine lv_iconst (v := nI 1) hx hb dL_areWell_334 (by decide) ?_
            refine xc_ne (tgt := 343) hx hb dL_areWell_335 (by decide) (by omega) (by omega) (fun c_39 => by omega) (fun c_39 => ?_)
            refine lv_bipush (v := nI 120) hx hb dL_areWell_338 (by decide) ?_
            refine lv_goto (tgt := 355) hx hb dL_areWell_340 (by decide) ?_
            refine xc_ne (tgt := 371) hx hb dL_areWell_355 (by decide) (by omega) (by omega) (fun c_40 => by omega) (fun c_40 => ?_)
            refine lv_aload_n hx hb dL_areWell_358 rfl (lv_at hl 4 rfl) ?_
            refine lv_iload hx hb dL_areWell_359 (lv_at hl 1 rfl) ?_
            refine lv_iconst (v := nI 0) hx hb dL_areWell_361 (by decide) ?_
            refine lv_iload hx hb dL_areWell_362 (lv_at hl 3 rfl) ?_
            refine xv_i (As := [.int (nI i_26), .int (nI 0), .int (nI plo)]) (rest := []) (q := (RX5, TX5, 7)) ⟨hx, hb, hml, hown, hts⟩ (kX5_wear l dC dI cyI cyZ cyJ cyD cyB p0 g0 h0 h1 h2 t0 w0 s0 v0 kn g1 g2 g3 g4 g5 cnt plc wea i_26 0 plo (by omega) (by omega) (by omega) (by omega)) (cwV 3 hts gL_areWell_X5_wear rfl rfl rfl (by decide +kernel) ⟨Nat.le_of_ble_eq_true rfl, Nat.le_of_ble_eq_true rfl⟩) hK hP hS [9, 10, 12, 13, 5] rfl 9 7 rfl rfl rfl hl.1 rfl (Nat.le_of_ble_eq_true rfl) dL_areWell_364 ⟨Nat.le_of_ble_eq_true rfl, Nat.le_of_ble_eq_true rfl⟩ (fun r_41 H locs hw hP hS => ?_)
            have hw : r_41 = if bitL (plc (0 * 24 + i_26)) plo then nI (wea ((0 * 24 + i_26) * 64 + plo)) else (-1) := hw
            subst hw
            refine lv_iconst (v := nI 4) hx hb dL_areWell_367 (by decide) ?_
            refine lv_icmp_le (tgt := 373) hx hb dL_areWell_368 (by decide) (fun c_42 => ?_) (fun c_42 => absurd (we_le (fun h => hw4 0 i_26 plo (by omega) (by omega) hplo h)) c_42)
            refine xi_inc (k := 1) (lv' := [(7, .int (nI (i_26 + 1))), (8, .int (nI 1)), (6, .ref q_22), (5, .int (nI plo)), (0, .ref p0), (1, .int (nI cnt))]) hx hb dL_areWell_373 hl rfl (by decide) rfl (fun ls hl => ?_)
            refine lv_goto (tgt := 291) hx hb dL_areWell_376 (by decide) ?_
            exact ih_28 (i_26 + 1) (by omega)  _ _ hP hD hS _ (lv_sub hl [0, 2, 3, 4, 5] rfl)
          · refine lv_aload_n hx hb dL_areWell_297 rfl (lv_at hl 3 rfl) ?_
            refine lv_iload hx hb dL_areWell_298 (lv_at hl 0 rfl) ?_
            refine lv_aload_n hx hb dL_areWell_300 rfl (lv_at hl 3 rfl) ?_
            refine lv_iconst (v := nI 5) hx hb dL_areWell_301 (by decide) ?_
            refine xv_i (As := [.int (nI 5)]) (rest := [.int (nI i_26), .ref p0]) (q := (RX5, TX5, 7)) ⟨hx, hb, hml, hown, hts⟩ (kX5_many l dC dI cyI cyZ cyJ cyD cyB p0 g0 g2 t0 h0 h1 w0 s0 v0 kn g1 g3 g4 g5 cnt bro t1 t2 tcn h2 plc wnd gov plo shf stp buz wor cks s1 s2 old kep evr 5 (by omega) (by omega)) (cwV 1 hts gL_areWell_X5_many rfl rfl rfl (by decide +kernel) ⟨Nat.le_of_ble_eq_true rfl, Nat.le_of_ble_eq_true rfl⟩) hK hP hS [9, 10, 11, 0, 12, 13, 14, 6] rfl 9 7 rfl rfl rfl hl.1 rfl (Nat.le_of_ble_eq_true rfl) dL_areWell_302 ⟨Nat.le_of_ble_eq_true rfl, Nat.le_of_ble_eq_true rfl⟩ (fun r_43 H locs hw hP hS => ?_)
            have hw : r_43 = mnF cnt bro tcn plc plo shf wnd gov stp evr kep buz wor kn cks 5 := hw
            subst hw
            rw [show mnF cnt bro tcn plc plo shf wnd gov stp evr kep buz wor kn cks 5 = nI shf from rfl]
            refine lv_iload hx hb dL_areWell_305 (lv_at hl 2 rfl) ?_
            refine xv_i (As := [.int (nI i_26), .int (nI shf), .int (nI plo)]) (rest := []) (q := (RX5, TX5, 7)) ⟨hx, hb, hml, hown, hts⟩ (kX5_wear l dC dI cyI cyZ cyJ cyD cyB p0 g0 h0 h1 h2 t0 w0 s0 v0 kn g1 g2 g3 g4 g5 cnt plc wea i_26 shf plo (by omega) (by omega) (by omega) (by omega)) (cwV 3 hts gL_areWell_X5_wear rfl rfl rfl (by decide +kernel) ⟨Nat.le_of_ble_eq_true rfl, Nat.le_of_ble_eq_true rfl⟩) hK hP hS [9, 10, 12, 13, 5] rfl 9 7 rfl rfl rfl hl.1 rfl (Nat.le_of_ble_eq_true rfl) dL_areWell_307 ⟨Nat.le_of_ble_eq_true rfl, Nat.le_of_ble_eq_true rfl⟩ (fun r_44 H locs hw hP hS => ?_)
            have hw : r_44 = if bitL (plc (shf * 24 + i_26)) plo then nI (wea ((shf * 24 + i_26) * 64 + plo)) else (-1) := hw
            subst hw
            rw [if_neg (show ¬ bitL (plc (shf * 24 + i_26)) plo = true from by rw [hq_33]; decide)]
            refine lv_if_lt (tgt := 317) hx hb dL_areWell_310 (by decide) (fun c_45 => ?_) (fun c_45 => absurd (by decide) c_45)
            refine lv_iconst (v := nI 0) hx hb dL_areWell_317 (by decide) ?_
            refine lv_istore (lv' := [(8, .int (nI 0)), (7, .int (nI i_26)), (6, .ref q_22), (5, .int (nI plo)), (0, .ref p0), (1, .int (nI cnt))]) hx hb dL_areWell_318 hl (by decide) rfl (fun ls hl => ?_)
            refine lv_aload hx hb dL_areWell_320 (lv_at hl 2 rfl) ?_
            refine lv_iload hx hb dL_areWell_322 (lv_at hl 1 rfl) ?_
            refine xrP_i (va_runV (As := [.int (nI i_26)]) (rest := []) ⟨hx, hb, hml, hown, hts⟩ (kJ0_charAt_5068e l dC dI cyI cyZ cyJ cyD cyB q_22 q_21 cnt (txF (fun tn => sgF bro plc shf tn plo) cnt) i_26 (sgF bro plc shf i_26 plo) (by omega) (sgF_lt _ _ _ _ _) (by unfold txF; rw [if_pos (by omega)])) (cwV 1 hts gL_areWell_J0_charAt_5068e rfl rfl rfl (by decide +kernel) ⟨Nat.le_of_ble_eq_true rfl, Nat.le_of_ble_eq_true rfl⟩) ⟨(xY_blind xP_blind), va_recv (q := (RJ0, TJ0, 4)) hK hP (q0 := 15) (ci := 0) rfl rfl, fun U hU hW => ⟨rfl, ⟨by rw [hU]; exact xW_sub hP [15, 16] rfl, va_K.moved hW.alike hK⟩, xY_go hZ hS hU hW (fun q _ h => h.elim)⟩⟩ rfl rfl hl.1 rfl (lv_room (Nat.le_of_ble_eq_true rfl)) dL_areWell_324 ⟨Nat.le_of_ble_eq_true rfl, Nat.le_of_ble_eq_true rfl⟩) hP hS (fun r_46 H locs hw hP hS => ?_)
            have hw : r_46 = nI (sgF bro plc shf i_26 plo) := hw
            subst hw
            rw [show sgF bro plc shf i_26 plo = 120 from by unfold sgF; rw [hb_32]; rfl]
            refine lv_aload_n hx hb dL_areWell_327 rfl (lv_at hl 4 rfl) ?_
            refine lv_iload hx hb dL_areWell_328 (lv_at hl 1 rfl) ?_
            refine lv_iconst (v := nI 1) hx hb dL_areWell_330 (by decide) ?_
            refine xv_i (As := [.int (nI i_26), .int (nI 1)]) (rest := [.int (nI 120)]) (q := (RX5, TX5, 7)) ⟨hx, hb, hml, hown, hts⟩ (kX5_ofTooth l dC dI cyI cyZ cyJ cyD cyB p0 g0 g1 g2 g3 g4 h0 h1 t0 w0 s0 v0 kn g5 cnt pit bro scr plu h2 plc i_26 1 (by omega) (by omega) (by omega)) (cwV 2 hts gL_areWell_X5_ofTooth rfl rfl rfl (by decide +kernel) ⟨Nat.le_of_ble_eq_true rfl, Nat.le_of_ble_eq_true rfl⟩) hK hP hS [9, 10, 1, 11, 2, 3, 12, 13] rfl 9 7 rfl rfl rfl hl.1 rfl (Nat.le_of_ble_eq_true rfl) dL_areWell_331 ⟨Nat.le_of_ble_eq_true rfl, Nat.le_of_ble_eq_true rfl⟩ (fun r_47 H locs hw hP hS => ?_)
            have hw : r_47 = nI (otF pit bro scr plu plc i_26 1) := hw
            subst hw
            rw [show otF pit bro scr plu plc i_26 1 = (if bro i_26 then 1 else 0) from rfl]
            rw [show (if bro i_26 then 1 else 0) = 1 from by rw [hb_32]; rfl]
            refine lv_iconst (v := nI 1) hx hb dL_areWell_334 (by decide) ?_
            refine xc_ne (tgt := 343) hx hb dL_areWell_335 (by decide) (by omega) (by omega) (fun c_48 => by omega) (fun c_48 => ?_)
            refine lv_bipush (v := nI 120) hx hb dL_areWell_338 (by decide) ?_
            refine lv_goto (tgt := 355) hx hb dL_areWell_340 (by decide) ?_
            refine xc_ne (tgt := 371) hx hb dL_areWell_355 (by decide) (by omega) (by omega) (fun c_49 => by omega) (fun c_49 => ?_)
            refine lv_aload_n hx hb dL_areWell_358 rfl (lv_at hl 4 rfl) ?_
            refine lv_iload hx hb dL_areWell_359 (lv_at hl 1 rfl) ?_
            refine lv_iconst (v := nI 0) hx hb dL_areWell_361 (by decide) ?_
            refine lv_iload hx hb dL_areWell_362 (lv_at hl 3 rfl) ?_
            refine xv_i (As := [.int (nI i_26), .int (nI 0), .int (nI plo)]) (rest := []) (q := (RX5, TX5, 7)) ⟨hx, hb, hml, hown, hts⟩ (kX5_wear l dC dI cyI cyZ cyJ cyD cyB p0 g0 h0 h1 h2 t0 w0 s0 v0 kn g1 g2 g3 g4 g5 cnt plc wea i_26 0 plo (by omega) (by omega) (by omega) (by omega)) (cwV 3 hts gL_areWell_X5_wear rfl rfl rfl (by decide +kernel) ⟨Nat.le_of_ble_eq_true rfl, Nat.le_of_ble_eq_true rfl⟩) hK hP hS [9, 10, 12, 13, 5] rfl 9 7 rfl rfl rfl hl.1 rfl (Nat.le_of_ble_eq_true rfl) dL_areWell_364 ⟨Nat.le_of_ble_eq_true rfl, Nat.le_of_ble_eq_true rfl⟩ (fun r_50 H locs hw hP hS => ?_)
            have hw : r_50 = if bitL (plc (0 * 24 + i_26)) plo then nI (wea ((0 * 24 + i_26) * 64 + plo)) else (-1) := hw
            subst hw
            refine lv_iconst (v := nI 4) hx hb dL_areWell_367 (by decide) ?_
            refine lv_icmp_le (tgt := 373) hx hb dL_areWell_368 (by decide) (fun c_51 => ?_) (fun c_51 => absurd (we_le (fun h => hw4 0 i_26 plo (by omega) (by omega) hplo h)) c_51)
            refine xi_inc (k := 1) (lv' := [(7, .int (nI (i_26 + 1))), (8, .int (nI 0)), (6, .ref q_22), (5, .int (nI plo)), (0, .ref p0), (1, .int (nI cnt))]) hx hb dL_areWell_373 hl rfl (by decide) rfl (fun ls hl => ?_)
            refine lv_goto (tgt := 291) hx hb dL_areWell_376 (by decide) ?_
            exact ih_28 (i_26 + 1) (by omega)  _ _ hP hD hS _ (lv_sub hl [0, 2, 3, 4, 5] rfl)
        · rcases Bool.eq_false_or_eq_true (bitL (plc (shf * 24 + i_26)) plo) with hq_52 | hq_52
          · refine lv_aload_n hx hb dL_areWell_297 rfl (lv_at hl 3 rfl) ?_
            refine lv_iload hx hb dL_areWell_298 (lv_at hl 0 rfl) ?_
            refine lv_aload_n hx hb dL_areWell_300 rfl (lv_at hl 3 rfl) ?_
            refine lv_iconst (v := nI 5) hx hb dL_areWell_301 (by decide) ?_
            refine xv_i (As := [.int (nI 5)]) (rest := [.int (nI i_26), .ref p0]) (q := (RX5, TX5, 7)) ⟨hx, hb, hml, hown, hts⟩ (kX5_many l dC dI cyI cyZ cyJ cyD cyB p0 g0 g2 t0 h0 h1 w0 s0 v0 kn g1 g3 g4 g5 cnt bro t1 t2 tcn h2 plc wnd gov plo shf stp buz wor cks s1 s2 old kep evr 5 (by omega) (by omega)) (cwV 1 hts gL_areWell_X5_many rfl rfl rfl (by decide +kernel) ⟨Nat.le_of_ble_eq_true rfl, Nat.le_of_ble_eq_true rfl⟩) hK hP hS [9, 10, 11, 0, 12, 13, 14, 6] rfl 9 7 rfl rfl rfl hl.1 rfl (Nat.le_of_ble_eq_true rfl) dL_areWell_302 ⟨Nat.le_of_ble_eq_true rfl, Nat.le_of_ble_eq_true rfl⟩ (fun r_53 H locs hw hP hS => ?_)
            have hw : r_53 = mnF cnt bro tcn plc plo shf wnd gov stp evr kep buz wor kn cks 5 := hw
            subst hw
            rw [show mnF cnt bro tcn plc plo shf wnd gov stp evr kep buz wor kn cks 5 = nI shf from rfl]
            refine lv_iload hx hb dL_areWell_305 (lv_at hl 2 rfl) ?_
            refine xv_i (As := [.int (nI i_26), .int (nI shf), .int (nI plo)]) (rest := []) (q := (RX5, TX5, 7)) ⟨hx, hb, hml, hown, hts⟩ (kX5_wear l dC dI cyI cyZ cyJ cyD cyB p0 g0 h0 h1 h2 t0 w0 s0 v0 kn g1 g2 g3 g4 g5 cnt plc wea i_26 shf plo (by omega) (by omega) (by omega) (by omega)) (cwV 3 hts gL_areWell_X5_wear rfl rfl rfl (by decide +kernel) ⟨Nat.le_of_ble_eq_true rfl, Nat.le_of_ble_eq_true rfl⟩) hK hP hS [9, 10, 12, 13, 5] rfl 9 7 rfl rfl rfl hl.1 rfl (Nat.le_of_ble_eq_true rfl) dL_areWell_307 ⟨Nat.le_of_ble_eq_true rfl, Nat.le_of_ble_eq_true rfl⟩ (fun r_54 H locs hw hP hS => ?_)
            have hw : r_54 = if bitL (plc (shf * 24 + i_26)) plo then nI (wea ((shf * 24 + i_26) * 64 + plo)) else (-1) := hw
            subst hw
            rw [if_pos hq_52]
            refine xz_lt (tgt := 317) hx hb dL_areWell_310 (by decide) (by omega) ?_
            refine lv_iconst (v := nI 1) hx hb dL_areWell_313 (by decide) ?_
            refine lv_goto (tgt := 318) hx hb dL_areWell_314 (by decide) ?_
            refine lv_istore (lv' := [(8, .int (nI 1)), (7, .int (nI i_26)), (6, .ref q_22), (5, .int (nI plo)), (0, .ref p0), (1, .int (nI cnt))]) hx hb dL_areWell_318 hl (by decide) rfl (fun ls hl => ?_)
            refine lv_aload hx hb dL_areWell_320 (lv_at hl 2 rfl) ?_
            refine lv_iload hx hb dL_areWell_322 (lv_at hl 1 rfl) ?_
            refine xrP_i (va_runV (As := [.int (nI i_26)]) (rest := []) ⟨hx, hb, hml, hown, hts⟩ (kJ0_charAt_5068e l dC dI cyI cyZ cyJ cyD cyB q_22 q_21 cnt (txF (fun tn => sgF bro plc shf tn plo) cnt) i_26 (sgF bro plc shf i_26 plo) (by omega) (sgF_lt _ _ _ _ _) (by unfold txF; rw [if_pos (by omega)])) (cwV 1 hts gL_areWell_J0_charAt_5068e rfl rfl rfl (by decide +kernel) ⟨Nat.le_of_ble_eq_true rfl, Nat.le_of_ble_eq_true rfl⟩) ⟨(xY_blind xP_blind), va_recv (q := (RJ0, TJ0, 4)) hK hP (q0 := 15) (ci := 0) rfl rfl, fun U hU hW => ⟨rfl, ⟨by rw [hU]; exact xW_sub hP [15, 16] rfl, va_K.moved hW.alike hK⟩, xY_go hZ hS hU hW (fun q _ h => h.elim)⟩⟩ rfl rfl hl.1 rfl (lv_room (Nat.le_of_ble_eq_true rfl)) dL_areWell_324 ⟨Nat.le_of_ble_eq_true rfl, Nat.le_of_ble_eq_true rfl⟩) hP hS (fun r_56 H locs hw hP hS => ?_)
            have hw : r_56 = nI (sgF bro plc shf i_26 plo) := hw
            subst hw
            rw [show sgF bro plc shf i_26 plo = 124 from by unfold sgF; rw [hb_32, hq_52]; rfl]
            refine lv_aload_n hx hb dL_areWell_327 rfl (lv_at hl 4 rfl) ?_
            refine lv_iload hx hb dL_areWell_328 (lv_at hl 1 rfl) ?_
            refine lv_iconst (v := nI 1) hx hb dL_areWell_330 (by decide) ?_
            refine xv_i (As := [.int (nI i_26), .int (nI 1)]) (rest := [.int (nI 124)]) (q := (RX5, TX5, 7)) ⟨hx, hb, hml, hown, hts⟩ (kX5_ofTooth l dC dI cyI cyZ cyJ cyD cyB p0 g0 g1 g2 g3 g4 h0 h1 t0 w0 s0 v0 kn g5 cnt pit bro scr plu h2 plc i_26 1 (by omega) (by omega) (by omega)) (cwV 2 hts gL_areWell_X5_ofTooth rfl rfl rfl (by decide +kernel) ⟨Nat.le_of_ble_eq_true rfl, Nat.le_of_ble_eq_true rfl⟩) hK hP hS [9, 10, 1, 11, 2, 3, 12, 13] rfl 9 7 rfl rfl rfl hl.1 rfl (Nat.le_of_ble_eq_true rfl) dL_areWell_331 ⟨Nat.le_of_ble_eq_true rfl, Nat.le_of_ble_eq_true rfl⟩ (fun r_57 H locs hw hP hS => ?_)
            have hw : r_57 = nI (otF pit bro scr plu plc i_26 1) := hw
            subst hw
            rw [show otF pit bro scr plu plc i_26 1 = (if bro i_26 then 1 else 0) from rfl]
            rw [show (if bro i_26 then 1 else 0) = 0 from by rw [hb_32]; rfl]
            refine lv_iconst (v := nI 1) hx hb dL_areWell_334 (by decide) ?_
            refine xc_ne (tgt := 343) hx hb dL_areWell_335 (by decide) (by omega) (by omega) (fun c_58 => ?_) (fun c_58 => by omega)
            refine lv_iload hx hb dL_areWell_343 (lv_at hl 0 rfl) ?_
            refine xz_eq (tgt := 353) hx hb dL_areWell_345 (by decide) (by omega) (fun c_59 => by omega) (fun c_59 => ?_)
            refine lv_bipush (v := nI 124) hx hb dL_areWell_348 (by decide) ?_
            refine lv_goto (tgt := 355) hx hb dL_areWell_350 (by decide) ?_
            refine xc_ne (tgt := 371) hx hb dL_areWell_355 (by decide) (by omega) (by omega) (fun c_60 => by omega) (fun c_60 => ?_)
            refine lv_aload_n hx hb dL_areWell_358 rfl (lv_at hl 4 rfl) ?_
            refine lv_iload hx hb dL_areWell_359 (lv_at hl 1 rfl) ?_
            refine lv_iconst (v := nI 0) hx hb dL_areWell_361 (by decide) ?_
            refine lv_iload hx hb dL_areWell_362 (lv_at hl 3 rfl) ?_
            refine xv_i (As := [.int (nI i_26), .int (nI 0), .int (nI plo)]) (rest := []) (q := (RX5, TX5, 7)) ⟨hx, hb, hml, hown, hts⟩ (kX5_wear l dC dI cyI cyZ cyJ cyD cyB p0 g0 h0 h1 h2 t0 w0 s0 v0 kn g1 g2 g3 g4 g5 cnt plc wea i_26 0 plo (by omega) (by omega) (by omega) (by omega)) (cwV 3 hts gL_areWell_X5_wear rfl rfl rfl (by decide +kernel) ⟨Nat.le_of_ble_eq_true rfl, Nat.le_of_ble_eq_true rfl⟩) hK hP hS [9, 10, 12, 13, 5] rfl 9 7 rfl rfl rfl hl.1 rfl (Nat.le_of_ble_eq_true rfl) dL_areWell_364 ⟨Nat.le_of_ble_eq_true rfl, Nat.le_of_ble_eq_true rfl⟩ (fun r_61 H locs hw hP hS => ?_)
            have hw : r_61 = if bitL (plc (0 * 24 + i_26)) plo then nI (wea ((0 * 24 + i_26) * 64 + plo)) else (-1) := hw
            subst hw
            refine lv_iconst (v := nI 4) hx hb dL_areWell_367 (by decide) ?_
            refine lv_icmp_le (tgt := 373) hx hb dL_areWell_368 (by decide) (fun c_62 => ?_) (fun c_62 => absurd (we_le (fun h => hw4 0 i_26 plo (by omega) (by omega) hplo h)) c_62)
            refine xi_inc (k := 1) (lv' := [(7, .int (nI (i_26 + 1))), (8, .int (nI 1)), (6, .ref q_22), (5, .int (nI plo)), (0, .ref p0), (1, .int (nI cnt))]) hx hb dL_areWell_373 hl rfl (by decide) rfl (fun ls hl => ?_)
            refine lv_goto (tgt := 291) hx hb dL_areWell_376 (by decide) ?_
            exact ih_28 (i_26 + 1) (by omega)  _ _ hP hD hS _ (lv_sub hl [0, 2, 3, 4, 5] rfl)
          · refine lv_aload_n hx hb dL_areWell_297 rfl (lv_at hl 3 rfl) ?_
            refine lv_iload hx hb dL_areWell_298 (lv_at hl 0 rfl) ?_
            refine lv_aload_n hx hb dL_areWell_300 rfl (lv_at hl 3 rfl) ?_
            refine lv_iconst (v := nI 5) hx hb dL_areWell_301 (by decide) ?_
            refine xv_i (As := [.int (nI 5)]) (rest := [.int (nI i_26), .ref p0]) (q := (RX5, TX5, 7)) ⟨hx, hb, hml, hown, hts⟩ (kX5_many l dC dI cyI cyZ cyJ cyD cyB p0 g0 g2 t0 h0 h1 w0 s0 v0 kn g1 g3 g4 g5 cnt bro t1 t2 tcn h2 plc wnd gov plo shf stp buz wor cks s1 s2 old kep evr 5 (by omega) (by omega)) (cwV 1 hts gL_areWell_X5_many rfl rfl rfl (by decide +kernel) ⟨Nat.le_of_ble_eq_true rfl, Nat.le_of_ble_eq_true rfl⟩) hK hP hS [9, 10, 11, 0, 12, 13, 14, 6] rfl 9 7 rfl rfl rfl hl.1 rfl (Nat.le_of_ble_eq_true rfl) dL_areWell_302 ⟨Nat.le_of_ble_eq_true rfl, Nat.le_of_ble_eq_true rfl⟩ (fun r_63 H locs hw hP hS => ?_)
            have hw : r_63 = mnF cnt bro tcn plc plo shf wnd gov stp evr kep buz wor kn cks 5 := hw
            subst hw
            rw [show mnF cnt bro tcn plc plo shf wnd gov stp evr kep buz wor kn cks 5 = nI shf from rfl]
            refine lv_iload hx hb dL_areWell_305 (lv_at hl 2 rfl) ?_
            refine xv_i (As := [.int (nI i_26), .int (nI shf), .int (nI plo)]) (rest := []) (q := (RX5, TX5, 7)) ⟨hx, hb, hml, hown, hts⟩ (kX5_wear l dC dI cyI cyZ cyJ cyD cyB p0 g0 h0 h1 h2 t0 w0 s0 v0 kn g1 g2 g3 g4 g5 cnt plc wea i_26 shf plo (by omega) (by omega) (by omega) (by omega)) (cwV 3 hts gL_areWell_X5_wear rfl rfl rfl (by decide +kernel) ⟨Nat.le_of_ble_eq_true rfl, Nat.le_of_ble_eq_true rfl⟩) hK hP hS [9, 10, 12, 13, 5] rfl 9 7 rfl rfl rfl hl.1 rfl (Nat.le_of_ble_eq_true rfl) dL_areWell_307 ⟨Nat.le_of_ble_eq_true rfl, Nat.le_of_ble_eq_true rfl⟩ (fun r_64 H locs hw hP hS => ?_)
            have hw : r_64 = if bitL (plc (shf * 24 + i_26)) plo then nI (wea ((shf * 24 + i_26) * 64 + plo)) else (-1) := hw
            subst hw
            rw [if_neg (show ¬ bitL (plc (shf * 24 + i_26)) plo = true from by rw [hq_52]; decide)]
            refine lv_if_lt (tgt := 317) hx hb dL_areWell_310 (by decide) (fun c_65 => ?_) (fun c_65 => absurd (by decide) c_65)
            refine lv_iconst (v := nI 0) hx hb dL_areWell_317 (by decide) ?_
            refine lv_istore (lv' := [(8, .int (nI 0)), (7, .int (nI i_26)), (6, .ref q_22), (5, .int (nI plo)), (0, .ref p0), (1, .int (nI cnt))]) hx hb dL_areWell_318 hl (by decide) rfl (fun ls hl => ?_)
            refine lv_aload hx hb dL_areWell_320 (lv_at hl 2 rfl) ?_
            refine lv_iload hx hb dL_areWell_322 (lv_at hl 1 rfl) ?_
            refine xrP_i (va_runV (As := [.int (nI i_26)]) (rest := []) ⟨hx, hb, hml, hown, hts⟩ (kJ0_charAt_5068e l dC dI cyI cyZ cyJ cyD cyB q_22 q_21 cnt (txF (fun tn => sgF bro plc shf tn plo) cnt) i_26 (sgF bro plc shf i_26 plo) (by omega) (sgF_lt _ _ _ _ _) (by unfold txF; rw [if_pos (by omega)])) (cwV 1 hts gL_areWell_J0_charAt_5068e rfl rfl rfl (by decide +kernel) ⟨Nat.le_of_ble_eq_true rfl, Nat.le_of_ble_eq_true rfl⟩) ⟨(xY_blind xP_blind), va_recv (q := (RJ0, TJ0, 4)) hK hP (q0 := 15) (ci := 0) rfl rfl, fun U hU hW => ⟨rfl, ⟨by rw [hU]; exact xW_sub hP [15, 16] rfl, va_K.moved hW.alike hK⟩, xY_go hZ hS hU hW (fun q _ h => h.elim)⟩⟩ rfl rfl hl.1 rfl (lv_room (Nat.le_of_ble_eq_true rfl)) dL_areWell_324 ⟨Nat.le_of_ble_eq_true rfl, Nat.le_of_ble_eq_true rfl⟩) hP hS (fun r_66 H locs hw hP hS => ?_)
            have hw : r_66 = nI (sgF bro plc shf i_26 plo) := hw
            subst hw
            rw [show sgF bro plc shf i_26 plo = 46 from by unfold sgF; rw [hb_32, hq_52]; rfl]
            refine lv_aload_n hx hb dL_areWell_327 rfl (lv_at hl 4 rfl) ?_
            refine lv_iload hx hb dL_areWell_328 (lv_at hl 1 rfl) ?_
            refine lv_iconst (v := nI 1) hx hb dL_areWell_330 (by decide) ?_
            refine xv_i (As := [.int (nI i_26), .int (nI 1)]) (rest := [.int (nI 46)]) (q := (RX5, TX5, 7)) ⟨hx, hb, hml, hown, hts⟩ (kX5_ofTooth l dC dI cyI cyZ cyJ cyD cyB p0 g0 g1 g2 g3 g4 h0 h1 t0 w0 s0 v0 kn g5 cnt pit bro scr plu h2 plc i_26 1 (by omega) (by omega) (by omega)) (cwV 2 hts gL_areWell_X5_ofTooth rfl rfl rfl (by decide +kernel) ⟨Nat.le_of_ble_eq_true rfl, Nat.le_of_ble_eq_true rfl⟩) hK hP hS [9, 10, 1, 11, 2, 3, 12, 13] rfl 9 7 rfl rfl rfl hl.1 rfl (Nat.le_of_ble_eq_true rfl) dL_areWell_331 ⟨Nat.le_of_ble_eq_true rfl, Nat.le_of_ble_eq_true rfl⟩ (fun r_67 H locs hw hP hS => ?_)
            have hw : r_67 = nI (otF pit bro scr plu plc i_26 1) := hw
            subst hw
            rw [show otF pit bro scr plu plc i_26 1 = (if bro i_26 then 1 else 0) from rfl]
            rw [show (if bro i_26 then 1 else 0) = 0 from by rw [hb_32]; rfl]
            refine lv_iconst (v := nI 1) hx hb dL_areWell_334 (by decide) ?_
            refine xc_ne (tgt := 343) hx hb dL_areWell_335 (by decide) (by omega) (by omega) (fun c_68 => ?_) (fun c_68 => by omega)
            refine lv_iload hx hb dL_areWell_343 (lv_at hl 0 rfl) ?_
            refine xz_eq (tgt := 353) hx hb dL_areWell_345 (by decide) (by omega) (fun c_69 => ?_) (fun c_69 => by omega)
            refine lv_bipush (v := nI 46) hx hb dL_areWell_353 (by decide) ?_
            refine xc_ne (tgt := 371) hx hb dL_areWell_355 (by decide) (by omega) (by omega) (fun c_70 => by omega) (fun c_70 => ?_)
            refine lv_aload_n hx hb dL_areWell_358 rfl (lv_at hl 4 rfl) ?_
            refine lv_iload hx hb dL_areWell_359 (lv_at hl 1 rfl) ?_
            refine lv_iconst (v := nI 0) hx hb dL_areWell_361 (by decide) ?_
            refine lv_iload hx hb dL_areWell_362 (lv_at hl 3 rfl) ?_
            refine xv_i (As := [.int (nI i_26), .int (nI 0), .int (nI plo)]) (rest := []) (q := (RX5, TX5, 7)) ⟨hx, hb, hml, hown, hts⟩ (kX5_wear l dC dI cyI cyZ cyJ cyD cyB p0 g0 h0 h1 h2 t0 w0 s0 v0 kn g1 g2 g3 g4 g5 cnt plc wea i_26 0 plo (by omega) (by omega) (by omega) (by omega)) (cwV 3 hts gL_areWell_X5_wear rfl rfl rfl (by decide +kernel) ⟨Nat.le_of_ble_eq_true rfl, Nat.le_of_ble_eq_true rfl⟩) hK hP hS [9, 10, 12, 13, 5] rfl 9 7 rfl rfl rfl hl.1 rfl (Nat.le_of_ble_eq_true rfl) dL_areWell_364 ⟨Nat.le_of_ble_eq_true rfl, Nat.le_of_ble_eq_true rfl⟩ (fun r_71 H locs hw hP hS => ?_)
            have hw : r_71 = if bitL (plc (0 * 24 + i_26)) plo then nI (wea ((0 * 24 + i_26) * 64 + plo)) else (-1) := hw
            subst hw
            refine lv_iconst (v := nI 4) hx hb dL_areWell_367 (by decide) ?_
            refine lv_icmp_le (tgt := 373) hx hb dL_areWell_368 (by decide) (fun c_72 => ?_) (fun c_72 => absurd (we_le (fun h => hw4 0 i_26 plo (by omega) (by omega) hplo h)) c_72)
            refine xi_inc (k := 1) (lv' := [(7, .int (nI (i_26 + 1))), (8, .int (nI 0)), (6, .ref q_22), (5, .int (nI plo)), (0, .ref p0), (1, .int (nI cnt))]) hx hb dL_areWell_373 hl rfl (by decide) rfl (fun ls hl => ?_)
            refine lv_goto (tgt := 291) hx hb dL_areWell_376 (by decide) ?_
            exact ih_28 (i_26 + 1) (by omega)  _ _ hP hD hS _ (lv_sub hl [0, 2, 3, 4, 5] rfl)
    | succ n_14 ih_17 =>
      intro i_15 hi_16 hi1 H locs hP hD hS ls hl
      have hp9 := hpts ((old + i_15) % 40)
      refine lv_iload hx hb dL_areWell_220 (lv_at hl 0 rfl) ?_
      refine lv_iload hx hb dL_areWell_222 (lv_at hl 1 rfl) ?_
      refine xc_ge (tgt := 262) hx hb dL_areWell_224 (by decide) (by omega) (by omega) (fun c_73 => by omega) (fun c_73 => ?_)
      refine lv_aload_n hx hb dL_areWell_227 rfl (lv_at hl 2 rfl) ?_
      refine lv_iload hx hb dL_areWell_228 (lv_at hl 0 rfl) ?_
      refine xv_d (As := [.int (nI i_15)]) (rest := []) (q := (RX5, TX5, 7)) ⟨hx, hb, hml, hown, hts⟩ (kX5_when l dC dI cyI cyZ cyJ cyD cyB p0 s0 s2 t0 w0 g0 h0 v0 kn s1 old kep evr clk i_15 (by omega) (by omega) (by omega) (hcl _)) (cwV 1 hts gL_areWell_X5_when rfl rfl rfl (by decide +kernel) ⟨Nat.le_of_ble_eq_true rfl, Nat.le_of_ble_eq_true rfl⟩) hK hP hS [0, 12, 14] rfl 0 7 rfl rfl rfl hl.1 rfl (Nat.le_of_ble_eq_true rfl) dL_areWell_230 ⟨Nat.le_of_ble_eq_true rfl, Nat.le_of_ble_eq_true rfl⟩ (fun r_74 H locs hw hP hS => ?_)
      have hw : r_74 = whF (clk ((old + i_15) % 40)) := hw
      subst hw
      refine lv_aload_n hx hb dL_areWell_233 rfl (lv_at hl 2 rfl) ?_
      refine lv_iload hx hb dL_areWell_234 (lv_at hl 0 rfl) ?_
      refine lv_iconst (v := nI 1) hx hb dL_areWell_236 (by decide) ?_
      refine xi_sub hx hb dL_areWell_237 (by omega) ?_
      refine xv_d (As := [.int (nI (i_15 - 1))]) (rest := [.double (whF (clk ((old + i_15) % 40)))]) (q := (RX5, TX5, 7)) ⟨hx, hb, hml, hown, hts⟩ (kX5_when l dC dI cyI cyZ cyJ cyD cyB p0 s0 s2 t0 w0 g0 h0 v0 kn s1 old kep evr clk (i_15 - 1) (by omega) (by omega) (by omega) (hcl _)) (cwV 1 hts gL_areWell_X5_when rfl rfl rfl (by decide +kernel) ⟨Nat.le_of_ble_eq_true rfl, Nat.le_of_ble_eq_true rfl⟩) hK hP hS [0, 12, 14] rfl 0 7 rfl rfl rfl hl.1 rfl (Nat.le_of_ble_eq_true rfl) dL_areWell_238 ⟨Nat.le_of_ble_eq_true rfl, Nat.le_of_ble_eq_true rfl⟩ (fun r_75 H locs hw hP hS => ?_)
      have hw : r_75 = whF (clk ((old + (i_15 - 1)) % 40)) := hw
      subst hw
      refine lv_dcmp hx hb dL_areWell_241 ?_
      refine lv_if_lt (tgt := 254) hx hb dL_areWell_242 (by decide) (fun c_76 => absurd c_76 (hmo i_15 hi1 (by omega))) (fun c_76 => ?_)
      refine lv_aload_n hx hb dL_areWell_245 rfl (lv_at hl 2 rfl) ?_
      refine lv_iload hx hb dL_areWell_246 (lv_at hl 0 rfl) ?_
      refine xv_i (As := [.int (nI i_15)]) (rest := []) (q := (RX5, TX5, 7)) ⟨hx, hb, hml, hown, hts⟩ (kX5_heard l dC dI cyI cyZ cyJ cyD cyB p0 s0 s1 t0 w0 g0 h0 v0 kn s2 old kep evr pts i_15 (by omega) (by omega) (by omega)) (cwV 1 hts gL_areWell_X5_heard rfl rfl rfl (by decide +kernel) ⟨Nat.le_of_ble_eq_true rfl, Nat.le_of_ble_eq_true rfl⟩) hK hP hS [0, 12, 13] rfl 0 7 rfl rfl rfl hl.1 rfl (Nat.le_of_ble_eq_true rfl) dL_areWell_248 ⟨Nat.le_of_ble_eq_true rfl, Nat.le_of_ble_eq_true rfl⟩ (fun r_77 H locs hw hP hS => ?_)
      have hw : r_77 = nI (pts ((old + i_15) % 40)) := hw
      subst hw
      refine xz_ge (tgt := 256) hx hb dL_areWell_251 (by decide) (by omega) ?_
      refine xi_inc (k := 0) (lv' := [(5, .int (nI (i_15 + 1))), (4, .int (nI kep)), (0, .ref p0), (1, .int (nI cnt))]) hx hb dL_areWell_256 hl rfl (by decide) rfl (fun ls hl => ?_)
      refine lv_goto (tgt := 220) hx hb dL_areWell_259 (by decide) ?_
      exact ih_17 (i_15 + 1) (by omega) (by omega) _ _ hP hD hS _ (lv_sub hl [0, 1, 2, 3] rfl)
  | succ n_1 ih_4 =>
    intro i_2 hi_3 H locs hP hD hS ls hl
    have hb0 := bcN_le (plc (0 * 24 + i_2))
    have hb1 := bcN_le (plc ((0 + 1) * 24 + i_2))
    have hb2 := bcN_le (plc ((0 + 1 + 1) * 24 + i_2))
    have ha9 := ap_le plc i_2
    have hr9 := brF_le bro i_2
    refine lv_iload hx hb dL_areWell_7 (lv_at hl 0 rfl) ?_
    refine lv_iload_n hx hb dL_areWell_9 rfl (lv_at hl 4 rfl) ?_
    refine xc_ge (tgt := 173) hx hb dL_areWell_10 (by decide) (by omega) (by omega) (fun c_79 => by omega) (fun c_79 => ?_)
    rcases Bool.eq_false_or_eq_true (bro i_2) with hb_80 | hb_80
    · obtain ⟨hs1, hs2⟩ := hbs i_2 (by omega)
      rw [hb_80] at hs2
      have hs4 : scr i_2 = 4 := of_decide_eq_true hs2.symm
      refine lv_aload_n hx hb dL_areWell_13 rfl (lv_at hl 3 rfl) ?_
      refine lv_iload hx hb dL_areWell_14 (lv_at hl 0 rfl) ?_
      refine lv_iconst (v := nI 1) hx hb dL_areWell_16 (by decide) ?_
      refine xv_i (As := [.int (nI i_2), .int (nI 1)]) (rest := []) (q := (RX5, TX5, 7)) ⟨hx, hb, hml, hown, hts⟩ (kX5_ofTooth l dC dI cyI cyZ cyJ cyD cyB p0 g0 g1 g2 g3 g4 h0 h1 t0 w0 s0 v0 kn g5 cnt pit bro scr plu h2 plc i_2 1 (by omega) (by omega) (by omega)) (cwV 2 hts gL_areWell_X5_ofTooth rfl rfl rfl (by decide +kernel) ⟨Nat.le_of_ble_eq_true rfl, Nat.le_of_ble_eq_true rfl⟩) hK hP hS [0, 3, 4, 5, 6, 7, 9, 10] rfl 0 7 rfl rfl rfl hl.1 rfl (Nat.le_of_ble_eq_true rfl) dL_areWell_17 ⟨Nat.le_of_ble_eq_true rfl, Nat.le_of_ble_eq_true rfl⟩ (fun r_81 H locs hw hP hS => ?_)
      have hw : r_81 = nI (otF pit bro scr plu plc i_2 1) := hw
      subst hw
      rw [show otF pit bro scr plu plc i_2 1 = (if bro i_2 then 1 else 0) from rfl]
      rw [show (if bro i_2 then 1 else 0) = 1 from by rw [hb_80]; rfl]
      refine lv_iconst (v := nI 1) hx hb dL_areWell_20 (by decide) ?_
      refine xc_ne (tgt := 28) hx hb dL_areWell_21 (by decide) (by omega) (by omega) (fun c_82 => by omega) (fun c_82 => ?_)
      refine lv_iconst (v := nI 1) hx hb dL_areWell_24 (by decide) ?_
      refine lv_goto (tgt := 29) hx hb dL_areWell_25 (by decide) ?_
      refine lv_istore (lv' := [(5, .int (nI 1)), (4, .int (nI i_2)), (3, .int (nI (brF bro i_2))), (2, .int (nI (apF plc i_2))), (0, .ref p0), (1, .int (nI cnt))]) hx hb dL_areWell_29 hl (by decide) rfl (fun ls hl => ?_)
      refine lv_iload_n hx hb dL_areWell_31 rfl (lv_at hl 2 rfl) ?_
      refine lv_iload hx hb dL_areWell_32 (lv_at hl 0 rfl) ?_
      refine xz_eq (tgt := 41) hx hb dL_areWell_34 (by decide) (by omega) (fun c_83 => by omega) (fun c_83 => ?_)
      refine lv_iconst (v := nI 1) hx hb dL_areWell_37 (by decide) ?_
      refine lv_goto (tgt := 42) hx hb dL_areWell_38 (by decide) ?_
      refine xi_add hx hb dL_areWell_42 ?_
      refine lv_istore_n (lv' := [(3, .int (nI ((brF bro i_2) + 1))), (5, .int (nI 1)), (4, .int (nI i_2)), (2, .int (nI (apF plc i_2))), (0, .ref p0), (1, .int (nI cnt))]) hx hb dL_areWell_43 rfl hl (by decide) rfl (fun ls hl => ?_)
      refine lv_iload hx hb dL_areWell_44 (lv_at hl 1 rfl) ?_
      refine lv_aload_n hx hb dL_areWell_46 rfl (lv_at hl 4 rfl) ?_
      refine lv_iload hx hb dL_areWell_47 (lv_at hl 2 rfl) ?_
      refine lv_iconst (v := nI 2) hx hb dL_areWell_49 (by decide) ?_
      refine xv_i (As := [.int (nI i_2), .int (nI 2)]) (rest := [.int (nI 1)]) (q := (RX5, TX5, 7)) ⟨hx, hb, hml, hown, hts⟩ (kX5_ofTooth l dC dI cyI cyZ cyJ cyD cyB p0 g0 g1 g2 g3 g4 h0 h1 t0 w0 s0 v0 kn g5 cnt pit bro scr plu h2 plc i_2 2 (by omega) (by omega) (by omega)) (cwV 2 hts gL_areWell_X5_ofTooth rfl rfl rfl (by decide +kernel) ⟨Nat.le_of_ble_eq_true rfl, Nat.le_of_ble_eq_true rfl⟩) hK hP hS [0, 3, 4, 5, 6, 7, 9, 10] rfl 0 7 rfl rfl rfl hl.1 rfl (Nat.le_of_ble_eq_true rfl) dL_areWell_50 ⟨Nat.le_of_ble_eq_true rfl, Nat.le_of_ble_eq_true rfl⟩ (fun r_84 H locs hw hP hS => ?_)
      have hw : r_84 = nI (otF pit bro scr plu plc i_2 2) := hw
      subst hw
      rw [show otF pit bro scr plu plc i_2 2 = scr i_2 from rfl]
      refine lv_iconst (v := nI 4) hx hb dL_areWell_53 (by decide) ?_
      refine xc_ne (tgt := 61) hx hb dL_areWell_54 (by decide) (by omega) (by omega) (fun c_85 => by omega) (fun c_85 => ?_)
      refine lv_iconst (v := nI 1) hx hb dL_areWell_57 (by decide) ?_
      refine lv_goto (tgt := 62) hx hb dL_areWell_58 (by decide) ?_
      refine xc_ne (tgt := 76) hx hb dL_areWell_62 (by decide) (by omega) (by omega) (fun c_86 => by omega) (fun c_86 => ?_)
      refine lv_aload_n hx hb dL_areWell_65 rfl (lv_at hl 4 rfl) ?_
      refine lv_iload hx hb dL_areWell_66 (lv_at hl 2 rfl) ?_
      refine lv_iconst (v := nI 2) hx hb dL_areWell_68 (by decide) ?_
      refine xv_i (As := [.int (nI i_2), .int (nI 2)]) (rest := []) (q := (RX5, TX5, 7)) ⟨hx, hb, hml, hown, hts⟩ (kX5_ofTooth l dC dI cyI cyZ cyJ cyD cyB p0 g0 g1 g2 g3 g4 h0 h1 t0 w0 s0 v0 kn g5 cnt pit bro scr plu h2 plc i_2 2 (by omega) (by omega) (by omega)) (cwV 2 hts gL_areWell_X5_ofTooth rfl rfl rfl (by decide +kernel) ⟨Nat.le_of_ble_eq_true rfl, Nat.le_of_ble_eq_true rfl⟩) hK hP hS [0, 3, 4, 5, 6, 7, 9, 10] rfl 0 7 rfl rfl rfl hl.1 rfl (Nat.le_of_ble_eq_true rfl) dL_areWell_69 ⟨Nat.le_of_ble_eq_true rfl, Nat.le_of_ble_eq_true rfl⟩ (fun r_87 H locs hw hP hS => ?_)
      have hw : r_87 = nI (otF pit bro scr plu plc i_2 2) := hw
      subst hw
      rw [show otF pit bro scr plu plc i_2 2 = scr i_2 from rfl]
      refine lv_iconst (v := nI 4) hx hb dL_areWell_72 (by decide) ?_
      refine xc_le (tgt := 78) hx hb dL_areWell_73 (by decide) (by omega) (by omega) (fun c_88 => ?_) (fun c_88 => by omega)
      refine lv_iconst (v := nI 0) hx hb dL_areWell_78 (by decide) ?_
      refine lv_istore (lv' := [(6, .int (nI 0)), (3, .int (nI ((brF bro i_2) + 1))), (5, .int (nI 1)), (4, .int (nI i_2)), (2, .int (nI (apF plc i_2))), (0, .ref p0), (1, .int (nI cnt))]) hx hb dL_areWell_79 hl (by decide) rfl (fun ls hl => ?_)
      refine lv_iconst (v := nI 0) hx hb dL_areWell_81 (by decide) ?_
      refine lv_istore (lv' := [(7, .int (nI 0)), (6, .int (nI 0)), (3, .int (nI ((brF bro i_2) + 1))), (5, .int (nI 1)), (4, .int (nI i_2)), (2, .int (nI (apF plc i_2))), (0, .ref p0), (1, .int (nI cnt))]) hx hb dL_areWell_82 hl (by decide) rfl (fun ls hl => ?_)
      refine lv_iload hx hb dL_areWell_84 (lv_at hl 0 rfl) ?_
      refine lv_iconst (v := nI 3) hx hb dL_areWell_86 (by decide) ?_
      refine xc_ge (tgt := 148) hx hb dL_areWell_87 (by decide) (by omega) (by omega) (fun c_89 => by omega) (fun c_89 => ?_)
      refine lv_aload_n hx hb dL_areWell_90 rfl (lv_at hl 6 rfl) ?_
      refine lv_iload hx hb dL_areWell_91 (lv_at hl 4 rfl) ?_
      refine lv_iload hx hb dL_areWell_93 (lv_at hl 0 rfl) ?_
      refine xv_l (As := [.int (nI i_2), .int (nI 0)]) (rest := []) (q := (RX5, TX5, 7)) ⟨hx, hb, hml, hown, hts⟩ (kX5_pins l dC dI cyI cyZ cyJ cyD cyB p0 g0 h0 h1 t0 w0 s0 v0 kn g1 g2 g3 g4 g5 cnt h2 plc i_2 0 (by omega) (by omega) (by omega)) (cwV 2 hts gL_areWell_X5_pins rfl rfl rfl (by decide +kernel) ⟨Nat.le_of_ble_eq_true rfl, Nat.le_of_ble_eq_true rfl⟩) hK hP hS [0, 3, 9, 10] rfl 0 7 rfl rfl rfl hl.1 rfl (Nat.le_of_ble_eq_true rfl) dL_areWell_95 ⟨Nat.le_of_ble_eq_true rfl, Nat.le_of_ble_eq_true rfl⟩ (fun r_90 H locs hw hP hS => ?_)
      have hw : r_90 = plc (0 * 24 + i_2) := hw
      subst hw
      refine lv_lstore (lv' := [(8, .long (plc (0 * 24 + i_2))), (7, .int (nI 0)), (6, .int (nI 0)), (3, .int (nI ((brF bro i_2) + 1))), (5, .int (nI 1)), (4, .int (nI i_2)), (2, .int (nI (apF plc i_2))), (0, .ref p0), (1, .int (nI cnt))]) hx hb dL_areWell_98 hl (by decide) rfl (fun ls hl => ?_)
      refine lv_iload hx hb dL_areWell_100 (lv_at hl 2 rfl) ?_
      refine lv_lload hx hb dL_areWell_102 (lv_at hl 0 rfl) ?_
      refine xs_i (As := [.long (plc (0 * 24 + i_2))]) (rest := [.int (nI 0)]) ⟨hx, hb, hml, hown, hts⟩ (kJ13_bitCount_95d88 l (plc (0 * 24 + i_2))) (va_cwS 1 hts gL_areWell_J13_bitCount_95d88 rfl rfl rfl (by decide +kernel) ⟨Nat.le_of_ble_eq_true rfl, Nat.le_of_ble_eq_true rfl⟩) hP hS rfl hl.1 rfl (Nat.le_of_ble_eq_true rfl) dL_areWell_104 ⟨Nat.le_of_ble_eq_true rfl, Nat.le_of_ble_eq_true rfl⟩ (fun r_91 H locs hw hP hS => ?_)
      have hw : r_91 = nI (bcN (plc (0 * 24 + i_2))) := hw
      subst hw
      refine xi_add hx hb dL_areWell_107 ?_
      refine lv_istore (lv' := [(6, .int (nI (0 + (bcN (plc (0 * 24 + i_2)))))), (8, .long (plc (0 * 24 + i_2))), (7, .int (nI 0)), (3, .int (nI ((brF bro i_2) + 1))), (5, .int (nI 1)), (4, .int (nI i_2)), (2, .int (nI (apF plc i_2))), (0, .ref p0), (1, .int (nI cnt))]) hx hb dL_areWell_108 hl (by decide) rfl (fun ls hl => ?_)
      refine lv_iconst (v := nI 1) hx hb dL_areWell_110 (by decide) ?_
      refine lv_istore (lv' := [(10, .int (nI 1)), (6, .int (nI (0 + (bcN (plc (0 * 24 + i_2)))))), (8, .long (plc (0 * 24 + i_2))), (7, .int (nI 0)), (3, .int (nI ((brF bro i_2) + 1))), (5, .int (nI 1)), (4, .int (nI i_2)), (2, .int (nI (apF plc i_2))), (0, .ref p0), (1, .int (nI cnt))]) hx hb dL_areWell_111 hl (by decide) rfl (fun ls hl => ?_)
      refine lv_iload hx hb dL_areWell_113 (lv_at hl 0 rfl) ?_
      refine lv_iconst (v := nI 4) hx hb dL_areWell_115 (by decide) ?_
      refine xc_ge (tgt := 142) hx hb dL_areWell_116 (by decide) (by omega) (by omega) (fun c_92 => by omega) (fun c_92 => ?_)
      refine lv_lload hx hb dL_areWell_119 (lv_at hl 2 rfl) ?_
      refine lv_lload hx hb dL_areWell_121 (lv_at hl 2 rfl) ?_
      refine lv_iload hx hb dL_areWell_123 (lv_at hl 0 rfl) ?_
      refine xs_l (As := [.long (plc (0 * 24 + i_2)), .int (nI 1)]) (rest := [.long (plc (0 * 24 + i_2))]) ⟨hx, hb, hml, hown, hts⟩ (kJ13_rotateLeft_b2ac5 l (plc (0 * 24 + i_2)) 1) (va_cwS 2 hts gL_areWell_J13_rotateLeft_b2ac5 rfl rfl rfl (by decide +kernel) ⟨Nat.le_of_ble_eq_true rfl, Nat.le_of_ble_eq_true rfl⟩) hP hS rfl hl.1 rfl (Nat.le_of_ble_eq_true rfl) dL_areWell_125 ⟨Nat.le_of_ble_eq_true rfl, Nat.le_of_ble_eq_true rfl⟩ (fun r_93 H locs hw hP hS => ?_)
      have hw : r_93 = ((plc (0 * 24 + i_2)) <<< ((nI 1).toInt64 &&& 63)) ||| (((plc (0 * 24 + i_2)).toUInt64 >>> ((-nI 1).toInt64.toUInt64 &&& Int64.toUInt64 63)).toInt64) := hw
      subst hw
      refine lv_land hx hb dL_areWell_128 ?_
      refine lv_lconst (v := 0) hx hb dL_areWell_129 (by decide) ?_
      refine W.lcmp hx hb dL_areWell_130 ?_
      refine lv_if_eq (tgt := 136) hx hb dL_areWell_131 (by decide) (fun c_94 => ?_) (fun c_94 => absurd (lg_cmp0.mpr (rl_0 (hnf _ _ (by omega) (by omega)) (by omega) (by omega))) c_94)
      refine xi_inc (k := 0) (lv' := [(10, .int (nI (1 + 1))), (6, .int (nI (0 + (bcN (plc (0 * 24 + i_2)))))), (8, .long (plc (0 * 24 + i_2))), (7, .int (nI 0)), (3, .int (nI ((brF bro i_2) + 1))), (5, .int (nI 1)), (4, .int (nI i_2)), (2, .int (nI (apF plc i_2))), (0, .ref p0), (1, .int (nI cnt))]) hx hb dL_areWell_136 hl rfl (by decide) rfl (fun ls hl => ?_)
      refine lv_goto (tgt := 113) hx hb dL_areWell_139 (by decide) ?_
      refine lv_iload hx hb dL_areWell_113 (lv_at hl 0 rfl) ?_
      refine lv_iconst (v := nI 4) hx hb dL_areWell_115 (by decide) ?_
      refine xc_ge (tgt := 142) hx hb dL_areWell_116 (by decide) (by omega) (by omega) (fun c_95 => by omega) (fun c_95 => ?_)
      refine lv_lload hx hb dL_areWell_119 (lv_at hl 2 rfl) ?_
      refine lv_lload hx hb dL_areWell_121 (lv_at hl 2 rfl) ?_
      refine lv_iload hx hb dL_areWell_123 (lv_at hl 0 rfl) ?_
      refine xs_l (As := [.long (plc (0 * 24 + i_2)), .int (nI (1 + 1))]) (rest := [.long (plc (0 * 24 + i_2))]) ⟨hx, hb, hml, hown, hts⟩ (kJ13_rotateLeft_b2ac5 l (plc (0 * 24 + i_2)) (1 + 1)) (va_cwS 2 hts gL_areWell_J13_rotateLeft_b2ac5 rfl rfl rfl (by decide +kernel) ⟨Nat.le_of_ble_eq_true rfl, Nat.le_of_ble_eq_true rfl⟩) hP hS rfl hl.1 rfl (Nat.le_of_ble_eq_true rfl) dL_areWell_125 ⟨Nat.le_of_ble_eq_true rfl, Nat.le_of_ble_eq_true rfl⟩ (fun r_96 H locs hw hP hS => ?_)
      have hw : r_96 = ((plc (0 * 24 + i_2)) <<< ((nI (1 + 1)).toInt64 &&& 63)) ||| (((plc (0 * 24 + i_2)).toUInt64 >>> ((-nI (1 + 1)).toInt64.toUInt64 &&& Int64.toUInt64 63)).toInt64) := hw
      subst hw
      refine lv_land hx hb dL_areWell_128 ?_
      refine lv_lconst (v := 0) hx hb dL_areWell_129 (by decide) ?_
      refine W.lcmp hx hb dL_areWell_130 ?_
      refine lv_if_eq (tgt := 136) hx hb dL_areWell_131 (by decide) (fun c_97 => ?_) (fun c_97 => absurd (lg_cmp0.mpr (rl_0 (hnf _ _ (by omega) (by omega)) (by omega) (by omega))) c_97)
      refine xi_inc (k := 0) (lv' := [(10, .int (nI ((1 + 1) + 1))), (6, .int (nI (0 + (bcN (plc (0 * 24 + i_2)))))), (8, .long (plc (0 * 24 + i_2))), (7, .int (nI 0)), (3, .int (nI ((brF bro i_2) + 1))), (5, .int (nI 1)), (4, .int (nI i_2)), (2, .int (nI (apF plc i_2))), (0, .ref p0), (1, .int (nI cnt))]) hx hb dL_areWell_136 hl rfl (by decide) rfl (fun ls hl => ?_)
      refine lv_goto (tgt := 113) hx hb dL_areWell_139 (by decide) ?_
      refine lv_iload hx hb dL_areWell_113 (lv_at hl 0 rfl) ?_
      refine lv_iconst (v := nI 4) hx hb dL_areWell_115 (by decide) ?_
      refine xc_ge (tgt := 142) hx hb dL_areWell_116 (by decide) (by omega) (by omega) (fun c_98 => by omega) (fun c_98 => ?_)
      refine lv_lload hx hb dL_areWell_119 (lv_at hl 2 rfl) ?_
      refine lv_lload hx hb dL_areWell_121 (lv_at hl 2 rfl) ?_
      refine lv_iload hx hb dL_areWell_123 (lv_at hl 0 rfl) ?_
      refine xs_l (As := [.long (plc (0 * 24 + i_2)), .int (nI ((1 + 1) + 1))]) (rest := [.long (plc (0 * 24 + i_2))]) ⟨hx, hb, hml, hown, hts⟩ (kJ13_rotateLeft_b2ac5 l (plc (0 * 24 + i_2)) ((1 + 1) + 1)) (va_cwS 2 hts gL_areWell_J13_rotateLeft_b2ac5 rfl rfl rfl (by decide +kernel) ⟨Nat.le_of_ble_eq_true rfl, Nat.le_of_ble_eq_true rfl⟩) hP hS rfl hl.1 rfl (Nat.le_of_ble_eq_true rfl) dL_areWell_125 ⟨Nat.le_of_ble_eq_true rfl, Nat.le_of_ble_eq_true rfl⟩ (fun r_99 H locs hw hP hS => ?_)
      have hw : r_99 = ((plc (0 * 24 + i_2)) <<< ((nI ((1 + 1) + 1)).toInt64 &&& 63)) ||| (((plc (0 * 24 + i_2)).toUInt64 >>> ((-nI ((1 + 1) + 1)).toInt64.toUInt64 &&& Int64.toUInt64 63)).toInt64) := hw
      subst hw
      refine lv_land hx hb dL_areWell_128 ?_
      refine lv_lconst (v := 0) hx hb dL_areWell_129 (by decide) ?_
      refine W.lcmp hx hb dL_areWell_130 ?_
      refine lv_if_eq (tgt := 136) hx hb dL_areWell_131 (by decide) (fun c_100 => ?_) (fun c_100 => absurd (lg_cmp0.mpr (rl_0 (hnf _ _ (by omega) (by omega)) (by omega) (by omega))) c_100)
      refine xi_inc (k := 0) (lv' := [(10, .int (nI (((1 + 1) + 1) + 1))), (6, .int (nI (0 + (bcN (plc (0 * 24 + i_2)))))), (8, .long (plc (0 * 24 + i_2))), (7, .int (nI 0)), (3, .int (nI ((brF bro i_2) + 1))), (5, .int (nI 1)), (4, .int (nI i_2)), (2, .int (nI (apF plc i_2))), (0, .ref p0), (1, .int (nI cnt))]) hx hb dL_areWell_136 hl rfl (by decide) rfl (fun ls hl => ?_)
      refine lv_goto (tgt := 113) hx hb dL_areWell_139 (by decide) ?_
      refine lv_iload hx hb dL_areWell_113 (lv_at hl 0 rfl) ?_
      refine lv_iconst (v := nI 4) hx hb dL_areWell_115 (by decide) ?_
      refine xc_ge (tgt := 142) hx hb dL_areWell_116 (by decide) (by omega) (by omega) (fun c_101 => ?_) (fun c_101 => by omega)
      refine xi_inc (k := 3) (lv' := [(7, .int (nI (0 + 1))), (10, .int (nI (((1 + 1) + 1) + 1))), (6, .int (nI (0 + (bcN (plc (0 * 24 + i_2)))))), (8, .long (plc (0 * 24 + i_2))), (3, .int (nI ((brF bro i_2) + 1))), (5, .int (nI 1)), (4, .int (nI i_2)), (2, .int (nI (apF plc i_2))), (0, .ref p0), (1, .int (nI cnt))]) hx hb dL_areWell_142 hl rfl (by decide) rfl (fun ls hl => ?_)
      refine lv_goto (tgt := 84) hx hb dL_areWell_145 (by decide) ?_
      refine lv_iload hx hb dL_areWell_84 (lv_at hl 0 rfl) ?_
      refine lv_iconst (v := nI 3) hx hb dL_areWell_86 (by decide) ?_
      refine xc_ge (tgt := 148) hx hb dL_areWell_87 (by decide) (by omega) (by omega) (fun c_102 => by omega) (fun c_102 => ?_)
      refine lv_aload_n hx hb dL_areWell_90 rfl (lv_at hl 8 rfl) ?_
      refine lv_iload hx hb dL_areWell_91 (lv_at hl 6 rfl) ?_
      refine lv_iload hx hb dL_areWell_93 (lv_at hl 0 rfl) ?_
      refine xv_l (As := [.int (nI i_2), .int (nI (0 + 1))]) (rest := []) (q := (RX5, TX5, 7)) ⟨hx, hb, hml, hown, hts⟩ (kX5_pins l dC dI cyI cyZ cyJ cyD cyB p0 g0 h0 h1 t0 w0 s0 v0 kn g1 g2 g3 g4 g5 cnt h2 plc i_2 (0 + 1) (by omega) (by omega) (by omega)) (cwV 2 hts gL_areWell_X5_pins rfl rfl rfl (by decide +kernel) ⟨Nat.le_of_ble_eq_true rfl, Nat.le_of_ble_eq_true rfl⟩) hK hP hS [0, 3, 9, 10] rfl 0 7 rfl rfl rfl hl.1 rfl (Nat.le_of_ble_eq_true rfl) dL_areWell_95 ⟨Nat.le_of_ble_eq_true rfl, Nat.le_of_ble_eq_true rfl⟩ (fun r_103 H locs hw hP hS => ?_)
      have hw : r_103 = plc ((0 + 1) * 24 + i_2) := hw
      subst hw
      refine lv_lstore (lv' := [(8, .long (plc ((0 + 1) * 24 + i_2))), (7, .int (nI (0 + 1))), (10, .int (nI (((1 + 1) + 1) + 1))), (6, .int (nI (0 + (bcN (plc (0 * 24 + i_2)))))), (3, .int (nI ((brF bro i_2) + 1))), (5, .int (nI 1)), (4, .int (nI i_2)), (2, .int (nI (apF plc i_2))), (0, .ref p0), (1, .int (nI cnt))]) hx hb dL_areWell_98 hl (by decide) rfl (fun ls hl => ?_)
      refine lv_iload hx hb dL_areWell_100 (lv_at hl 3 rfl) ?_
      refine lv_lload hx hb dL_areWell_102 (lv_at hl 0 rfl) ?_
      refine xs_i (As := [.long (plc ((0 + 1) * 24 + i_2))]) (rest := [.int (nI (0 + (bcN (plc (0 * 24 + i_2)))))]) ⟨hx, hb, hml, hown, hts⟩ (kJ13_bitCount_95d88 l (plc ((0 + 1) * 24 + i_2))) (va_cwS 1 hts gL_areWell_J13_bitCount_95d88 rfl rfl rfl (by decide +kernel) ⟨Nat.le_of_ble_eq_true rfl, Nat.le_of_ble_eq_true rfl⟩) hP hS rfl hl.1 rfl (Nat.le_of_ble_eq_true rfl) dL_areWell_104 ⟨Nat.le_of_ble_eq_true rfl, Nat.le_of_ble_eq_true rfl⟩ (fun r_104 H locs hw hP hS => ?_)
      have hw : r_104 = nI (bcN (plc ((0 + 1) * 24 + i_2))) := hw
      subst hw
      refine xi_add hx hb dL_areWell_107 ?_
      refine lv_istore (lv' := [(6, .int (nI ((0 + (bcN (plc (0 * 24 + i_2)))) + (bcN (plc ((0 + 1) * 24 + i_2)))))), (8, .long (plc ((0 + 1) * 24 + i_2))), (7, .int (nI (0 + 1))), (10, .int (nI (((1 + 1) + 1) + 1))), (3, .int (nI ((brF bro i_2) + 1))), (5, .int (nI 1)), (4, .int (nI i_2)), (2, .int (nI (apF plc i_2))), (0, .ref p0), (1, .int (nI cnt))]) hx hb dL_areWell_108 hl (by decide) rfl (fun ls hl => ?_)
      refine lv_iconst (v := nI 1) hx hb dL_areWell_110 (by decide) ?_
      refine lv_istore (lv' := [(10, .int (nI 1)), (6, .int (nI ((0 + (bcN (plc (0 * 24 + i_2)))) + (bcN (plc ((0 + 1) * 24 + i_2)))))), (8, .long (plc ((0 + 1) * 24 + i_2))), (7, .int (nI (0 + 1))), (3, .int (nI ((brF bro i_2) + 1))), (5, .int (nI 1)), (4, .int (nI i_2)), (2, .int (nI (apF plc i_2))), (0, .ref p0), (1, .int (nI cnt))]) hx hb dL_areWell_111 hl (by decide) rfl (fun ls hl => ?_)
      refine lv_iload hx hb dL_areWell_113 (lv_at hl 0 rfl) ?_
      refine lv_iconst (v := nI 4) hx hb dL_areWell_115 (by decide) ?_
      refine xc_ge (tgt := 142) hx hb dL_areWell_116 (by decide) (by omega) (by omega) (fun c_105 => by omega) (fun c_105 => ?_)
      refine lv_lload hx hb dL_areWell_119 (lv_at hl 2 rfl) ?_
      refine lv_lload hx hb dL_areWell_121 (lv_at hl 2 rfl) ?_
      refine lv_iload hx hb dL_areWell_123 (lv_at hl 0 rfl) ?_
      refine xs_l (As := [.long (plc ((0 + 1) * 24 + i_2)), .int (nI 1)]) (rest := [.long (plc ((0 + 1) * 24 + i_2))]) ⟨hx, hb, hml, hown, hts⟩ (kJ13_rotateLeft_b2ac5 l (plc ((0 + 1) * 24 + i_2)) 1) (va_cwS 2 hts gL_areWell_J13_rotateLeft_b2ac5 rfl rfl rfl (by decide +kernel) ⟨Nat.le_of_ble_eq_true rfl, Nat.le_of_ble_eq_true rfl⟩) hP hS rfl hl.1 rfl (Nat.le_of_ble_eq_true rfl) dL_areWell_125 ⟨Nat.le_of_ble_eq_true rfl, Nat.le_of_ble_eq_true rfl⟩ (fun r_106 H locs hw hP hS => ?_)
      have hw : r_106 = ((plc ((0 + 1) * 24 + i_2)) <<< ((nI 1).toInt64 &&& 63)) ||| (((plc ((0 + 1) * 24 + i_2)).toUInt64 >>> ((-nI 1).toInt64.toUInt64 &&& Int64.toUInt64 63)).toInt64) := hw
      subst hw
      refine lv_land hx hb dL_areWell_128 ?_
      refine lv_lconst (v := 0) hx hb dL_areWell_129 (by decide) ?_
      refine W.lcmp hx hb dL_areWell_130 ?_
      refine lv_if_eq (tgt := 136) hx hb dL_areWell_131 (by decide) (fun c_107 => ?_) (fun c_107 => absurd (lg_cmp0.mpr (rl_0 (hnf _ _ (by omega) (by omega)) (by omega) (by omega))) c_107)
      refine xi_inc (k := 0) (lv' := [(10, .int (nI (1 + 1))), (6, .int (nI ((0 + (bcN (plc (0 * 24 + i_2)))) + (bcN (plc ((0 + 1) * 24 + i_2)))))), (8, .long (plc ((0 + 1) * 24 + i_2))), (7, .int (nI (0 + 1))), (3, .int (nI ((brF bro i_2) + 1))), (5, .int (nI 1)), (4, .int (nI i_2)), (2, .int (nI (apF plc i_2))), (0, .ref p0), (1, .int (nI cnt))]) hx hb dL_areWell_136 hl rfl (by decide) rfl (fun ls hl => ?_)
      refine lv_goto (tgt := 113) hx hb dL_areWell_139 (by decide) ?_
      refine lv_iload hx hb dL_areWell_113 (lv_at hl 0 rfl) ?_
      refine lv_iconst (v := nI 4) hx hb dL_areWell_115 (by decide) ?_
      refine xc_ge (tgt := 142) hx hb dL_areWell_116 (by decide) (by omega) (by omega) (fun c_108 => by omega) (fun c_108 => ?_)
      refine lv_lload hx hb dL_areWell_119 (lv_at hl 2 rfl) ?_
      refine lv_lload hx hb dL_areWell_121 (lv_at hl 2 rfl) ?_
      refine lv_iload hx hb dL_areWell_123 (lv_at hl 0 rfl) ?_
      refine xs_l (As := [.long (plc ((0 + 1) * 24 + i_2)), .int (nI (1 + 1))]) (rest := [.long (plc ((0 + 1) * 24 + i_2))]) ⟨hx, hb, hml, hown, hts⟩ (kJ13_rotateLeft_b2ac5 l (plc ((0 + 1) * 24 + i_2)) (1 + 1)) (va_cwS 2 hts gL_areWell_J13_rotateLeft_b2ac5 rfl rfl rfl (by decide +kernel) ⟨Nat.le_of_ble_eq_true rfl, Nat.le_of_ble_eq_true rfl⟩) hP hS rfl hl.1 rfl (Nat.le_of_ble_eq_true rfl) dL_areWell_125 ⟨Nat.le_of_ble_eq_true rfl, Nat.le_of_ble_eq_true rfl⟩ (fun r_109 H locs hw hP hS => ?_)
      have hw : r_109 = ((plc ((0 + 1) * 24 + i_2)) <<< ((nI (1 + 1)).toInt64 &&& 63)) ||| (((plc ((0 + 1) * 24 + i_2)).toUInt64 >>> ((-nI (1 + 1)).toInt64.toUInt64 &&& Int64.toUInt64 63)).toInt64) := hw
      subst hw
      refine lv_land hx hb dL_areWell_128 ?_
      refine lv_lconst (v := 0) hx hb dL_areWell_129 (by decide) ?_
      refine W.lcmp hx hb dL_areWell_130 ?_
      refine lv_if_eq (tgt := 136) hx hb dL_areWell_131 (by decide) (fun c_110 => ?_) (fun c_110 => absurd (lg_cmp0.mpr (rl_0 (hnf _ _ (by omega) (by omega)) (by omega) (by omega))) c_110)
      refine xi_inc (k := 0) (lv' := [(10, .int (nI ((1 + 1) + 1))), (6, .int (nI ((0 + (bcN (plc (0 * 24 + i_2)))) + (bcN (plc ((0 + 1) * 24 + i_2)))))), (8, .long (plc ((0 + 1) * 24 + i_2))), (7, .int (nI (0 + 1))), (3, .int (nI ((brF bro i_2) + 1))), (5, .int (nI 1)), (4, .int (nI i_2)), (2, .int (nI (apF plc i_2))), (0, .ref p0), (1, .int (nI cnt))]) hx hb dL_areWell_136 hl rfl (by decide) rfl (fun ls hl => ?_)
      refine lv_goto (tgt := 113) hx hb dL_areWell_139 (by decide) ?_
      refine lv_iload hx hb dL_areWell_113 (lv_at hl 0 rfl) ?_
      refine lv_iconst (v := nI 4) hx hb dL_areWell_115 (by decide) ?_
      refine xc_ge (tgt := 142) hx hb dL_areWell_116 (by decide) (by omega) (by omega) (fun c_111 => by omega) (fun c_111 => ?_)
      refine lv_lload hx hb dL_areWell_119 (lv_at hl 2 rfl) ?_
      refine lv_lload hx hb dL_areWell_121 (lv_at hl 2 rfl) ?_
      refine lv_iload hx hb dL_areWell_123 (lv_at hl 0 rfl) ?_
      refine xs_l (As := [.long (plc ((0 + 1) * 24 + i_2)), .int (nI ((1 + 1) + 1))]) (rest := [.long (plc ((0 + 1) * 24 + i_2))]) ⟨hx, hb, hml, hown, hts⟩ (kJ13_rotateLeft_b2ac5 l (plc ((0 + 1) * 24 + i_2)) ((1 + 1) + 1)) (va_cwS 2 hts gL_areWell_J13_rotateLeft_b2ac5 rfl rfl rfl (by decide +kernel) ⟨Nat.le_of_ble_eq_true rfl, Nat.le_of_ble_eq_true rfl⟩) hP hS rfl hl.1 rfl (Nat.le_of_ble_eq_true rfl) dL_areWell_125 ⟨Nat.le_of_ble_eq_true rfl, Nat.le_of_ble_eq_true rfl⟩ (fun r_112 H locs hw hP hS => ?_)
      have hw : r_112 = ((plc ((0 + 1) * 24 + i_2)) <<< ((nI ((1 + 1) + 1)).toInt64 &&& 63)) ||| (((plc ((0 + 1) * 24 + i_2)).toUInt64 >>> ((-nI ((1 + 1) + 1)).toInt64.toUInt64 &&& Int64.toUInt64 63)).toInt64) := hw
      subst hw
      refine lv_land hx hb dL_areWell_128 ?_
      refine lv_lconst (v := 0) hx hb dL_areWell_129 (by decide) ?_
      refine W.lcmp hx hb dL_areWell_130 ?_
      refine lv_if_eq (tgt := 136) hx hb dL_areWell_131 (by decide) (fun c_113 => ?_) (fun c_113 => absurd (lg_cmp0.mpr (rl_0 (hnf _ _ (by omega) (by omega)) (by omega) (by omega))) c_113)
      refine xi_inc (k := 0) (lv' := [(10, .int (nI (((1 + 1) + 1) + 1))), (6, .int (nI ((0 + (bcN (plc (0 * 24 + i_2)))) + (bcN (plc ((0 + 1) * 24 + i_2)))))), (8, .long (plc ((0 + 1) * 24 + i_2))), (7, .int (nI (0 + 1))), (3, .int (nI ((brF bro i_2) + 1))), (5, .int (nI 1)), (4, .int (nI i_2)), (2, .int (nI (apF plc i_2))), (0, .ref p0), (1, .int (nI cnt))]) hx hb dL_areWell_136 hl rfl (by decide) rfl (fun ls hl => ?_)
      refine lv_goto (tgt := 113) hx hb dL_areWell_139 (by decide) ?_
      refine lv_iload hx hb dL_areWell_113 (lv_at hl 0 rfl) ?_
      refine lv_iconst (v := nI 4) hx hb dL_areWell_115 (by decide) ?_
      refine xc_ge (tgt := 142) hx hb dL_areWell_116 (by decide) (by omega) (by omega) (fun c_114 => ?_) (fun c_114 => by omega)
      refine xi_inc (k := 3) (lv' := [(7, .int (nI ((0 + 1) + 1))), (10, .int (nI (((1 + 1) + 1) + 1))), (6, .int (nI ((0 + (bcN (plc (0 * 24 + i_2)))) + (bcN (plc ((0 + 1) * 24 + i_2)))))), (8, .long (plc ((0 + 1) * 24 + i_2))), (3, .int (nI ((brF bro i_2) + 1))), (5, .int (nI 1)), (4, .int (nI i_2)), (2, .int (nI (apF plc i_2))), (0, .ref p0), (1, .int (nI cnt))]) hx hb dL_areWell_142 hl rfl (by decide) rfl (fun ls hl => ?_)
      refine lv_goto (tgt := 84) hx hb dL_areWell_145 (by decide) ?_
      refine lv_iload hx hb dL_areWell_84 (lv_at hl 0 rfl) ?_
      refine lv_iconst (v := nI 3) hx hb dL_areWell_86 (by decide) ?_
      refine xc_ge (tgt := 148) hx hb dL_areWell_87 (by decide) (by omega) (by omega) (fun c_115 => by omega) (fun c_115 => ?_)
      refine lv_aload_n hx hb dL_areWell_90 rfl (lv_at hl 8 rfl) ?_
      refine lv_iload hx hb dL_areWell_91 (lv_at hl 6 rfl) ?_
      refine lv_iload hx hb dL_areWell_93 (lv_at hl 0 rfl) ?_
      refine xv_l (As := [.int (nI i_2), .int (nI ((0 + 1) + 1))]) (rest := []) (q := (RX5, TX5, 7)) ⟨hx, hb, hml, hown, hts⟩ (kX5_pins l dC dI cyI cyZ cyJ cyD cyB p0 g0 h0 h1 t0 w0 s0 v0 kn g1 g2 g3 g4 g5 cnt h2 plc i_2 ((0 + 1) + 1) (by omega) (by omega) (by omega)) (cwV 2 hts gL_areWell_X5_pins rfl rfl rfl (by decide +kernel) ⟨Nat.le_of_ble_eq_true rfl, Nat.le_of_ble_eq_true rfl⟩) hK hP hS [0, 3, 9, 10] rfl 0 7 rfl rfl rfl hl.1 rfl (Nat.le_of_ble_eq_true rfl) dL_areWell_95 ⟨Nat.le_of_ble_eq_true rfl, Nat.le_of_ble_eq_true rfl⟩ (fun r_116 H locs hw hP hS => ?_)
      have hw : r_116 = plc (((0 + 1) + 1) * 24 + i_2) := hw
      subst hw
      refine lv_lstore (lv' := [(8, .long (plc (((0 + 1) + 1) * 24 + i_2))), (7, .int (nI ((0 + 1) + 1))), (10, .int (nI (((1 + 1) + 1) + 1))), (6, .int (nI ((0 + (bcN (plc (0 * 24 + i_2)))) + (bcN (plc ((0 + 1) * 24 + i_2)))))), (3, .int (nI ((brF bro i_2) + 1))), (5, .int (nI 1)), (4, .int (nI i_2)), (2, .int (nI (apF plc i_2))), (0, .ref p0), (1, .int (nI cnt))]) hx hb dL_areWell_98 hl (by decide) rfl (fun ls hl => ?_)
      refine lv_iload hx hb dL_areWell_100 (lv_at hl 3 rfl) ?_
      refine lv_lload hx hb dL_areWell_102 (lv_at hl 0 rfl) ?_
      refine xs_i (As := [.long (plc (((0 + 1) + 1) * 24 + i_2))]) (rest := [.int (nI ((0 + (bcN (plc (0 * 24 + i_2)))) + (bcN (plc ((0 + 1) * 24 + i_2)))))]) ⟨hx, hb, hml, hown, hts⟩ (kJ13_bitCount_95d88 l (plc (((0 + 1) + 1) * 24 + i_2))) (va_cwS 1 hts gL_areWell_J13_bitCount_95d88 rfl rfl rfl (by decide +kernel) ⟨Nat.le_of_ble_eq_true rfl, Nat.le_of_ble_eq_true rfl⟩) hP hS rfl hl.1 rfl (Nat.le_of_ble_eq_true rfl) dL_areWell_104 ⟨Nat.le_of_ble_eq_true rfl, Nat.le_of_ble_eq_true rfl⟩ (fun r_117 H locs hw hP hS => ?_)
      have hw : r_117 = nI (bcN (plc (((0 + 1) + 1) * 24 + i_2))) := hw
      subst hw
      refine xi_add hx hb dL_areWell_107 ?_
      refine lv_istore (lv' := [(6, .int (nI (((0 + (bcN (plc (0 * 24 + i_2)))) + (bcN (plc ((0 + 1) * 24 + i_2)))) + (bcN (plc (((0 + 1) + 1) * 24 + i_2)))))), (8, .long (plc (((0 + 1) + 1) * 24 + i_2))), (7, .int (nI ((0 + 1) + 1))), (10, .int (nI (((1 + 1) + 1) + 1))), (3, .int (nI ((brF bro i_2) + 1))), (5, .int (nI 1)), (4, .int (nI i_2)), (2, .int (nI (apF plc i_2))), (0, .ref p0), (1, .int (nI cnt))]) hx hb dL_areWell_108 hl (by decide) rfl (fun ls hl => ?_)
      refine lv_iconst (v := nI 1) hx hb dL_areWell_110 (by decide) ?_
      refine lv_istore (lv' := [(10, .int (nI 1)), (6, .int (nI (((0 + (bcN (plc (0 * 24 + i_2)))) + (bcN (plc ((0 + 1) * 24 + i_2)))) + (bcN (plc (((0 + 1) + 1) * 24 + i_2)))))), (8, .long (plc (((0 + 1) + 1) * 24 + i_2))), (7, .int (nI ((0 + 1) + 1))), (3, .int (nI ((brF bro i_2) + 1))), (5, .int (nI 1)), (4, .int (nI i_2)), (2, .int (nI (apF plc i_2))), (0, .ref p0), (1, .int (nI cnt))]) hx hb dL_areWell_111 hl (by decide) rfl (fun ls hl => ?_)
      refine lv_iload hx hb dL_areWell_113 (lv_at hl 0 rfl) ?_
      refine lv_iconst (v := nI 4) hx hb dL_areWell_115 (by decide) ?_
      refine xc_ge (tgt := 142) hx hb dL_areWell_116 (by decide) (by omega) (by omega) (fun c_118 => by omega) (fun c_118 => ?_)
      refine lv_lload hx hb dL_areWell_119 (lv_at hl 2 rfl) ?_
      refine lv_lload hx hb dL_areWell_121 (lv_at hl 2 rfl) ?_
      refine lv_iload hx hb dL_areWell_123 (lv_at hl 0 rfl) ?_
      refine xs_l (As := [.long (plc (((0 + 1) + 1) * 24 + i_2)), .int (nI 1)]) (rest := [.long (plc (((0 + 1) + 1) * 24 + i_2))]) ⟨hx, hb, hml, hown, hts⟩ (kJ13_rotateLeft_b2ac5 l (plc (((0 + 1) + 1) * 24 + i_2)) 1) (va_cwS 2 hts gL_areWell_J13_rotateLeft_b2ac5 rfl rfl rfl (by decide +kernel) ⟨Nat.le_of_ble_eq_true rfl, Nat.le_of_ble_eq_true rfl⟩) hP hS rfl hl.1 rfl (Nat.le_of_ble_eq_true rfl) dL_areWell_125 ⟨Nat.le_of_ble_eq_true rfl, Nat.le_of_ble_eq_true rfl⟩ (fun r_119 H locs hw hP hS => ?_)
      have hw : r_119 = ((plc (((0 + 1) + 1) * 24 + i_2)) <<< ((nI 1).toInt64 &&& 63)) ||| (((plc (((0 + 1) + 1) * 24 + i_2)).toUInt64 >>> ((-nI 1).toInt64.toUInt64 &&& Int64.toUInt64 63)).toInt64) := hw
      subst hw
      refine lv_land hx hb dL_areWell_128 ?_
      refine lv_lconst (v := 0) hx hb dL_areWell_129 (by decide) ?_
      refine W.lcmp hx hb dL_areWell_130 ?_
      refine lv_if_eq (tgt := 136) hx hb dL_areWell_131 (by decide) (fun c_120 => ?_) (fun c_120 => absurd (lg_cmp0.mpr (rl_0 (hnf _ _ (by omega) (by omega)) (by omega) (by omega))) c_120)
      refine xi_inc (k := 0) (lv' := [(10, .int (nI (1 + 1))), (6, .int (nI (((0 + (bcN (plc (0 * 24 + i_2)))) + (bcN (plc ((0 + 1) * 24 + i_2)))) + (bcN (plc (((0 + 1) + 1) * 24 + i_2)))))), (8, .long (plc (((0 + 1) + 1) * 24 + i_2))), (7, .int (nI ((0 + 1) + 1))), (3, .int (nI ((brF bro i_2) + 1))), (5, .int (nI 1)), (4, .int (nI i_2)), (2, .int (nI (apF plc i_2))), (0, .ref p0), (1, .int (nI cnt))]) hx hb dL_areWell_136 hl rfl (by decide) rfl (fun ls hl => ?_)
      refine lv_goto (tgt := 113) hx hb dL_areWell_139 (by decide) ?_
      refine lv_iload hx hb dL_areWell_113 (lv_at hl 0 rfl) ?_
      refine lv_iconst (v := nI 4) hx hb dL_areWell_115 (by decide) ?_
      refine xc_ge (tgt := 142) hx hb dL_areWell_116 (by decide) (by omega) (by omega) (fun c_121 => by omega) (fun c_121 => ?_)
      refine lv_lload hx hb dL_areWell_119 (lv_at hl 2 rfl) ?_
      refine lv_lload hx hb dL_areWell_121 (lv_at hl 2 rfl) ?_
      refine lv_iload hx hb dL_areWell_123 (lv_at hl 0 rfl) ?_
      refine xs_l (As := [.long (plc (((0 + 1) + 1) * 24 + i_2)), .int (nI (1 + 1))]) (rest := [.long (plc (((0 + 1) + 1) * 24 + i_2))]) ⟨hx, hb, hml, hown, hts⟩ (kJ13_rotateLeft_b2ac5 l (plc (((0 + 1) + 1) * 24 + i_2)) (1 + 1)) (va_cwS 2 hts gL_areWell_J13_rotateLeft_b2ac5 rfl rfl rfl (by decide +kernel) ⟨Nat.le_of_ble_eq_true rfl, Nat.le_of_ble_eq_true rfl⟩) hP hS rfl hl.1 rfl (Nat.le_of_ble_eq_true rfl) dL_areWell_125 ⟨Nat.le_of_ble_eq_true rfl, Nat.le_of_ble_eq_true rfl⟩ (fun r_122 H locs hw hP hS => ?_)
      have hw : r_122 = ((plc (((0 + 1) + 1) * 24 + i_2)) <<< ((nI (1 + 1)).toInt64 &&& 63)) ||| (((plc (((0 + 1) + 1) * 24 + i_2)).toUInt64 >>> ((-nI (1 + 1)).toInt64.toUInt64 &&& Int64.toUInt64 63)).toInt64) := hw
      subst hw
      refine lv_land hx hb dL_areWell_128 ?_
      refine lv_lconst (v := 0) hx hb dL_areWell_129 (by decide) ?_
      refine W.lcmp hx hb dL_areWell_130 ?_
      refine lv_if_eq (tgt := 136) hx hb dL_areWell_131 (by decide) (fun c_123 => ?_) (fun c_123 => absurd (lg_cmp0.mpr (rl_0 (hnf _ _ (by omega) (by omega)) (by omega) (by omega))) c_123)
      refine xi_inc (k := 0) (lv' := [(10, .int (nI ((1 + 1) + 1))), (6, .int (nI (((0 + (bcN (plc (0 * 24 + i_2)))) + (bcN (plc ((0 + 1) * 24 + i_2)))) + (bcN (plc (((0 + 1) + 1) * 24 + i_2)))))), (8, .long (plc (((0 + 1) + 1) * 24 + i_2))), (7, .int (nI ((0 + 1) + 1))), (3, .int (nI ((brF bro i_2) + 1))), (5, .int (nI 1)), (4, .int (nI i_2)), (2, .int (nI (apF plc i_2))), (0, .ref p0), (1, .int (nI cnt))]) hx hb dL_areWell_136 hl rfl (by decide) rfl (fun ls hl => ?_)
      refine lv_goto (tgt := 113) hx hb dL_areWell_139 (by decide) ?_
      refine lv_iload hx hb dL_areWell_113 (lv_at hl 0 rfl) ?_
      refine lv_iconst (v := nI 4) hx hb dL_areWell_115 (by decide) ?_
      refine xc_ge (tgt := 142) hx hb dL_areWell_116 (by decide) (by omega) (by omega) (fun c_124 => by omega) (fun c_124 => ?_)
      refine lv_lload hx hb dL_areWell_119 (lv_at hl 2 rfl) ?_
      refine lv_lload hx hb dL_areWell_121 (lv_at hl 2 rfl) ?_
      refine lv_iload hx hb dL_areWell_123 (lv_at hl 0 rfl) ?_
      refine xs_l (As := [.long (plc (((0 + 1) + 1) * 24 + i_2)), .int (nI ((1 + 1) + 1))]) (rest := [.long (plc (((0 + 1) + 1) * 24 + i_2))]) ⟨hx, hb, hml, hown, hts⟩ (kJ13_rotateLeft_b2ac5 l (plc (((0 + 1) + 1) * 24 + i_2)) ((1 + 1) + 1)) (va_cwS 2 hts gL_areWell_J13_rotateLeft_b2ac5 rfl rfl rfl (by decide +kernel) ⟨Nat.le_of_ble_eq_true rfl, Nat.le_of_ble_eq_true rfl⟩) hP hS rfl hl.1 rfl (Nat.le_of_ble_eq_true rfl) dL_areWell_125 ⟨Nat.le_of_ble_eq_true rfl, Nat.le_of_ble_eq_true rfl⟩ (fun r_125 H locs hw hP hS => ?_)
      have hw : r_125 = ((plc (((0 + 1) + 1) * 24 + i_2)) <<< ((nI ((1 + 1) + 1)).toInt64 &&& 63)) ||| (((plc (((0 + 1) + 1) * 24 + i_2)).toUInt64 >>> ((-nI ((1 + 1) + 1)).toInt64.toUInt64 &&& Int64.toUInt64 63)).toInt64) := hw
      subst hw
      refine lv_land hx hb dL_areWell_128 ?_
      refine lv_lconst (v := 0) hx hb dL_areWell_129 (by decide) ?_
      refine W.lcmp hx hb dL_areWell_130 ?_
      refine lv_if_eq (tgt := 136) hx hb dL_areWell_131 (by decide) (fun c_126 => ?_) (fun c_126 => absurd (lg_cmp0.mpr (rl_0 (hnf _ _ (by omega) (by omega)) (by omega) (by omega))) c_126)
      refine xi_inc (k := 0) (lv' := [(10, .int (nI (((1 + 1) + 1) + 1))), (6, .int (nI (((0 + (bcN (plc (0 * 24 + i_2)))) + (bcN (plc ((0 + 1) * 24 + i_2)))) + (bcN (plc (((0 + 1) + 1) * 24 + i_2)))))), (8, .long (plc (((0 + 1) + 1) * 24 + i_2))), (7, .int (nI ((0 + 1) + 1))), (3, .int (nI ((brF bro i_2) + 1))), (5, .int (nI 1)), (4, .int (nI i_2)), (2, .int (nI (apF plc i_2))), (0, .ref p0), (1, .int (nI cnt))]) hx hb dL_areWell_136 hl rfl (by decide) rfl (fun ls hl => ?_)
      refine lv_goto (tgt := 113) hx hb dL_areWell_139 (by decide) ?_
      refine lv_iload hx hb dL_areWell_113 (lv_at hl 0 rfl) ?_
      refine lv_iconst (v := nI 4) hx hb dL_areWell_115 (by decide) ?_
      refine xc_ge (tgt := 142) hx hb dL_areWell_116 (by decide) (by omega) (by omega) (fun c_127 => ?_) (fun c_127 => by omega)
      refine xi_inc (k := 3) (lv' := [(7, .int (nI (((0 + 1) + 1) + 1))), (10, .int (nI (((1 + 1) + 1) + 1))), (6, .int (nI (((0 + (bcN (plc (0 * 24 + i_2)))) + (bcN (plc ((0 + 1) * 24 + i_2)))) + (bcN (plc (((0 + 1) + 1) * 24 + i_2)))))), (8, .long (plc (((0 + 1) + 1) * 24 + i_2))), (3, .int (nI ((brF bro i_2) + 1))), (5, .int (nI 1)), (4, .int (nI i_2)), (2, .int (nI (apF plc i_2))), (0, .ref p0), (1, .int (nI cnt))]) hx hb dL_areWell_142 hl rfl (by decide) rfl (fun ls hl => ?_)
      refine lv_goto (tgt := 84) hx hb dL_areWell_145 (by decide) ?_
      refine lv_iload hx hb dL_areWell_84 (lv_at hl 0 rfl) ?_
      refine lv_iconst (v := nI 3) hx hb dL_areWell_86 (by decide) ?_
      refine xc_ge (tgt := 148) hx hb dL_areWell_87 (by decide) (by omega) (by omega) (fun c_128 => ?_) (fun c_128 => by omega)
      refine lv_aload_n hx hb dL_areWell_148 rfl (lv_at hl 8 rfl) ?_
      refine lv_iload hx hb dL_areWell_149 (lv_at hl 6 rfl) ?_
      refine lv_iconst (v := nI 4) hx hb dL_areWell_151 (by decide) ?_
      refine xv_i (As := [.int (nI i_2), .int (nI 4)]) (rest := []) (q := (RX5, TX5, 7)) ⟨hx, hb, hml, hown, hts⟩ (kX5_ofTooth l dC dI cyI cyZ cyJ cyD cyB p0 g0 g1 g2 g3 g4 h0 h1 t0 w0 s0 v0 kn g5 cnt pit bro scr plu h2 plc i_2 4 (by omega) (by omega) (by omega)) (cwV 2 hts gL_areWell_X5_ofTooth rfl rfl rfl (by decide +kernel) ⟨Nat.le_of_ble_eq_true rfl, Nat.le_of_ble_eq_true rfl⟩) hK hP hS [0, 3, 4, 5, 6, 7, 9, 10] rfl 0 7 rfl rfl rfl hl.1 rfl (Nat.le_of_ble_eq_true rfl) dL_areWell_152 ⟨Nat.le_of_ble_eq_true rfl, Nat.le_of_ble_eq_true rfl⟩ (fun r_129 H locs hw hP hS => ?_)
      have hw : r_129 = nI (otF pit bro scr plu plc i_2 4) := hw
      subst hw
      rw [show otF pit bro scr plu plc i_2 4 = pinsF plc i_2 from rfl]
      rw [show pinsF plc i_2 = 0 + bcN (plc (0 * 24 + i_2)) + bcN (plc ((0 + 1) * 24 + i_2)) + bcN (plc ((0 + 1 + 1) * 24 + i_2)) from rfl]
      refine lv_iload hx hb dL_areWell_155 (lv_at hl 2 rfl) ?_
      refine xc_eq (tgt := 162) hx hb dL_areWell_157 (by decide) (by omega) (by omega) (fun c_130 => ?_) (fun c_130 => by omega)
      refine lv_iload_n hx hb dL_areWell_162 rfl (lv_at hl 7 rfl) ?_
      refine lv_iload hx hb dL_areWell_163 (lv_at hl 2 rfl) ?_
      refine xi_add hx hb dL_areWell_165 ?_
      refine lv_istore_n (lv' := [(2, .int (nI ((apF plc i_2) + (((0 + (bcN (plc (0 * 24 + i_2)))) + (bcN (plc ((0 + 1) * 24 + i_2)))) + (bcN (plc (((0 + 1) + 1) * 24 + i_2))))))), (7, .int (nI (((0 + 1) + 1) + 1))), (10, .int (nI (((1 + 1) + 1) + 1))), (6, .int (nI (((0 + (bcN (plc (0 * 24 + i_2)))) + (bcN (plc ((0 + 1) * 24 + i_2)))) + (bcN (plc (((0 + 1) + 1) * 24 + i_2)))))), (8, .long (plc (((0 + 1) + 1) * 24 + i_2))), (3, .int (nI ((brF bro i_2) + 1))), (5, .int (nI 1)), (4, .int (nI i_2)), (0, .ref p0), (1, .int (nI cnt))]) hx hb dL_areWell_166 rfl hl (by decide) rfl (fun ls hl => ?_)
      refine xi_inc (k := 7) (lv' := [(4, .int (nI (i_2 + 1))), (2, .int (nI ((apF plc i_2) + (((0 + (bcN (plc (0 * 24 + i_2)))) + (bcN (plc ((0 + 1) * 24 + i_2)))) + (bcN (plc (((0 + 1) + 1) * 24 + i_2))))))), (7, .int (nI (((0 + 1) + 1) + 1))), (10, .int (nI (((1 + 1) + 1) + 1))), (6, .int (nI (((0 + (bcN (plc (0 * 24 + i_2)))) + (bcN (plc ((0 + 1) * 24 + i_2)))) + (bcN (plc (((0 + 1) + 1) * 24 + i_2)))))), (8, .long (plc (((0 + 1) + 1) * 24 + i_2))), (3, .int (nI ((brF bro i_2) + 1))), (5, .int (nI 1)), (0, .ref p0), (1, .int (nI cnt))]) hx hb dL_areWell_167 hl rfl (by decide) rfl (fun ls hl => ?_)
      refine lv_goto (tgt := 7) hx hb dL_areWell_170 (by decide) ?_
      have e1 : apF plc (i_2 + 1) = (apF plc i_2) + (((0 + (bcN (plc (0 * 24 + i_2)))) + (bcN (plc ((0 + 1) * 24 + i_2)))) + (bcN (plc (((0 + 1) + 1) * 24 + i_2)))) := rfl
      have e2 : brF bro (i_2 + 1) = (brF bro i_2) + 1 := if_pos hb_80
      exact ih_4 (i_2 + 1) (by omega)  _ _ (by first | exact hP | (simp only [e1, e2]; exact hP) | (simp only [e1, e2] at hP ⊢; exact hP)) (by first | exact hD | (simp only [e1, e2]; exact hD) | (simp only [e1, e2] at hD ⊢; exact hD)) hS _ (by first | exact (lv_sub hl [0, 6, 1, 8, 9] rfl) | (simp only [e1, e2]; exact (lv_sub hl [0, 6, 1, 8, 9] rfl)) | (simp only [e1, e2] at hl ⊢; exact (lv_sub hl [0, 6, 1, 8, 9] rfl)))
    · obtain ⟨hs1, hs2⟩ := hbs i_2 (by omega)
      rw [hb_80] at hs2
      have hs4 : ¬ scr i_2 = 4 := of_decide_eq_false hs2.symm
      refine lv_aload_n hx hb dL_areWell_13 rfl (lv_at hl 3 rfl) ?_
      refine lv_iload hx hb dL_areWell_14 (lv_at hl 0 rfl) ?_
      refine lv_iconst (v := nI 1) hx hb dL_areWell_16 (by decide) ?_
      refine xv_i (As := [.int (nI i_2), .int (nI 1)]) (rest := []) (q := (RX5, TX5, 7)) ⟨hx, hb, hml, hown, hts⟩ (kX5_ofTooth l dC dI cyI cyZ cyJ cyD cyB p0 g0 g1 g2 g3 g4 h0 h1 t0 w0 s0 v0 kn g5 cnt pit bro scr plu h2 plc i_2 1 (by omega) (by omega) (by omega)) (cwV 2 hts gL_areWell_X5_ofTooth rfl rfl rfl (by decide +kernel) ⟨Nat.le_of_ble_eq_true rfl, Nat.le_of_ble_eq_true rfl⟩) hK hP hS [0, 3, 4, 5, 6, 7, 9, 10] rfl 0 7 rfl rfl rfl hl.1 rfl (Nat.le_of_ble_eq_true rfl) dL_areWell_17 ⟨Nat.le_of_ble_eq_true rfl, Nat.le_of_ble_eq_true rfl⟩ (fun r_131 H locs hw hP hS => ?_)
      have hw : r_131 = nI (otF pit bro scr plu plc i_2 1) := hw
      subst hw
      rw [show otF pit bro scr plu plc i_2 1 = (if bro i_2 then 1 else 0) from rfl]
      rw [show (if bro i_2 then 1 else 0) = 0 from by rw [hb_80]; rfl]
      refine lv_iconst (v := nI 1) hx hb dL_areWell_20 (by decide) ?_
      refine xc_ne (tgt := 28) hx hb dL_areWell_21 (by decide) (by omega) (by omega) (fun c_132 => ?_) (fun c_132 => by omega)
      refine lv_iconst (v := nI 0) hx hb dL_areWell_28 (by decide) ?_
      refine lv_istore (lv' := [(5, .int (nI 0)), (4, .int (nI i_2)), (3, .int (nI (brF bro i_2))), (2, .int (nI (apF plc i_2))), (0, .ref p0), (1, .int (nI cnt))]) hx hb dL_areWell_29 hl (by decide) rfl (fun ls hl => ?_)
      refine lv_iload_n hx hb dL_areWell_31 rfl (lv_at hl 2 rfl) ?_
      refine lv_iload hx hb dL_areWell_32 (lv_at hl 0 rfl) ?_
      refine xz_eq (tgt := 41) hx hb dL_areWell_34 (by decide) (by omega) (fun c_133 => ?_) (fun c_133 => by omega)
      refine lv_iconst (v := nI 0) hx hb dL_areWell_41 (by decide) ?_
      refine xi_add hx hb dL_areWell_42 ?_
      refine lv_istore_n (lv' := [(3, .int (nI ((brF bro i_2) + 0))), (5, .int (nI 0)), (4, .int (nI i_2)), (2, .int (nI (apF plc i_2))), (0, .ref p0), (1, .int (nI cnt))]) hx hb dL_areWell_43 rfl hl (by decide) rfl (fun ls hl => ?_)
      refine lv_iload hx hb dL_areWell_44 (lv_at hl 1 rfl) ?_
      refine lv_aload_n hx hb dL_areWell_46 rfl (lv_at hl 4 rfl) ?_
      refine lv_iload hx hb dL_areWell_47 (lv_at hl 2 rfl) ?_
      refine lv_iconst (v := nI 2) hx hb dL_areWell_49 (by decide) ?_
      refine xv_i (As := [.int (nI i_2), .int (nI 2)]) (rest := [.int (nI 0)]) (q := (RX5, TX5, 7)) ⟨hx, hb, hml, hown, hts⟩ (kX5_ofTooth l dC dI cyI cyZ cyJ cyD cyB p0 g0 g1 g2 g3 g4 h0 h1 t0 w0 s0 v0 kn g5 cnt pit bro scr plu h2 plc i_2 2 (by omega) (by omega) (by omega)) (cwV 2 hts gL_areWell_X5_ofTooth rfl rfl rfl (by decide +kernel) ⟨Nat.le_of_ble_eq_true rfl, Nat.le_of_ble_eq_true rfl⟩) hK hP hS [0, 3, 4, 5, 6, 7, 9, 10] rfl 0 7 rfl rfl rfl hl.1 rfl (Nat.le_of_ble_eq_true rfl) dL_areWell_50 ⟨Nat.le_of_ble_eq_true rfl, Nat.le_of_ble_eq_true rfl⟩ (fun r_134 H locs hw hP hS => ?_)
      have hw : r_134 = nI (otF pit bro scr plu plc i_2 2) := hw
      subst hw
      rw [show otF pit bro scr plu plc i_2 2 = scr i_2 from rfl]
      refine lv_iconst (v := nI 4) hx hb dL_areWell_53 (by decide) ?_
      refine xc_ne (tgt := 61) hx hb dL_areWell_54 (by decide) (by omega) (by omega) (fun c_135 => ?_) (fun c_135 => by omega)
      refine lv_iconst (v := nI 0) hx hb dL_areWell_61 (by decide) ?_
      refine xc_ne (tgt := 76) hx hb dL_areWell_62 (by decide) (by omega) (by omega) (fun c_136 => by omega) (fun c_136 => ?_)
      refine lv_aload_n hx hb dL_areWell_65 rfl (lv_at hl 4 rfl) ?_
      refine lv_iload hx hb dL_areWell_66 (lv_at hl 2 rfl) ?_
      refine lv_iconst (v := nI 2) hx hb dL_areWell_68 (by decide) ?_
      refine xv_i (As := [.int (nI i_2), .int (nI 2)]) (rest := []) (q := (RX5, TX5, 7)) ⟨hx, hb, hml, hown, hts⟩ (kX5_ofTooth l dC dI cyI cyZ cyJ cyD cyB p0 g0 g1 g2 g3 g4 h0 h1 t0 w0 s0 v0 kn g5 cnt pit bro scr plu h2 plc i_2 2 (by omega) (by omega) (by omega)) (cwV 2 hts gL_areWell_X5_ofTooth rfl rfl rfl (by decide +kernel) ⟨Nat.le_of_ble_eq_true rfl, Nat.le_of_ble_eq_true rfl⟩) hK hP hS [0, 3, 4, 5, 6, 7, 9, 10] rfl 0 7 rfl rfl rfl hl.1 rfl (Nat.le_of_ble_eq_true rfl) dL_areWell_69 ⟨Nat.le_of_ble_eq_true rfl, Nat.le_of_ble_eq_true rfl⟩ (fun r_137 H locs hw hP hS => ?_)
      have hw : r_137 = nI (otF pit bro scr plu plc i_2 2) := hw
      subst hw
      rw [show otF pit bro scr plu plc i_2 2 = scr i_2 from rfl]
      refine lv_iconst (v := nI 4) hx hb dL_areWell_72 (by decide) ?_
      refine xc_le (tgt := 78) hx hb dL_areWell_73 (by decide) (by omega) (by omega) (fun c_138 => ?_) (fun c_138 => by omega)
      refine lv_iconst (v := nI 0) hx hb dL_areWell_78 (by decide) ?_
      refine lv_istore (lv' := [(6, .int (nI 0)), (3, .int (nI ((brF bro i_2) + 0))), (5, .int (nI 0)), (4, .int (nI i_2)), (2, .int (nI (apF plc i_2))), (0, .ref p0), (1, .int (nI cnt))]) hx hb dL_areWell_79 hl (by decide) rfl (fun ls hl => ?_)
      refine lv_iconst (v := nI 0) hx hb dL_areWell_81 (by decide) ?_
      refine lv_istore (lv' := [(7, .int (nI 0)), (6, .int (nI 0)), (3, .int (nI ((brF bro i_2) + 0))), (5, .int (nI 0)), (4, .int (nI i_2)), (2, .int (nI (apF plc i_2))), (0, .ref p0), (1, .int (nI cnt))]) hx hb dL_areWell_82 hl (by decide) rfl (fun ls hl => ?_)
      refine lv_iload hx hb dL_areWell_84 (lv_at hl 0 rfl) ?_
      refine lv_iconst (v := nI 3) hx hb dL_areWell_86 (by decide) ?_
      refine xc_ge (tgt := 148) hx hb dL_areWell_87 (by decide) (by omega) (by omega) (fun c_139 => by omega) (fun c_139 => ?_)
      refine lv_aload_n hx hb dL_areWell_90 rfl (lv_at hl 6 rfl) ?_
      refine lv_iload hx hb dL_areWell_91 (lv_at hl 4 rfl) ?_
      refine lv_iload hx hb dL_areWell_93 (lv_at hl 0 rfl) ?_
      refine xv_l (As := [.int (nI i_2), .int (nI 0)]) (rest := []) (q := (RX5, TX5, 7)) ⟨hx, hb, hml, hown, hts⟩ (kX5_pins l dC dI cyI cyZ cyJ cyD cyB p0 g0 h0 h1 t0 w0 s0 v0 kn g1 g2 g3 g4 g5 cnt h2 plc i_2 0 (by omega) (by omega) (by omega)) (cwV 2 hts gL_areWell_X5_pins rfl rfl rfl (by decide +kernel) ⟨Nat.le_of_ble_eq_true rfl, Nat.le_of_ble_eq_true rfl⟩) hK hP hS [0, 3, 9, 10] rfl 0 7 rfl rfl rfl hl.1 rfl (Nat.le_of_ble_eq_true rfl) dL_areWell_95 ⟨Nat.le_of_ble_eq_true rfl, Nat.le_of_ble_eq_true rfl⟩ (fun r_140 H locs hw hP hS => ?_)
      have hw : r_140 = plc (0 * 24 + i_2) := hw
      subst hw
      refine lv_lstore (lv' := [(8, .long (plc (0 * 24 + i_2))), (7, .int (nI 0)), (6, .int (nI 0)), (3, .int (nI ((brF bro i_2) + 0))), (5, .int (nI 0)), (4, .int (nI i_2)), (2, .int (nI (apF plc i_2))), (0, .ref p0), (1, .int (nI cnt))]) hx hb dL_areWell_98 hl (by decide) rfl (fun ls hl => ?_)
      refine lv_iload hx hb dL_areWell_100 (lv_at hl 2 rfl) ?_
      refine lv_lload hx hb dL_areWell_102 (lv_at hl 0 rfl) ?_
      refine xs_i (As := [.long (plc (0 * 24 + i_2))]) (rest := [.int (nI 0)]) ⟨hx, hb, hml, hown, hts⟩ (kJ13_bitCount_95d88 l (plc (0 * 24 + i_2))) (va_cwS 1 hts gL_areWell_J13_bitCount_95d88 rfl rfl rfl (by decide +kernel) ⟨Nat.le_of_ble_eq_true rfl, Nat.le_of_ble_eq_true rfl⟩) hP hS rfl hl.1 rfl (Nat.le_of_ble_eq_true rfl) dL_areWell_104 ⟨Nat.le_of_ble_eq_true rfl, Nat.le_of_ble_eq_true rfl⟩ (fun r_141 H locs hw hP hS => ?_)
      have hw : r_141 = nI (bcN (plc (0 * 24 + i_2))) := hw
      subst hw
      refine xi_add hx hb dL_areWell_107 ?_
      refine lv_istore (lv' := [(6, .int (nI (0 + (bcN (plc (0 * 24 + i_2)))))), (8, .long (plc (0 * 24 + i_2))), (7, .int (nI 0)), (3, .int (nI ((brF bro i_2) + 0))), (5, .int (nI 0)), (4, .int (nI i_2)), (2, .int (nI (apF plc i_2))), (0, .ref p0), (1, .int (nI cnt))]) hx hb dL_areWell_108 hl (by decide) rfl (fun ls hl => ?_)
      refine lv_iconst (v := nI 1) hx hb dL_areWell_110 (by decide) ?_
      refine lv_istore (lv' := [(10, .int (nI 1)), (6, .int (nI (0 + (bcN (plc (0 * 24 + i_2)))))), (8, .long (plc (0 * 24 + i_2))), (7, .int (nI 0)), (3, .int (nI ((brF bro i_2) + 0))), (5, .int (nI 0)), (4, .int (nI i_2)), (2, .int (nI (apF plc i_2))), (0, .ref p0), (1, .int (nI cnt))]) hx hb dL_areWell_111 hl (by decide) rfl (fun ls hl => ?_)
      refine lv_iload hx hb dL_areWell_113 (lv_at hl 0 rfl) ?_
      refine lv_iconst (v := nI 4) hx hb dL_areWell_115 (by decide) ?_
      refine xc_ge (tgt := 142) hx hb dL_areWell_116 (by decide) (by omega) (by omega) (fun c_142 => by omega) (fun c_142 => ?_)
      refine lv_lload hx hb dL_areWell_119 (lv_at hl 2 rfl) ?_
      refine lv_lload hx hb dL_areWell_121 (lv_at hl 2 rfl) ?_
      refine lv_iload hx hb dL_areWell_123 (lv_at hl 0 rfl) ?_
      refine xs_l (As := [.long (plc (0 * 24 + i_2)), .int (nI 1)]) (rest := [.long (plc (0 * 24 + i_2))]) ⟨hx, hb, hml, hown, hts⟩ (kJ13_rotateLeft_b2ac5 l (plc (0 * 24 + i_2)) 1) (va_cwS 2 hts gL_areWell_J13_rotateLeft_b2ac5 rfl rfl rfl (by decide +kernel) ⟨Nat.le_of_ble_eq_true rfl, Nat.le_of_ble_eq_true rfl⟩) hP hS rfl hl.1 rfl (Nat.le_of_ble_eq_true rfl) dL_areWell_125 ⟨Nat.le_of_ble_eq_true rfl, Nat.le_of_ble_eq_true rfl⟩ (fun r_143 H locs hw hP hS => ?_)
      have hw : r_143 = ((plc (0 * 24 + i_2)) <<< ((nI 1).toInt64 &&& 63)) ||| (((plc (0 * 24 + i_2)).toUInt64 >>> ((-nI 1).toInt64.toUInt64 &&& Int64.toUInt64 63)).toInt64) := hw
      subst hw
      refine lv_land hx hb dL_areWell_128 ?_
      refine lv_lconst (v := 0) hx hb dL_areWell_129 (by decide) ?_
      refine W.lcmp hx hb dL_areWell_130 ?_
      refine lv_if_eq (tgt := 136) hx hb dL_areWell_131 (by decide) (fun c_144 => ?_) (fun c_144 => absurd (lg_cmp0.mpr (rl_0 (hnf _ _ (by omega) (by omega)) (by omega) (by omega))) c_144)
      refine xi_inc (k := 0) (lv' := [(10, .int (nI (1 + 1))), (6, .int (nI (0 + (bcN (plc (0 * 24 + i_2)))))), (8, .long (plc (0 * 24 + i_2))), (7, .int (nI 0)), (3, .int (nI ((brF bro i_2) + 0))), (5, .int (nI 0)), (4, .int (nI i_2)), (2, .int (nI (apF plc i_2))), (0, .ref p0), (1, .int (nI cnt))]) hx hb dL_areWell_136 hl rfl (by decide) rfl (fun ls hl => ?_)
      refine lv_goto (tgt := 113) hx hb dL_areWell_139 (by decide) ?_
      refine lv_iload hx hb dL_areWell_113 (lv_at hl 0 rfl) ?_
      refine lv_iconst (v := nI 4) hx hb dL_areWell_115 (by decide) ?_
      refine xc_ge (tgt := 142) hx hb dL_areWell_116 (by decide) (by omega) (by omega) (fun c_145 => by omega) (fun c_145 => ?_)
      refine lv_lload hx hb dL_areWell_119 (lv_at hl 2 rfl) ?_
      refine lv_lload hx hb dL_areWell_121 (lv_at hl 2 rfl) ?_
      refine lv_iload hx hb dL_areWell_123 (lv_at hl 0 rfl) ?_
      refine xs_l (As := [.long (plc (0 * 24 + i_2)), .int (nI (1 + 1))]) (rest := [.long (plc (0 * 24 + i_2))]) ⟨hx, hb, hml, hown, hts⟩ (kJ13_rotateLeft_b2ac5 l (plc (0 * 24 + i_2)) (1 + 1)) (va_cwS 2 hts gL_areWell_J13_rotateLeft_b2ac5 rfl rfl rfl (by decide +kernel) ⟨Nat.le_of_ble_eq_true rfl, Nat.le_of_ble_eq_true rfl⟩) hP hS rfl hl.1 rfl (Nat.le_of_ble_eq_true rfl) dL_areWell_125 ⟨Nat.le_of_ble_eq_true rfl, Nat.le_of_ble_eq_true rfl⟩ (fun r_146 H locs hw hP hS => ?_)
      have hw : r_146 = ((plc (0 * 24 + i_2)) <<< ((nI (1 + 1)).toInt64 &&& 63)) ||| (((plc (0 * 24 + i_2)).toUInt64 >>> ((-nI (1 + 1)).toInt64.toUInt64 &&& Int64.toUInt64 63)).toInt64) := hw
      subst hw
      refine lv_land hx hb dL_areWell_128 ?_
      refine lv_lconst (v := 0) hx hb dL_areWell_129 (by decide) ?_
      refine W.lcmp hx hb dL_areWell_130 ?_
      refine lv_if_eq (tgt := 136) hx hb dL_areWell_131 (by decide) (fun c_147 => ?_) (fun c_147 => absurd (lg_cmp0.mpr (rl_0 (hnf _ _ (by omega) (by omega)) (by omega) (by omega))) c_147)
      refine xi_inc (k := 0) (lv' := [(10, .int (nI ((1 + 1) + 1))), (6, .int (nI (0 + (bcN (plc (0 * 24 + i_2)))))), (8, .long (plc (0 * 24 + i_2))), (7, .int (nI 0)), (3, .int (nI ((brF bro i_2) + 0))), (5, .int (nI 0)), (4, .int (nI i_2)), (2, .int (nI (apF plc i_2))), (0, .ref p0), (1, .int (nI cnt))]) hx hb dL_areWell_136 hl rfl (by decide) rfl (fun ls hl => ?_)
      refine lv_goto (tgt := 113) hx hb dL_areWell_139 (by decide) ?_
      refine lv_iload hx hb dL_areWell_113 (lv_at hl 0 rfl) ?_
      refine lv_iconst (v := nI 4) hx hb dL_areWell_115 (by decide) ?_
      refine xc_ge (tgt := 142) hx hb dL_areWell_116 (by decide) (by omega) (by omega) (fun c_148 => by omega) (fun c_148 => ?_)
      refine lv_lload hx hb dL_areWell_119 (lv_at hl 2 rfl) ?_
      refine lv_lload hx hb dL_areWell_121 (lv_at hl 2 rfl) ?_
      refine lv_iload hx hb dL_areWell_123 (lv_at hl 0 rfl) ?_
      refine xs_l (As := [.long (plc (0 * 24 + i_2)), .int (nI ((1 + 1) + 1))]) (rest := [.long (plc (0 * 24 + i_2))]) ⟨hx, hb, hml, hown, hts⟩ (kJ13_rotateLeft_b2ac5 l (plc (0 * 24 + i_2)) ((1 + 1) + 1)) (va_cwS 2 hts gL_areWell_J13_rotateLeft_b2ac5 rfl rfl rfl (by decide +kernel) ⟨Nat.le_of_ble_eq_true rfl, Nat.le_of_ble_eq_true rfl⟩) hP hS rfl hl.1 rfl (Nat.le_of_ble_eq_true rfl) dL_areWell_125 ⟨Nat.le_of_ble_eq_true rfl, Nat.le_of_ble_eq_true rfl⟩ (fun r_149 H locs hw hP hS => ?_)
      have hw : r_149 = ((plc (0 * 24 + i_2)) <<< ((nI ((1 + 1) + 1)).toInt64 &&& 63)) ||| (((plc (0 * 24 + i_2)).toUInt64 >>> ((-nI ((1 + 1) + 1)).toInt64.toUInt64 &&& Int64.toUInt64 63)).toInt64) := hw
      subst hw
      refine lv_land hx hb dL_areWell_128 ?_
      refine lv_lconst (v := 0) hx hb dL_areWell_129 (by decide) ?_
      refine W.lcmp hx hb dL_areWell_130 ?_
      refine lv_if_eq (tgt := 136) hx hb dL_areWell_131 (by decide) (fun c_150 => ?_) (fun c_150 => absurd (lg_cmp0.mpr (rl_0 (hnf _ _ (by omega) (by omega)) (by omega) (by omega))) c_150)
      refine xi_inc (k := 0) (lv' := [(10, .int (nI (((1 + 1) + 1) + 1))), (6, .int (nI (0 + (bcN (plc (0 * 24 + i_2)))))), (8, .long (plc (0 * 24 + i_2))), (7, .int (nI 0)), (3, .int (nI ((brF bro i_2) + 0))), (5, .int (nI 0)), (4, .int (nI i_2)), (2, .int (nI (apF plc i_2))), (0, .ref p0), (1, .int (nI cnt))]) hx hb dL_areWell_136 hl rfl (by decide) rfl (fun ls hl => ?_)
      refine lv_goto (tgt := 113) hx hb dL_areWell_139 (by decide) ?_
      refine lv_iload hx hb dL_areWell_113 (lv_at hl 0 rfl) ?_
      refine lv_iconst (v := nI 4) hx hb dL_areWell_115 (by decide) ?_
      refine xc_ge (tgt := 142) hx hb dL_areWell_116 (by decide) (by omega) (by omega) (fun c_151 => ?_) (fun c_151 => by omega)
      refine xi_inc (k := 3) (lv' := [(7, .int (nI (0 + 1))), (10, .int (nI (((1 + 1) + 1) + 1))), (6, .int (nI (0 + (bcN (plc (0 * 24 + i_2)))))), (8, .long (plc (0 * 24 + i_2))), (3, .int (nI ((brF bro i_2) + 0))), (5, .int (nI 0)), (4, .int (nI i_2)), (2, .int (nI (apF plc i_2))), (0, .ref p0), (1, .int (nI cnt))]) hx hb dL_areWell_142 hl rfl (by decide) rfl (fun ls hl => ?_)
      refine lv_goto (tgt := 84) hx hb dL_areWell_145 (by decide) ?_
      refine lv_iload hx hb dL_areWell_84 (lv_at hl 0 rfl) ?_
      refine lv_iconst (v := nI 3) hx hb dL_areWell_86 (by decide) ?_
      refine xc_ge (tgt := 148) hx hb dL_areWell_87 (by decide) (by omega) (by omega) (fun c_152 => by omega) (fun c_152 => ?_)
      refine lv_aload_n hx hb dL_areWell_90 rfl (lv_at hl 8 rfl) ?_
      refine lv_iload hx hb dL_areWell_91 (lv_at hl 6 rfl) ?_
      refine lv_iload hx hb dL_areWell_93 (lv_at hl 0 rfl) ?_
      refine xv_l (As := [.int (nI i_2), .int (nI (0 + 1))]) (rest := []) (q := (RX5, TX5, 7)) ⟨hx, hb, hml, hown, hts⟩ (kX5_pins l dC dI cyI cyZ cyJ cyD cyB p0 g0 h0 h1 t0 w0 s0 v0 kn g1 g2 g3 g4 g5 cnt h2 plc i_2 (0 + 1) (by omega) (by omega) (by omega)) (cwV 2 hts gL_areWell_X5_pins rfl rfl rfl (by decide +kernel) ⟨Nat.le_of_ble_eq_true rfl, Nat.le_of_ble_eq_true rfl⟩) hK hP hS [0, 3, 9, 10] rfl 0 7 rfl rfl rfl hl.1 rfl (Nat.le_of_ble_eq_true rfl) dL_areWell_95 ⟨Nat.le_of_ble_eq_true rfl, Nat.le_of_ble_eq_true rfl⟩ (fun r_153 H locs hw hP hS => ?_)
      have hw : r_153 = plc ((0 + 1) * 24 + i_2) := hw
      subst hw
      refine lv_lstore (lv' := [(8, .long (plc ((0 + 1) * 24 + i_2))), (7, .int (nI (0 + 1))), (10, .int (nI (((1 + 1) + 1) + 1))), (6, .int (nI (0 + (bcN (plc (0 * 24 + i_2)))))), (3, .int (nI ((brF bro i_2) + 0))), (5, .int (nI 0)), (4, .int (nI i_2)), (2, .int (nI (apF plc i_2))), (0, .ref p0), (1, .int (nI cnt))]) hx hb dL_areWell_98 hl (by decide) rfl (fun ls hl => ?_)
      refine lv_iload hx hb dL_areWell_100 (lv_at hl 3 rfl) ?_
      refine lv_lload hx hb dL_areWell_102 (lv_at hl 0 rfl) ?_
      refine xs_i (As := [.long (plc ((0 + 1) * 24 + i_2))]) (rest := [.int (nI (0 + (bcN (plc (0 * 24 + i_2)))))]) ⟨hx, hb, hml, hown, hts⟩ (kJ13_bitCount_95d88 l (plc ((0 + 1) * 24 + i_2))) (va_cwS 1 hts gL_areWell_J13_bitCount_95d88 rfl rfl rfl (by decide +kernel) ⟨Nat.le_of_ble_eq_true rfl, Nat.le_of_ble_eq_true rfl⟩) hP hS rfl hl.1 rfl (Nat.le_of_ble_eq_true rfl) dL_areWell_104 ⟨Nat.le_of_ble_eq_true rfl, Nat.le_of_ble_eq_true rfl⟩ (fun r_154 H locs hw hP hS => ?_)
      have hw : r_154 = nI (bcN (plc ((0 + 1) * 24 + i_2))) := hw
      subst hw
      refine xi_add hx hb dL_areWell_107 ?_
      refine lv_istore (lv' := [(6, .int (nI ((0 + (bcN (plc (0 * 24 + i_2)))) + (bcN (plc ((0 + 1) * 24 + i_2)))))), (8, .long (plc ((0 + 1) * 24 + i_2))), (7, .int (nI (0 + 1))), (10, .int (nI (((1 + 1) + 1) + 1))), (3, .int (nI ((brF bro i_2) + 0))), (5, .int (nI 0)), (4, .int (nI i_2)), (2, .int (nI (apF plc i_2))), (0, .ref p0), (1, .int (nI cnt))]) hx hb dL_areWell_108 hl (by decide) rfl (fun ls hl => ?_)
      refine lv_iconst (v := nI 1) hx hb dL_areWell_110 (by decide) ?_
      refine lv_istore (lv' := [(10, .int (nI 1)), (6, .int (nI ((0 + (bcN (plc (0 * 24 + i_2)))) + (bcN (plc ((0 + 1) * 24 + i_2)))))), (8, .long (plc ((0 + 1) * 24 + i_2))), (7, .int (nI (0 + 1))), (3, .int (nI ((brF bro i_2) + 0))), (5, .int (nI 0)), (4, .int (nI i_2)), (2, .int (nI (apF plc i_2))), (0, .ref p0), (1, .int (nI cnt))]) hx hb dL_areWell_111 hl (by decide) rfl (fun ls hl => ?_)
      refine lv_iload hx hb dL_areWell_113 (lv_at hl 0 rfl) ?_
      refine lv_iconst (v := nI 4) hx hb dL_areWell_115 (by decide) ?_
      refine xc_ge (tgt := 142) hx hb dL_areWell_116 (by decide) (by omega) (by omega) (fun c_155 => by omega) (fun c_155 => ?_)
      refine lv_lload hx hb dL_areWell_119 (lv_at hl 2 rfl) ?_
      refine lv_lload hx hb dL_areWell_121 (lv_at hl 2 rfl) ?_
      refine lv_iload hx hb dL_areWell_123 (lv_at hl 0 rfl) ?_
      refine xs_l (As := [.long (plc ((0 + 1) * 24 + i_2)), .int (nI 1)]) (rest := [.long (plc ((0 + 1) * 24 + i_2))]) ⟨hx, hb, hml, hown, hts⟩ (kJ13_rotateLeft_b2ac5 l (plc ((0 + 1) * 24 + i_2)) 1) (va_cwS 2 hts gL_areWell_J13_rotateLeft_b2ac5 rfl rfl rfl (by decide +kernel) ⟨Nat.le_of_ble_eq_true rfl, Nat.le_of_ble_eq_true rfl⟩) hP hS rfl hl.1 rfl (Nat.le_of_ble_eq_true rfl) dL_areWell_125 ⟨Nat.le_of_ble_eq_true rfl, Nat.le_of_ble_eq_true rfl⟩ (fun r_156 H locs hw hP hS => ?_)
      have hw : r_156 = ((plc ((0 + 1) * 24 + i_2)) <<< ((nI 1).toInt64 &&& 63)) ||| (((plc ((0 + 1) * 24 + i_2)).toUInt64 >>> ((-nI 1).toInt64.toUInt64 &&& Int64.toUInt64 63)).toInt64) := hw
      subst hw
      refine lv_land hx hb dL_areWell_128 ?_
      refine lv_lconst (v := 0) hx hb dL_areWell_129 (by decide) ?_
      refine W.lcmp hx hb dL_areWell_130 ?_
      refine lv_if_eq (tgt := 136) hx hb dL_areWell_131 (by decide) (fun c_157 => ?_) (fun c_157 => absurd (lg_cmp0.mpr (rl_0 (hnf _ _ (by omega) (by omega)) (by omega) (by omega))) c_157)
      refine xi_inc (k := 0) (lv' := [(10, .int (nI (1 + 1))), (6, .int (nI ((0 + (bcN (plc (0 * 24 + i_2)))) + (bcN (plc ((0 + 1) * 24 + i_2)))))), (8, .long (plc ((0 + 1) * 24 + i_2))), (7, .int (nI (0 + 1))), (3, .int (nI ((brF bro i_2) + 0))), (5, .int (nI 0)), (4, .int (nI i_2)), (2, .int (nI (apF plc i_2))), (0, .ref p0), (1, .int (nI cnt))]) hx hb dL_areWell_136 hl rfl (by decide) rfl (fun ls hl => ?_)
      refine lv_goto (tgt := 113) hx hb dL_areWell_139 (by decide) ?_
      refine lv_iload hx hb dL_areWell_113 (lv_at hl 0 rfl) ?_
      refine lv_iconst (v := nI 4) hx hb dL_areWell_115 (by decide) ?_
      refine xc_ge (tgt := 142) hx hb dL_areWell_116 (by decide) (by omega) (by omega) (fun c_158 => by omega) (fun c_158 => ?_)
      refine lv_lload hx hb dL_areWell_119 (lv_at hl 2 rfl) ?_
      refine lv_lload hx hb dL_areWell_121 (lv_at hl 2 rfl) ?_
      refine lv_iload hx hb dL_areWell_123 (lv_at hl 0 rfl) ?_
      refine xs_l (As := [.long (plc ((0 + 1) * 24 + i_2)), .int (nI (1 + 1))]) (rest := [.long (plc ((0 + 1) * 24 + i_2))]) ⟨hx, hb, hml, hown, hts⟩ (kJ13_rotateLeft_b2ac5 l (plc ((0 + 1) * 24 + i_2)) (1 + 1)) (va_cwS 2 hts gL_areWell_J13_rotateLeft_b2ac5 rfl rfl rfl (by decide +kernel) ⟨Nat.le_of_ble_eq_true rfl, Nat.le_of_ble_eq_true rfl⟩) hP hS rfl hl.1 rfl (Nat.le_of_ble_eq_true rfl) dL_areWell_125 ⟨Nat.le_of_ble_eq_true rfl, Nat.le_of_ble_eq_true rfl⟩ (fun r_159 H locs hw hP hS => ?_)
      have hw : r_159 = ((plc ((0 + 1) * 24 + i_2)) <<< ((nI (1 + 1)).toInt64 &&& 63)) ||| (((plc ((0 + 1) * 24 + i_2)).toUInt64 >>> ((-nI (1 + 1)).toInt64.toUInt64 &&& Int64.toUInt64 63)).toInt64) := hw
      subst hw
      refine lv_land hx hb dL_areWell_128 ?_
      refine lv_lconst (v := 0) hx hb dL_areWell_129 (by decide) ?_
      refine W.lcmp hx hb dL_areWell_130 ?_
      refine lv_if_eq (tgt := 136) hx hb dL_areWell_131 (by decide) (fun c_160 => ?_) (fun c_160 => absurd (lg_cmp0.mpr (rl_0 (hnf _ _ (by omega) (by omega)) (by omega) (by omega))) c_160)
      refine xi_inc (k := 0) (lv' := [(10, .int (nI ((1 + 1) + 1))), (6, .int (nI ((0 + (bcN (plc (0 * 24 + i_2)))) + (bcN (plc ((0 + 1) * 24 + i_2)))))), (8, .long (plc ((0 + 1) * 24 + i_2))), (7, .int (nI (0 + 1))), (3, .int (nI ((brF bro i_2) + 0))), (5, .int (nI 0)), (4, .int (nI i_2)), (2, .int (nI (apF plc i_2))), (0, .ref p0), (1, .int (nI cnt))]) hx hb dL_areWell_136 hl rfl (by decide) rfl (fun ls hl => ?_)
      refine lv_goto (tgt := 113) hx hb dL_areWell_139 (by decide) ?_
      refine lv_iload hx hb dL_areWell_113 (lv_at hl 0 rfl) ?_
      refine lv_iconst (v := nI 4) hx hb dL_areWell_115 (by decide) ?_
      refine xc_ge (tgt := 142) hx hb dL_areWell_116 (by decide) (by omega) (by omega) (fun c_161 => by omega) (fun c_161 => ?_)
      refine lv_lload hx hb dL_areWell_119 (lv_at hl 2 rfl) ?_
      refine lv_lload hx hb dL_areWell_121 (lv_at hl 2 rfl) ?_
      refine lv_iload hx hb dL_areWell_123 (lv_at hl 0 rfl) ?_
      refine xs_l (As := [.long (plc ((0 + 1) * 24 + i_2)), .int (nI ((1 + 1) + 1))]) (rest := [.long (plc ((0 + 1) * 24 + i_2))]) ⟨hx, hb, hml, hown, hts⟩ (kJ13_rotateLeft_b2ac5 l (plc ((0 + 1) * 24 + i_2)) ((1 + 1) + 1)) (va_cwS 2 hts gL_areWell_J13_rotateLeft_b2ac5 rfl rfl rfl (by decide +kernel) ⟨Nat.le_of_ble_eq_true rfl, Nat.le_of_ble_eq_true rfl⟩) hP hS rfl hl.1 rfl (Nat.le_of_ble_eq_true rfl) dL_areWell_125 ⟨Nat.le_of_ble_eq_true rfl, Nat.le_of_ble_eq_true rfl⟩ (fun r_162 H locs hw hP hS => ?_)
      have hw : r_162 = ((plc ((0 + 1) * 24 + i_2)) <<< ((nI ((1 + 1) + 1)).toInt64 &&& 63)) ||| (((plc ((0 + 1) * 24 + i_2)).toUInt64 >>> ((-nI ((1 + 1) + 1)).toInt64.toUInt64 &&& Int64.toUInt64 63)).toInt64) := hw
      subst hw
      refine lv_land hx hb dL_areWell_128 ?_
      refine lv_lconst (v := 0) hx hb dL_areWell_129 (by decide) ?_
      refine W.lcmp hx hb dL_areWell_130 ?_
      refine lv_if_eq (tgt := 136) hx hb dL_areWell_131 (by decide) (fun c_163 => ?_) (fun c_163 => absurd (lg_cmp0.mpr (rl_0 (hnf _ _ (by omega) (by omega)) (by omega) (by omega))) c_163)
      refine xi_inc (k := 0) (lv' := [(10, .int (nI (((1 + 1) + 1) + 1))), (6, .int (nI ((0 + (bcN (plc (0 * 24 + i_2)))) + (bcN (plc ((0 + 1) * 24 + i_2)))))), (8, .long (plc ((0 + 1) * 24 + i_2))), (7, .int (nI (0 + 1))), (3, .int (nI ((brF bro i_2) + 0))), (5, .int (nI 0)), (4, .int (nI i_2)), (2, .int (nI (apF plc i_2))), (0, .ref p0), (1, .int (nI cnt))]) hx hb dL_areWell_136 hl rfl (by decide) rfl (fun ls hl => ?_)
      refine lv_goto (tgt := 113) hx hb dL_areWell_139 (by decide) ?_
      refine lv_iload hx hb dL_areWell_113 (lv_at hl 0 rfl) ?_
      refine lv_iconst (v := nI 4) hx hb dL_areWell_115 (by decide) ?_
      refine xc_ge (tgt := 142) hx hb dL_areWell_116 (by decide) (by omega) (by omega) (fun c_164 => ?_) (fun c_164 => by omega)
      refine xi_inc (k := 3) (lv' := [(7, .int (nI ((0 + 1) + 1))), (10, .int (nI (((1 + 1) + 1) + 1))), (6, .int (nI ((0 + (bcN (plc (0 * 24 + i_2)))) + (bcN (plc ((0 + 1) * 24 + i_2)))))), (8, .long (plc ((0 + 1) * 24 + i_2))), (3, .int (nI ((brF bro i_2) + 0))), (5, .int (nI 0)), (4, .int (nI i_2)), (2, .int (nI (apF plc i_2))), (0, .ref p0), (1, .int (nI cnt))]) hx hb dL_areWell_142 hl rfl (by decide) rfl (fun ls hl => ?_)
      refine lv_goto (tgt := 84) hx hb dL_areWell_145 (by decide) ?_
      refine lv_iload hx hb dL_areWell_84 (lv_at hl 0 rfl) ?_
      refine lv_iconst (v := nI 3) hx hb dL_areWell_86 (by decide) ?_
      refine xc_ge (tgt := 148) hx hb dL_areWell_87 (by decide) (by omega) (by omega) (fun c_165 => by omega) (fun c_165 => ?_)
      refine lv_aload_n hx hb dL_areWell_90 rfl (lv_at hl 8 rfl) ?_
      refine lv_iload hx hb dL_areWell_91 (lv_at hl 6 rfl) ?_
      refine lv_iload hx hb dL_areWell_93 (lv_at hl 0 rfl) ?_
      refine xv_l (As := [.int (nI i_2), .int (nI ((0 + 1) + 1))]) (rest := []) (q := (RX5, TX5, 7)) ⟨hx, hb, hml, hown, hts⟩ (kX5_pins l dC dI cyI cyZ cyJ cyD cyB p0 g0 h0 h1 t0 w0 s0 v0 kn g1 g2 g3 g4 g5 cnt h2 plc i_2 ((0 + 1) + 1) (by omega) (by omega) (by omega)) (cwV 2 hts gL_areWell_X5_pins rfl rfl rfl (by decide +kernel) ⟨Nat.le_of_ble_eq_true rfl, Nat.le_of_ble_eq_true rfl⟩) hK hP hS [0, 3, 9, 10] rfl 0 7 rfl rfl rfl hl.1 rfl (Nat.le_of_ble_eq_true rfl) dL_areWell_95 ⟨Nat.le_of_ble_eq_true rfl, Nat.le_of_ble_eq_true rfl⟩ (fun r_166 H locs hw hP hS => ?_)
      have hw : r_166 = plc (((0 + 1) + 1) * 24 + i_2) := hw
      subst hw
      refine lv_lstore (lv' := [(8, .long (plc (((0 + 1) + 1) * 24 + i_2))), (7, .int (nI ((0 + 1) + 1))), (10, .int (nI (((1 + 1) + 1) + 1))), (6, .int (nI ((0 + (bcN (plc (0 * 24 + i_2)))) + (bcN (plc ((0 + 1) * 24 + i_2)))))), (3, .int (nI ((brF bro i_2) + 0))), (5, .int (nI 0)), (4, .int (nI i_2)), (2, .int (nI (apF plc i_2))), (0, .ref p0), (1, .int (nI cnt))]) hx hb dL_areWell_98 hl (by decide) rfl (fun ls hl => ?_)
      refine lv_iload hx hb dL_areWell_100 (lv_at hl 3 rfl) ?_
      refine lv_lload hx hb dL_areWell_102 (lv_at hl 0 rfl) ?_
      refine xs_i (As := [.long (plc (((0 + 1) + 1) * 24 + i_2))]) (rest := [.int (nI ((0 + (bcN (plc (0 * 24 + i_2)))) + (bcN (plc ((0 + 1) * 24 + i_2)))))]) ⟨hx, hb, hml, hown, hts⟩ (kJ13_bitCount_95d88 l (plc (((0 + 1) + 1) * 24 + i_2))) (va_cwS 1 hts gL_areWell_J13_bitCount_95d88 rfl rfl rfl (by decide +kernel) ⟨Nat.le_of_ble_eq_true rfl, Nat.le_of_ble_eq_true rfl⟩) hP hS rfl hl.1 rfl (Nat.le_of_ble_eq_true rfl) dL_areWell_104 ⟨Nat.le_of_ble_eq_true rfl, Nat.le_of_ble_eq_true rfl⟩ (fun r_167 H locs hw hP hS => ?_)
      have hw : r_167 = nI (bcN (plc (((0 + 1) + 1) * 24 + i_2))) := hw
      subst hw
      refine xi_add hx hb dL_areWell_107 ?_
      refine lv_istore (lv' := [(6, .int (nI (((0 + (bcN (plc (0 * 24 + i_2)))) + (bcN (plc ((0 + 1) * 24 + i_2)))) + (bcN (plc (((0 + 1) + 1) * 24 + i_2)))))), (8, .long (plc (((0 + 1) + 1) * 24 + i_2))), (7, .int (nI ((0 + 1) + 1))), (10, .int (nI (((1 + 1) + 1) + 1))), (3, .int (nI ((brF bro i_2) + 0))), (5, .int (nI 0)), (4, .int (nI i_2)), (2, .int (nI (apF plc i_2))), (0, .ref p0), (1, .int (nI cnt))]) hx hb dL_areWell_108 hl (by decide) rfl (fun ls hl => ?_)
      refine lv_iconst (v := nI 1) hx hb dL_areWell_110 (by decide) ?_
      refine lv_istore (lv' := [(10, .int (nI 1)), (6, .int (nI (((0 + (bcN (plc (0 * 24 + i_2)))) + (bcN (plc ((0 + 1) * 24 + i_2)))) + (bcN (plc (((0 + 1) + 1) * 24 + i_2)))))), (8, .long (plc (((0 + 1) + 1) * 24 + i_2))), (7, .int (nI ((0 + 1) + 1))), (3, .int (nI ((brF bro i_2) + 0))), (5, .int (nI 0)), (4, .int (nI i_2)), (2, .int (nI (apF plc i_2))), (0, .ref p0), (1, .int (nI cnt))]) hx hb dL_areWell_111 hl (by decide) rfl (fun ls hl => ?_)
      refine lv_iload hx hb dL_areWell_113 (lv_at hl 0 rfl) ?_
      refine lv_iconst (v := nI 4) hx hb dL_areWell_115 (by decide) ?_
      refine xc_ge (tgt := 142) hx hb dL_areWell_116 (by decide) (by omega) (by omega) (fun c_168 => by omega) (fun c_168 => ?_)
      refine lv_lload hx hb dL_areWell_119 (lv_at hl 2 rfl) ?_
      refine lv_lload hx hb dL_areWell_121 (lv_at hl 2 rfl) ?_
      refine lv_iload hx hb dL_areWell_123 (lv_at hl 0 rfl) ?_
      refine xs_l (As := [.long (plc (((0 + 1) + 1) * 24 + i_2)), .int (nI 1)]) (rest := [.long (plc (((0 + 1) + 1) * 24 + i_2))]) ⟨hx, hb, hml, hown, hts⟩ (kJ13_rotateLeft_b2ac5 l (plc (((0 + 1) + 1) * 24 + i_2)) 1) (va_cwS 2 hts gL_areWell_J13_rotateLeft_b2ac5 rfl rfl rfl (by decide +kernel) ⟨Nat.le_of_ble_eq_true rfl, Nat.le_of_ble_eq_true rfl⟩) hP hS rfl hl.1 rfl (Nat.le_of_ble_eq_true rfl) dL_areWell_125 ⟨Nat.le_of_ble_eq_true rfl, Nat.le_of_ble_eq_true rfl⟩ (fun r_169 H locs hw hP hS => ?_)
      have hw : r_169 = ((plc (((0 + 1) + 1) * 24 + i_2)) <<< ((nI 1).toInt64 &&& 63)) ||| (((plc (((0 + 1) + 1) * 24 + i_2)).toUInt64 >>> ((-nI 1).toInt64.toUInt64 &&& Int64.toUInt64 63)).toInt64) := hw
      subst hw
      refine lv_land hx hb dL_areWell_128 ?_
      refine lv_lconst (v := 0) hx hb dL_areWell_129 (by decide) ?_
      refine W.lcmp hx hb dL_areWell_130 ?_
      refine lv_if_eq (tgt := 136) hx hb dL_areWell_131 (by decide) (fun c_170 => ?_) (fun c_170 => absurd (lg_cmp0.mpr (rl_0 (hnf _ _ (by omega) (by omega)) (by omega) (by omega))) c_170)
      refine xi_inc (k := 0) (lv' := [(10, .int (nI (1 + 1))), (6, .int (nI (((0 + (bcN (plc (0 * 24 + i_2)))) + (bcN (plc ((0 + 1) * 24 + i_2)))) + (bcN (plc (((0 + 1) + 1) * 24 + i_2)))))), (8, .long (plc (((0 + 1) + 1) * 24 + i_2))), (7, .int (nI ((0 + 1) + 1))), (3, .int (nI ((brF bro i_2) + 0))), (5, .int (nI 0)), (4, .int (nI i_2)), (2, .int (nI (apF plc i_2))), (0, .ref p0), (1, .int (nI cnt))]) hx hb dL_areWell_136 hl rfl (by decide) rfl (fun ls hl => ?_)
      refine lv_goto (tgt := 113) hx hb dL_areWell_139 (by decide) ?_
      refine lv_iload hx hb dL_areWell_113 (lv_at hl 0 rfl) ?_
      refine lv_iconst (v := nI 4) hx hb dL_areWell_115 (by decide) ?_
      refine xc_ge (tgt := 142) hx hb dL_areWell_116 (by decide) (by omega) (by omega) (fun c_171 => by omega) (fun c_171 => ?_)
      refine lv_lload hx hb dL_areWell_119 (lv_at hl 2 rfl) ?_
      refine lv_lload hx hb dL_areWell_121 (lv_at hl 2 rfl) ?_
      refine lv_iload hx hb dL_areWell_123 (lv_at hl 0 rfl) ?_
      refine xs_l (As := [.long (plc (((0 + 1) + 1) * 24 + i_2)), .int (nI (1 + 1))]) (rest := [.long (plc (((0 + 1) + 1) * 24 + i_2))]) ⟨hx, hb, hml, hown, hts⟩ (kJ13_rotateLeft_b2ac5 l (plc (((0 + 1) + 1) * 24 + i_2)) (1 + 1)) (va_cwS 2 hts gL_areWell_J13_rotateLeft_b2ac5 rfl rfl rfl (by decide +kernel) ⟨Nat.le_of_ble_eq_true rfl, Nat.le_of_ble_eq_true rfl⟩) hP hS rfl hl.1 rfl (Nat.le_of_ble_eq_true rfl) dL_areWell_125 ⟨Nat.le_of_ble_eq_true rfl, Nat.le_of_ble_eq_true rfl⟩ (fun r_172 H locs hw hP hS => ?_)
      have hw : r_172 = ((plc (((0 + 1) + 1) * 24 + i_2)) <<< ((nI (1 + 1)).toInt64 &&& 63)) ||| (((plc (((0 + 1) + 1) * 24 + i_2)).toUInt64 >>> ((-nI (1 + 1)).toInt64.toUInt64 &&& Int64.toUInt64 63)).toInt64) := hw
      subst hw
      refine lv_land hx hb dL_areWell_128 ?_
      refine lv_lconst (v := 0) hx hb dL_areWell_129 (by decide) ?_
      refine W.lcmp hx hb dL_areWell_130 ?_
      refine lv_if_eq (tgt := 136) hx hb dL_areWell_131 (by decide) (fun c_173 => ?_) (fun c_173 => absurd (lg_cmp0.mpr (rl_0 (hnf _ _ (by omega) (by omega)) (by omega) (by omega))) c_173)
      refine xi_inc (k := 0) (lv' := [(10, .int (nI ((1 + 1) + 1))), (6, .int (nI (((0 + (bcN (plc (0 * 24 + i_2)))) + (bcN (plc ((0 + 1) * 24 + i_2)))) + (bcN (plc (((0 + 1) + 1) * 24 + i_2)))))), (8, .long (plc (((0 + 1) + 1) * 24 + i_2))), (7, .int (nI ((0 + 1) + 1))), (3, .int (nI ((brF bro i_2) + 0))), (5, .int (nI 0)), (4, .int (nI i_2)), (2, .int (nI (apF plc i_2))), (0, .ref p0), (1, .int (nI cnt))]) hx hb dL_areWell_136 hl rfl (by decide) rfl (fun ls hl => ?_)
      refine lv_goto (tgt := 113) hx hb dL_areWell_139 (by decide) ?_
      refine lv_iload hx hb dL_areWell_113 (lv_at hl 0 rfl) ?_
      refine lv_iconst (v := nI 4) hx hb dL_areWell_115 (by decide) ?_
      refine xc_ge (tgt := 142) hx hb dL_areWell_116 (by decide) (by omega) (by omega) (fun c_174 => by omega) (fun c_174 => ?_)
      refine lv_lload hx hb dL_areWell_119 (lv_at hl 2 rfl) ?_
      refine lv_lload hx hb dL_areWell_121 (lv_at hl 2 rfl) ?_
      refine lv_iload hx hb dL_areWell_123 (lv_at hl 0 rfl) ?_
      refine xs_l (As := [.long (plc (((0 + 1) + 1) * 24 + i_2)), .int (nI ((1 + 1) + 1))]) (rest := [.long (plc (((0 + 1) + 1) * 24 + i_2))]) ⟨hx, hb, hml, hown, hts⟩ (kJ13_rotateLeft_b2ac5 l (plc (((0 + 1) + 1) * 24 + i_2)) ((1 + 1) + 1)) (va_cwS 2 hts gL_areWell_J13_rotateLeft_b2ac5 rfl rfl rfl (by decide +kernel) ⟨Nat.le_of_ble_eq_true rfl, Nat.le_of_ble_eq_true rfl⟩) hP hS rfl hl.1 rfl (Nat.le_of_ble_eq_true rfl) dL_areWell_125 ⟨Nat.le_of_ble_eq_true rfl, Nat.le_of_ble_eq_true rfl⟩ (fun r_175 H locs hw hP hS => ?_)
      have hw : r_175 = ((plc (((0 + 1) + 1) * 24 + i_2)) <<< ((nI ((1 + 1) + 1)).toInt64 &&& 63)) ||| (((plc (((0 + 1) + 1) * 24 + i_2)).toUInt64 >>> ((-nI ((1 + 1) + 1)).toInt64.toUInt64 &&& Int64.toUInt64 63)).toInt64) := hw
      subst hw
      refine lv_land hx hb dL_areWell_128 ?_
      refine lv_lconst (v := 0) hx hb dL_areWell_129 (by decide) ?_
      refine W.lcmp hx hb dL_areWell_130 ?_
      refine lv_if_eq (tgt := 136) hx hb dL_areWell_131 (by decide) (fun c_176 => ?_) (fun c_176 => absurd (lg_cmp0.mpr (rl_0 (hnf _ _ (by omega) (by omega)) (by omega) (by omega))) c_176)
      refine xi_inc (k := 0) (lv' := [(10, .int (nI (((1 + 1) + 1) + 1))), (6, .int (nI (((0 + (bcN (plc (0 * 24 + i_2)))) + (bcN (plc ((0 + 1) * 24 + i_2)))) + (bcN (plc (((0 + 1) + 1) * 24 + i_2)))))), (8, .long (plc (((0 + 1) + 1) * 24 + i_2))), (7, .int (nI ((0 + 1) + 1))), (3, .int (nI ((brF bro i_2) + 0))), (5, .int (nI 0)), (4, .int (nI i_2)), (2, .int (nI (apF plc i_2))), (0, .ref p0), (1, .int (nI cnt))]) hx hb dL_areWell_136 hl rfl (by decide) rfl (fun ls hl => ?_)
      refine lv_goto (tgt := 113) hx hb dL_areWell_139 (by decide) ?_
      refine lv_iload hx hb dL_areWell_113 (lv_at hl 0 rfl) ?_
      refine lv_iconst (v := nI 4) hx hb dL_areWell_115 (by decide) ?_
      refine xc_ge (tgt := 142) hx hb dL_areWell_116 (by decide) (by omega) (by omega) (fun c_177 => ?_) (fun c_177 => by omega)
      refine xi_inc (k := 3) (lv' := [(7, .int (nI (((0 + 1) + 1) + 1))), (10, .int (nI (((1 + 1) + 1) + 1))), (6, .int (nI (((0 + (bcN (plc (0 * 24 + i_2)))) + (bcN (plc ((0 + 1) * 24 + i_2)))) + (bcN (plc (((0 + 1) + 1) * 24 + i_2)))))), (8, .long (plc (((0 + 1) + 1) * 24 + i_2))), (3, .int (nI ((brF bro i_2) + 0))), (5, .int (nI 0)), (4, .int (nI i_2)), (2, .int (nI (apF plc i_2))), (0, .ref p0), (1, .int (nI cnt))]) hx hb dL_areWell_142 hl rfl (by decide) rfl (fun ls hl => ?_)
      refine lv_goto (tgt := 84) hx hb dL_areWell_145 (by decide) ?_
      refine lv_iload hx hb dL_areWell_84 (lv_at hl 0 rfl) ?_
      refine lv_iconst (v := nI 3) hx hb dL_areWell_86 (by decide) ?_
      refine xc_ge (tgt := 148) hx hb dL_areWell_87 (by decide) (by omega) (by omega) (fun c_178 => ?_) (fun c_178 => by omega)
      refine lv_aload_n hx hb dL_areWell_148 rfl (lv_at hl 8 rfl) ?_
      refine lv_iload hx hb dL_areWell_149 (lv_at hl 6 rfl) ?_
      refine lv_iconst (v := nI 4) hx hb dL_areWell_151 (by decide) ?_
      refine xv_i (As := [.int (nI i_2), .int (nI 4)]) (rest := []) (q := (RX5, TX5, 7)) ⟨hx, hb, hml, hown, hts⟩ (kX5_ofTooth l dC dI cyI cyZ cyJ cyD cyB p0 g0 g1 g2 g3 g4 h0 h1 t0 w0 s0 v0 kn g5 cnt pit bro scr plu h2 plc i_2 4 (by omega) (by omega) (by omega)) (cwV 2 hts gL_areWell_X5_ofTooth rfl rfl rfl (by decide +kernel) ⟨Nat.le_of_ble_eq_true rfl, Nat.le_of_ble_eq_true rfl⟩) hK hP hS [0, 3, 4, 5, 6, 7, 9, 10] rfl 0 7 rfl rfl rfl hl.1 rfl (Nat.le_of_ble_eq_true rfl) dL_areWell_152 ⟨Nat.le_of_ble_eq_true rfl, Nat.le_of_ble_eq_true rfl⟩ (fun r_179 H locs hw hP hS => ?_)
      have hw : r_179 = nI (otF pit bro scr plu plc i_2 4) := hw
      subst hw
      rw [show otF pit bro scr plu plc i_2 4 = pinsF plc i_2 from rfl]
      rw [show pinsF plc i_2 = 0 + bcN (plc (0 * 24 + i_2)) + bcN (plc ((0 + 1) * 24 + i_2)) + bcN (plc ((0 + 1 + 1) * 24 + i_2)) from rfl]
      refine lv_iload hx hb dL_areWell_155 (lv_at hl 2 rfl) ?_
      refine xc_eq (tgt := 162) hx hb dL_areWell_157 (by decide) (by omega) (by omega) (fun c_180 => ?_) (fun c_180 => by omega)
      refine lv_iload_n hx hb dL_areWell_162 rfl (lv_at hl 7 rfl) ?_
      refine lv_iload hx hb dL_areWell_163 (lv_at hl 2 rfl) ?_
      refine xi_add hx hb dL_areWell_165 ?_
      refine lv_istore_n (lv' := [(2, .int (nI ((apF plc i_2) + (((0 + (bcN (plc (0 * 24 + i_2)))) + (bcN (plc ((0 + 1) * 24 + i_2)))) + (bcN (plc (((0 + 1) + 1) * 24 + i_2))))))), (7, .int (nI (((0 + 1) + 1) + 1))), (10, .int (nI (((1 + 1) + 1) + 1))), (6, .int (nI (((0 + (bcN (plc (0 * 24 + i_2)))) + (bcN (plc ((0 + 1) * 24 + i_2)))) + (bcN (plc (((0 + 1) + 1) * 24 + i_2)))))), (8, .long (plc (((0 + 1) + 1) * 24 + i_2))), (3, .int (nI ((brF bro i_2) + 0))), (5, .int (nI 0)), (4, .int (nI i_2)), (0, .ref p0), (1, .int (nI cnt))]) hx hb dL_areWell_166 rfl hl (by decide) rfl (fun ls hl => ?_)
      refine xi_inc (k := 7) (lv' := [(4, .int (nI (i_2 + 1))), (2, .int (nI ((apF plc i_2) + (((0 + (bcN (plc (0 * 24 + i_2)))) + (bcN (plc ((0 + 1) * 24 + i_2)))) + (bcN (plc (((0 + 1) + 1) * 24 + i_2))))))), (7, .int (nI (((0 + 1) + 1) + 1))), (10, .int (nI (((1 + 1) + 1) + 1))), (6, .int (nI (((0 + (bcN (plc (0 * 24 + i_2)))) + (bcN (plc ((0 + 1) * 24 + i_2)))) + (bcN (plc (((0 + 1) + 1) * 24 + i_2)))))), (8, .long (plc (((0 + 1) + 1) * 24 + i_2))), (3, .int (nI ((brF bro i_2) + 0))), (5, .int (nI 0)), (0, .ref p0), (1, .int (nI cnt))]) hx hb dL_areWell_167 hl rfl (by decide) rfl (fun ls hl => ?_)
      refine lv_goto (tgt := 7) hx hb dL_areWell_170 (by decide) ?_
      have e1 : apF plc (i_2 + 1) = (apF plc i_2) + (((0 + (bcN (plc (0 * 24 + i_2)))) + (bcN (plc ((0 + 1) * 24 + i_2)))) + (bcN (plc (((0 + 1) + 1) * 24 + i_2)))) := rfl
      have e2 : brF bro (i_2 + 1) = (brF bro i_2) + 0 := if_neg (by rw [hb_80]; decide)
      exact ih_4 (i_2 + 1) (by omega)  _ _ (by first | exact hP | (simp only [e1, e2]; exact hP) | (simp only [e1, e2] at hP ⊢; exact hP)) (by first | exact hD | (simp only [e1, e2]; exact hD) | (simp only [e1, e2] at hD ⊢; exact hD)) hS _ (by first | exact (lv_sub hl [0, 6, 1, 8, 9] rfl) | (simp only [e1, e2]; exact (lv_sub hl [0, 6, 1, 8, 9] rfl)) | (simp only [e1, e2] at hl ⊢; exact (lv_sub hl [0, 6, 1, 8, 9] rfl)))
