/-! The clock: finite numbers that aren't negative, ordered by their value in the format's least numbers. -/
def zv (a : UInt64) : Int := match Jvm.FP.Core.decode Jvm.FP.Core.b64 a.toNat with
  | .fin s c q => Jvm.FP.Core.signed s (Jvm.FP.Core.inUnits c q Jvm.FP.Core.b64.qmin)
  | _ => 0
def okC (n : Nat) (a : UInt64) : Prop := (∃ (c : Nat) (q : Int), Jvm.FP.Core.decode Jvm.FP.Core.b64 a.toNat = .fin false c q) ∧ zv a ≤ (n : Int) * ((2 ^ 1074 : Nat) : Int)
theorem spd_n1 (g : Nat) (h : 1 ≤ g ∧ g ≤ 8) : vf_n32 (FP.fmul (1040187392) (FP.i2f (nI g))) := sorry
theorem spd_n2 (w : Nat) (h : w ≤ 2000) : vf_n32 (FP.fmul (FP.i2f (nI w)) (981467136)) := sorry
theorem spd_n3 (g w : Nat) (h : 1 ≤ g ∧ g ≤ 8) (h2 : w ≤ 2000) : vf_n32 (FP.fadd (FP.fmul (1040187392) (FP.i2f (nI g))) (FP.fmul (FP.i2f (nI w)) (981467136))) := sorry
theorem spd_n4 (g w : Nat) (h : 1 ≤ g ∧ g ≤ 8) (h2 : w ≤ 2000) : vf_n64 (FP.f2d (spdF g w)) := sorry
theorem spd_n5 (g w : Nat) (h : 1 ≤ g ∧ g ≤ 8) (h2 : w ≤ 2000) : vf_n64 (FP.ddiv (4593671619917905920) (FP.f2d (spdF g w))) := sorry
theorem okC_n6 {n g w : Nat} {c : UInt64} (hc : okC n c) (hn : n ≤ 100000) (h : 1 ≤ g ∧ g ≤ 8) (h2 : w ≤ 2000) : vf_n64 (FP.dadd c (tckF g w)) := sorry
theorem okC_add {n g w : Nat} {c : UInt64} (hc : okC n c) (hn : n ≤ 100000) (h : 1 ≤ g ∧ g ≤ 8) (h2 : w ≤ 2000) : okC (n + 1) (FP.dadd c (tckF g w)) ∧ zv c ≤ zv (FP.dadd c (tckF g w)) := sorry
/-- what the clock's readers ask: none of their numbers is a NaN -/
def okW (c : UInt64) : Prop := vf_n64 (FP.dmul (4620693217682128896) c) ∧ vf_n64 (FP.dsub (FP.dmul (4620693217682128896) c) (FP.l2d (FP.d2l (FP.dmul (4620693217682128896) c)))) ∧ vf_n64 (whF c) ∧ vf_n64 (FP.dmul c (4620693217682128896))
theorem okC_W {n : Nat} {c : UInt64} (h : okC n c) (hn : n ≤ 100000) : okW c := sorry
theorem li_n {a b : Nat} (ha : a ≤ 30) (hb : 0 < b) (hb2 : b ≤ 30) : vf_n64 (FP.ddiv (FP.i2d (nI a)) (FP.i2d (nI b))) := sorry
theorem stpW_wnd (pit : Nat → Nat) (cnt shf gov : Nat) (x : Pst) (wnd plo stp : Nat) (cks : UInt64) : (stpW pit cnt shf gov (x, wnd, plo, stp, cks)).2.1 ≤ wnd := by
  show wnd - 2 - _ ≤ wnd
  omega
theorem okP_pls {pit : Nat → Nat} {cnt shf plo stp : Nat} {cks : UInt64} {x : Pst} (h : okP cnt shf x) (hc : cnt ≤ 24) (hs : shf < 3) (hp : plo < 64) : ∀ i, i ≤ cnt → okP cnt shf (plsP pit shf plo stp cks x i).1
  | 0, _ => h
  | i + 1, hi => by
    have ih := okP_pls (pit := pit) (stp := stp) (cks := cks) h hc hs hp i (by omega)
    unfold plsP
    split
    · rename_i hz
      exact okP_plk ih hc (by omega) hs hp hz.1 hz.2
    · exact ih
theorem okP_stp {pit : Nat → Nat} {cnt shf gov wnd plo stp : Nat} {cks : UInt64} {x : Pst} (h : okP cnt shf x) (hc : cnt ≤ 24) (hs : shf < 3) : okP cnt shf (stpW pit cnt shf gov (x, wnd, plo, stp, cks)).1 :=
  okP_pls h hc hs (Nat.mod_lt _ (by omega)) cnt (Nat.le_refl _)
theorem okC_stp {pit : Nat → Nat} {cnt shf gov wnd plo stp n : Nat} {cks : UInt64} {x : Pst} (h : okC n cks) (hn : n ≤ 100000) (hg : 1 ≤ gov ∧ gov ≤ 8) (hw : wnd ≤ 2000) : okC (n + 1) (stpW pit cnt shf gov (x, wnd, plo, stp, cks)).2.2.2.2 :=
  (okC_add h hn hg hw).1
theorem stpW_plo (pit : Nat → Nat) (cnt shf gov : Nat) (x : Pst) (wnd plo stp : Nat) (cks : UInt64) : (stpW pit cnt shf gov (x, wnd, plo, stp, cks)).2.2.1 < 64 := by
  show (plo + 1) % 64 < 64
  omega
theorem frF_cong {pit : Nat → Nat} {bro : Nat → Bool} {plc plc2 : Nat → Int64} {ln : Nat} {pi : Int32} {nr : Int64} {c : Nat} (h : ∀ t, t < c → plc (ln * 24 + t) = plc2 (ln * 24 + t)) : ∀ n, n ≤ c → frF pit bro plc ln pi nr n = frF pit bro plc2 ln pi nr n
  | 0, _ => rfl
  | n + 1, hn => by
    have ih := frF_cong (pit := pit) (bro := bro) (pi := pi) (nr := nr) h n (by omega)
    unfold frF
    rw [ih, h n (by omega)]
theorem ptF_cong {pit : Nat → Nat} {bro : Nat → Bool} {cnt : Nat} {no : Nat → Nat} {b ln : Nat} {hi : Int32} {plc plc2 : Nat → Int64} {wea wea2 : Nat → Nat} (hc : cnt ≤ 24) (h : ∀ t, t < cnt → plc (ln * 24 + t) = plc2 (ln * 24 + t)) : ∀ n, (ptF pit bro cnt no b ln hi plc wea n).2.2 = (ptF pit bro cnt no b ln hi plc2 wea2 n).2.2 ∧ ∀ t, t < cnt → (ptF pit bro cnt no b ln hi plc wea n).1 (ln * 24 + t) = (ptF pit bro cnt no b ln hi plc2 wea2 n).1 (ln * 24 + t)
  | 0 => ⟨rfl, h⟩
  | n + 1 => by
    obtain ⟨i1, i2⟩ := ptF_cong (pit := pit) (bro := bro) (no := no) (b := b) (hi := hi) (wea := wea) (wea2 := wea2) hc h n
    have e := frF_cong (pit := pit) (bro := bro) (pi := nI (no (b + n) % 48) + hi) (nr := nearL (no (b + n) / 48)) i2 cnt (Nat.le_refl _)
    unfold ptF
    rw [e]
    by_cases hz : (frF pit bro (ptF pit bro cnt no b ln hi plc2 wea2 n).1 ln (nI (no (b + n) % 48) + hi) (nearL (no (b + n) / 48)) cnt).1 = -1
    · rw [if_pos hz, if_pos hz]
      exact ⟨congrArg (· + 1) i1, i2⟩
    · rw [if_neg hz, if_neg hz]
      refine ⟨i1, fun t ht => ?_⟩
      rcases frF_some pit bro (ptF pit bro cnt no b ln hi plc2 wea2 n).1 ln (nI (no (b + n) % 48) + hi) (nearL (no (b + n) / 48)) cnt with q | ⟨k, hk, hk2, -⟩
      · exact absurd q hz
      · rw [hk2, nI_clamp (by omega)]
        show va_up _ _ _ _ = va_up _ _ _ _
        by_cases e2 : t = k
        · subst e2
          rw [xu_self, xu_self, i2 t ht]
        · rw [va_up_ne _ _ (by omega), va_up_ne _ _ (by omega)]
          exact i2 t ht
theorem wlF_eq {pit : Nat → Nat} {bro : Nat → Bool} {cnt : Nat} {siz no : Nat → Nat} {plc vplc : Nat → Int64} {vwea : Nat → Nat} {tu ln : Nat} {hi : Int32} (hc : cnt ≤ 24) : (ptF pit bro cnt no (tu * 30) ln hi (va_cpy plc vplc (ln * 24 + 0) (ln * 24 + 0) 24) vwea (siz tu)).2.2 = wlF pit bro cnt siz no plc tu ln hi :=
  (ptF_cong hc (fun t ht => by rw [pk_cpy_in (by omega) (by omega)]; congr 1; omega) (siz tu)).1
theorem bkF_stop {L : Int32 → Nat} {k : Nat} (h : (bkF L k).2 = 0) : ∀ n, k ≤ n → bkF L n = bkF L k
  | 0, hn => by rw [show k = 0 from by omega]
  | n + 1, hn => by
    rcases Nat.lt_or_ge n k with q | q
    · rw [show k = n + 1 from by omega]
    · have ih := bkF_stop h n q
      rw [bkF, ih, if_pos h]
theorem smP_take {cnt shf : Nat} (hc : cnt ≤ 24) (x v : Pst) : smP cnt shf (tkO cnt shf x v) x := by
  obtain ⟨bro, scr, plu, las, plc, wea, pts, clk, old, kep, evr, buz, wor⟩ := x
  obtain ⟨vbro, vscr, vplu, vlas, vplc, vwea, vpts, vclk, vold, vkep, vevr, vbuz, vwor⟩ := v
  refine ⟨fun t ht => ⟨if_pos ht, if_pos ht, if_pos ht, if_pos ht, ?_⟩, fun t q ht hq => ?_, rfl⟩
  · show va_cpy plc vplc (shf * 24 + 0) (shf * 24 + 0) 24 (shf * 24 + t) = _
    rw [pk_cpy_in (by omega) (by omega)]; congr 1; omega
  · show va_cpy wea vwea ((shf * 24 + 0) * 64 + 0) ((shf * 24 + 0) * 64 + 0) 1536 ((shf * 24 + t) * 64 + q) = _
    rw [pk_cpy_in (by omega) (by omega)]; congr 1; omega
theorem smP_plk {pit pit2 : Nat → Nat} {cnt shf plo stp tn : Nat} {cks : UInt64} {x y : Pst} (h : smP cnt shf x y) (hp : plo < 64) (ht : tn < cnt) : smP cnt shf (plkP pit shf plo stp cks tn x) (plkP pit2 shf plo stp cks tn y) := by
  obtain ⟨bro, scr, plu, las, plc, wea, pts, clk, old, kep, evr, buz, wor⟩ := x
  obtain ⟨bro2, scr2, plu2, las2, plc2, wea2, pts2, clk2, old2, kep2, evr2, buz2, wor2⟩ := y
  obtain ⟨h1, h2, h3⟩ := h
  obtain ⟨a1, a2, a3, a4, a5⟩ := h1 tn ht
  have hb : isBz plu las tn stp = isBz plu2 las2 tn stp := by unfold isBz; rw [a3, a4]
  have hw := h2 tn plo ht hp
  refine ⟨fun t h4 => ?_, fun t q h4 h5 => ?_, ?_⟩
  · obtain ⟨b1, b2, b3, b4, b5⟩ := h1 t h4
    refine ⟨?_, ?_, ?_, ?_, ?_⟩
    · show (if isBz plu las tn stp then va_up bro tn (decide (4 ≤ scr tn + 1)) else bro) t = (if isBz plu2 las2 tn stp then va_up bro2 tn (decide (4 ≤ scr2 tn + 1)) else bro2) t
      rw [hb, a2]
      split
      · unfold va_up; split <;> first | rfl | exact b1
      · exact b1
    · show (if isBz plu las tn stp then va_up scr tn (scr tn + 1) else scr) t = (if isBz plu2 las2 tn stp then va_up scr2 tn (scr2 tn + 1) else scr2) t
      rw [hb, a2]
      split
      · unfold va_up; split <;> first | rfl | exact b2
      · exact b2
    · show va_up plu tn (plu tn + 1) t = va_up plu2 tn (plu2 tn + 1) t
      rw [a3]; unfold va_up; split <;> first | rfl | exact b3
    · show va_up las tn stp t = va_up las2 tn stp t
      unfold va_up; split <;> first | rfl | exact b4
    · show (if 5 ≤ wea ((shf * 24 + tn) * 64 + plo) + 1 then va_up plc (shf * 24 + tn) (clrB (plc (shf * 24 + tn)) plo) else plc) (shf * 24 + t) = (if 5 ≤ wea2 ((shf * 24 + tn) * 64 + plo) + 1 then va_up plc2 (shf * 24 + tn) (clrB (plc2 (shf * 24 + tn)) plo) else plc2) (shf * 24 + t)
      rw [hw, a5]
      split
      · unfold va_up; split <;> first | rfl | exact b5
      · exact b5
  · show va_up wea ((shf * 24 + tn) * 64 + plo) (wea ((shf * 24 + tn) * 64 + plo) + 1) ((shf * 24 + t) * 64 + q) = va_up wea2 ((shf * 24 + tn) * 64 + plo) (wea2 ((shf * 24 + tn) * 64 + plo) + 1) ((shf * 24 + t) * 64 + q)
    rw [hw]; unfold va_up; split <;> first | rfl | exact h2 t q h4 h5
  · show (if isBz plu las tn stp then buz + 1 else buz) = (if isBz plu2 las2 tn stp then buz2 + 1 else buz2)
    rw [hb, h3]
theorem smP_pls {pit pit2 : Nat → Nat} {cnt shf plo stp : Nat} {cks : UInt64} {x y : Pst} (h : smP cnt shf x y) (hp : plo < 64) : ∀ i, i ≤ cnt → smP cnt shf (plsP pit shf plo stp cks x i).1 (plsP pit2 shf plo stp cks y i).1 ∧ (plsP pit shf plo stp cks x i).2 = (plsP pit2 shf plo stp cks y i).2
  | 0, _ => ⟨h, rfl⟩
  | i + 1, hi => by
    obtain ⟨i1, i2⟩ := smP_pls (pit := pit) (pit2 := pit2) (stp := stp) (cks := cks) h hp i (by omega)
    have hb : (plsP pit shf plo stp cks x i).1.1 i = (plsP pit2 shf plo stp cks y i).1.1 i := (i1.1 i (by omega)).1
    have hq : (plsP pit shf plo stp cks x i).1.2.2.2.2.1 (shf * 24 + i) = (plsP pit2 shf plo stp cks y i).1.2.2.2.2.1 (shf * 24 + i) := (i1.1 i (by omega)).2.2.2.2
    unfold plsP
    rw [hb, hq]
    split
    · exact ⟨smP_plk i1 hp (by omega), congrArg (· + 1) i2⟩
    · exact ⟨i1, i2⟩
/-- alike works -/
def smW (cnt shf : Nat) (x y : Wst) : Prop := smP cnt shf x.1 y.1 ∧ x.2 = y.2
theorem smW_stp {pit pit2 : Nat → Nat} {cnt shf gov : Nat} {x y : Wst} (h : smW cnt shf x y) : smW cnt shf (stpW pit cnt shf gov x) (stpW pit2 cnt shf gov y) := by
  obtain ⟨x, wnd, plo, stp, cks⟩ := x
  obtain ⟨y, wnd2, plo2, stp2, cks2⟩ := y
  obtain ⟨h1, h2⟩ := h
  cases h2
  obtain ⟨a, b⟩ := smP_pls (pit := pit) (pit2 := pit2) (stp := stp + 1) (cks := FP.dadd cks (tckF gov wnd)) h1 (plo := (plo + 1) % 64) (by omega) cnt (Nat.le_refl _)
  refine ⟨a, ?_⟩
  show (wnd - 2 - _, (plo + 1) % 64, stp + 1, FP.dadd cks (tckF gov wnd)) = (wnd - 2 - _, (plo + 1) % 64, stp + 1, FP.dadd cks (tckF gov wnd))
  rw [b]
theorem smW_run {pit pit2 : Nat → Nat} {cnt shf gov : Nat} : ∀ (n : Nat) {x y : Wst}, smW cnt shf x y → smW cnt shf (runW pit cnt shf gov n x) (runW pit2 cnt shf gov n y)
  | 0, _, _, h => h
  | n + 1, x, y, h => by
    have e : x.2.1 = y.2.1 := by rw [h.2]
    rw [runW, runW, e]
    split
    · exact smW_run n (smW_stp h)
    · exact h
theorem smW_ls {pit pit2 : Nat → Nat} {cnt shf gov : Nat} : ∀ (n : Nat) {x y : Wst}, smW cnt shf x y → lsW pit cnt shf gov n x = lsW pit2 cnt shf gov n y
  | 0, _, _, _ => rfl
  | n + 1, x, y, h => by
    have e : x.2.1 = y.2.1 := by rw [h.2]
    rw [lsW, lsW, e]
    split
    · rw [smW_ls n (smW_stp (pit := pit) (pit2 := pit2) h)]
    · rfl
theorem smP_buz {cnt shf : Nat} {x y : Pst} (h : smP cnt shf x y) : buzP x = buzP y := h.2.2
theorem okP_sm {cnt shf : Nat} {x y : Pst} (h : smP cnt shf x y) (hy : okP cnt shf y) (h1 : x.2.2.2.2.2.2.2.2.1 < 40) (h2 : x.2.2.2.2.2.2.2.2.2.1 ≤ 40) : okP cnt shf x := by
  obtain ⟨bro, scr, plu, las, plc, wea, pts, clk, old, kep, evr, buz, wor⟩ := x
  obtain ⟨bro2, scr2, plu2, las2, plc2, wea2, pts2, clk2, old2, kep2, evr2, buz2, wor2⟩ := y
  obtain ⟨a, b, -⟩ := h
  obtain ⟨c, d, -⟩ := hy
  refine ⟨fun t ht hb => ?_, fun t q ht hq hb => ?_, h1, h2⟩
  · rw [(a t ht).2.1]; rw [(a t ht).1] at hb; exact c t ht hb
  · rw [b t q ht hq]; rw [(a t ht).2.2.2.2] at hb; exact d t q ht hq hb
theorem wlF_le (pit : Nat → Nat) (bro : Nat → Bool) (cnt : Nat) (siz no : Nat → Nat) (plc : Nat → Int64) (tu ln : Nat) (hi : Int32) (h : siz tu ≤ 30) : wlF pit bro cnt siz no plc tu ln hi ≤ 30 := Nat.le_trans (ptF_le pit bro cnt no (tu * 30) ln hi plc (fun _ => 0) (siz tu)) h
theorem lsW_0 (pit : Nat → Nat) (cnt shf gov : Nat) : ∀ (z : Nat) {x : Wst}, x.2.1 = 0 → lsW pit cnt shf gov z x = 0
  | 0, _, _ => rfl
  | z + 1, x, h => by rw [lsW, if_neg (by omega)]
theorem okP_run {pit : Nat → Nat} {cnt shf gov : Nat} : ∀ (n : Nat) {x : Wst}, okP cnt shf x.1 → cnt ≤ 24 → shf < 3 → okP cnt shf (runW pit cnt shf gov n x).1
  | 0, _, h, _, _ => h
  | n + 1, x, h, hc, hs => by
    rw [runW]
    split
    · obtain ⟨x, wnd, plo, stp, cks⟩ := x
      exact okP_run n (okP_stp h hc hs) hc hs
    · exact h
theorem okP_dum {cnt shf : Nat} {bro : Nat → Bool} {scr plu las : Nat → Nat} {plc : Nat → Int64} {wea pts : Nat → Nat} {clk : Nat → UInt64} {old kep evr buz wor : Nat} (h : okP cnt shf (bro, scr, plu, las, plc, wea, pts, clk, old, kep, evr, buz, wor)) : okP cnt shf (bro, scr, plu, las, plc, wea, zN, zD, 0, 0, 0, buz, wor) := ⟨h.1, h.2.1, by decide, by decide⟩
