/-! The clock: finite numbers that aren't negative, ordered by their value in the format's least numbers. -/
def zv (a : UInt64) : Int := match Jvm.FP.Core.decode Jvm.FP.Core.b64 a.toNat with
  | .fin s c q => Jvm.FP.Core.signed s (Jvm.FP.Core.inUnits c q Jvm.FP.Core.b64.qmin)
  | _ => 0
def okC (n : Nat) (a : UInt64) : Prop := (∃ (c : Nat) (q : Int), Jvm.FP.Core.decode Jvm.FP.Core.b64 a.toNat = .fin false c q) ∧ zv a ≤ (n : Int) * ((2 ^ 1074 : Nat) : Int)
theorem spd_n1 (g : Nat) (h : 1 ≤ g ∧ g ≤ 8) : vf_n32 (FP.fmul (1040187392) (FP.i2f (nI g))) := sorry
theorem spd_n2 (w : Nat) (h : w ≤ 2000) : vf_n32 (FP.fmul (FP.i2f (nI w)) (981467136)) := sorry
theorem spd_n3 (g w : Nat) (h : 1 ≤ g ∧ g ≤ 8) (h2 : w ≤ 2000) : vf_n32 (FP.fadd (FP.fmul (1040187392) (FP.i2f (nI g))) (FP.fmul (FP.i2f (nI w)) (981467136))) := sorry
theorem spd_n4 (g w : Nat) (h : 1 ≤ g ∧ g ≤ 8) (h2 : w ≤ 2000) : vf_n64 (FP.f2d (spdF g w)) := sorry
theorem spd_n5 (g w : Nat) (h : 1 ≤ g ∧ g ≤ 8) (h2 : w ≤ 2000) : vf_n64 (FP.ddiv (4593671619917905920) (FP.f2d (spdF g w))) := sorry
theorem okC_n6 {n g w : Nat} {c : UInt64} (hc : okC n c) (hn : n ≤ 100000) (h : 1 ≤ g ∧ g ≤ 8) (h2 : w ≤ 2000) : vf_n64 (FP.dadd c (tckF g w)) := sorry
theorem okC_add {n g w : Nat} {c : UInt64} (hc : okC n c) (hn : n ≤ 100000) (h : 1 ≤ g ∧ g ≤ 8) (h2 : w ≤ 2000) : okC (n + 1) (FP.dadd c (tckF g w)) ∧ zv c ≤ zv (FP.dadd c (tckF g w)) := sorry
/-- what the clock's readers ask: none of their numbers is a NaN -/
def okW (c : UInt64) : Prop := vf_n64 (FP.dmul (4620693217682128896) c) ∧ vf_n64 (FP.dsub (FP.dmul (4620693217682128896) c) (FP.l2d (FP.d2l (FP.dmul (4620693217682128896) c)))) ∧ vf_n64 (whF c) ∧ vf_n64 (FP.dmul c (4620693217682128896))
theorem okC_W {n : Nat} {c : UInt64} (h : okC n c) (hn : n ≤ 100000) : okW c := sorry
theorem li_n {a b : Nat} (ha : a ≤ 30) (hb : 0 < b) (hb2 : b ≤ 30) : vf_n64 (FP.ddiv (FP.i2d (nI a)) (FP.i2d (nI b))) := sorry
theorem stpW_wnd (pit : Nat → Nat) (cnt shf gov : Nat) (x : Pst) (wnd plo stp : Nat) (cks : UInt64) : (stpW pit cnt shf gov (x, wnd, plo, stp, cks)).2.1 ≤ wnd := by
  show wnd - 2 - _ ≤ wnd
  omega
theorem okP_pls {pit : Nat → Nat} {cnt shf plo stp : Nat} {cks : UInt64} {x : Pst} (h : okP cnt shf x) (hc : cnt ≤ 24) (hs : shf < 3) (hp : plo < 64) : ∀ i, i ≤ cnt → okP cnt shf (plsP pit shf plo stp cks x i).1
  | 0, _ => h
  | i + 1, hi => by
    have ih := okP_pls (pit := pit) (stp := stp) (cks := cks) h hc hs hp i (by omega)
    unfold plsP
    split
    · rename_i hz
      exact okP_plk ih hc (by omega) hs hp hz.1 hz.2
    · exact ih
theorem okP_stp {pit : Nat → Nat} {cnt shf gov wnd plo stp : Nat} {cks : UInt64} {x : Pst} (h : okP cnt shf x) (hc : cnt ≤ 24) (hs : shf < 3) : okP cnt shf (stpW pit cnt shf gov (x, wnd, plo, stp, cks)).1 :=
  okP_pls h hc hs (Nat.mod_lt _ (by omega)) cnt (Nat.le_refl _)
theorem okC_stp {pit : Nat → Nat} {cnt shf gov wnd plo stp n : Nat} {cks : UInt64} {x : Pst} (h : okC n cks) (hn : n ≤ 100000) (hg : 1 ≤ gov ∧ gov ≤ 8) (hw : wnd ≤ 2000) : okC (n + 1) (stpW pit cnt shf gov (x, wnd, plo, stp, cks)).2.2.2.2 :=
  (okC_add h hn hg hw).1
theorem stpW_plo (pit : Nat → Nat) (cnt shf gov : Nat) (x : Pst) (wnd plo stp : Nat) (cks : UInt64) : (stpW pit cnt shf gov (x, wnd, plo, stp, cks)).2.2.1 < 64 := by
  show (plo + 1) % 64 < 64
  omega
