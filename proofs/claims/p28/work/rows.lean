section
def spdS (gov wnd : Nat) : UInt32 := FP.fadd (FP.fmul (1040187392) (FP.i2f (nI gov))) (FP.fmul (FP.i2f (nI wnd)) (981467136))
def spdF (gov wnd : Nat) : UInt32 := if Op.cmpValue (FP.fcmp (spdS gov wnd) FP.fconst2) .l ≤ 0 then spdS gov wnd else FP.fconst2
def tckF (gov wnd : Nat) : UInt64 := FP.ddiv (4593671619917905920) (FP.f2d (spdF gov wnd))
def nwF (x : UInt64) : Int64 := if 0 < Op.cmpValue (FP.dcmp (FP.dsub x (FP.l2d (FP.d2l x))) (4602678819172646912)) .l then FP.d2l x + 1 else if ¬ Op.cmpValue (FP.dcmp (FP.dsub x (FP.l2d (FP.d2l x))) (4602678819172646912)) .l = 0 then FP.d2l x else if lg_cmp (FP.d2l x &&& 1) 1 = 0 then FP.d2l x + 1 else FP.d2l x
def whF (c : UInt64) : UInt64 := FP.ddiv (FP.l2d (nwF (FP.dmul (4620693217682128896) c))) (4620693217682128896)
def zv (a : UInt64) : Int := match Jvm.FP.Core.decode Jvm.FP.Core.b64 a.toNat with
  | .fin s c q => Jvm.FP.Core.signed s (Jvm.FP.Core.inUnits c q Jvm.FP.Core.b64.qmin)
  | _ => 0
def okC (n : Nat) (a : UInt64) : Prop := (∃ (c : Nat) (q : Int), Jvm.FP.Core.decode Jvm.FP.Core.b64 a.toNat = .fin false c q) ∧ zv a ≤ (n : Int) * ((2 ^ 1074 : Nat) : Int)

def okW (c : UInt64) : Prop := vf_n64 (FP.dmul (4620693217682128896) c) ∧ vf_n64 (FP.dsub (FP.dmul (4620693217682128896) c) (FP.l2d (FP.d2l (FP.dmul (4620693217682128896) c)))) ∧ vf_n64 (whF c) ∧ vf_n64 (FP.dmul c (4620693217682128896))
/-! The floats: what is finite and not negative, by its value in the format's least numbers. -/
theorem nn64 {a : UInt64} (h : Jvm.FP.Core.val64 a ≠ .nan) : vf_n64 a := by
  show a &&& 0x7fffffffffffffff ≤ 0x7ff0000000000000
  rw [UInt64.le_iff_toNat_le, Jvm.FP.Core.mask_toNat]
  exact (Jvm.FP.Core.ne_nan a).mp h
theorem nan64 {a : UInt64} (h : vf_n64 a) : Jvm.FP.Core.val64 a ≠ .nan := by
  have h : a &&& 0x7fffffffffffffff ≤ 0x7ff0000000000000 := h
  rw [UInt64.le_iff_toNat_le, Jvm.FP.Core.mask_toNat] at h
  exact (Jvm.FP.Core.ne_nan a).mpr h
theorem nn64b {a : UInt64} (h : Jvm.FP.Core.dIsNaN a = false) : vf_n64 a := nn64 ((Jvm.FP.Core.notNaN_iff a).mp h)
theorem nn32 {a : UInt32} (h : Jvm.FP.Core.val32 a ≠ .nan) : vf_n32 a := by
  show a &&& 0x7fffffff ≤ 0x7f800000
  rw [UInt32.le_iff_toNat_le, Jvm.FP.Core.mask_toNat32]
  exact (Jvm.FP.Core.ne_nan32 a).mp h
/-- finite, not negative, of value m -/
def PZ (a : UInt64) (m : Nat) : Prop := ∃ (c : Nat) (q : Int), Jvm.FP.Core.val64 a = .fin false c q ∧ Jvm.FP.Core.inUnits c q Jvm.FP.Core.b64.qmin = m
theorem PZ_nn {a : UInt64} {m : Nat} (h : PZ a m) : Jvm.FP.Core.val64 a ≠ .nan := by
  obtain ⟨c, q, h1, h2⟩ := h
  rw [h1]
  exact fun h => by cases h
theorem PZ_Z {a : UInt64} {m : Nat} (h : PZ a m) : Jvm.FP.Core.zval Jvm.FP.Core.b64 (Jvm.FP.Core.val64 a) = (m : Int) := by
  obtain ⟨c, q, h1, h2⟩ := h
  rw [h1, ← h2]
  rfl
theorem PZ_fin {a : UInt64} {m : Nat} (h : PZ a m) : Jvm.FP.Core.DFin a := by
  obtain ⟨c, q, h1, h2⟩ := h
  exact ⟨false, c, q, h1⟩
theorem PZ_n {a : UInt64} {m : Nat} (h : PZ a m) : Jvm.FP.Core.dIsNaN a = false := (PZ_fin h).notNaN
theorem zv_PZ {a : UInt64} {m : Nat} (h : PZ a m) : zv a = (m : Int) := by
  obtain ⟨c, q, h1, h2⟩ := h
  have h3 : Jvm.FP.Core.decode Jvm.FP.Core.b64 a.toNat = .fin false c q := h1
  unfold zv
  rw [h3, ← h2]
  rfl
theorem okC_PZ {n : Nat} {a : UInt64} (h : okC n a) : ∃ m, PZ a m ∧ m ≤ n * Jvm.FP.Core.one64 ∧ zv a = (m : Int) := by
  obtain ⟨⟨c, q, h1⟩, h2⟩ := h
  have h3 : PZ a (Jvm.FP.Core.inUnits c q Jvm.FP.Core.b64.qmin) := ⟨c, q, h1, rfl⟩
  have h4 := zv_PZ h3
  rw [h4] at h2
  refine ⟨_, h3, ?_, h4⟩
  apply Int.ofNat_le.mp
  rw [Int.natCast_mul]
  exact h2
theorem PZ_okC {n : Nat} {a : UInt64} {m : Nat} (h : PZ a m) (hm : m ≤ n * Jvm.FP.Core.one64) : okC n a := by
  have h4 := zv_PZ h
  obtain ⟨c, q, h1, h2⟩ := h
  refine ⟨⟨c, q, h1⟩, ?_⟩
  rw [h4]
  have h5 := Int.ofNat_le.mpr hm
  rw [Int.natCast_mul] at h5
  exact h5
theorem rr_congr {A1 A2 B : Nat} {e1 e2 e0 : Int} (hB : 0 < B) (h01 : e0 ≤ e1) (h02 : e0 ≤ e2) (hX : Jvm.FP.Core.inUnits A1 e1 e0 = Jvm.FP.Core.inUnits A2 e2 e0) : Jvm.FP.Core.roundRatio Jvm.FP.Core.b64 false A1 B e1 = Jvm.FP.Core.roundRatio Jvm.FP.Core.b64 false A2 B e2 := by
  refine Jvm.FP.Core.roundRatio_congr hB hB ?_
  unfold Jvm.FP.Core.inUnits at hX
  rcases Int.le_total e1 e2 with h | h
  · rw [show (e2 - e0).toNat = (e2 - e1).toNat + (e1 - e0).toNat from by omega, Nat.pow_add, ← Nat.mul_assoc] at hX
    have h2 := Nat.eq_of_mul_eq_mul_right (Nat.two_pow_pos _) hX
    rw [show (e1 - e2).toNat = 0 from by omega, Nat.pow_zero, Nat.mul_one, h2, Nat.mul_right_comm]
  · rw [show (e1 - e0).toNat = (e1 - e2).toNat + (e2 - e0).toNat from by omega, Nat.pow_add, ← Nat.mul_assoc] at hX
    have h2 := Nat.eq_of_mul_eq_mul_right (Nat.two_pow_pos _) hX
    rw [show (e2 - e1).toNat = 0 from by omega, Nat.pow_zero, Nat.mul_one, ← h2, Nat.mul_right_comm]
theorem rr_mono {A1 A2 B : Nat} {e1 e2 e0 : Int} {c1 c2 : Nat} {q1 q2 : Int} (hB : 0 < B) (h1 : Jvm.FP.Core.roundRatio Jvm.FP.Core.b64 false A1 B e1 = .fin false c1 q1) (h2 : Jvm.FP.Core.roundRatio Jvm.FP.Core.b64 false A2 B e2 = .fin false c2 q2) (h0 : e0 ≤ Jvm.FP.Core.b64.qmin) (h01 : e0 ≤ e1) (h02 : e0 ≤ e2) (h : Jvm.FP.Core.inUnits A1 e1 e0 ≤ Jvm.FP.Core.inUnits A2 e2 e0) : Jvm.FP.Core.inUnits c1 q1 Jvm.FP.Core.b64.qmin ≤ Jvm.FP.Core.inUnits c2 q2 Jvm.FP.Core.b64.qmin := by
  have f1 : Jvm.FP.Core.fits Jvm.FP.Core.b64 (.fin false c1 q1) := h1 ▸ Jvm.FP.Core.roundRatio_fits Jvm.FP.Core.good_b64 false A1 hB e1
  have f2 : Jvm.FP.Core.fits Jvm.FP.Core.b64 (.fin false c2 q2) := h2 ▸ Jvm.FP.Core.roundRatio_fits Jvm.FP.Core.good_b64 false A2 hB e2
  rcases Nat.lt_or_ge (Jvm.FP.Core.inUnits c2 q2 Jvm.FP.Core.b64.qmin) (Jvm.FP.Core.inUnits c1 q1 Jvm.FP.Core.b64.qmin) with hl | hl
  · exfalso
    have n1 := Jvm.FP.Core.roundRatio_nearest Jvm.FP.Core.good_b64 hB h1 f2.1 f2.2.1 h0 h01
    have n2 := Jvm.FP.Core.roundRatio_nearest Jvm.FP.Core.good_b64 hB h2 f1.1 f1.2.1 h0 h02
    have u1 := Jvm.FP.Core.inUnits_move c1 h0 f1.2.1
    have u2 := Jvm.FP.Core.inUnits_move c2 h0 f2.2.1
    have hR : Jvm.FP.Core.inUnits c2 q2 e0 * B < Jvm.FP.Core.inUnits c1 q1 e0 * B := by
      rw [u1, u2]
      exact Nat.mul_lt_mul_of_pos_right (Nat.mul_lt_mul_of_pos_right hl (Nat.two_pow_pos _)) hB
    unfold Jvm.FP.Core.distance at n1 n2
    rw [← Int.natCast_mul, ← Int.natCast_mul] at n1 n2
    have hX : Jvm.FP.Core.inUnits A1 e1 e0 = Jvm.FP.Core.inUnits A2 e2 e0 := by
      generalize Jvm.FP.Core.inUnits c1 q1 e0 * B = R1 at *
      generalize Jvm.FP.Core.inUnits c2 q2 e0 * B = R2 at *
      generalize Jvm.FP.Core.inUnits A1 e1 e0 = X1 at *
      generalize Jvm.FP.Core.inUnits A2 e2 e0 = X2 at *
      omega
    have hE := rr_congr hB h01 h02 hX
    rw [hE, h2] at h1
    cases h1
    exact Nat.lt_irrefl _ hl
  · exact hl
theorem rr_fin {A B : Nat} {e e0 : Int} {V : UInt64} {m : Nat} (hB : 0 < B) (hV : PZ V m) (h0 : e0 ≤ Jvm.FP.Core.b64.qmin) (h0e : e0 ≤ e) (h : Jvm.FP.Core.inUnits A e e0 ≤ m * 2 ^ (Jvm.FP.Core.b64.qmin - e0).toNat * B) : ∃ c q, Jvm.FP.Core.roundRatio Jvm.FP.Core.b64 false A B e = .fin false c q ∧ Jvm.FP.Core.inUnits c q Jvm.FP.Core.b64.qmin ≤ m := by
  have hVn := PZ_nn hV
  obtain ⟨cV, qV, v1, v2⟩ := hV
  have hz : Jvm.FP.Core.zmag Jvm.FP.Core.b64 (Jvm.FP.Core.val64 V) = m := by rw [v1]; exact v2
  have h9 := Jvm.FP.Core.zmag_roundRatio_le Jvm.FP.Core.good_b64 (s := false) hB (Jvm.FP.Core.val64_fits V) hVn h0 h0e (by rw [hz]; exact h)
  rw [hz] at h9
  rcases Jvm.FP.Core.roundRatio_cases Jvm.FP.Core.b64 false A B e with ⟨c, q, h3⟩ | h3
  · rw [h3] at h9
    exact ⟨c, q, h3, h9⟩
  · exfalso
    rw [h3] at h9
    have h4 := Jvm.FP.Core.zmag_lt_top Jvm.FP.Core.good_b64 (show Jvm.FP.Core.fits Jvm.FP.Core.b64 (.fin false cV qV) from v1 ▸ Jvm.FP.Core.val64_fits V)
    rw [v2] at h4
    exact absurd h9 (Nat.not_le.mpr h4)
theorem rr_ge {A B : Nat} {e e0 : Int} {V : UInt64} {m : Nat} {c : Nat} {q : Int} (hB : 0 < B) (hV : PZ V m) (h0 : e0 ≤ Jvm.FP.Core.b64.qmin) (h0e : e0 ≤ e) (h : m * 2 ^ (Jvm.FP.Core.b64.qmin - e0).toNat * B ≤ Jvm.FP.Core.inUnits A e e0) (hr : Jvm.FP.Core.roundRatio Jvm.FP.Core.b64 false A B e = .fin false c q) : m ≤ Jvm.FP.Core.inUnits c q Jvm.FP.Core.b64.qmin := by
  obtain ⟨cV, qV, v1, v2⟩ := hV
  have hz : Jvm.FP.Core.zmag Jvm.FP.Core.b64 (Jvm.FP.Core.val64 V) = m := by rw [v1]; exact v2
  have h9 := Jvm.FP.Core.zmag_roundRatio_ge Jvm.FP.Core.good_b64 (s := false) hB (Jvm.FP.Core.val64_fits V) h0 h0e (by rw [hz]; exact h)
  rw [hz, hr] at h9
  exact h9
theorem p0 : (2 : Nat) ^ (Jvm.FP.Core.b64.qmin - Jvm.FP.Core.b64.qmin).toNat = 1 := by rw [Int.sub_self]; rfl
theorem sum_rr {x y : UInt64} {m n : Nat} (hx : PZ x m) (hy : PZ y n) : ∃ N e, Jvm.FP.Core.b64.qmin ≤ e ∧ Jvm.FP.Core.val64 (FP.dadd x y) = Jvm.FP.Core.roundRatio Jvm.FP.Core.b64 false N 1 e ∧ Jvm.FP.Core.inUnits N e Jvm.FP.Core.b64.qmin = m + n := by
  obtain ⟨c, q, h1, h2⟩ := hx
  obtain ⟨d, r, h3, h4⟩ := hy
  have f1 : Jvm.FP.Core.fits Jvm.FP.Core.b64 (.fin false c q) := h1 ▸ Jvm.FP.Core.val64_fits x
  have f2 : Jvm.FP.Core.fits Jvm.FP.Core.b64 (.fin false d r) := h3 ▸ Jvm.FP.Core.val64_fits y
  have g1 := f1.2.1
  have g2 := f2.2.1
  refine ⟨Jvm.FP.Core.inUnits c q (min q r) + Jvm.FP.Core.inUnits d r (min q r), min q r, by omega, ?_, ?_⟩
  · show Jvm.FP.Core.val64 (Jvm.FP.Core.dadd x y) = _
    rw [Jvm.FP.Core.val64_dadd, h1, h3]
    have hv : Jvm.FP.Core.sumUnits false c q false d r (min q r) = ((Jvm.FP.Core.inUnits c q (min q r) + Jvm.FP.Core.inUnits d r (min q r) : Nat) : Int) := rfl
    have hs : Jvm.FP.Core.sumSign false false (Jvm.FP.Core.sumUnits false c q false d r (min q r)) = false := by
      rw [hv]
      unfold Jvm.FP.Core.sumSign
      split
      · rfl
      · exact decide_eq_false (by omega)
    show Jvm.FP.Core.round Jvm.FP.Core.b64 (.fin (Jvm.FP.Core.sumSign false false (Jvm.FP.Core.sumUnits false c q false d r (min q r))) (Jvm.FP.Core.sumUnits false c q false d r (min q r)).natAbs (min q r)) = _
    rw [hs, hv, Int.natAbs_natCast]
    rfl
  · rw [← h2, ← h4, Jvm.FP.Core.inUnits_move c (q := q) (r := min q r) (e := Jvm.FP.Core.b64.qmin) (by omega) (by omega), Jvm.FP.Core.inUnits_move d (q := r) (r := min q r) (e := Jvm.FP.Core.b64.qmin) (by omega) (by omega), ← Nat.add_mul]
    rfl
theorem sub_rr {x y : UInt64} {m n : Nat} (hx : PZ x m) (hy : PZ y n) (hle : n ≤ m) : ∃ N e, Jvm.FP.Core.b64.qmin ≤ e ∧ Jvm.FP.Core.val64 (FP.dsub x y) = Jvm.FP.Core.roundRatio Jvm.FP.Core.b64 false N 1 e ∧ Jvm.FP.Core.inUnits N e Jvm.FP.Core.b64.qmin = m - n := by
  obtain ⟨c, q, h1, h2⟩ := hx
  obtain ⟨d, r, h3, h4⟩ := hy
  have f1 : Jvm.FP.Core.fits Jvm.FP.Core.b64 (.fin false c q) := h1 ▸ Jvm.FP.Core.val64_fits x
  have f2 : Jvm.FP.Core.fits Jvm.FP.Core.b64 (.fin false d r) := h3 ▸ Jvm.FP.Core.val64_fits y
  have g1 := f1.2.1
  have g2 := f2.2.1
  have u1 := Jvm.FP.Core.inUnits_move c (q := q) (r := min q r) (e := Jvm.FP.Core.b64.qmin) (by omega) (by omega)
  have u2 := Jvm.FP.Core.inUnits_move d (q := r) (r := min q r) (e := Jvm.FP.Core.b64.qmin) (by omega) (by omega)
  have hxy : Jvm.FP.Core.inUnits d r (min q r) ≤ Jvm.FP.Core.inUnits c q (min q r) := by
    rw [← h2, ← h4, u1, u2] at hle
    exact Nat.le_of_mul_le_mul_right hle (Nat.two_pow_pos _)
  refine ⟨Jvm.FP.Core.inUnits c q (min q r) - Jvm.FP.Core.inUnits d r (min q r), min q r, by omega, ?_, ?_⟩
  · show Jvm.FP.Core.val64 (Jvm.FP.Core.dsub x y) = _
    rw [Jvm.FP.Core.val64_dsub, h1, h3]
    have hv : Jvm.FP.Core.sumUnits false c q true d r (min q r) = ((Jvm.FP.Core.inUnits c q (min q r) - Jvm.FP.Core.inUnits d r (min q r) : Nat) : Int) := by
      show (Jvm.FP.Core.inUnits c q (min q r) : Int) + -(Jvm.FP.Core.inUnits d r (min q r) : Int) = _
      omega
    have hs : Jvm.FP.Core.sumSign false true (Jvm.FP.Core.sumUnits false c q true d r (min q r)) = false := by
      rw [hv]
      unfold Jvm.FP.Core.sumSign
      split
      · rfl
      · exact decide_eq_false (by omega)
    show Jvm.FP.Core.round Jvm.FP.Core.b64 (.fin (Jvm.FP.Core.sumSign false true (Jvm.FP.Core.sumUnits false c q true d r (min q r))) (Jvm.FP.Core.sumUnits false c q true d r (min q r)).natAbs (min q r)) = _
    rw [hs, hv, Int.natAbs_natCast]
    rfl
  · rw [← h2, ← h4, u1, u2, ← Nat.sub_mul]
    rfl
theorem k8v : Jvm.FP.Core.val64 (4620693217682128896) = .fin false 4503599627370496 (-49) := by decide +kernel
theorem k8z : Jvm.FP.Core.inUnits 4503599627370496 (-49) Jvm.FP.Core.b64.qmin = 8 * Jvm.FP.Core.one64 := by decide +kernel
theorem PZ_8 : PZ (4620693217682128896) (8 * Jvm.FP.Core.one64) := ⟨_, _, k8v, k8z⟩
theorem PZ_1 : PZ (4607182418800017408) Jvm.FP.Core.one64 := ⟨4503599627370496, -52, by decide +kernel, by decide +kernel⟩
theorem PZ_05 : ∃ h5, PZ (4602678819172646912) h5 := ⟨_, 4503599627370496, -53, by decide +kernel, rfl⟩
theorem PZ_20 : PZ (4697254411347427328) (1048576 * Jvm.FP.Core.one64) := ⟨4503599627370496, -32, by decide +kernel, by decide +kernel⟩
theorem PZ_0 : PZ 0 0 := ⟨0, Jvm.FP.Core.b64.qmin, by decide +kernel, by decide +kernel⟩
theorem m8_rr {a : UInt64} {m : Nat} (h : PZ a m) : ∃ N e, 2 * Jvm.FP.Core.b64.qmin ≤ e ∧ Jvm.FP.Core.val64 (FP.dmul (4620693217682128896) a) = Jvm.FP.Core.roundRatio Jvm.FP.Core.b64 false N 1 e ∧ Jvm.FP.Core.inUnits N e (2 * Jvm.FP.Core.b64.qmin) = 8 * Jvm.FP.Core.one64 * m := by
  obtain ⟨c, q, h1, h2⟩ := h
  have f1 : Jvm.FP.Core.fits Jvm.FP.Core.b64 (.fin false c q) := h1 ▸ Jvm.FP.Core.val64_fits a
  have f8 : Jvm.FP.Core.fits Jvm.FP.Core.b64 (.fin false 4503599627370496 (-49)) := k8v ▸ Jvm.FP.Core.val64_fits (4620693217682128896)
  obtain ⟨e1, e2, e3⟩ := Jvm.FP.Core.product_units f8 f1
  refine ⟨4503599627370496 * c, -49 + q, e2, ?_, ?_⟩
  · show Jvm.FP.Core.val64 (Jvm.FP.Core.dmul (4620693217682128896) a) = _
    rw [Jvm.FP.Core.val64_dmul, k8v, h1, e1]
    rfl
  · rw [e3, ← k8z, ← h2]
    rfl
theorem q2 : 2 * Jvm.FP.Core.b64.qmin ≤ Jvm.FP.Core.b64.qmin := by decide +kernel
theorem m8_fin {a : UInt64} {m : Nat} (h : PZ a m) (hm : m ≤ 100000 * Jvm.FP.Core.one64) : ∃ n, PZ (FP.dmul (4620693217682128896) a) n ∧ n ≤ 1048576 * Jvm.FP.Core.one64 := by
  obtain ⟨N, e, h1, h2, h3⟩ := m8_rr h
  obtain ⟨c, q, h4, h5⟩ := rr_fin (B := 1) (by decide) PZ_20 q2 h1 (by
    rw [h3, show (Jvm.FP.Core.b64.qmin - 2 * Jvm.FP.Core.b64.qmin).toNat = (-Jvm.FP.Core.b64.qmin).toNat from by omega, Jvm.FP.Core.pow_qmin64, Nat.mul_one]
    calc 8 * Jvm.FP.Core.one64 * m ≤ 8 * Jvm.FP.Core.one64 * (100000 * Jvm.FP.Core.one64) := Nat.mul_le_mul_left _ hm
      _ = 800000 * Jvm.FP.Core.one64 * Jvm.FP.Core.one64 := by rw [Nat.mul_assoc 8, Nat.mul_left_comm Jvm.FP.Core.one64 100000 Jvm.FP.Core.one64, ← Nat.mul_assoc 8, Nat.mul_assoc 800000]
      _ ≤ 1048576 * Jvm.FP.Core.one64 * Jvm.FP.Core.one64 := Nat.mul_le_mul_right _ (Nat.mul_le_mul_right _ (by decide)))
  exact ⟨_, ⟨c, q, h2.trans h4, rfl⟩, h5⟩
theorem m8_mono {a b : UInt64} {m n k l : Nat} (ha : PZ a m) (hb : PZ b n) (h : m ≤ n) (h8a : PZ (FP.dmul (4620693217682128896) a) k) (h8b : PZ (FP.dmul (4620693217682128896) b) l) : k ≤ l := by
  obtain ⟨N, e, h1, h2, h3⟩ := m8_rr ha
  obtain ⟨M, f, g1, g2, g3⟩ := m8_rr hb
  obtain ⟨c, q, i1, i2⟩ := h8a
  obtain ⟨d, r, j1, j2⟩ := h8b
  rw [← i2, ← j2]
  exact rr_mono (B := 1) (by decide) (h2.symm.trans i1) (g2.symm.trans j1) q2 h1 g1 (by rw [h3, g3]; exact Nat.mul_le_mul_left _ h)
theorem d2l_PZ {a : UInt64} {m : Nat} (h : PZ a m) (hb : m / Jvm.FP.Core.one64 ≤ 4503599627370496) : (FP.d2l a).toInt = ((m / Jvm.FP.Core.one64 : Nat) : Int) := by
  have h1 := Jvm.FP.Core.d2l_val (PZ_nn h)
  obtain ⟨c, q, h2, h3⟩ := h
  rw [h2] at h1
  have h4 : (FP.d2l a).toInt = max (-2 ^ 63) (min (2 ^ 63 - 1) (((Jvm.FP.Core.inUnits c q Jvm.FP.Core.b64.qmin / Jvm.FP.Core.one64 : Nat)) : Int)) := h1
  rw [h3] at h4
  rw [h4]
  generalize m / Jvm.FP.Core.one64 = k at *
  omega
theorem d2i_PZ {a : UInt64} {m : Nat} (h : PZ a m) : (FP.d2i a).toInt = max (-2 ^ 31) (min (2 ^ 31 - 1) ((m / Jvm.FP.Core.one64 : Nat) : Int)) := by
  have h1 := Jvm.FP.Core.d2i_val (PZ_nn h)
  obtain ⟨c, q, h2, h3⟩ := h
  rw [h2] at h1
  have h4 : (FP.d2i a).toInt = max (-2 ^ 31) (min (2 ^ 31 - 1) (((Jvm.FP.Core.inUnits c q Jvm.FP.Core.b64.qmin / Jvm.FP.Core.one64 : Nat)) : Int)) := h1
  rw [h3] at h4
  exact h4
theorem l2d_PZ {n : Int64} (h0 : 0 ≤ n.toInt) (h1 : n.toInt ≤ 9007199254740992) : PZ (FP.l2d n) (n.toInt.toNat * Jvm.FP.Core.one64) := by
  obtain ⟨c, q, h2⟩ := Jvm.FP.Core.l2d_shape n
  rw [decide_eq_false (show ¬ n.toInt < 0 from by omega)] at h2
  refine ⟨c, q, h2, ?_⟩
  have h3 := Jvm.FP.Core.DInt_zval (Jvm.FP.Core.l2d_int (a := n) (by rw [show (2 : Nat) ^ 53 = 9007199254740992 from rfl]; omega))
  rw [h2] at h3
  have h4 : ((Jvm.FP.Core.inUnits c q Jvm.FP.Core.b64.qmin : Nat) : Int) = n.toInt * (Jvm.FP.Core.one64 : Int) := h3
  apply Int.ofNat_inj.mp
  rw [h4, Int.natCast_mul, Int.toNat_of_nonneg h0]
theorem cv_cmp {a b : UInt64} {m n : Nat} (ha : PZ a m) (hb : PZ b n) (op : CmpOp) : Op.cmpValue (FP.dcmp a b) op = if m < n then -1 else if m = n then 0 else 1 := by
  have h := Jvm.FP.Core.dcmp_zval (PZ_nn ha) (PZ_nn hb)
  rw [PZ_Z ha, PZ_Z hb, Jvm.FP.Core.compare_ite] at h
  show Op.cmpValue (Jvm.FP.Core.dcmp a b) op = _
  rw [h]
  by_cases h1 : m < n
  · rw [if_pos h1, if_pos (by omega)]
    rfl
  · rw [if_neg h1, if_neg (by omega)]
    by_cases h2 : m = n
    · rw [if_pos h2, if_pos (by omega)]
      rfl
    · rw [if_neg h2, if_neg (by omega)]
      rfl
/-- the rest behind the point, and the nearest whole number by it -/
theorem rest_PZ {x : UInt64} {m : Nat} (h : PZ x m) (hm : m ≤ 1048576 * Jvm.FP.Core.one64) : ∃ k, PZ (FP.dsub x (FP.l2d (FP.d2l x))) k := by
  have hp := Jvm.FP.Core.one64_pos
  have hF : m / Jvm.FP.Core.one64 ≤ 1048576 := Nat.div_le_of_le_mul (by rw [Nat.mul_comm]; exact hm)
  have h1 := d2l_PZ h (by omega)
  have hz := Int.natCast_nonneg (m / Jvm.FP.Core.one64)
  have h2 := l2d_PZ (n := FP.d2l x) (by omega) (by omega)
  have hle : (FP.d2l x).toInt.toNat * Jvm.FP.Core.one64 ≤ m := by
    rw [h1, Int.toNat_natCast]
    exact Nat.div_mul_le_self _ _
  obtain ⟨N, e, g1, g2, g3⟩ := sub_rr h h2 hle
  obtain ⟨c, q, h4, h5⟩ := rr_fin (B := 1) (by decide) PZ_20 (Int.le_refl _) g1 (by rw [g3, p0, Nat.mul_one, Nat.mul_one]; omega)
  exact ⟨_, c, q, g2.trans h4, rfl⟩
theorem nw_eq {x : UInt64} {k h5 : Nat} (hk : PZ (FP.dsub x (FP.l2d (FP.d2l x))) k) (h5p : PZ (4602678819172646912) h5) : nwF x = if h5 < k ∨ (h5 = k ∧ lg_cmp (FP.d2l x &&& 1) 1 = 0) then FP.d2l x + 1 else FP.d2l x := by
  unfold nwF
  rw [cv_cmp hk h5p]
  by_cases h1 : k < h5
  · rw [if_pos h1, if_neg (by decide), if_pos (by decide), if_neg (by omega)]
  · rw [if_neg h1]
    by_cases h2 : k = h5
    · rw [if_pos h2, if_neg (by decide), if_neg (by decide)]
      by_cases h3 : lg_cmp (FP.d2l x &&& 1) 1 = 0
      · rw [if_pos h3, if_pos (Or.inr ⟨h2.symm, h3⟩)]
      · rw [if_neg h3, if_neg (fun h => h.elim (fun h => by omega) (fun h => h3 h.2))]
    · rw [if_neg h2, if_pos (by decide), if_pos (Or.inl (by omega))]
theorem l_add1 {f : Int64} (h0 : 0 ≤ f.toInt) (h1 : f.toInt ≤ 4503599627370496) : (f + 1).toInt = f.toInt + 1 := by
  rw [Int64.toInt_add, show (1 : Int64).toInt = 1 from by decide]
  exact Int.bmod_eq_of_le (by omega) (by omega)
theorem nw_rng {x : UInt64} {m : Nat} (h : PZ x m) (hm : m ≤ 1048576 * Jvm.FP.Core.one64) : ((m / Jvm.FP.Core.one64 : Nat) : Int) ≤ (nwF x).toInt ∧ (nwF x).toInt ≤ ((m / Jvm.FP.Core.one64 : Nat) : Int) + 1 ∧ m / Jvm.FP.Core.one64 ≤ 1048576 ∧ 0 ≤ (nwF x).toInt := by
  have hp := Jvm.FP.Core.one64_pos
  have hF : m / Jvm.FP.Core.one64 ≤ 1048576 := Nat.div_le_of_le_mul (by rw [Nat.mul_comm]; exact hm)
  have h1 := d2l_PZ h (by omega)
  obtain ⟨k, hk⟩ := rest_PZ h hm
  obtain ⟨h5, h5p⟩ := PZ_05
  have hz := Int.natCast_nonneg (m / Jvm.FP.Core.one64)
  have h2 := l_add1 (f := FP.d2l x) (by omega) (by omega)
  rw [nw_eq hk h5p]
  refine ⟨?_, ?_, hF, ?_⟩
  · split <;> omega
  · split <;> omega
  · split <;> omega
theorem nw_mono {x y : UInt64} {m n : Nat} (hx : PZ x m) (hy : PZ y n) (h : m ≤ n) (hn : n ≤ 1048576 * Jvm.FP.Core.one64) : (nwF x).toInt ≤ (nwF y).toInt := by
  obtain ⟨a1, a2, a3, a4⟩ := nw_rng hx (Nat.le_trans h hn)
  obtain ⟨b1, b2, b3, b4⟩ := nw_rng hy hn
  have hz := Int.natCast_nonneg (n / Jvm.FP.Core.one64)
  have hd : m / Jvm.FP.Core.one64 ≤ n / Jvm.FP.Core.one64 := Nat.div_le_div_right h
  by_cases he : m / Jvm.FP.Core.one64 = n / Jvm.FP.Core.one64
  · have f1 := d2l_PZ hx (by omega)
    have f2 := d2l_PZ hy (by omega)
    have hf : FP.d2l x = FP.d2l y := Int64.toInt.inj (by rw [f1, f2, he])
    obtain ⟨k, hk⟩ := rest_PZ hx (Nat.le_trans h hn)
    obtain ⟨l, hl⟩ := rest_PZ hy hn
    obtain ⟨h5, h5p⟩ := PZ_05
    have hkl : k ≤ l := by
      have g2 := l2d_PZ (n := FP.d2l y) (by omega) (by omega)
      have g1 := g2
      rw [← hf] at g1
      have e1 : (FP.d2l x).toInt.toNat * Jvm.FP.Core.one64 ≤ m := by
        rw [f1, Int.toNat_natCast]
        exact Nat.div_mul_le_self _ _
      have e2 : (FP.d2l y).toInt.toNat * Jvm.FP.Core.one64 ≤ n := by
        rw [f2, Int.toNat_natCast]
        exact Nat.div_mul_le_self _ _
      obtain ⟨N, e, i1, i2, i3⟩ := sub_rr hx g1 e1
      obtain ⟨M, f, j1, j2, j3⟩ := sub_rr hy g2 e2
      obtain ⟨c, q, k1, k2⟩ := hk
      obtain ⟨d, r, l1, l2⟩ := hl
      rw [← k2, ← l2]
      exact rr_mono (B := 1) (by decide) (i2.symm.trans k1) (j2.symm.trans l1) (Int.le_refl _) i1 j1 (by rw [i3, j3, hf]; omega)
    have h2 := l_add1 (f := FP.d2l y) (by omega) (by omega)
    rw [nw_eq hk h5p, nw_eq hl h5p, hf]
    by_cases hA : h5 < k ∨ (h5 = k ∧ lg_cmp (FP.d2l y &&& 1) 1 = 0)
    · rw [if_pos hA, if_pos (by rcases hA with hA | ⟨hA, hB⟩
                                · exact Or.inl (by omega)
                                · rcases Nat.lt_or_ge h5 l with q | q
                                  · exact Or.inl q
                                  · exact Or.inr ⟨by omega, hB⟩)]
      omega
    · rw [if_neg hA]
      split <;> omega
  · omega
theorem d8_rr {a : UInt64} {m : Nat} (h : PZ a m) : ∃ N e, 2 * Jvm.FP.Core.b64.qmin ≤ e ∧ Jvm.FP.Core.val64 (FP.ddiv a (4620693217682128896)) = Jvm.FP.Core.roundRatio Jvm.FP.Core.b64 false N 4503599627370496 e ∧ Jvm.FP.Core.inUnits N e (2 * Jvm.FP.Core.b64.qmin) = m * 2 ^ (49 - Jvm.FP.Core.b64.qmin).toNat := by
  obtain ⟨c, q, h1, h2⟩ := h
  have f1 : Jvm.FP.Core.fits Jvm.FP.Core.b64 (.fin false c q) := h1 ▸ Jvm.FP.Core.val64_fits a
  have g1 := f1.2.1
  have hq : Jvm.FP.Core.b64.qmin < 0 := Jvm.FP.Core.qmin_neg Jvm.FP.Core.good_b64
  refine ⟨c, q - -49, by omega, ?_, ?_⟩
  · show Jvm.FP.Core.val64 (Jvm.FP.Core.ddiv a (4620693217682128896)) = _
    rw [Jvm.FP.Core.val64_ddiv, k8v, h1]
    rfl
  · rw [← h2]
    unfold Jvm.FP.Core.inUnits
    rw [Nat.mul_assoc, ← Nat.pow_add]
    congr 2
    omega
theorem d8_k : (2 : Nat) ^ (49 - Jvm.FP.Core.b64.qmin).toNat = 562949953421312 * Jvm.FP.Core.one64 := by decide +kernel
theorem wh_PZ {x : UInt64} {m : Nat} (h : PZ x m) (hm : m ≤ 1048576 * Jvm.FP.Core.one64) : ∃ k, PZ (FP.ddiv (FP.l2d (nwF x)) (4620693217682128896)) k := by
  obtain ⟨a1, a2, a3, a4⟩ := nw_rng h hm
  have h1 := l2d_PZ (n := nwF x) (by omega) (by omega)
  obtain ⟨N, e, g1, g2, g3⟩ := d8_rr h1
  obtain ⟨c, q, h4, h5⟩ := rr_fin (B := 4503599627370496) (by decide) PZ_20 q2 g1 (by
    rw [g3, d8_k, show (Jvm.FP.Core.b64.qmin - 2 * Jvm.FP.Core.b64.qmin).toNat = (-Jvm.FP.Core.b64.qmin).toNat from by omega, Jvm.FP.Core.pow_qmin64]
    have h6 : (nwF x).toInt.toNat ≤ 1048577 := by omega
    generalize (nwF x).toInt.toNat = w at h6
    generalize Jvm.FP.Core.one64 = P
    calc w * P * (562949953421312 * P) = (w * 562949953421312) * (P * P) := by rw [Nat.mul_mul_mul_comm]
      _ ≤ (1048576 * 4503599627370496) * (P * P) := Nat.mul_le_mul_right _ (by omega)
      _ = 1048576 * P * P * 4503599627370496 := by rw [Nat.mul_assoc 1048576 P P, Nat.mul_right_comm])
  exact ⟨_, c, q, g2.trans h4, rfl⟩
theorem wh_mono {n m : Nat} {a b : UInt64} (ha : okC n a) (hb : okC m b) (hn : n ≤ 100000) (hm : m ≤ 100000) (h : zv a ≤ zv b) : ¬ Op.cmpValue (FP.dcmp (whF b) (whF a)) .g < 0 := by
  obtain ⟨u, pa, ua, za⟩ := okC_PZ ha
  obtain ⟨v, pb, ub, zb⟩ := okC_PZ hb
  have huv : u ≤ v := by omega
  obtain ⟨k, ka, kb⟩ := m8_fin pa (Nat.le_trans ua (Nat.mul_le_mul_right _ hn))
  obtain ⟨l, la, lb⟩ := m8_fin pb (Nat.le_trans ub (Nat.mul_le_mul_right _ hm))
  have hkl := m8_mono pa pb huv ka la
  have hw := nw_mono ka la hkl lb
  obtain ⟨x1, x2, x3, x4⟩ := nw_rng ka kb
  obtain ⟨y1, y2, y3, y4⟩ := nw_rng la lb
  have g1 := l2d_PZ (n := nwF (FP.dmul (4620693217682128896) a)) (by omega) (by omega)
  have g2 := l2d_PZ (n := nwF (FP.dmul (4620693217682128896) b)) (by omega) (by omega)
  obtain ⟨s, hs⟩ := wh_PZ ka kb
  obtain ⟨t, ht⟩ := wh_PZ la lb
  have hst : s ≤ t := by
    obtain ⟨N, e, i1, i2, i3⟩ := d8_rr g1
    obtain ⟨M, f, j1, j2, j3⟩ := d8_rr g2
    obtain ⟨c, q, s1, s2⟩ := hs
    obtain ⟨d, r, t1, t2⟩ := ht
    rw [← s2, ← t2]
    exact rr_mono (B := 4503599627370496) (by decide) (i2.symm.trans s1) (j2.symm.trans t1) q2 i1 j1 (by rw [i3, j3]; exact Nat.mul_le_mul_right _ (Nat.mul_le_mul_right _ (by omega)))
  have hc : Op.cmpValue (FP.dcmp (whF b) (whF a)) .g = if t < s then -1 else if t = s then 0 else 1 := cv_cmp ht hs .g
  rw [hc, if_neg (by omega)]
  split <;> decide
theorem d2i_mono {n m : Nat} {a b : UInt64} (ha : okC n a) (hb : okC m b) (hn : n ≤ 100000) (hm : m ≤ 100000) (h : zv a ≤ zv b) : FP.d2i a ≤ FP.d2i b := by
  obtain ⟨u, pa, ua, za⟩ := okC_PZ ha
  obtain ⟨v, pb, ub, zb⟩ := okC_PZ hb
  have huv : u ≤ v := by omega
  have hd : u / Jvm.FP.Core.one64 ≤ v / Jvm.FP.Core.one64 := Nat.div_le_div_right huv
  rw [Int32.le_iff_toInt_le, d2i_PZ pa, d2i_PZ pb]
  omega
theorem nz8 : ¬ Jvm.FP.Core.DZero (4620693217682128896) := by
  rw [Jvm.FP.Core.zero_bits2]
  decide
theorem okC_W {n : Nat} {c : UInt64} (h : okC n c) (hn : n ≤ 100000) : okW c := by
  obtain ⟨u, pa, ua, za⟩ := okC_PZ h
  obtain ⟨k, ka, kb⟩ := m8_fin pa (Nat.le_trans ua (Nat.mul_le_mul_right _ hn))
  refine ⟨nn64 (PZ_nn ka), nn64b (Jvm.FP.Core.dsub_out (PZ_n ka) (Jvm.FP.Core.l2d_fin _)), ?_, nn64b (Jvm.FP.Core.dmul_out (PZ_fin pa) (PZ_fin PZ_8))⟩
  obtain ⟨s, hs⟩ := wh_PZ ka kb
  exact nn64 (PZ_nn hs)
theorem dc_self {x : UInt64} (h : vf_n64 x) : Op.cmpValue (FP.dcmp x x) .l = 0 := by
  show Op.cmpValue (Jvm.FP.Core.dcmp x x) .l = 0
  rw [Jvm.FP.Core.dcmp_self (nan64 h)]
  rfl
theorem clk_0 : okC 0 0 := PZ_okC PZ_0 (Nat.zero_le _)
theorem li_n {a b : Nat} (ha : a ≤ 30) (hb : 0 < b) (hb2 : b ≤ 30) : vf_n64 (FP.ddiv (FP.i2d (nI a)) (FP.i2d (nI b))) := by
  refine nn64b (Jvm.FP.Core.ddiv_out (Jvm.FP.Core.i2d_fin _).notNaN (Jvm.FP.Core.i2d_fin _) ?_)
  rw [Jvm.FP.Core.zero_bits2]
  exact Jvm.FP.Core.i2d_ne_zero (nI_ne0 hb (by omega))
/-! The speed and the clock. -/
/-- finite, not negative, of value m -/
def PF (a : UInt32) (m : Nat) : Prop := ∃ (c : Nat) (q : Int), Jvm.FP.Core.val32 a = .fin false c q ∧ Jvm.FP.Core.inUnits c q Jvm.FP.Core.b32.qmin = m
theorem PF_nn {a : UInt32} {m : Nat} (h : PF a m) : Jvm.FP.Core.val32 a ≠ .nan := by
  obtain ⟨c, q, h1, h2⟩ := h
  rw [h1]
  exact fun h => by cases h
theorem PF_Z {a : UInt32} {m : Nat} (h : PF a m) : Jvm.FP.Core.zval Jvm.FP.Core.b32 (Jvm.FP.Core.val32 a) = (m : Int) := by
  obtain ⟨c, q, h1, h2⟩ := h
  rw [h1, ← h2]
  rfl
theorem rr_fin32 {A B : Nat} {e e0 : Int} {V : UInt32} {m : Nat} (hB : 0 < B) (hV : PF V m) (h0 : e0 ≤ Jvm.FP.Core.b32.qmin) (h0e : e0 ≤ e) (h : Jvm.FP.Core.inUnits A e e0 ≤ m * 2 ^ (Jvm.FP.Core.b32.qmin - e0).toNat * B) : ∃ c q, Jvm.FP.Core.roundRatio Jvm.FP.Core.b32 false A B e = .fin false c q ∧ Jvm.FP.Core.inUnits c q Jvm.FP.Core.b32.qmin ≤ m := by
  have hVn := PF_nn hV
  obtain ⟨cV, qV, v1, v2⟩ := hV
  have hz : Jvm.FP.Core.zmag Jvm.FP.Core.b32 (Jvm.FP.Core.val32 V) = m := by rw [v1]; exact v2
  have h9 := Jvm.FP.Core.zmag_roundRatio_le Jvm.FP.Core.good_b32 (s := false) hB (Jvm.FP.Core.val32_fits V) hVn h0 h0e (by rw [hz]; exact h)
  rw [hz] at h9
  rcases Jvm.FP.Core.roundRatio_cases Jvm.FP.Core.b32 false A B e with ⟨c, q, h3⟩ | h3
  · rw [h3] at h9
    exact ⟨c, q, h3, h9⟩
  · exfalso
    rw [h3] at h9
    have h4 := Jvm.FP.Core.zmag_lt_top Jvm.FP.Core.good_b32 (show Jvm.FP.Core.fits Jvm.FP.Core.b32 (.fin false cV qV) from v1 ▸ Jvm.FP.Core.val32_fits V)
    rw [v2] at h4
    exact absurd h9 (Nat.not_le.mpr h4)
theorem rr_ge32 {A B : Nat} {e e0 : Int} {V : UInt32} {m : Nat} {c : Nat} {q : Int} (hB : 0 < B) (hV : PF V m) (h0 : e0 ≤ Jvm.FP.Core.b32.qmin) (h0e : e0 ≤ e) (h : m * 2 ^ (Jvm.FP.Core.b32.qmin - e0).toNat * B ≤ Jvm.FP.Core.inUnits A e e0) (hr : Jvm.FP.Core.roundRatio Jvm.FP.Core.b32 false A B e = .fin false c q) : m ≤ Jvm.FP.Core.inUnits c q Jvm.FP.Core.b32.qmin := by
  obtain ⟨cV, qV, v1, v2⟩ := hV
  have hz : Jvm.FP.Core.zmag Jvm.FP.Core.b32 (Jvm.FP.Core.val32 V) = m := by rw [v1]; exact v2
  have h9 := Jvm.FP.Core.zmag_roundRatio_ge Jvm.FP.Core.good_b32 (s := false) hB (Jvm.FP.Core.val32_fits V) h0 h0e (by rw [hz]; exact h)
  rw [hz, hr] at h9
  exact h9
theorem sum_rr32 {x y : UInt32} {m n : Nat} (hx : PF x m) (hy : PF y n) : ∃ N e, Jvm.FP.Core.b32.qmin ≤ e ∧ Jvm.FP.Core.val32 (FP.fadd x y) = Jvm.FP.Core.roundRatio Jvm.FP.Core.b32 false N 1 e ∧ Jvm.FP.Core.inUnits N e Jvm.FP.Core.b32.qmin = m + n := by
  obtain ⟨c, q, h1, h2⟩ := hx
  obtain ⟨d, r, h3, h4⟩ := hy
  have f1 : Jvm.FP.Core.fits Jvm.FP.Core.b32 (.fin false c q) := h1 ▸ Jvm.FP.Core.val32_fits x
  have f2 : Jvm.FP.Core.fits Jvm.FP.Core.b32 (.fin false d r) := h3 ▸ Jvm.FP.Core.val32_fits y
  have g1 := f1.2.1
  have g2 := f2.2.1
  refine ⟨Jvm.FP.Core.inUnits c q (min q r) + Jvm.FP.Core.inUnits d r (min q r), min q r, by omega, ?_, ?_⟩
  · show Jvm.FP.Core.val32 (Jvm.FP.Core.fadd x y) = _
    rw [Jvm.FP.Core.val32_fadd, h1, h3]
    have hv : Jvm.FP.Core.sumUnits false c q false d r (min q r) = ((Jvm.FP.Core.inUnits c q (min q r) + Jvm.FP.Core.inUnits d r (min q r) : Nat) : Int) := rfl
    have hs : Jvm.FP.Core.sumSign false false (Jvm.FP.Core.sumUnits false c q false d r (min q r)) = false := by
      rw [hv]
      unfold Jvm.FP.Core.sumSign
      split
      · rfl
      · exact decide_eq_false (by omega)
    show Jvm.FP.Core.round Jvm.FP.Core.b32 (.fin (Jvm.FP.Core.sumSign false false (Jvm.FP.Core.sumUnits false c q false d r (min q r))) (Jvm.FP.Core.sumUnits false c q false d r (min q r)).natAbs (min q r)) = _
    rw [hs, hv, Int.natAbs_natCast]
    rfl
  · rw [← h2, ← h4, Jvm.FP.Core.inUnits_move c (q := q) (r := min q r) (e := Jvm.FP.Core.b32.qmin) (by omega) (by omega), Jvm.FP.Core.inUnits_move d (q := r) (r := min q r) (e := Jvm.FP.Core.b32.qmin) (by omega) (by omega), ← Nat.add_mul]
    rfl
theorem cv_cmp32 {a b : UInt32} {m n : Nat} (ha : PF a m) (hb : PF b n) (op : CmpOp) : Op.cmpValue (FP.fcmp a b) op = if m < n then -1 else if m = n then 0 else 1 := by
  have h := Jvm.FP.Core.fcmp_zval (PF_nn ha) (PF_nn hb)
  rw [PF_Z ha, PF_Z hb, Jvm.FP.Core.compare_ite] at h
  show Op.cmpValue (Jvm.FP.Core.fcmp a b) op = _
  rw [h]
  by_cases h1 : m < n
  · rw [if_pos h1, if_pos (by omega)]
    rfl
  · rw [if_neg h1, if_neg (by omega)]
    by_cases h2 : m = n
    · rw [if_pos h2, if_pos (by omega)]
      rfl
    · rw [if_neg h2, if_neg (by omega)]
      rfl
/-- the rest behind the point, and the nearest whole number by it -/
theorem PF_bits {a : UInt32} (h : a.toNat < 2139095040) : PF a (Jvm.FP.Core.unitsOf Jvm.FP.Core.b32 a.toNat) := by
  have hm : a.toNat % 2 ^ 31 = a.toNat := Nat.mod_eq_of_lt (by omega)
  have hf : Jvm.FP.Core.FFin a := (Jvm.FP.Core.fin_bits32 a).mpr (by rw [hm]; exact h)
  have hn := hf.ne_nan
  obtain ⟨s, c, q, h1⟩ := hf
  have hs := Jvm.FP.Core.sgn_bits32 hn
  have hz := Jvm.FP.Core.zmag_toNat32 hn
  rw [h1] at hs hz
  have hs : s = decide (2 ^ 31 ≤ a.toNat) := hs
  rw [decide_eq_false (by omega)] at hs
  subst hs
  rw [hm] at hz
  exact ⟨c, q, h1, hz⟩
theorem p032 : (2 : Nat) ^ (Jvm.FP.Core.b32.qmin - Jvm.FP.Core.b32.qmin).toNat = 1 := by rw [Int.sub_self]; rfl
theorem sp_a : ∀ g, g < 9 → 1 ≤ g → 1040187392 ≤ (FP.fmul (1040187392) (FP.i2f (nI g))).toNat ∧ (FP.fmul (1040187392) (FP.i2f (nI g))).toNat ≤ 1065353216 := by decide +kernel
theorem sp_b : ∀ w, w < 2001 → (FP.fmul (FP.i2f (nI w)) (981467136)).toNat ≤ 1073741824 := by decide +kernel
theorem u_123 : Jvm.FP.Core.unitsOf Jvm.FP.Core.b32 1065353216 + Jvm.FP.Core.unitsOf Jvm.FP.Core.b32 1073741824 = Jvm.FP.Core.unitsOf Jvm.FP.Core.b32 1077936128 := by decide +kernel
theorem u_2 : Jvm.FP.Core.unitsOf Jvm.FP.Core.b32 1073741824 * 2 ^ (Jvm.FP.Core.b32.qmin - Jvm.FP.Core.b64.qmin).toNat = 2 * Jvm.FP.Core.one64 := by decide +kernel
theorem u_8 : 8 * (Jvm.FP.Core.unitsOf Jvm.FP.Core.b32 1040187392 * 2 ^ (Jvm.FP.Core.b32.qmin - Jvm.FP.Core.b64.qmin).toNat) = Jvm.FP.Core.one64 := by decide +kernel
theorem sp_m {g w : Nat} (h : 1 ≤ g ∧ g ≤ 8) (h2 : w ≤ 2000) : ∃ m n, PF (FP.fmul (1040187392) (FP.i2f (nI g))) m ∧ PF (FP.fmul (FP.i2f (nI w)) (981467136)) n ∧ Jvm.FP.Core.unitsOf Jvm.FP.Core.b32 1040187392 ≤ m ∧ m + n ≤ Jvm.FP.Core.unitsOf Jvm.FP.Core.b32 1077936128 := by
  obtain ⟨a1, a2⟩ := sp_a g (by omega) h.1
  have b1 := sp_b w (by omega)
  refine ⟨_, _, PF_bits (by omega), PF_bits (by omega), Jvm.FP.Core.unitsOf_le_iff.mpr a1, ?_⟩
  rw [← u_123]
  exact Nat.add_le_add (Jvm.FP.Core.unitsOf_le_iff.mpr a2) (Jvm.FP.Core.unitsOf_le_iff.mpr b1)
theorem sp_S {g w : Nat} (h : 1 ≤ g ∧ g ≤ 8) (h2 : w ≤ 2000) : ∃ k, PF (spdS g w) k ∧ Jvm.FP.Core.unitsOf Jvm.FP.Core.b32 1040187392 ≤ k := by
  obtain ⟨m, n, a1, a2, a3, a4⟩ := sp_m h h2
  obtain ⟨N, e, g1, g2, g3⟩ := sum_rr32 a1 a2
  have v3 : PF 1077936128 (Jvm.FP.Core.unitsOf Jvm.FP.Core.b32 1077936128) := PF_bits (by decide)
  have v1 : PF 1040187392 (Jvm.FP.Core.unitsOf Jvm.FP.Core.b32 1040187392) := PF_bits (by decide)
  obtain ⟨c, q, h4, h5⟩ := rr_fin32 (B := 1) (by decide) v3 (Int.le_refl _) g1 (by rw [g3, p032, Nat.mul_one, Nat.mul_one]; exact a4)
  have h6 := rr_ge32 (B := 1) (by decide) v1 (Int.le_refl _) g1 (by rw [g3, p032, Nat.mul_one, Nat.mul_one]; omega) h4
  exact ⟨_, ⟨c, q, g2.trans h4, rfl⟩, h6⟩
theorem sp_F {g w : Nat} (h : 1 ≤ g ∧ g ≤ 8) (h2 : w ≤ 2000) : ∃ k, PF (spdF g w) k ∧ Jvm.FP.Core.unitsOf Jvm.FP.Core.b32 1040187392 ≤ k ∧ k ≤ Jvm.FP.Core.unitsOf Jvm.FP.Core.b32 1073741824 := by
  obtain ⟨k, a1, a2⟩ := sp_S h h2
  have v2 : PF FP.fconst2 (Jvm.FP.Core.unitsOf Jvm.FP.Core.b32 1073741824) := PF_bits (a := FP.fconst2) (by decide)
  unfold spdF
  rw [cv_cmp32 a1 v2]
  by_cases h3 : k < Jvm.FP.Core.unitsOf Jvm.FP.Core.b32 1073741824
  · rw [if_pos h3, if_pos (by decide)]
    exact ⟨k, a1, a2, Nat.le_of_lt h3⟩
  · rw [if_neg h3]
    by_cases h4 : k = Jvm.FP.Core.unitsOf Jvm.FP.Core.b32 1073741824
    · rw [if_pos h4, if_pos (by decide)]
      exact ⟨k, a1, a2, Nat.le_of_eq h4⟩
    · rw [if_neg h4, if_neg (by decide)]
      exact ⟨_, v2, Jvm.FP.Core.unitsOf_le_iff.mpr (by decide), Nat.le_refl _⟩
theorem PZ_2 : PZ (4611686018427387904) (2 * Jvm.FP.Core.one64) := ⟨4503599627370496, -51, by decide +kernel, by decide +kernel⟩
theorem k125 : Jvm.FP.Core.val64 (4593671619917905920) = .fin false 4503599627370496 (-55) := by decide +kernel
theorem k125z : Jvm.FP.Core.inUnits 4503599627370496 (-55) Jvm.FP.Core.b64.qmin = Jvm.FP.Core.unitsOf Jvm.FP.Core.b32 1040187392 * 2 ^ (Jvm.FP.Core.b32.qmin - Jvm.FP.Core.b64.qmin).toNat := by decide +kernel
theorem PZ_125 : PZ (4593671619917905920) (Jvm.FP.Core.unitsOf Jvm.FP.Core.b32 1040187392 * 2 ^ (Jvm.FP.Core.b32.qmin - Jvm.FP.Core.b64.qmin).toNat) := ⟨_, _, k125, k125z⟩
theorem q_32 : Jvm.FP.Core.b64.qmin ≤ Jvm.FP.Core.b32.qmin := by decide +kernel
theorem sp_D {g w : Nat} (h : 1 ≤ g ∧ g ≤ 8) (h2 : w ≤ 2000) : ∃ s, PZ (FP.f2d (spdF g w)) s ∧ Jvm.FP.Core.unitsOf Jvm.FP.Core.b32 1040187392 * 2 ^ (Jvm.FP.Core.b32.qmin - Jvm.FP.Core.b64.qmin).toNat ≤ s ∧ s ≤ 2 * Jvm.FP.Core.one64 := by
  obtain ⟨k, ⟨c, q, a0, a1⟩, a2, a3⟩ := sp_F h h2
  have fit : Jvm.FP.Core.fits Jvm.FP.Core.b32 (.fin false c q) := a0 ▸ Jvm.FP.Core.val32_fits _
  have hq := fit.2.1
  have h32 := q_32
  have hn : Jvm.FP.Core.fIsNaN (spdF g w) = false := Jvm.FP.Core.FFin.notNaN ⟨false, c, q, a0⟩
  have e1 : FP.f2d (spdF g w) = Jvm.FP.Core.f2d (spdF g w) := by
    unfold FP.f2d
    rw [hn]
    rfl
  have e2 : Jvm.FP.Core.val64 (FP.f2d (spdF g w)) = Jvm.FP.Core.roundRatio Jvm.FP.Core.b64 false c 1 q := by
    rw [e1, Jvm.FP.Core.val64_f2d, a0]
    rfl
  have u1 := Jvm.FP.Core.inUnits_move c h32 hq
  rw [a1] at u1
  obtain ⟨d, r, h4, h5⟩ := rr_fin (B := 1) (by decide) PZ_2 (Int.le_refl _) (Int.le_trans h32 hq) (by rw [u1, p0, Nat.mul_one, Nat.mul_one, ← u_2]; exact Nat.mul_le_mul_right _ a3)
  have h6 := rr_ge (B := 1) (by decide) PZ_125 (Int.le_refl _) (Int.le_trans h32 hq) (by rw [u1, p0, Nat.mul_one, Nat.mul_one]; exact Nat.mul_le_mul_right _ a2) h4
  exact ⟨_, ⟨d, r, e2.trans h4, rfl⟩, h6, h5⟩
theorem spd_n1 (g : Nat) (h : 1 ≤ g ∧ g ≤ 8) : vf_n32 (FP.fmul (1040187392) (FP.i2f (nI g))) := by
  obtain ⟨m, n, a1, a2, -⟩ := sp_m (w := 0) h (by decide)
  exact nn32 (PF_nn a1)
theorem spd_n2 (w : Nat) (h : w ≤ 2000) : vf_n32 (FP.fmul (FP.i2f (nI w)) (981467136)) := by
  obtain ⟨m, n, a1, a2, -⟩ := sp_m (g := 1) (by decide) h
  exact nn32 (PF_nn a2)
theorem spd_n3 (g w : Nat) (h : 1 ≤ g ∧ g ≤ 8) (h2 : w ≤ 2000) : vf_n32 (FP.fadd (FP.fmul (1040187392) (FP.i2f (nI g))) (FP.fmul (FP.i2f (nI w)) (981467136))) := by
  obtain ⟨k, a1, -⟩ := sp_S h h2
  exact nn32 (PF_nn a1)
theorem spd_n4 (g w : Nat) (h : 1 ≤ g ∧ g ≤ 8) (h2 : w ≤ 2000) : vf_n64 (FP.f2d (spdF g w)) := by
  obtain ⟨s, a1, -⟩ := sp_D h h2
  exact nn64 (PZ_nn a1)
theorem tk_c : 8 * (4503599627370496 * 2 ^ (-55 - 2 * Jvm.FP.Core.b64.qmin).toNat) = Jvm.FP.Core.one64 * Jvm.FP.Core.one64 := by decide +kernel
theorem tk_PZ {g w : Nat} (h : 1 ≤ g ∧ g ≤ 8) (h2 : w ≤ 2000) : ∃ t, PZ (tckF g w) t ∧ t ≤ Jvm.FP.Core.one64 := by
  obtain ⟨s, ⟨d, r, a0, a1⟩, a2, a3⟩ := sp_D h h2
  have hp := Jvm.FP.Core.one64_pos
  have h8 := u_8
  have hs : Jvm.FP.Core.one64 ≤ 8 * s := by omega
  have fit : Jvm.FP.Core.fits Jvm.FP.Core.b64 (.fin false d r) := a0 ▸ Jvm.FP.Core.val64_fits _
  have hr := fit.2.1
  have hr2 := fit.2.2.1
  have hqx : Jvm.FP.Core.b64.qmax = 971 := by decide +kernel
  have hqm : Jvm.FP.Core.b64.qmin = -1074 := Jvm.FP.Core.qmin_b64
  have hd : d ≠ 0 := by
    intro h0
    rw [h0] at a1
    have h1 : Jvm.FP.Core.inUnits 0 r Jvm.FP.Core.b64.qmin = 0 := by unfold Jvm.FP.Core.inUnits; exact Nat.zero_mul _
    omega
  have e1 : Jvm.FP.Core.val64 (tckF g w) = Jvm.FP.Core.roundRatio Jvm.FP.Core.b64 false 4503599627370496 d (-55 - r) := by
    show Jvm.FP.Core.val64 (Jvm.FP.Core.ddiv (4593671619917905920) (FP.f2d (spdF g w))) = _
    rw [Jvm.FP.Core.val64_ddiv, k125, a0]
    show (if d = 0 then _ else _) = _
    rw [if_neg hd]
    rfl
  obtain ⟨c, q, h4, h5⟩ := rr_fin (B := d) (by omega) PZ_1 (Int.le_refl _) (show Jvm.FP.Core.b64.qmin ≤ -55 - r from by omega) (by
    rw [p0, Nat.mul_one]
    refine Nat.le_of_mul_le_mul_right (c := 2 ^ (r - Jvm.FP.Core.b64.qmin).toNat) ?_ (Nat.two_pow_pos _)
    have e2 : Jvm.FP.Core.inUnits 4503599627370496 (-55 - r) Jvm.FP.Core.b64.qmin * 2 ^ (r - Jvm.FP.Core.b64.qmin).toNat = 4503599627370496 * 2 ^ (-55 - 2 * Jvm.FP.Core.b64.qmin).toNat := by
      unfold Jvm.FP.Core.inUnits
      rw [Nat.mul_assoc, ← Nat.pow_add, show (-55 - r - Jvm.FP.Core.b64.qmin).toNat + (r - Jvm.FP.Core.b64.qmin).toNat = (-55 - 2 * Jvm.FP.Core.b64.qmin).toNat from by omega]
    have e3 : Jvm.FP.Core.one64 * d * 2 ^ (r - Jvm.FP.Core.b64.qmin).toNat = Jvm.FP.Core.one64 * s := by
      rw [Nat.mul_assoc, ← a1]
      rfl
    rw [e2, e3]
    have e4 := tk_c
    have e5 : Jvm.FP.Core.one64 * Jvm.FP.Core.one64 ≤ Jvm.FP.Core.one64 * (8 * s) := Nat.mul_le_mul_left _ hs
    rw [Nat.mul_left_comm] at e5
    omega)
  exact ⟨_, ⟨c, q, e1.trans h4, rfl⟩, h5⟩
theorem spd_n5 (g w : Nat) (h : 1 ≤ g ∧ g ≤ 8) (h2 : w ≤ 2000) : vf_n64 (FP.ddiv (4593671619917905920) (FP.f2d (spdF g w))) := by
  obtain ⟨t, a1, -⟩ := tk_PZ h h2
  exact nn64 (PZ_nn a1)
theorem okC_both {n g w : Nat} {c : UInt64} (hc : okC n c) (hn : n ≤ 100000) (h : 1 ≤ g ∧ g ≤ 8) (h2 : w ≤ 2000) : ∃ u k, PZ c u ∧ PZ (FP.dadd c (tckF g w)) k ∧ u ≤ k ∧ k ≤ (n + 1) * Jvm.FP.Core.one64 := by
  obtain ⟨u, pc, uc, -⟩ := okC_PZ hc
  obtain ⟨t, pt, tt⟩ := tk_PZ h h2
  obtain ⟨N, e, g1, g2, g3⟩ := sum_rr pc pt
  have hl : (lN (n + 1)).toInt = ((n + 1 : Nat) : Int) := lN_toInt (by omega)
  have hV := l2d_PZ (n := lN (n + 1)) (by omega) (by omega)
  rw [hl, Int.toNat_natCast] at hV
  obtain ⟨c2, q, h4, h5⟩ := rr_fin (B := 1) (by decide) hV (Int.le_refl _) g1 (by rw [g3, p0, Nat.mul_one, Nat.mul_one, Nat.succ_mul]; omega)
  have h6 := rr_ge (B := 1) (by decide) pc (Int.le_refl _) g1 (by rw [g3, p0, Nat.mul_one, Nat.mul_one]; omega) h4
  exact ⟨u, _, pc, ⟨c2, q, g2.trans h4, rfl⟩, h6, h5⟩
theorem okC_n6 {n g w : Nat} {c : UInt64} (hc : okC n c) (hn : n ≤ 100000) (h : 1 ≤ g ∧ g ≤ 8) (h2 : w ≤ 2000) : vf_n64 (FP.dadd c (tckF g w)) := by
  obtain ⟨u, k, a1, a2, -⟩ := okC_both hc hn h h2
  exact nn64 (PZ_nn a2)
theorem okC_add {n g w : Nat} {c : UInt64} (hc : okC n c) (hn : n ≤ 100000) (h : 1 ≤ g ∧ g ≤ 8) (h2 : w ≤ 2000) : okC (n + 1) (FP.dadd c (tckF g w)) ∧ zv c ≤ zv (FP.dadd c (tckF g w)) := by
  obtain ⟨u, k, a1, a2, a3, a4⟩ := okC_both hc hn h h2
  exact ⟨PZ_okC a2 a4, by rw [zv_PZ a1, zv_PZ a2]; omega⟩
theorem spd_law (g w : Nat) (h : 1 ≤ g ∧ g ≤ 8) (h2 : w ≤ 2000) : Op.cmpValue (FP.dcmp (FP.f2d (spdF g w)) (FP.f2d (spdF g w))) .l = 0 ∧ ¬ 0 < Op.cmpValue (FP.dcmp (FP.f2d (spdF g w)) (4611686018427387904)) .l ∧ 0 ≤ Op.cmpValue (FP.dcmp (FP.f2d (spdF g w)) (4593671619917905920)) .g := by
  obtain ⟨s, a1, a2, a3⟩ := sp_D h h2
  refine ⟨?_, ?_, ?_⟩
  · rw [cv_cmp a1 a1, if_neg (Nat.lt_irrefl _), if_pos rfl]
  · rw [cv_cmp a1 PZ_2]
    by_cases h3 : s < 2 * Jvm.FP.Core.one64
    · rw [if_pos h3]; decide
    · rw [if_neg h3, if_pos (by omega)]; decide
  · rw [cv_cmp a1 PZ_125, if_neg (Nat.not_lt.mpr a2)]
    split <;> decide
end
