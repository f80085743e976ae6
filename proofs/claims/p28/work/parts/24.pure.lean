/-! What holds of the works while they run. -/
def pluP (x : Pst) : Nat → Nat := x.2.2.1
def bzE (x : Pst) : Nat := evrP x + buzP x
theorem suF_out (f : Nat → Nat) (tn v : Nat) : ∀ n, n ≤ tn → suF (va_up f tn v) n = suF f n
  | 0, _ => rfl
  | n + 1, h => by rw [suF, suF, suF_out f tn v n (by omega), va_up_ne _ _ (show n ≠ tn from by omega)]
theorem suF_up (f : Nat → Nat) (tn v : Nat) : ∀ n, tn < n → suF (va_up f tn v) n + f tn = suF f n + v
  | 0, h => absurd h (by omega)
  | n + 1, h => by
    rw [suF, suF]
    by_cases e : n = tn
    · subst e
      rw [suF_out f n v n (Nat.le_refl _), xu_self]
      omega
    · have ih := suF_up f tn v n (by omega)
      rw [va_up_ne _ _ e]
      omega
theorem plk_sum {pit : Nat → Nat} {cnt shf plo stp tn : Nat} {cks : UInt64} (x : Pst) (ht : tn < cnt) : suF (pluP (plkP pit shf plo stp cks tn x)) cnt = suF (pluP x) cnt + 1 ∧ bzE (plkP pit shf plo stp cks tn x) = bzE x + 1 ∧ evrP x ≤ evrP (plkP pit shf plo stp cks tn x) ∧ buzP x ≤ buzP (plkP pit shf plo stp cks tn x) := by
  obtain ⟨bro, scr, plu, las, plc, wea, pts, clk, old, kep, evr, buz, wor⟩ := x
  refine ⟨?_, ?_, ?_, ?_⟩
  · show suF (va_up plu tn (plu tn + 1)) cnt = suF plu cnt + 1
    have h := suF_up plu tn (plu tn + 1) cnt ht
    omega
  · show (if isBz plu las tn stp then evr else evr + 1) + (if isBz plu las tn stp then buz + 1 else buz) = evr + buz + 1
    cases isBz plu las tn stp with
    | true => show evr + (buz + 1) = _; omega
    | false => show (evr + 1) + buz = _; omega
  · show evr ≤ (if isBz plu las tn stp then evr else evr + 1)
    split <;> omega
  · show buz ≤ (if isBz plu las tn stp then buz + 1 else buz)
    split <;> omega
theorem pls_cases (pit : Nat → Nat) (shf plo stp : Nat) (cks : UInt64) (x : Pst) (i : Nat) : (((plsP pit shf plo stp cks x i).1.1 i = false ∧ bitL ((plsP pit shf plo stp cks x i).1.2.2.2.2.1 (shf * 24 + i)) plo = true) ∧ plsP pit shf plo stp cks x (i + 1) = (plkP pit shf plo stp cks i (plsP pit shf plo stp cks x i).1, (plsP pit shf plo stp cks x i).2 + 1)) ∨ plsP pit shf plo stp cks x (i + 1) = plsP pit shf plo stp cks x i := by
  by_cases h : (plsP pit shf plo stp cks x i).1.1 i = false ∧ bitL ((plsP pit shf plo stp cks x i).1.2.2.2.2.1 (shf * 24 + i)) plo = true
  · exact Or.inl ⟨h, if_pos h⟩
  · exact Or.inr (if_neg h)
theorem pls_sum {pit : Nat → Nat} {cnt shf plo stp : Nat} {cks : UInt64} (x : Pst) : ∀ i, i ≤ cnt → suF (pluP (plsP pit shf plo stp cks x i).1) cnt = suF (pluP x) cnt + (plsP pit shf plo stp cks x i).2 ∧ bzE (plsP pit shf plo stp cks x i).1 = bzE x + (plsP pit shf plo stp cks x i).2 ∧ evrP x ≤ evrP (plsP pit shf plo stp cks x i).1 ∧ buzP x ≤ buzP (plsP pit shf plo stp cks x i).1
  | 0, _ => ⟨rfl, rfl, Nat.le_refl _, Nat.le_refl _⟩
  | i + 1, hi => by
    obtain ⟨a, b, c, d⟩ := pls_sum (pit := pit) (cnt := cnt) (shf := shf) (plo := plo) (stp := stp) (cks := cks) x i (by omega)
    rcases pls_cases pit shf plo stp cks x i with ⟨-, e⟩ | e
    · rw [e]
      obtain ⟨a1, b1, c1, d1⟩ := plk_sum (pit := pit) (cnt := cnt) (shf := shf) (plo := plo) (stp := stp) (tn := i) (cks := cks) (plsP pit shf plo stp cks x i).1 (by omega)
      refine ⟨?_, ?_, Nat.le_trans c c1, Nat.le_trans d d1⟩
      · show suF (pluP (plkP pit shf plo stp cks i (plsP pit shf plo stp cks x i).1)) cnt = suF (pluP x) cnt + ((plsP pit shf plo stp cks x i).2 + 1)
        omega
      · show bzE (plkP pit shf plo stp cks i (plsP pit shf plo stp cks x i).1) = bzE x + ((plsP pit shf plo stp cks x i).2 + 1)
        omega
    · rw [e]; exact ⟨a, b, c, d⟩
theorem pls_keep {G : Pst → Prop} {pit : Nat → Nat} {cnt shf plo stp : Nat} {cks : UInt64} {x : Pst} (hx : G x) (hk : ∀ tn y, tn < cnt → G y → y.1 tn = false → bitL (y.2.2.2.2.1 (shf * 24 + tn)) plo = true → G (plkP pit shf plo stp cks tn y)) : ∀ i, i ≤ cnt → G (plsP pit shf plo stp cks x i).1
  | 0, _ => hx
  | i + 1, hi => by
    have ih := pls_keep hx hk i (by omega)
    rcases pls_cases pit shf plo stp cks x i with ⟨h, e⟩ | e
    · rw [e]; exact hk i _ (by omega) ih h.1 h.2
    · rw [e]; exact ih
theorem run_s {pit : Nat → Nat} {cnt shf gov : Nat} {n : Nat} {x : Wst} (h : 0 < x.2.1) : runW pit cnt shf gov (n + 1) x = runW pit cnt shf gov n (stpW pit cnt shf gov x) := if_pos h
theorem run_z {pit : Nat → Nat} {cnt shf gov : Nat} {n : Nat} {x : Wst} (h : ¬ 0 < x.2.1) : runW pit cnt shf gov (n + 1) x = x := if_neg h
theorem ls_s {pit : Nat → Nat} {cnt shf gov : Nat} {n : Nat} {x : Wst} (h : 0 < x.2.1) : lsW pit cnt shf gov (n + 1) x = lsW pit cnt shf gov n (stpW pit cnt shf gov x) + 1 := if_pos h
theorem ls_z {pit : Nat → Nat} {cnt shf gov : Nat} {n : Nat} {x : Wst} (h : ¬ 0 < x.2.1) : lsW pit cnt shf gov (n + 1) x = 0 := if_neg h
theorem run_sum {pit : Nat → Nat} {cnt shf gov : Nat} (hc : cnt ≤ 24) : ∀ (n : Nat) (x : Wst), x.2.2.1 = x.2.2.2.1 % 64 → ∃ p, (runW pit cnt shf gov n x).2.2.2.1 = x.2.2.2.1 + lsW pit cnt shf gov n x ∧ suF (pluP (runW pit cnt shf gov n x).1) cnt = suF (pluP x.1) cnt + p ∧ bzE (runW pit cnt shf gov n x).1 = bzE x.1 + p ∧ (runW pit cnt shf gov n x).2.1 = x.2.1 - (2 * lsW pit cnt shf gov n x + p) ∧ p ≤ 24 * lsW pit cnt shf gov n x ∧ evrP x.1 ≤ evrP (runW pit cnt shf gov n x).1 ∧ buzP x.1 ≤ buzP (runW pit cnt shf gov n x).1 ∧ (runW pit cnt shf gov n x).2.2.1 = (runW pit cnt shf gov n x).2.2.2.1 % 64
  | 0, x, h => ⟨0, rfl, rfl, rfl, rfl, Nat.le_refl _, Nat.le_refl _, Nat.le_refl _, h⟩
  | n + 1, x, h => by
    by_cases hw : 0 < x.2.1
    · rw [run_s hw, ls_s hw]
      obtain ⟨x, wnd, plo, stp, cks⟩ := x
      have h : plo = stp % 64 := h
      obtain ⟨p, a1, a2, a3, a4, a5, a6, a7, a8⟩ := run_sum (pit := pit) (shf := shf) (gov := gov) hc n (stpW pit cnt shf gov (x, wnd, plo, stp, cks)) (by show (plo + 1) % 64 = (stp + 1) % 64; omega)
      obtain ⟨b1, b2, b3, b4⟩ := pls_sum (pit := pit) (shf := shf) (plo := (plo + 1) % 64) (stp := stp + 1) (cks := FP.dadd cks (tckF gov wnd)) x cnt (Nat.le_refl _)
      have b5 := plsP_le pit shf ((plo + 1) % 64) (stp + 1) (FP.dadd cks (tckF gov wnd)) x cnt
      have e1 : (stpW pit cnt shf gov (x, wnd, plo, stp, cks)).1 = (plsP pit shf ((plo + 1) % 64) (stp + 1) (FP.dadd cks (tckF gov wnd)) x cnt).1 := rfl
      have e2 : (stpW pit cnt shf gov (x, wnd, plo, stp, cks)).2.1 = wnd - 2 - (plsP pit shf ((plo + 1) % 64) (stp + 1) (FP.dadd cks (tckF gov wnd)) x cnt).2 := rfl
      have e3 : (stpW pit cnt shf gov (x, wnd, plo, stp, cks)).2.2.2.1 = stp + 1 := rfl
      rw [e1] at a2 a3 a6 a7
      rw [e2] at a4
      rw [e3] at a1
      generalize (plsP pit shf ((plo + 1) % 64) (stp + 1) (FP.dadd cks (tckF gov wnd)) x cnt).2 = k at *
      refine ⟨p + k, ?_, ?_, ?_, ?_, ?_, Nat.le_trans b3 a6, Nat.le_trans b4 a7, a8⟩
      · show _ = stp + (_ + 1)
        omega
      · show _ = suF (pluP x) cnt + (p + k)
        omega
      · show _ = bzE x + (p + k)
        omega
      · show _ = wnd - (2 * (_ + 1) + (p + k))
        rw [a4]
        omega
      · omega
    · rw [run_z hw, ls_z hw]
      exact ⟨0, rfl, rfl, rfl, rfl, Nat.le_refl _, Nat.le_refl _, Nat.le_refl _, h⟩
theorem ls_min {pit : Nat → Nat} {cnt shf gov : Nat} : ∀ (n k : Nat) (x : Wst), n ≤ k → lsW pit cnt shf gov n x = min n (lsW pit cnt shf gov k x)
  | 0, _, _, _ => (Nat.zero_min _).symm
  | n + 1, 0, _, h => absurd h (by omega)
  | n + 1, k + 1, x, h => by
    by_cases hw : 0 < x.2.1
    · have ih := ls_min (pit := pit) (cnt := cnt) (shf := shf) (gov := gov) n k (stpW pit cnt shf gov x) (by omega)
      rw [ls_s hw, ls_s hw]
      omega
    · rw [ls_z hw, ls_z hw]
      omega
theorem ls_pos {pit : Nat → Nat} {cnt shf gov : Nat} : ∀ (n k : Nat) (x : Wst), n < k → (0 < (runW pit cnt shf gov n x).2.1 ↔ n < lsW pit cnt shf gov k x)
  | _, 0, _, h => absurd h (by omega)
  | 0, k + 1, x, _ => by
    show 0 < x.2.1 ↔ _
    by_cases hw : 0 < x.2.1
    · rw [ls_s hw]
      exact ⟨fun _ => Nat.succ_pos _, fun _ => hw⟩
    · rw [ls_z hw]
      exact ⟨fun h => absurd h hw, fun h => absurd h (by omega)⟩
  | n + 1, k + 1, x, h => by
    by_cases hw : 0 < x.2.1
    · have ih := ls_pos (pit := pit) (cnt := cnt) (shf := shf) (gov := gov) n k (stpW pit cnt shf gov x) (by omega)
      rw [ls_s hw, run_s hw, ih]
      omega
    · rw [ls_z hw, run_z hw]
      exact ⟨fun h => absurd h hw, fun h => absurd h (by omega)⟩
theorem ls_add {pit : Nat → Nat} {cnt shf gov : Nat} : ∀ (n k : Nat) (x : Wst), lsW pit cnt shf gov (n + k) x = lsW pit cnt shf gov n x + lsW pit cnt shf gov k (runW pit cnt shf gov n x)
  | 0, k, x => by rw [Nat.zero_add]; exact (Nat.zero_add _).symm
  | n + 1, k, x => by
    rw [show n + 1 + k = (n + k) + 1 from by omega]
    by_cases hw : 0 < x.2.1
    · have ih := ls_add (pit := pit) (cnt := cnt) (shf := shf) (gov := gov) n k (stpW pit cnt shf gov x)
      rw [ls_s hw, ls_s hw, run_s hw, ih]
      omega
    · rw [ls_z hw, ls_z hw, run_z hw, lsW_0 pit cnt shf gov k (by omega)]
theorem ls_le {pit : Nat → Nat} {cnt shf gov : Nat} : ∀ (n : Nat) (x : Wst), 2 * lsW pit cnt shf gov n x ≤ x.2.1 + 1
  | 0, x => by show 2 * 0 ≤ _; omega
  | n + 1, x => by
    by_cases hw : 0 < x.2.1
    · have ih := ls_le (pit := pit) (cnt := cnt) (shf := shf) (gov := gov) n (stpW pit cnt shf gov x)
      rw [ls_s hw]
      obtain ⟨x, wnd, plo, stp, cks⟩ := x
      have hw : 0 < wnd := hw
      have e : (stpW pit cnt shf gov (x, wnd, plo, stp, cks)).2.1 ≤ wnd - 2 := Nat.sub_le _ _
      show 2 * (_ + 1) ≤ wnd + 1
      omega
    · rw [ls_z hw]
      omega
theorem ls_last {pit : Nat → Nat} {cnt shf gov n : Nat} {x : Wst} (h : x.2.1 ≤ 2000) : lsW pit cnt shf gov 2000 (runW pit cnt shf gov n x) = lsW pit cnt shf gov 2000 x - lsW pit cnt shf gov n x := by
  have h1 := ls_add (pit := pit) (cnt := cnt) (shf := shf) (gov := gov) n 2000 x
  have h2 := ls_min (pit := pit) (cnt := cnt) (shf := shf) (gov := gov) 2000 (n + 2000) x (by omega)
  have h3 := ls_le (pit := pit) (cnt := cnt) (shf := shf) (gov := gov) (n + 2000) x
  omega
theorem run_wnd {pit : Nat → Nat} {cnt shf gov : Nat} : ∀ (n : Nat) (x : Wst), (runW pit cnt shf gov n x).2.1 ≤ x.2.1
  | 0, _ => Nat.le_refl _
  | n + 1, x => by
    by_cases hw : 0 < x.2.1
    · rw [run_s hw]
      have ih := run_wnd (pit := pit) (cnt := cnt) (shf := shf) (gov := gov) n (stpW pit cnt shf gov x)
      obtain ⟨x, wnd, plo, stp, cks⟩ := x
      exact Nat.le_trans ih (stpW_wnd pit cnt shf gov x wnd plo stp cks)
    · rw [run_z hw]
      exact Nat.le_refl _
theorem okC_le {n m : Nat} {c : UInt64} (h : okC n c) (hm : n ≤ m) : okC m c := ⟨h.1, Int.le_trans h.2 (Int.mul_le_mul_of_nonneg_right (by omega) (by exact Int.natCast_nonneg _))⟩
theorem run_clk {pit : Nat → Nat} {cnt shf gov : Nat} (hg : 1 ≤ gov ∧ gov ≤ 8) : ∀ (n m : Nat) (x : Wst), okC m x.2.2.2.2 → m + n ≤ 100000 → x.2.1 ≤ 2000 → okC (m + n) (runW pit cnt shf gov n x).2.2.2.2 ∧ zv x.2.2.2.2 ≤ zv (runW pit cnt shf gov n x).2.2.2.2
  | 0, m, x, h, _, _ => ⟨h, Int.le_refl _⟩
  | n + 1, m, x, h, hm, hw2 => by
    by_cases hw : 0 < x.2.1
    · rw [run_s hw]
      obtain ⟨x, wnd, plo, stp, cks⟩ := x
      obtain ⟨a1, a2⟩ := okC_add (g := gov) (w := wnd) h (by omega) hg hw2
      obtain ⟨b1, b2⟩ := run_clk (pit := pit) (cnt := cnt) (shf := shf) hg n (m + 1) (stpW pit cnt shf gov (x, wnd, plo, stp, cks)) a1 (by omega) (Nat.le_trans (stpW_wnd pit cnt shf gov x wnd plo stp cks) hw2)
      exact ⟨okC_le b1 (by omega), Int.le_trans a2 b2⟩
    · rw [run_z hw]
      exact ⟨okC_le h (by omega), Int.le_refl _⟩
/-- no two of a set's PLACES are near -/
def NF (x : Int64) : Prop := ∀ p off, p < 64 → 1 ≤ off → off ≤ 3 → bitL x p = true → bitL x ((p + off) % 64) = false
/-- what holds of what plucking changes, the clock being c -/
def IP (cnt : Nat) (c : UInt64) : Pst → Prop
  | (bro, scr, _, _, plc, wea, pts, clk, old, kep, evr, _, _) => (∀ t, t < cnt → scr t ≤ 4 ∧ bro t = decide (scr t = 4)) ∧ (∀ ln t q, ln < 3 → t < cnt → q < 64 → bitL (plc (ln * 24 + t)) q = true → wea ((ln * 24 + t) * 64 + q) ≤ 4) ∧ (∀ k, wea k ≤ 5) ∧ (∀ ln t, ln < 3 → t < cnt → NF (plc (ln * 24 + t))) ∧ old < 40 ∧ kep = min 40 evr ∧ (∀ k, pts k < 48) ∧ (∀ k, okC 100000 (clk k)) ∧ (∀ k, k < kep → zv (clk ((old + k) % 40)) ≤ zv c) ∧ (∀ k, k + 1 < kep → zv (clk ((old + k) % 40)) ≤ zv (clk ((old + (k + 1)) % 40)))
theorem NF_clr {x : Int64} {p : Nat} (hp : p < 64) (h : NF x) : NF (clrB x p) := by
  intro q off hq h1 h2 hb
  rw [bit_clr _ hp hq, Bool.and_eq_true] at hb
  rw [bit_clr _ hp (Nat.mod_lt _ (by decide)), h q off hq h1 h2 hb.1, Bool.false_and]
theorem IP_later {cnt : Nat} {c c2 : UInt64} {x : Pst} (h : IP cnt c x) (hc : zv c ≤ zv c2) : IP cnt c2 x := by
  obtain ⟨bro, scr, plu, las, plc, wea, pts, clk, old, kep, evr, buz, wor⟩ := x
  obtain ⟨a1, a2, a3, a4, a5, a6, a7, a8, a9, a10⟩ := h
  exact ⟨a1, a2, a3, a4, a5, a6, a7, a8, fun k hk => Int.le_trans (a9 k hk) hc, a10⟩
theorem IP_plk {pit : Nat → Nat} {cnt shf plo stp tn : Nat} {c : UInt64} {x : Pst} (h : IP cnt c x) (hcn : cnt ≤ 24) (ht : tn < cnt) (hs : shf < 3) (hp : plo < 64) (hpit : pit tn < 48) (hc : okC 100000 c) (h1 : x.1 tn = false) (h2 : bitL (x.2.2.2.2.1 (shf * 24 + tn)) plo = true) : IP cnt c (plkP pit shf plo stp c tn x) := by
  obtain ⟨bro, scr, plu, las, plc, wea, pts, clk, old, kep, evr, buz, wor⟩ := x
  obtain ⟨a1, a2, a3, a4, a5, a6, a7, a8, a9, a10⟩ := h
  have h1 : bro tn = false := h1
  have h2 : bitL (plc (shf * 24 + tn)) plo = true := h2
  have h3 : scr tn ≤ 3 := by
    obtain ⟨b1, b2⟩ := a1 tn ht
    rw [h1] at b2
    have b3 := of_decide_eq_false b2.symm
    omega
  have h4 := a2 shf tn plo hs ht hp h2
  refine ⟨?_, ?_, ?_, ?_, ?_, ?_, ?_, ?_, ?_, ?_⟩
  · intro t h5
    show (if isBz plu las tn stp then va_up scr tn (scr tn + 1) else scr) t ≤ 4 ∧ (if isBz plu las tn stp then va_up bro tn (decide (4 ≤ scr tn + 1)) else bro) t = decide ((if isBz plu las tn stp then va_up scr tn (scr tn + 1) else scr) t = 4)
    cases isBz plu las tn stp with
    | false => exact a1 t h5
    | true =>
      show va_up scr tn (scr tn + 1) t ≤ 4 ∧ va_up bro tn (decide (4 ≤ scr tn + 1)) t = decide (va_up scr tn (scr tn + 1) t = 4)
      by_cases e : t = tn
      · subst e
        rw [xu_self, xu_self]
        refine ⟨by omega, ?_⟩
        by_cases e2 : scr t = 3
        · rw [e2]; rfl
        · rw [decide_eq_false (show ¬ 4 ≤ scr t + 1 from by omega), decide_eq_false (show ¬ scr t + 1 = 4 from by omega)]
      · rw [va_up_ne _ _ e, va_up_ne _ _ e]
        exact a1 t h5
  · intro ln t q b1 b2 b3 b4
    show va_up wea ((shf * 24 + tn) * 64 + plo) (wea ((shf * 24 + tn) * 64 + plo) + 1) ((ln * 24 + t) * 64 + q) ≤ 4
    have b4 : bitL ((if 5 ≤ wea ((shf * 24 + tn) * 64 + plo) + 1 then va_up plc (shf * 24 + tn) (clrB (plc (shf * 24 + tn)) plo) else plc) (ln * 24 + t)) q = true := b4
    by_cases e : (ln * 24 + t) * 64 + q = (shf * 24 + tn) * 64 + plo
    · have e1 : ln * 24 + t = shf * 24 + tn := by omega
      have e2 : q = plo := by omega
      rw [e1, e2] at b4 ⊢
      rw [xu_self]
      by_cases hz : 5 ≤ wea ((shf * 24 + tn) * 64 + plo) + 1
      · rw [if_pos hz, xu_self, bit_clr _ hp hp] at b4
        simp at b4
      · omega
    · rw [va_up_ne _ _ e]
      refine a2 ln t q b1 b2 b3 ?_
      by_cases hz : 5 ≤ wea ((shf * 24 + tn) * 64 + plo) + 1
      · rw [if_pos hz] at b4
        by_cases e1 : ln * 24 + t = shf * 24 + tn
        · rw [e1, xu_self, bit_clr _ hp b3, Bool.and_eq_true] at b4
          rw [e1]
          exact b4.1
        · rw [va_up_ne _ _ e1] at b4
          exact b4
      · rw [if_neg hz] at b4
        exact b4
  · intro k
    show va_up wea ((shf * 24 + tn) * 64 + plo) (wea ((shf * 24 + tn) * 64 + plo) + 1) k ≤ 5
    by_cases e : k = (shf * 24 + tn) * 64 + plo
    · rw [e, xu_self]; omega
    · rw [va_up_ne _ _ e]; exact a3 k
  · intro ln t b1 b2
    show NF ((if 5 ≤ wea ((shf * 24 + tn) * 64 + plo) + 1 then va_up plc (shf * 24 + tn) (clrB (plc (shf * 24 + tn)) plo) else plc) (ln * 24 + t))
    by_cases hz : 5 ≤ wea ((shf * 24 + tn) * 64 + plo) + 1
    · rw [if_pos hz]
      by_cases e1 : ln * 24 + t = shf * 24 + tn
      · rw [e1, xu_self]; exact NF_clr hp (a4 shf tn hs ht)
      · rw [va_up_ne _ _ e1]; exact a4 ln t b1 b2
    · rw [if_neg hz]; exact a4 ln t b1 b2
  · show (if isBz plu las tn stp then old else (if kep < 40 then old else (old + 1) % 40)) < 40
    split
    · exact a5
    · split <;> omega
  · show (if isBz plu las tn stp then kep else (if kep < 40 then kep + 1 else kep)) = min 40 (if isBz plu las tn stp then evr else evr + 1)
    cases isBz plu las tn stp with
    | true => exact a6
    | false =>
      show (if kep < 40 then kep + 1 else kep) = min 40 (evr + 1)
      split <;> omega
  · intro k
    show (if isBz plu las tn stp then pts else va_up pts ((old + kep) % 40) (pit tn)) k < 48
    cases isBz plu las tn stp with
    | true => exact a7 k
    | false =>
      show va_up pts ((old + kep) % 40) (pit tn) k < 48
      exact va_up_lt a7 hpit _ k
  · intro k
    show okC 100000 ((if isBz plu las tn stp then clk else va_up clk ((old + kep) % 40) c) k)
    cases isBz plu las tn stp with
    | true => exact a8 k
    | false =>
      show okC 100000 (va_up clk ((old + kep) % 40) c k)
      by_cases e : k = (old + kep) % 40
      · rw [e, xu_self]; exact hc
      · rw [va_up_ne _ _ e]; exact a8 k
  · show ∀ k, k < (if isBz plu las tn stp then kep else (if kep < 40 then kep + 1 else kep)) → zv ((if isBz plu las tn stp then clk else va_up clk ((old + kep) % 40) c) (((if isBz plu las tn stp then old else (if kep < 40 then old else (old + 1) % 40)) + k) % 40)) ≤ zv c
    cases isBz plu las tn stp with
    | true => exact a9
    | false =>
      show ∀ k, k < (if kep < 40 then kep + 1 else kep) → zv (va_up clk ((old + kep) % 40) c (((if kep < 40 then old else (old + 1) % 40) + k) % 40)) ≤ zv c
      intro k hk
      by_cases hz : kep < 40
      · rw [if_pos hz] at hk ⊢
        by_cases e : k = kep
        · rw [e, xu_self]; exact Int.le_refl _
        · rw [va_up_ne _ _ (show (old + k) % 40 ≠ (old + kep) % 40 from by omega)]
          exact a9 k (by omega)
      · rw [if_neg hz] at hk ⊢
        by_cases e : k = 39
        · rw [show ((old + 1) % 40 + k) % 40 = (old + kep) % 40 from by omega, xu_self]; exact Int.le_refl _
        · rw [va_up_ne _ _ (show ((old + 1) % 40 + k) % 40 ≠ (old + kep) % 40 from by omega), show ((old + 1) % 40 + k) % 40 = (old + (k + 1)) % 40 from by omega]
          exact a9 (k + 1) (by omega)
  · show ∀ k, k + 1 < (if isBz plu las tn stp then kep else (if kep < 40 then kep + 1 else kep)) → zv ((if isBz plu las tn stp then clk else va_up clk ((old + kep) % 40) c) (((if isBz plu las tn stp then old else (if kep < 40 then old else (old + 1) % 40)) + k) % 40)) ≤ zv ((if isBz plu las tn stp then clk else va_up clk ((old + kep) % 40) c) (((if isBz plu las tn stp then old else (if kep < 40 then old else (old + 1) % 40)) + (k + 1)) % 40))
    cases isBz plu las tn stp with
    | true => exact a10
    | false =>
      show ∀ k, k + 1 < (if kep < 40 then kep + 1 else kep) → zv (va_up clk ((old + kep) % 40) c (((if kep < 40 then old else (old + 1) % 40) + k) % 40)) ≤ zv (va_up clk ((old + kep) % 40) c (((if kep < 40 then old else (old + 1) % 40) + (k + 1)) % 40))
      intro k hk
      by_cases hz : kep < 40
      · rw [if_pos hz] at hk ⊢
        rw [va_up_ne _ _ (show (old + k) % 40 ≠ (old + kep) % 40 from by omega)]
        by_cases e : k + 1 = kep
        · rw [e, xu_self]; exact a9 k (by omega)
        · rw [va_up_ne _ _ (show (old + (k + 1)) % 40 ≠ (old + kep) % 40 from by omega)]
          exact a10 k (by omega)
      · rw [if_neg hz] at hk ⊢
        rw [va_up_ne _ _ (show ((old + 1) % 40 + k) % 40 ≠ (old + kep) % 40 from by omega), show ((old + 1) % 40 + k) % 40 = (old + (k + 1)) % 40 from by omega]
        by_cases e : k + 1 = 39
        · rw [show ((old + 1) % 40 + (k + 1)) % 40 = (old + kep) % 40 from by omega, xu_self]; exact a9 (k + 1) (by omega)
        · rw [va_up_ne _ _ (show ((old + 1) % 40 + (k + 1)) % 40 ≠ (old + kep) % 40 from by omega), show ((old + 1) % 40 + (k + 1)) % 40 = (old + ((k + 1) + 1)) % 40 from by omega]
          exact a10 (k + 1) (by omega)
theorem IP_stp {pit : Nat → Nat} {cnt shf gov : Nat} {x : Wst} (h : IP cnt x.2.2.2.2 x.1) (hcn : cnt ≤ 24) (hs : shf < 3) (hpit : ∀ k, pit k < 48) (hc : okC 100000 (stpW pit cnt shf gov x).2.2.2.2) (hz : zv x.2.2.2.2 ≤ zv (stpW pit cnt shf gov x).2.2.2.2) : IP cnt (stpW pit cnt shf gov x).2.2.2.2 (stpW pit cnt shf gov x).1 := by
  obtain ⟨x, wnd, plo, stp, cks⟩ := x
  exact pls_keep (G := IP cnt (FP.dadd cks (tckF gov wnd))) (IP_later h hz) (fun tn y h1 h2 h3 h4 => IP_plk h2 hcn h1 hs (Nat.mod_lt _ (by decide)) (hpit tn) hc h3 h4) cnt (Nat.le_refl _)
theorem IP_run {pit : Nat → Nat} {cnt shf gov : Nat} (hg : 1 ≤ gov ∧ gov ≤ 8) (hcn : cnt ≤ 24) (hs : shf < 3) (hpit : ∀ k, pit k < 48) : ∀ (n m : Nat) (x : Wst), IP cnt x.2.2.2.2 x.1 → okC m x.2.2.2.2 → m + n ≤ 100000 → x.2.1 ≤ 2000 → IP cnt (runW pit cnt shf gov n x).2.2.2.2 (runW pit cnt shf gov n x).1
  | 0, _, _, h, _, _, _ => h
  | n + 1, m, x, h, hc, hm, hw2 => by
    by_cases hw : 0 < x.2.1
    · rw [run_s hw]
      obtain ⟨x, wnd, plo, stp, cks⟩ := x
      obtain ⟨a1, a2⟩ := okC_add (g := gov) (w := wnd) hc (by omega) hg hw2
      exact IP_run hg hcn hs hpit n (m + 1) _ (IP_stp h hcn hs hpit (okC_le a1 (by omega)) a2) a1 (by omega) (Nat.le_trans (stpW_wnd pit cnt shf gov x wnd plo stp cks) hw2)
    · rw [run_z hw]
      exact h
theorem okP_IP {cnt shf : Nat} {c : UInt64} {x : Pst} (h : IP cnt c x) (hs : shf < 3) : okP cnt shf x := by
  obtain ⟨bro, scr, plu, las, plc, wea, pts, clk, old, kep, evr, buz, wor⟩ := x
  obtain ⟨a1, a2, a3, a4, a5, a6, a7, a8, a9, a10⟩ := h
  refine ⟨fun t h1 h2 => ?_, fun t q h1 h2 h3 => a2 shf t q hs h1 h2 h3, a5, by omega⟩
  obtain ⟨b1, b2⟩ := a1 t h1
  rw [h2] at b2
  have b3 := of_decide_eq_false b2.symm
  omega
/-! Pins: near PLACES, counts. -/
theorem NF_0 : NF 0 := by
  intro p off hp h1 h2 hb
  have h0 : bitL 0 p = false := by
    show (0#64).getLsbD p = false
    simp
  rw [h0] at hb
  exact absurd hb (by decide)
theorem NF_sub {x y : Int64} (h : ∀ q, q < 64 → bitL y q = true → bitL x q = true) (hx : NF x) : NF y := by
  intro p off hp h1 h2 hb
  have h3 := hx p off hp h1 h2 (h p hp hb)
  cases hc : bitL y ((p + off) % 64) with
  | false => rfl
  | true => rw [h _ (Nat.mod_lt _ (by decide)) hc] at h3; exact absurd h3 (by decide)
theorem nr_bit : ∀ pl, pl < 64 → ∀ q, q < 64 → bitL (nearL pl) q = decide ((q + 64 - pl) % 64 ≤ 3 ∨ (pl + 64 - q) % 64 ≤ 3) := by decide +kernel
theorem and0 {x y : Int64} (h : x &&& y = 0) {q : Nat} (hx : bitL x q = true) : bitL y q = false := by
  have h1 : (x &&& y).toBitVec.getLsbD q = false := by
    rw [h]
    show (0#64).getLsbD q = false
    simp
  have hx : x.toBitVec.getLsbD q = true := hx
  rw [Int64.toBitVec_and, BitVec.getLsbD_and, hx, Bool.true_and] at h1
  exact h1
theorem near_off {x : Int64} {t : Nat} (ht : t < 64) (h0 : x &&& nearL t = 0) {q : Nat} (hq : q < 64) (h1 : (q + 64 - t) % 64 ≤ 3 ∨ (t + 64 - q) % 64 ≤ 3) : bitL x q = false := by
  cases hb : bitL x q with
  | false => rfl
  | true =>
    have h2 := and0 h0 hb
    rw [nr_bit t ht q hq, decide_eq_true h1] at h2
    exact absurd h2 (by decide)
theorem NF_set {x : Int64} {t : Nat} (ht : t < 64) (h : NF x) (h0 : x &&& nearL t = 0) : NF (setB x t) := by
  intro p off hp h1 h2 hb
  have hm : (p + off) % 64 < 64 := Nat.mod_lt _ (by decide)
  rw [bit_set _ ht hp] at hb
  rw [bit_set _ ht hm]
  by_cases e : p = t
  · subst e
    rw [near_off hp h0 hm (Or.inl (by omega)), decide_eq_false (show ¬ (p + off) % 64 = p from by omega)]
    rfl
  · rw [decide_eq_false e, Bool.or_false] at hb
    rw [h p off hp h1 h2 hb, Bool.false_or]
    refine decide_eq_false (fun e2 => ?_)
    have h3 := near_off ht h0 hp (Or.inr (by omega))
    rw [hb] at h3
    exact absurd h3 (by decide)
theorem bc_set {x : Int64} {p : Nat} (hp : p < 64) (h : bitL x p = false) : bcN (setB x p) = bcN x + 1 := by
  have e : bcN (setB x p) = fb_ct (fun k => if k = p then true else bitL x k) 64 := fb_ct_cong (fun k hk => by
    show bitL (setB x p) k = if k = p then true else bitL x k
    rw [bit_set _ hp hk]
    by_cases e : k = p
    · rw [if_pos e, decide_eq_true e, Bool.or_true]
    · rw [if_neg e, decide_eq_false e, Bool.or_false])
  have h1 : fb_ct (fun k => if k = p then true else bitL x k) 64 + (if bitL x p then 1 else 0) = fb_ct (fun i => bitL x i) 64 + (if true then 1 else 0) := fb_ct_upd (fun i => bitL x i) true hp
  rw [h] at h1
  exact e.trans h1
theorem bc_clr {x : Int64} {p : Nat} (hp : p < 64) (h : bitL x p = true) : bcN (clrB x p) + 1 = bcN x := by
  have e : bcN (clrB x p) = fb_ct (fun k => if k = p then false else bitL x k) 64 := fb_ct_cong (fun k hk => by
    show bitL (clrB x p) k = if k = p then false else bitL x k
    rw [bit_clr _ hp hk]
    by_cases e : k = p
    · rw [if_pos e, decide_eq_true e]; exact Bool.and_false _
    · rw [if_neg e, decide_eq_false e]; exact Bool.and_true _)
  have h1 : fb_ct (fun k => if k = p then false else bitL x k) 64 + (if bitL x p then 1 else 0) = fb_ct (fun i => bitL x i) 64 + (if false then 1 else 0) := fb_ct_upd (fun i => bitL x i) false hp
  rw [h] at h1
  rw [e]
  exact h1
theorem pins_up {plc : Nat → Int64} {ln t : Nat} (v : Int64) (hl : ln < 3) : pinsF (va_up plc (ln * 24 + t) v) t + bcN (plc (ln * 24 + t)) = pinsF plc t + bcN v := by
  unfold pinsF
  rcases (show ln = 0 ∨ ln = 1 ∨ ln = 2 from by omega) with rfl | rfl | rfl
  · rw [xu_self, va_up_ne _ _ (show (0 + 1) * 24 + t ≠ 0 * 24 + t from by omega), va_up_ne _ _ (show (0 + 1 + 1) * 24 + t ≠ 0 * 24 + t from by omega)]
    omega
  · rw [show 1 * 24 + t = (0 + 1) * 24 + t from rfl, xu_self, va_up_ne _ _ (show 0 * 24 + t ≠ (0 + 1) * 24 + t from by omega), va_up_ne _ _ (show (0 + 1 + 1) * 24 + t ≠ (0 + 1) * 24 + t from by omega)]
    omega
  · rw [show 2 * 24 + t = (0 + 1 + 1) * 24 + t from rfl, xu_self, va_up_ne _ _ (show 0 * 24 + t ≠ (0 + 1 + 1) * 24 + t from by omega), va_up_ne _ _ (show (0 + 1) * 24 + t ≠ (0 + 1 + 1) * 24 + t from by omega)]
    omega
theorem pins_ne {plc : Nat → Int64} {ln t u : Nat} (v : Int64) (ht : t < 24) (hu : u < 24) (h : u ≠ t) : pinsF (va_up plc (ln * 24 + t) v) u = pinsF plc u := by
  unfold pinsF
  rw [va_up_ne _ _ (show 0 * 24 + u ≠ ln * 24 + t from by omega), va_up_ne _ _ (show (0 + 1) * 24 + u ≠ ln * 24 + t from by omega), va_up_ne _ _ (show (0 + 1 + 1) * 24 + u ≠ ln * 24 + t from by omega)]
theorem ap_up {plc : Nat → Int64} {ln t : Nat} (v : Int64) (hl : ln < 3) (ht : t < 24) : ∀ n, n ≤ 24 → apF (va_up plc (ln * 24 + t) v) n + (if t < n then bcN (plc (ln * 24 + t)) else 0) = apF plc n + (if t < n then bcN v else 0)
  | 0, _ => by rw [if_neg (by omega), if_neg (by omega)]; rfl
  | n + 1, hn => by
    have ih := ap_up (plc := plc) v hl ht n (by omega)
    rw [apF, apF]
    by_cases e : n = t
    · subst e
      have h1 := pins_up (plc := plc) (t := n) v hl
      rw [if_neg (by omega), if_neg (by omega)] at ih
      rw [if_pos (by omega), if_pos (by omega)]
      omega
    · rw [pins_ne v ht (by omega) e]
      by_cases h : t < n
      · rw [if_pos h, if_pos h] at ih
        rw [if_pos (by omega), if_pos (by omega)]
        omega
      · rw [if_neg h, if_neg h] at ih
        rw [if_neg (by omega), if_neg (by omega)]
        omega
theorem pu_spec (x : Int64) (w : Nat → Nat) (b least : Nat) : ∀ i, i ≤ 64 → bcN (puF x w b least i).1 + (puF x w b least i).2 = bcN x ∧ ∀ q, q < 64 → bitL (puF x w b least i).1 q = true → bitL x q = true
  | 0, _ => ⟨rfl, fun _ _ h => h⟩
  | i + 1, hi => by
    obtain ⟨a1, a2⟩ := pu_spec x w b least i (by omega)
    by_cases hz : bitL (puF x w b least i).1 i = true ∧ least ≤ w (b + i)
    · have e : puF x w b least (i + 1) = (clrB (puF x w b least i).1 i, (puF x w b least i).2 + 1) := if_pos hz
      rw [e]
      have h1 := bc_clr (x := (puF x w b least i).1) (p := i) (by omega) hz.1
      refine ⟨?_, fun q hq h => a2 q hq ?_⟩
      · show bcN (clrB (puF x w b least i).1 i) + ((puF x w b least i).2 + 1) = bcN x
        omega
      · have h : bitL (clrB (puF x w b least i).1 i) q = true := h
        rw [bit_clr _ (by omega) hq, Bool.and_eq_true] at h
        exact h.1
    · have e : puF x w b least (i + 1) = puF x w b least i := if_neg hz
      rw [e]
      exact ⟨a1, a2⟩
theorem pl_spec {plc : Nat → Int64} {wea : Nat → Nat} {ln least : Nat} (hl : ln < 3) : ∀ i, i ≤ 24 → (∀ n, n ≤ 24 → i ≤ n → apF (plF plc wea ln least i).1 n + (plF plc wea ln least i).2 = apF plc n) ∧ ∀ k q, q < 64 → bitL ((plF plc wea ln least i).1 k) q = true → bitL (plc k) q = true
  | 0, _ => ⟨fun _ _ _ => rfl, fun _ _ _ h => h⟩
  | i + 1, hi => by
    obtain ⟨a1, a2⟩ := pl_spec (plc := plc) (wea := wea) (least := least) hl i (by omega)
    obtain ⟨b1, b2⟩ := pu_spec ((plF plc wea ln least i).1 (ln * 24 + i)) wea ((ln * 24 + i) * 64) least 64 (Nat.le_refl _)
    have e1 : (plF plc wea ln least (i + 1)).1 = va_up (plF plc wea ln least i).1 (ln * 24 + i) (puF ((plF plc wea ln least i).1 (ln * 24 + i)) wea ((ln * 24 + i) * 64) least 64).1 := rfl
    have e2 : (plF plc wea ln least (i + 1)).2 = (plF plc wea ln least i).2 + (puF ((plF plc wea ln least i).1 (ln * 24 + i)) wea ((ln * 24 + i) * 64) least 64).2 := rfl
    refine ⟨fun n h1 h2 => ?_, fun k q hq h => ?_⟩
    · have c1 := ap_up (plc := (plF plc wea ln least i).1) (t := i) (puF ((plF plc wea ln least i).1 (ln * 24 + i)) wea ((ln * 24 + i) * 64) least 64).1 hl (by omega) n h1
      rw [if_pos (by omega), if_pos (by omega)] at c1
      have c2 := a1 n h1 (by omega)
      rw [e1, e2]
      omega
    · rw [e1] at h
      by_cases e : k = ln * 24 + i
      · rw [e, xu_self] at h
        rw [e]
        exact a2 _ q hq (b2 q hq h)
      · rw [va_up_ne _ _ e] at h
        exact a2 k q hq h
theorem rn_le (x : Int64) (w : Nat → Nat) (b : Nat) : ∀ i, (∀ k, (rnF x w b i).1 k ≤ w k) ∧ (rnF x w b i).2 ≤ i
  | 0 => ⟨fun _ => Nat.le_refl _, Nat.le_refl _⟩
  | i + 1 => by
    obtain ⟨a1, a2⟩ := rn_le x w b i
    by_cases hz : bitL x i = true ∧ 3 ≤ (rnF x w b i).1 (b + i)
    · have e : rnF x w b (i + 1) = (va_up (rnF x w b i).1 (b + i) 0, (rnF x w b i).2 + 1) := if_pos hz
      rw [e]
      refine ⟨fun k => ?_, Nat.succ_le_succ a2⟩
      show va_up (rnF x w b i).1 (b + i) 0 k ≤ w k
      by_cases e : k = b + i
      · rw [e, xu_self]; exact Nat.zero_le _
      · rw [va_up_ne _ _ e]; exact a1 k
    · have e : rnF x w b (i + 1) = rnF x w b i := if_neg hz
      rw [e]
      exact ⟨a1, Nat.le_succ_of_le a2⟩
theorem ml_le (plc : Nat → Int64) (tn : Nat) (x : (Nat → Nat) × Nat) : ∀ j, (∀ k, (mlF plc tn x j).1 k ≤ x.1 k) ∧ (mlF plc tn x j).2 ≤ x.2 + 64 * j
  | 0 => ⟨fun _ => Nat.le_refl _, Nat.le_refl _⟩
  | j + 1 => by
    obtain ⟨a1, a2⟩ := ml_le plc tn x j
    obtain ⟨b1, b2⟩ := rn_le (plc (j * 24 + tn)) (mlF plc tn x j).1 ((j * 24 + tn) * 64) 64
    refine ⟨fun k => Nat.le_trans (b1 k) (a1 k), ?_⟩
    show (mlF plc tn x j).2 + (rnF (plc (j * 24 + tn)) (mlF plc tn x j).1 ((j * 24 + tn) * 64) 64).2 ≤ _
    omega
theorem me_spec (bro : Nat → Bool) (scr : Nat → Nat) (plc : Nat → Int64) (wea : Nat → Nat) : ∀ i, (∀ t, t < i → (meF bro scr plc wea i).1 t = false ∧ (meF bro scr plc wea i).2.1 t = 0) ∧ (∀ k, (meF bro scr plc wea i).2.2.1 k ≤ wea k) ∧ (meF bro scr plc wea i).2.2.2 ≤ 193 * i
  | 0 => ⟨fun _ h => absurd h (by omega), fun _ => Nat.le_refl _, Nat.le_refl _⟩
  | i + 1 => by
    obtain ⟨a1, a2, a3⟩ := me_spec bro scr plc wea i
    obtain ⟨b1, b2⟩ := ml_le plc i ((meF bro scr plc wea i).2.2.1, (meF bro scr plc wea i).2.2.2 + (if (meF bro scr plc wea i).1 i then 1 else 0)) 3
    refine ⟨fun t h => ?_, fun k => Nat.le_trans (b1 k) (a2 k), ?_⟩
    · show va_up (meF bro scr plc wea i).1 i false t = false ∧ va_up (meF bro scr plc wea i).2.1 i 0 t = 0
      by_cases e : t = i
      · rw [e, xu_self, xu_self]; exact ⟨rfl, rfl⟩
      · rw [va_up_ne _ _ e, va_up_ne _ _ e]; exact a1 t (by omega)
    · show (mlF plc i ((meF bro scr plc wea i).2.2.1, (meF bro scr plc wea i).2.2.2 + (if (meF bro scr plc wea i).1 i then 1 else 0)) 3).2 ≤ _
      have h9 : (if (meF bro scr plc wea i).1 i then 1 else 0) ≤ 1 := by split <;> decide
      have b2 : _ ≤ ((meF bro scr plc wea i).2.2.2 + (if (meF bro scr plc wea i).1 i then 1 else 0)) + 64 * 3 := b2
      omega
theorem br_0 {bro : Nat → Bool} : ∀ n, (∀ t, t < n → bro t = false) → brF bro n = 0
  | 0, _ => rfl
  | n + 1, h => by
    have e : brF bro (n + 1) = brF bro n := if_neg (by rw [h n (by omega)]; decide)
    rw [e]
    exact br_0 n (fun t ht => h t (by omega))
theorem IP_sub {cnt : Nat} {c : UInt64} {bro : Nat → Bool} {scr plu las : Nat → Nat} {plc plc2 : Nat → Int64} {wea pts : Nat → Nat} {clk : Nat → UInt64} {old kep evr buz wor : Nat} (h : IP cnt c (bro, scr, plu, las, plc, wea, pts, clk, old, kep, evr, buz, wor)) (hs : ∀ k q, q < 64 → bitL (plc2 k) q = true → bitL (plc k) q = true) : IP cnt c (bro, scr, plu, las, plc2, wea, pts, clk, old, kep, evr, buz, wor) := by
  obtain ⟨a1, a2, a3, a4, a5⟩ := h
  exact ⟨a1, fun ln t q h1 h2 h3 h4 => a2 ln t q h1 h2 h3 (hs _ q h3 h4), a3, fun ln t h1 h2 => NF_sub (hs _) (a4 ln t h1 h2), a5⟩
theorem IP_mend {cnt : Nat} {c : UInt64} {bro bro2 : Nat → Bool} {scr scr2 plu las : Nat → Nat} {plc : Nat → Int64} {wea wea2 pts : Nat → Nat} {clk : Nat → UInt64} {old kep evr buz wor : Nat} (h : IP cnt c (bro, scr, plu, las, plc, wea, pts, clk, old, kep, evr, buz, wor)) (h1 : ∀ t, t < cnt → bro2 t = false ∧ scr2 t = 0) (h2 : ∀ k, wea2 k ≤ wea k) : IP cnt c (bro2, scr2, plu, las, plc, wea2, pts, clk, old, kep, evr, buz, wor) := by
  obtain ⟨a1, a2, a3, a4⟩ := h
  exact ⟨fun t ht => by rw [(h1 t ht).1, (h1 t ht).2]; exact ⟨by decide, rfl⟩, fun ln t q b1 b2 b3 b4 => Nat.le_trans (h2 _) (a2 ln t q b1 b2 b3 b4), fun k => Nat.le_trans (h2 k) (a3 k), a4⟩
theorem pt_spec {pit : Nat → Nat} {bro : Nat → Bool} {cnt : Nat} {no : Nat → Nat} {b ln : Nat} {hi : Int32} {c : UInt64} {scr plu las : Nat → Nat} {plc : Nat → Int64} {wea pts : Nat → Nat} {clk : Nat → UInt64} {old kep evr buz wor : Nat} (h : IP cnt c (bro, scr, plu, las, plc, wea, pts, clk, old, kep, evr, buz, wor)) (hc : cnt ≤ 24) (hl : ln < 3) (hno : ∀ k, no k < 3072) : ∀ i, IP cnt c (bro, scr, plu, las, (ptF pit bro cnt no b ln hi plc wea i).1, (ptF pit bro cnt no b ln hi plc wea i).2.1, pts, clk, old, kep, evr, buz, wor) ∧ apF (ptF pit bro cnt no b ln hi plc wea i).1 cnt + (ptF pit bro cnt no b ln hi plc wea i).2.2 = apF plc cnt + i
  | 0 => ⟨h, rfl⟩
  | i + 1 => by
    obtain ⟨a, a9⟩ := pt_spec (pit := pit) (b := b) (hi := hi) h hc hl hno i
    by_cases hz : (frF pit bro (ptF pit bro cnt no b ln hi plc wea i).1 ln (nI (no (b + i) % 48) + hi) (nearL (no (b + i) / 48)) cnt).1 = -1
    · have e : ptF pit bro cnt no b ln hi plc wea (i + 1) = ((ptF pit bro cnt no b ln hi plc wea i).1, (ptF pit bro cnt no b ln hi plc wea i).2.1, (ptF pit bro cnt no b ln hi plc wea i).2.2 + 1) := if_pos hz
      rw [e]
      refine ⟨a, ?_⟩
      show apF (ptF pit bro cnt no b ln hi plc wea i).1 cnt + ((ptF pit bro cnt no b ln hi plc wea i).2.2 + 1) = apF plc cnt + (i + 1)
      omega
    · have e : ptF pit bro cnt no b ln hi plc wea (i + 1) = (va_up (ptF pit bro cnt no b ln hi plc wea i).1 (ln * 24 + (frF pit bro (ptF pit bro cnt no b ln hi plc wea i).1 ln (nI (no (b + i) % 48) + hi) (nearL (no (b + i) / 48)) cnt).1.toNatClampNeg) (setB ((ptF pit bro cnt no b ln hi plc wea i).1 (ln * 24 + (frF pit bro (ptF pit bro cnt no b ln hi plc wea i).1 ln (nI (no (b + i) % 48) + hi) (nearL (no (b + i) / 48)) cnt).1.toNatClampNeg)) (no (b + i) / 48)), va_up (ptF pit bro cnt no b ln hi plc wea i).2.1 ((ln * 24 + (frF pit bro (ptF pit bro cnt no b ln hi plc wea i).1 ln (nI (no (b + i) % 48) + hi) (nearL (no (b + i) / 48)) cnt).1.toNatClampNeg) * 64 + no (b + i) / 48) 0, (ptF pit bro cnt no b ln hi plc wea i).2.2) := if_neg hz
      rcases frF_some pit bro (ptF pit bro cnt no b ln hi plc wea i).1 ln (nI (no (b + i) % 48) + hi) (nearL (no (b + i) / 48)) cnt with q | ⟨k, k1, k2, -, -, k5⟩
      · exact absurd q hz
      · rw [k2, nI_clamp (by omega)] at e
        rw [e]
        clear e hz k2
        generalize (ptF pit bro cnt no b ln hi plc wea i).1 = pq at *
        generalize (ptF pit bro cnt no b ln hi plc wea i).2.1 = wq at *
        generalize (ptF pit bro cnt no b ln hi plc wea i).2.2 = lq at *
        have hT : no (b + i) / 48 < 64 := by have := hno (b + i); omega
        generalize no (b + i) / 48 = T at *
        have hb : bitL (pq (ln * 24 + k)) T = false := near_off hT k5 hT (Or.inl (by omega))
        obtain ⟨a1, a2, a3, a4, a5⟩ := a
        refine ⟨⟨a1, ?_, ?_, ?_, a5⟩, ?_⟩
        · intro l2 t q b1 b2 b3 b4
          show va_up wq ((ln * 24 + k) * 64 + T) 0 ((l2 * 24 + t) * 64 + q) ≤ 4
          have b4 : bitL (va_up pq (ln * 24 + k) (setB (pq (ln * 24 + k)) T) (l2 * 24 + t)) q = true := b4
          by_cases e : (l2 * 24 + t) * 64 + q = (ln * 24 + k) * 64 + T
          · rw [e, xu_self]; exact Nat.zero_le _
          · rw [va_up_ne _ _ e]
            refine a2 l2 t q b1 b2 b3 ?_
            by_cases e2 : l2 * 24 + t = ln * 24 + k
            · rw [e2, xu_self, bit_set _ hT b3, decide_eq_false (show ¬ q = T from by omega), Bool.or_false] at b4
              rw [e2]; exact b4
            · rw [va_up_ne _ _ e2] at b4; exact b4
        · intro j
          show va_up wq ((ln * 24 + k) * 64 + T) 0 j ≤ 5
          by_cases e : j = (ln * 24 + k) * 64 + T
          · rw [e, xu_self]; exact Nat.zero_le _
          · rw [va_up_ne _ _ e]; exact a3 j
        · intro l2 t b1 b2
          show NF (va_up pq (ln * 24 + k) (setB (pq (ln * 24 + k)) T) (l2 * 24 + t))
          by_cases e2 : l2 * 24 + t = ln * 24 + k
          · rw [e2, xu_self]; exact NF_set hT (a4 ln k hl k1) k5
          · rw [va_up_ne _ _ e2]; exact a4 l2 t b1 b2
        · show apF (va_up pq (ln * 24 + k) (setB (pq (ln * 24 + k)) T)) cnt + lq = apF plc cnt + (i + 1)
          have c1 := ap_up (plc := pq) (t := k) (setB (pq (ln * 24 + k)) T) hl (by omega) cnt hc
          rw [if_pos k1, if_pos k1, bc_set hT hb] at c1
          omega
theorem bit_lN (m : Nat) {q : Nat} (hq : q < 64) : bitL (lN m) q = m.testBit q := by
  show (lN m).toBitVec.getLsbD q = m.testBit q
  rw [wb_tb, BitVec.getLsbD_ofNat]
  simp [hq]
theorem rl_neg : ∀ off, off < 4 → 1 ≤ off → ((-nI off).toInt64.toUInt64 &&& Int64.toUInt64 63) = ((nI (64 - off)).toInt64.toUInt64 &&& Int64.toUInt64 63) := by decide +kernel
/-- a set without near PLACES, against itself turned by 1 to 3 -/
theorem rl_0 {x : Int64} (h : NF x) {off : Nat} (h1 : 1 ≤ off) (h2 : off < 4) : x &&& ((x <<< ((nI off).toInt64 &&& 63)) ||| ((x.toUInt64 >>> ((-nI off).toInt64.toUInt64 &&& Int64.toUInt64 63)).toInt64)) = 0 := by
  obtain ⟨n, hn, rfl⟩ := wb_of x
  rw [rl_neg off h2 h1, wb_shr hn (by omega), wb_shl n (by omega)]
  apply wb_inj
  apply BitVec.eq_of_getLsbD_eq
  intro i hi
  rw [Int64.toBitVec_and, BitVec.getLsbD_and, Int64.toBitVec_or, BitVec.getLsbD_or]
  show (bitL (lN n) i && (bitL (lN (n * 2 ^ off)) i || bitL (lN (n / 2 ^ (64 - off))) i)) = (0#64).getLsbD i
  rw [bit_lN _ hi, bit_lN _ hi, bit_lN _ hi, Nat.testBit_div_two_pow, ← Nat.shiftLeft_eq, Nat.testBit_shiftLeft]
  have e0 : (0#64).getLsbD i = false := by simp
  rw [e0]
  cases hb : n.testBit i with
  | false => rfl
  | true =>
    rw [Bool.true_and]
    have key : ∀ j, j < 64 → (j + off) % 64 = i → n.testBit j = false := by
      intro j hj hji
      cases hc : n.testBit j with
      | false => rfl
      | true =>
        have h3 := h j off hj h1 (by omega) (by rw [bit_lN _ hj]; exact hc)
        rw [hji, bit_lN _ hi, hb] at h3
        exact absurd h3 (by decide)
    have k1 : (decide (i ≥ off) && n.testBit (i - off)) = false := by
      by_cases h4 : off ≤ i
      · rw [key (i - off) (by omega) (by omega), Bool.and_false]
      · rw [decide_eq_false (show ¬ i ≥ off from h4), Bool.false_and]
    have k2 : n.testBit (i + (64 - off)) = false := by
      by_cases h4 : i + (64 - off) < 64
      · exact key _ h4 (by omega)
      · exact Nat.testBit_lt_two_pow (Nat.lt_of_lt_of_le hn (Nat.pow_le_pow_right (by decide) (by omega)))
    rw [k1, k2]
    rfl
/-! Tunes: NOTES in their order, and how many two TUNES share. -/
def SO (no : Nat → Nat) (b n : Nat) : Prop := ∀ i, i + 1 < n → no (b + i) < no (b + (i + 1))
theorem SO_lt {no : Nat → Nat} {b n : Nat} (h : SO no b n) : ∀ j i, i < j → j < n → no (b + i) < no (b + j)
  | 0, i, h1, _ => absurd h1 (by omega)
  | j + 1, i, h1, h2 => by
    by_cases e : i = j
    · subst e; exact h i h2
    · exact Nat.lt_trans (SO_lt h j i (by omega) (by omega)) (h j h2)
theorem SO_inj {no : Nat → Nat} {b n i j : Nat} (h : SO no b n) (hi : i < n) (hj : j < n) (e : no (b + i) = no (b + j)) : i = j := by
  rcases Nat.lt_trichotomy i j with q | q | q
  · have := SO_lt h j i q hj; omega
  · exact q
  · have := SO_lt h i j q hi; omega
theorem SO_cong {no no2 : Nat → Nat} {b n : Nat} (h : SO no b n) (e : ∀ i, i < n → no2 (b + i) = no (b + i)) : SO no2 b n := fun i hi => by rw [e i (by omega), e (i + 1) hi]; exact h i hi
theorem rk_spec (no : Nat → Nat) (b nt : Nat) : ∀ n, (∀ i, i < rkF no b nt n → no (b + i) < nt) ∧ (rkF no b nt n < n → nt ≤ no (b + rkF no b nt n))
  | 0 => ⟨fun i h => absurd h (Nat.not_lt_zero i), fun h => absurd h (Nat.not_lt_zero _)⟩
  | n + 1 => by
    obtain ⟨a1, a2⟩ := rk_spec no b nt n
    by_cases hz : rkF no b nt n = n ∧ no (b + n) < nt
    · have e : rkF no b nt (n + 1) = n + 1 := if_pos hz
      rw [e]
      refine ⟨fun i hi => ?_, fun h => absurd h (by omega)⟩
      by_cases e2 : i = n
      · rw [e2]; exact hz.2
      · exact a1 i (by have := hz.1; omega)
    · have e : rkF no b nt (n + 1) = rkF no b nt n := if_neg hz
      rw [e]
      refine ⟨a1, fun h => ?_⟩
      by_cases h2 : rkF no b nt n = n
      · rw [h2]; exact Nat.le_of_not_lt (fun h3 => hz ⟨h2, h3⟩)
      · exact a2 (by have := rkF_le no b nt n; omega)
theorem hd_iff {no : Nat → Nat} {b nt n : Nat} (h : SO no b n) : hdF no b nt n = true ↔ ∃ i, i < n ∧ no (b + i) = nt := by
  obtain ⟨a1, a2⟩ := rk_spec no b nt n
  unfold hdF
  constructor
  · intro h1
    rw [Bool.and_eq_true] at h1
    exact ⟨_, of_decide_eq_true h1.1, of_decide_eq_true h1.2⟩
  · rintro ⟨i, hi, e⟩
    have h1 : rkF no b nt n ≤ i := by
      rcases Nat.lt_or_ge i (rkF no b nt n) with q | q
      · have := a1 i q; omega
      · exact q
    have h2 := a2 (by omega)
    have h3 : rkF no b nt n = i := by
      rcases Nat.lt_or_ge (rkF no b nt n) i with q | q
      · have := SO_lt h i _ q hi; omega
      · omega
    rw [h3, decide_eq_true hi, decide_eq_true e]
    rfl
theorem wr_val {no : Nat → Nat} {b nt n i : Nat} (hi : i ≤ n) : wrF no b nt n (b + i) = if i < rkF no b nt n then no (b + i) else if i = rkF no b nt n then nt else no (b + (i - 1)) := by
  have h1 := rkF_le no b nt n
  unfold wrF
  by_cases e : i = rkF no b nt n
  · rw [← e, xu_self, if_neg (by omega), if_pos rfl]
  · rw [va_up_ne _ _ (show b + i ≠ b + rkF no b nt n from by omega)]
    unfold shF
    by_cases h2 : i < rkF no b nt n
    · rw [if_pos h2, if_neg (by omega)]
    · rw [if_neg h2, if_neg e, if_pos (by omega)]
      congr 1
      omega
theorem wr_out {no : Nat → Nat} {b nt n k : Nat} (hk : k < b ∨ b + n < k) : wrF no b nt n k = no k := by
  have h1 := rkF_le no b nt n
  unfold wrF
  rw [va_up_ne _ _ (show k ≠ b + rkF no b nt n from by omega)]
  unfold shF
  rw [if_neg (by omega)]
theorem wr_SO {no : Nat → Nat} {b nt n : Nat} (h : SO no b n) (hh : hdF no b nt n = false) : SO (wrF no b nt n) b (n + 1) := by
  obtain ⟨a1, a2⟩ := rk_spec no b nt n
  have h1 := rkF_le no b nt n
  intro i hi
  rw [wr_val (show i ≤ n from by omega), wr_val (show i + 1 ≤ n from by omega)]
  rcases Nat.lt_trichotomy (i + 1) (rkF no b nt n) with q | q | q
  · rw [if_pos (by omega), if_pos q]
    exact h i (by omega)
  · rw [if_pos (by omega), if_neg (by omega), if_pos q]
    exact a1 i (by omega)
  · rw [if_neg (show ¬ i + 1 < rkF no b nt n from by omega), if_neg (show ¬ i + 1 = rkF no b nt n from by omega), if_neg (show ¬ i < rkF no b nt n from by omega)]
    by_cases e : i = rkF no b nt n
    · rw [if_pos e]
      have h2 := a2 (by omega)
      rw [← e] at h2
      show nt < no (b + i)
      rcases Nat.lt_or_ge nt (no (b + i)) with q2 | q2
      · exact q2
      · have h3 := (hd_iff (nt := nt) h).mpr ⟨i, by omega, by omega⟩
        rw [hh] at h3
        exact absurd h3 (by decide)
    · rw [if_neg e]
      have h2 := h (i - 1) (by omega)
      rw [show i - 1 + 1 = i from by omega] at h2
      exact h2
theorem st_SO {no : Nat → Nat} {b nt n : Nat} (h : SO no b (n + 1)) : SO (stF no b nt n) b n := by
  have h1 := rkF_le no b nt n
  intro i hi
  unfold stF dlF
  by_cases q1 : i < rkF no b nt n
  · rw [if_neg (by omega)]
    by_cases q2 : i + 1 < rkF no b nt n
    · rw [if_neg (by omega)]
      exact h i (by omega)
    · rw [if_pos (by omega)]
      exact SO_lt h (i + 2) i (by omega) (by omega)
  · rw [if_pos (by omega), if_pos (by omega)]
    exact SO_lt h (i + 2) (i + 1) (by omega) (by omega)
theorem st_out {no : Nat → Nat} {b nt n k : Nat} (hk : k < b ∨ b + n ≤ k) : stF no b nt n k = no k := by
  unfold stF dlF
  rw [if_neg (by omega)]
/-- what holds of the two TUNES -/
def TI (siz no : Nat → Nat) : Prop := (∀ k, no k < 3072) ∧ (∀ k, siz k ≤ 30) ∧ SO no (0 * 30) (siz 0) ∧ SO no (1 * 30) (siz 1)
theorem TI_one {siz no : Nat → Nat} (h : TI siz no) {tu : Nat} (ht : tu < 2) : SO no (tu * 30) (siz tu) := by
  rcases (show tu = 0 ∨ tu = 1 from by omega) with rfl | rfl
  · exact h.2.2.1
  · exact h.2.2.2
theorem TI_of {siz no siz2 no2 : Nat → Nat} {tu : Nat} (h : TI siz no) (ht : tu < 2) (h1 : ∀ k, no2 k < 3072) (h2 : ∀ k, siz2 k ≤ 30) (h3 : SO no2 (tu * 30) (siz2 tu)) (h4 : ∀ k, k ≠ tu → siz2 k = siz k) (h5 : ∀ k, k < tu * 30 ∨ tu * 30 + 30 ≤ k → no2 k = no k) : TI siz2 no2 := by
  obtain ⟨a1, a2, a3, a4⟩ := h
  rcases (show tu = 0 ∨ tu = 1 from by omega) with rfl | rfl
  · refine ⟨h1, h2, h3, ?_⟩
    rw [h4 1 (by omega)]
    exact SO_cong a4 (fun i hi => h5 _ (by omega))
  · refine ⟨h1, h2, ?_, h3⟩
    have h6 := a2 0
    rw [h4 0 (by omega)]
    exact SO_cong a3 (fun i hi => h5 _ (by omega))
theorem TI_note {siz no : Nat → Nat} {tu nt : Nat} (h : TI siz no) (ht : tu < 2) (hnt : nt < 3072) (hrm : hdF no (tu * 30) nt (siz tu) = false → siz tu < 30) : TI (va_up siz tu (if hdF no (tu * 30) nt (siz tu) then siz tu - 1 else siz tu + 1)) (if hdF no (tu * 30) nt (siz tu) then stF no (tu * 30) nt (siz tu - 1) else wrF no (tu * 30) nt (siz tu)) := by
  have hs := TI_one h ht
  have h30 := h.2.1 tu
  cases hb : hdF no (tu * 30) nt (siz tu) with
  | true =>
    have hp := hdF_pos hb
    refine TI_of h ht (fun k => dlF_lt h.1 _ _ k) (fun k => ?_) ?_ (fun k hk => va_up_ne _ _ hk) (fun k hk => st_out (by omega))
    · show va_up siz tu (siz tu - 1) k ≤ 30
      by_cases e : k = tu
      · rw [e, xu_self]; omega
      · rw [va_up_ne _ _ e]; exact h.2.1 k
    · show SO (stF no (tu * 30) nt (siz tu - 1)) (tu * 30) (va_up siz tu (siz tu - 1) tu)
      rw [xu_self]
      exact st_SO (by rw [show siz tu - 1 + 1 = siz tu from by omega]; exact hs)
  | false =>
    have hlt := hrm hb
    refine TI_of h ht (fun k => va_up_lt (fun k => shF_lt h.1 _ _ _ k) hnt _ k) (fun k => ?_) ?_ (fun k hk => va_up_ne _ _ hk) (fun k hk => wr_out (by omega))
    · show va_up siz tu (siz tu + 1) k ≤ 30
      by_cases e : k = tu
      · rw [e, xu_self]; omega
      · rw [va_up_ne _ _ e]; exact h.2.1 k
    · show SO (wrF no (tu * 30) nt (siz tu)) (tu * 30) (va_up siz tu (siz tu + 1) tu)
      rw [xu_self]
      exact wr_SO hs hb
/-! How many are shared: both ways the same. -/
def ctS (r : Nat → Nat → Bool) (n2 : Nat) : Nat → Nat
  | 0 => 0
  | i + 1 => ctS r n2 i + fb_ct (r i) n2
theorem ctS_0 (r : Nat → Nat → Bool) : ∀ n, ctS r 0 n = 0
  | 0 => rfl
  | n + 1 => by rw [ctS, ctS_0 r n]; rfl
theorem ctS_s (r : Nat → Nat → Bool) (n2 : Nat) : ∀ n, ctS r (n2 + 1) n = ctS r n2 n + fb_ct (fun i => r i n2) n
  | 0 => rfl
  | n + 1 => by
    rw [ctS, ctS, ctS_s r n2 n, fb_ct_succ, fb_ct_succ]
    omega
theorem ctS_flip (r : Nat → Nat → Bool) (n1 : Nat) : ∀ n2, ctS r n2 n1 = ctS (fun j i => r i j) n1 n2
  | 0 => ctS_0 r n1
  | n2 + 1 => by rw [ctS_s, ctS_flip r n1 n2, ctS]
theorem ct_one {f : Nat → Bool} : ∀ {n : Nat}, (∀ j k, j < n → k < n → f j = true → f k = true → j = k) → fb_ct f n ≤ 1
  | 0, _ => Nat.zero_le _
  | n + 1, h => by
    rw [fb_ct_succ]
    cases hb : f n with
    | false =>
      have ih := ct_one (f := f) (n := n) (fun j k h1 h2 => h j k (by omega) (by omega))
      exact ih
    | true =>
      have h0 : fb_ct f n = 0 := fb_ct_zero.mpr (fun k hk => by
        cases hc : f k with
        | false => rfl
        | true => have := h k n (by omega) (by omega) hc hb; omega)
      rw [h0]
      exact Nat.le_refl _
theorem ct_row {r : Nat → Nat → Bool} {p : Nat → Bool} {n2 : Nat} : ∀ n1, (∀ i, i < n1 → ∀ j k, j < n2 → k < n2 → r i j = true → r i k = true → j = k) → (∀ i, i < n1 → (p i = true ↔ ∃ j, j < n2 ∧ r i j = true)) → fb_ct p n1 = ctS r n2 n1
  | 0, _, _ => rfl
  | n + 1, h1, h2 => by
    rw [fb_ct_succ, ctS, ct_row n (fun i hi => h1 i (by omega)) (fun i hi => h2 i (by omega))]
    congr 1
    have h3 := ct_one (h1 n (by omega))
    have h4 := h2 n (by omega)
    cases hb : p n with
    | true =>
      have h5 := fb_ct_pos.mpr (h4.mp hb)
      show 1 = _
      omega
    | false =>
      have h5 : ¬ 0 < fb_ct (r n) n2 := fun h => by
        have h6 := h4.mpr (fb_ct_pos.mp h)
        rw [hb] at h6
        exact absurd h6 (by decide)
      show 0 = _
      omega
theorem ct_swap {r : Nat → Nat → Bool} {p q : Nat → Bool} {n1 n2 : Nat} (h1 : ∀ i, i < n1 → ∀ j k, j < n2 → k < n2 → r i j = true → r i k = true → j = k) (h2 : ∀ j, j < n2 → ∀ i k, i < n1 → k < n1 → r i j = true → r k j = true → i = k) (hp : ∀ i, i < n1 → (p i = true ↔ ∃ j, j < n2 ∧ r i j = true)) (hq : ∀ j, j < n2 → (q j = true ↔ ∃ i, i < n1 ∧ r i j = true)) : fb_ct p n1 = fb_ct q n2 := by
  rw [ct_row n1 h1 hp, ctS_flip, ← ct_row (r := fun j i => r i j) n2 h2 hq]
def sdC (no : Nat → Nat) (b b2 n2 : Nat) (hi : Int32) (i : Nat) : Prop := ¬ nI (no (b + i) % 48) - hi < 0 ∧ ¬ nI 48 ≤ nI (no (b + i) % 48) - hi ∧ hdF no b2 (no (b + i) / 48 * 48 + (nI (no (b + i) % 48) - hi).toNatClampNeg) n2 = true
theorem sd_ct (no : Nat → Nat) (b b2 n2 : Nat) (hi : Int32) (p : Nat → Bool) (hp : ∀ i, p i = true ↔ sdC no b b2 n2 hi i) : ∀ n, sdF no b b2 n2 hi n = fb_ct p n
  | 0 => rfl
  | n + 1 => by
    rw [fb_ct_succ]
    by_cases hz : sdC no b b2 n2 hi n
    · have e : sdF no b b2 n2 hi (n + 1) = sdF no b b2 n2 hi n + 1 := if_pos hz
      rw [e, sd_ct no b b2 n2 hi p hp n, (hp n).mpr hz]
      rfl
    · have e : sdF no b b2 n2 hi (n + 1) = sdF no b b2 n2 hi n := if_neg hz
      have e2 : p n = false := by
        cases hb : p n with
        | false => rfl
        | true => exact absurd ((hp n).mp hb) hz
      rw [e, sd_ct no b b2 n2 hi p hp n, e2]
      rfl
def mtB (no : Nat → Nat) (h : Int) (b b2 i j : Nat) : Bool := decide (no (b + i) / 48 = no (b2 + j) / 48 ∧ ((no (b + i) % 48 : Nat) : Int) - h = ((no (b2 + j) % 48 : Nat) : Int))
theorem sd_mt {no : Nat → Nat} {b b2 n2 i : Nat} {hi : Int32} (h : SO no b2 n2) (h1 : -24 ≤ hi.toInt) (h2 : hi.toInt ≤ 24) : sdC no b b2 n2 hi i ↔ ∃ j, j < n2 ∧ mtB no hi.toInt b b2 i j = true := by
  have hx : (nI (no (b + i) % 48) - hi).toInt = ((no (b + i) % 48 : Nat) : Int) - hi.toInt := by
    rw [Int32.toInt_sub, nI_toInt (by omega)]
    exact Int.bmod_eq_of_le (by omega) (by omega)
  constructor
  · rintro ⟨c1, c2, c3⟩
    obtain ⟨j, hj, e⟩ := xk_rng c1 c2
    rw [e, nI_clamp (by omega)] at c3
    rw [e, nI_toInt (by omega)] at hx
    obtain ⟨k, hk, e2⟩ := (hd_iff h).mp c3
    exact ⟨k, hk, decide_eq_true ⟨by omega, by omega⟩⟩
  · rintro ⟨j, hj, e⟩
    obtain ⟨e1, e2⟩ := of_decide_eq_true e
    have e3 : nI (no (b + i) % 48) - hi = nI (no (b2 + j) % 48) := Int32.toInt.inj (by rw [hx, e2, nI_toInt (by omega)])
    unfold sdC
    rw [e3, nI_clamp (by omega)]
    exact ⟨nI_pos (by omega), nI_ge (by omega) (by decide), (hd_iff h).mpr ⟨j, hj, by omega⟩⟩
theorem sd_sym {no : Nat → Nat} {b b2 n n2 : Nat} {hi hj : Int32} (h : SO no b n) (h3 : SO no b2 n2) (h1 : -24 ≤ hi.toInt) (h2 : hi.toInt ≤ 24) (e : hj.toInt = -hi.toInt) : sdF no b b2 n2 hi n = sdF no b2 b n hj n2 := by
  classical
  rw [sd_ct no b b2 n2 hi (fun i => decide (sdC no b b2 n2 hi i)) (fun i => decide_eq_true_iff), sd_ct no b2 b n hj (fun i => decide (sdC no b2 b n hj i)) (fun i => decide_eq_true_iff)]
  refine ct_swap (r := fun i j => mtB no hi.toInt b b2 i j) ?_ ?_ (fun i _ => decide_eq_true_iff.trans (sd_mt h3 h1 h2)) (fun j _ => decide_eq_true_iff.trans ((sd_mt h (by omega) (by omega)).trans ?_))
  · intro i _ j k hj hk m1 m2
    have m1 := of_decide_eq_true m1
    have m2 := of_decide_eq_true m2
    exact SO_inj h3 hj hk (by omega)
  · intro j _ i k hi2 hk m1 m2
    have m1 := of_decide_eq_true m1
    have m2 := of_decide_eq_true m2
    exact SO_inj h hi2 hk (by omega)
  · constructor
    · rintro ⟨i, hi2, m⟩
      have m := of_decide_eq_true m
      exact ⟨i, hi2, decide_eq_true ⟨by omega, by omega⟩⟩
    · rintro ⟨i, hi2, m⟩
      have m := of_decide_eq_true m
      exact ⟨i, hi2, decide_eq_true ⟨by omega, by omega⟩⟩
theorem sd_self {no : Nat → Nat} {b n : Nat} (h : SO no b n) : sdF no b b n (nI 0) n = n := by
  classical
  rw [sd_ct no b b n (nI 0) (fun i => decide (sdC no b b n (nI 0) i)) (fun i => decide_eq_true_iff)]
  refine fb_ct_all.mpr (fun k hk => ?_)
  refine decide_eq_true ((sd_mt h (by decide) (by decide)).mpr ⟨k, hk, decide_eq_true ⟨rfl, ?_⟩⟩)
  rw [show (nI 0).toInt = 0 from by decide]
  omega
theorem li_sym {siz no : Nat → Nat} {hi hj : Int32} (h : TI siz no) (h1 : -24 ≤ hi.toInt) (h2 : hi.toInt ≤ 24) (e : hj.toInt = -hi.toInt) : liF siz no 0 1 hi = liF siz no 1 0 hj := by
  unfold liF
  rw [Nat.max_comm (siz 1) (siz 0), sd_sym h.2.2.1 h.2.2.2 h1 h2 e]
theorem li_self {siz no : Nat → Nat} {tu : Nat} (h : TI siz no) (ht : tu < 2) : liF siz no tu tu (nI 0) = if siz tu = 0 then FP.dconst0 else FP.ddiv (FP.i2d (nI (siz tu))) (FP.i2d (nI (siz tu))) := by
  unfold liF
  rw [Nat.max_self, sd_self (TI_one h ht)]
theorem bk_rng (L : Int32 → Nat) : ∀ k, ∃ j, j ≤ k ∧ ((bkF L k).1 = nI j ∨ (bkF L k).1 = -nI j)
  | 0 => ⟨0, Nat.le_refl _, Or.inl rfl⟩
  | k + 1 => by
    obtain ⟨j, hj, h⟩ := bk_rng L k
    have h0 : ∃ j, j ≤ k + 1 ∧ ((bkF L k).1 = nI j ∨ (bkF L k).1 = -nI j) := ⟨j, by omega, h⟩
    have hA : ∃ j, j ≤ k + 1 ∧ (nI (k + 1) = nI j ∨ nI (k + 1) = -nI j) := ⟨k + 1, Nat.le_refl _, Or.inl rfl⟩
    have hB : ∃ j, j ≤ k + 1 ∧ (-nI (k + 1) = nI j ∨ -nI (k + 1) = -nI j) := ⟨k + 1, Nat.le_refl _, Or.inr rfl⟩
    rw [bkF]
    split
    · exact h0
    · split <;> first | exact hA | exact hB | exact h0 | (split <;> first | exact hA | exact hB | exact h0)
theorem bk_in (L : Int32 → Nat) : ∃ x, (bkF L 24).1 = x ∧ (-24 ≤ x.toInt ∧ x.toInt ≤ 24) ∧ (-x).toInt = -x.toInt ∧ ¬ x < -24 ∧ x ≤ nI 24 ∧ ¬ -x < -24 ∧ -x ≤ nI 24 := by
  obtain ⟨j, hj, h⟩ := bk_rng L 24
  refine ⟨_, rfl, ?_⟩
  generalize (bkF L 24).1 = x at h
  have h24 : (-24 : Int32).toInt = -24 := by decide
  have n24 : (nI 24).toInt = 24 := by decide
  have e1 : (nI j).toInt = (j : Int) := nI_toInt (by omega)
  have e2 : (-nI j).toInt = -(j : Int) := sb_negT (by omega)
  have e3 : x.toInt = (j : Int) ∧ (-x).toInt = -(j : Int) ∨ x.toInt = -(j : Int) ∧ (-x).toInt = (j : Int) := by
    rcases h with rfl | rfl
    · exact Or.inl ⟨e1, e2⟩
    · exact Or.inr ⟨e2, by rw [Int32.neg_neg]; exact e1⟩
  refine ⟨by omega, by omega, ?_, ?_, ?_, ?_⟩
  · rw [Int32.lt_iff_toInt_lt, h24]; omega
  · rw [Int32.le_iff_toInt_le, n24]; omega
  · rw [Int32.lt_iff_toInt_lt, h24]; omega
  · rw [Int32.le_iff_toInt_le, n24]; omega
