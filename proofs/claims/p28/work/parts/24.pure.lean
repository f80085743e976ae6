/-! What holds of the works while they run. -/
def pluP (x : Pst) : Nat → Nat := x.2.2.1
def bzE (x : Pst) : Nat := evrP x + buzP x
theorem suF_out (f : Nat → Nat) (tn v : Nat) : ∀ n, n ≤ tn → suF (va_up f tn v) n = suF f n
  | 0, _ => rfl
  | n + 1, h => by rw [suF, suF, suF_out f tn v n (by omega), va_up_ne _ _ (show n ≠ tn from by omega)]
theorem suF_up (f : Nat → Nat) (tn v : Nat) : ∀ n, tn < n → suF (va_up f tn v) n + f tn = suF f n + v
  | 0, h => absurd h (by omega)
  | n + 1, h => by
    rw [suF, suF]
    by_cases e : n = tn
    · subst e
      rw [suF_out f n v n (Nat.le_refl _), xu_self]
      omega
    · have ih := suF_up f tn v n (by omega)
      rw [va_up_ne _ _ e]
      omega
theorem plk_sum {pit : Nat → Nat} {cnt shf plo stp tn : Nat} {cks : UInt64} (x : Pst) (ht : tn < cnt) : suF (pluP (plkP pit shf plo stp cks tn x)) cnt = suF (pluP x) cnt + 1 ∧ bzE (plkP pit shf plo stp cks tn x) = bzE x + 1 ∧ evrP x ≤ evrP (plkP pit shf plo stp cks tn x) ∧ buzP x ≤ buzP (plkP pit shf plo stp cks tn x) := by
  obtain ⟨bro, scr, plu, las, plc, wea, pts, clk, old, kep, evr, buz, wor⟩ := x
  refine ⟨?_, ?_, ?_, ?_⟩
  · show suF (va_up plu tn (plu tn + 1)) cnt = suF plu cnt + 1
    have h := suF_up plu tn (plu tn + 1) cnt ht
    omega
  · show (if isBz plu las tn stp then evr else evr + 1) + (if isBz plu las tn stp then buz + 1 else buz) = evr + buz + 1
    cases isBz plu las tn stp with
    | true => show evr + (buz + 1) = _; omega
    | false => show (evr + 1) + buz = _; omega
  · show evr ≤ (if isBz plu las tn stp then evr else evr + 1)
    split <;> omega
  · show buz ≤ (if isBz plu las tn stp then buz + 1 else buz)
    split <;> omega
theorem pls_cases (pit : Nat → Nat) (shf plo stp : Nat) (cks : UInt64) (x : Pst) (i : Nat) : (((plsP pit shf plo stp cks x i).1.1 i = false ∧ bitL ((plsP pit shf plo stp cks x i).1.2.2.2.2.1 (shf * 24 + i)) plo = true) ∧ plsP pit shf plo stp cks x (i + 1) = (plkP pit shf plo stp cks i (plsP pit shf plo stp cks x i).1, (plsP pit shf plo stp cks x i).2 + 1)) ∨ plsP pit shf plo stp cks x (i + 1) = plsP pit shf plo stp cks x i := by
  by_cases h : (plsP pit shf plo stp cks x i).1.1 i = false ∧ bitL ((plsP pit shf plo stp cks x i).1.2.2.2.2.1 (shf * 24 + i)) plo = true
  · exact Or.inl ⟨h, if_pos h⟩
  · exact Or.inr (if_neg h)
theorem pls_sum {pit : Nat → Nat} {cnt shf plo stp : Nat} {cks : UInt64} (x : Pst) : ∀ i, i ≤ cnt → suF (pluP (plsP pit shf plo stp cks x i).1) cnt = suF (pluP x) cnt + (plsP pit shf plo stp cks x i).2 ∧ bzE (plsP pit shf plo stp cks x i).1 = bzE x + (plsP pit shf plo stp cks x i).2 ∧ evrP x ≤ evrP (plsP pit shf plo stp cks x i).1 ∧ buzP x ≤ buzP (plsP pit shf plo stp cks x i).1
  | 0, _ => ⟨rfl, rfl, Nat.le_refl _, Nat.le_refl _⟩
  | i + 1, hi => by
    obtain ⟨a, b, c, d⟩ := pls_sum (pit := pit) (cnt := cnt) (shf := shf) (plo := plo) (stp := stp) (cks := cks) x i (by omega)
    rcases pls_cases pit shf plo stp cks x i with ⟨-, e⟩ | e
    · rw [e]
      obtain ⟨a1, b1, c1, d1⟩ := plk_sum (pit := pit) (cnt := cnt) (shf := shf) (plo := plo) (stp := stp) (tn := i) (cks := cks) (plsP pit shf plo stp cks x i).1 (by omega)
      refine ⟨?_, ?_, Nat.le_trans c c1, Nat.le_trans d d1⟩
      · show suF (pluP (plkP pit shf plo stp cks i (plsP pit shf plo stp cks x i).1)) cnt = suF (pluP x) cnt + ((plsP pit shf plo stp cks x i).2 + 1)
        omega
      · show bzE (plkP pit shf plo stp cks i (plsP pit shf plo stp cks x i).1) = bzE x + ((plsP pit shf plo stp cks x i).2 + 1)
        omega
    · rw [e]; exact ⟨a, b, c, d⟩
theorem pls_keep {G : Pst → Prop} {pit : Nat → Nat} {cnt shf plo stp : Nat} {cks : UInt64} {x : Pst} (hx : G x) (hk : ∀ tn y, tn < cnt → G y → y.1 tn = false → bitL (y.2.2.2.2.1 (shf * 24 + tn)) plo = true → G (plkP pit shf plo stp cks tn y)) : ∀ i, i ≤ cnt → G (plsP pit shf plo stp cks x i).1
  | 0, _ => hx
  | i + 1, hi => by
    have ih := pls_keep hx hk i (by omega)
    rcases pls_cases pit shf plo stp cks x i with ⟨h, e⟩ | e
    · rw [e]; exact hk i _ (by omega) ih h.1 h.2
    · rw [e]; exact ih
theorem run_s {pit : Nat → Nat} {cnt shf gov : Nat} {n : Nat} {x : Wst} (h : 0 < x.2.1) : runW pit cnt shf gov (n + 1) x = runW pit cnt shf gov n (stpW pit cnt shf gov x) := if_pos h
theorem run_z {pit : Nat → Nat} {cnt shf gov : Nat} {n : Nat} {x : Wst} (h : ¬ 0 < x.2.1) : runW pit cnt shf gov (n + 1) x = x := if_neg h
theorem ls_s {pit : Nat → Nat} {cnt shf gov : Nat} {n : Nat} {x : Wst} (h : 0 < x.2.1) : lsW pit cnt shf gov (n + 1) x = lsW pit cnt shf gov n (stpW pit cnt shf gov x) + 1 := if_pos h
theorem ls_z {pit : Nat → Nat} {cnt shf gov : Nat} {n : Nat} {x : Wst} (h : ¬ 0 < x.2.1) : lsW pit cnt shf gov (n + 1) x = 0 := if_neg h
theorem run_sum {pit : Nat → Nat} {cnt shf gov : Nat} (hc : cnt ≤ 24) : ∀ (n : Nat) (x : Wst), x.2.2.1 = x.2.2.2.1 % 64 → ∃ p, (runW pit cnt shf gov n x).2.2.2.1 = x.2.2.2.1 + lsW pit cnt shf gov n x ∧ suF (pluP (runW pit cnt shf gov n x).1) cnt = suF (pluP x.1) cnt + p ∧ bzE (runW pit cnt shf gov n x).1 = bzE x.1 + p ∧ (runW pit cnt shf gov n x).2.1 = x.2.1 - (2 * lsW pit cnt shf gov n x + p) ∧ p ≤ 24 * lsW pit cnt shf gov n x ∧ evrP x.1 ≤ evrP (runW pit cnt shf gov n x).1 ∧ buzP x.1 ≤ buzP (runW pit cnt shf gov n x).1 ∧ (runW pit cnt shf gov n x).2.2.1 = (runW pit cnt shf gov n x).2.2.2.1 % 64
  | 0, x, h => ⟨0, rfl, rfl, rfl, rfl, Nat.le_refl _, Nat.le_refl _, Nat.le_refl _, h⟩
  | n + 1, x, h => by
    by_cases hw : 0 < x.2.1
    · rw [run_s hw, ls_s hw]
      obtain ⟨x, wnd, plo, stp, cks⟩ := x
      have h : plo = stp % 64 := h
      obtain ⟨p, a1, a2, a3, a4, a5, a6, a7, a8⟩ := run_sum (pit := pit) (shf := shf) (gov := gov) hc n (stpW pit cnt shf gov (x, wnd, plo, stp, cks)) (by show (plo + 1) % 64 = (stp + 1) % 64; omega)
      obtain ⟨b1, b2, b3, b4⟩ := pls_sum (pit := pit) (shf := shf) (plo := (plo + 1) % 64) (stp := stp + 1) (cks := FP.dadd cks (tckF gov wnd)) x cnt (Nat.le_refl _)
      have b5 := plsP_le pit shf ((plo + 1) % 64) (stp + 1) (FP.dadd cks (tckF gov wnd)) x cnt
      have e1 : (stpW pit cnt shf gov (x, wnd, plo, stp, cks)).1 = (plsP pit shf ((plo + 1) % 64) (stp + 1) (FP.dadd cks (tckF gov wnd)) x cnt).1 := rfl
      have e2 : (stpW pit cnt shf gov (x, wnd, plo, stp, cks)).2.1 = wnd - 2 - (plsP pit shf ((plo + 1) % 64) (stp + 1) (FP.dadd cks (tckF gov wnd)) x cnt).2 := rfl
      have e3 : (stpW pit cnt shf gov (x, wnd, plo, stp, cks)).2.2.2.1 = stp + 1 := rfl
      rw [e1] at a2 a3 a6 a7
      rw [e2] at a4
      rw [e3] at a1
      generalize (plsP pit shf ((plo + 1) % 64) (stp + 1) (FP.dadd cks (tckF gov wnd)) x cnt).2 = k at *
      refine ⟨p + k, ?_, ?_, ?_, ?_, ?_, Nat.le_trans b3 a6, Nat.le_trans b4 a7, a8⟩
      · show _ = stp + (_ + 1)
        omega
      · show _ = suF (pluP x) cnt + (p + k)
        omega
      · show _ = bzE x + (p + k)
        omega
      · show _ = wnd - (2 * (_ + 1) + (p + k))
        rw [a4]
        omega
      · omega
    · rw [run_z hw, ls_z hw]
      exact ⟨0, rfl, rfl, rfl, rfl, Nat.le_refl _, Nat.le_refl _, Nat.le_refl _, h⟩
theorem ls_min {pit : Nat → Nat} {cnt shf gov : Nat} : ∀ (n k : Nat) (x : Wst), n ≤ k → lsW pit cnt shf gov n x = min n (lsW pit cnt shf gov k x)
  | 0, _, _, _ => (Nat.zero_min _).symm
  | n + 1, 0, _, h => absurd h (by omega)
  | n + 1, k + 1, x, h => by
    by_cases hw : 0 < x.2.1
    · have ih := ls_min (pit := pit) (cnt := cnt) (shf := shf) (gov := gov) n k (stpW pit cnt shf gov x) (by omega)
      rw [ls_s hw, ls_s hw]
      omega
    · rw [ls_z hw, ls_z hw]
      omega
theorem ls_pos {pit : Nat → Nat} {cnt shf gov : Nat} : ∀ (n k : Nat) (x : Wst), n < k → (0 < (runW pit cnt shf gov n x).2.1 ↔ n < lsW pit cnt shf gov k x)
  | _, 0, _, h => absurd h (by omega)
  | 0, k + 1, x, _ => by
    show 0 < x.2.1 ↔ _
    by_cases hw : 0 < x.2.1
    · rw [ls_s hw]
      exact ⟨fun _ => Nat.succ_pos _, fun _ => hw⟩
    · rw [ls_z hw]
      exact ⟨fun h => absurd h hw, fun h => absurd h (by omega)⟩
  | n + 1, k + 1, x, h => by
    by_cases hw : 0 < x.2.1
    · have ih := ls_pos (pit := pit) (cnt := cnt) (shf := shf) (gov := gov) n k (stpW pit cnt shf gov x) (by omega)
      rw [ls_s hw, run_s hw, ih]
      omega
    · rw [ls_z hw, run_z hw]
      exact ⟨fun h => absurd h hw, fun h => absurd h (by omega)⟩
theorem ls_add {pit : Nat → Nat} {cnt shf gov : Nat} : ∀ (n k : Nat) (x : Wst), lsW pit cnt shf gov (n + k) x = lsW pit cnt shf gov n x + lsW pit cnt shf gov k (runW pit cnt shf gov n x)
  | 0, k, x => by rw [Nat.zero_add]; exact (Nat.zero_add _).symm
  | n + 1, k, x => by
    rw [show n + 1 + k = (n + k) + 1 from by omega]
    by_cases hw : 0 < x.2.1
    · have ih := ls_add (pit := pit) (cnt := cnt) (shf := shf) (gov := gov) n k (stpW pit cnt shf gov x)
      rw [ls_s hw, ls_s hw, run_s hw, ih]
      omega
    · rw [ls_z hw, ls_z hw, run_z hw, lsW_0 pit cnt shf gov k (by omega)]
theorem ls_le {pit : Nat → Nat} {cnt shf gov : Nat} : ∀ (n : Nat) (x : Wst), 2 * lsW pit cnt shf gov n x ≤ x.2.1 + 1
  | 0, x => by show 2 * 0 ≤ _; omega
  | n + 1, x => by
    by_cases hw : 0 < x.2.1
    · have ih := ls_le (pit := pit) (cnt := cnt) (shf := shf) (gov := gov) n (stpW pit cnt shf gov x)
      rw [ls_s hw]
      obtain ⟨x, wnd, plo, stp, cks⟩ := x
      have hw : 0 < wnd := hw
      have e : (stpW pit cnt shf gov (x, wnd, plo, stp, cks)).2.1 ≤ wnd - 2 := Nat.sub_le _ _
      show 2 * (_ + 1) ≤ wnd + 1
      omega
    · rw [ls_z hw]
      omega
theorem ls_last {pit : Nat → Nat} {cnt shf gov n : Nat} {x : Wst} (h : x.2.1 ≤ 2000) : lsW pit cnt shf gov 2000 (runW pit cnt shf gov n x) = lsW pit cnt shf gov 2000 x - lsW pit cnt shf gov n x := by
  have h1 := ls_add (pit := pit) (cnt := cnt) (shf := shf) (gov := gov) n 2000 x
  have h2 := ls_min (pit := pit) (cnt := cnt) (shf := shf) (gov := gov) 2000 (n + 2000) x (by omega)
  have h3 := ls_le (pit := pit) (cnt := cnt) (shf := shf) (gov := gov) (n + 2000) x
  omega
theorem run_wnd {pit : Nat → Nat} {cnt shf gov : Nat} : ∀ (n : Nat) (x : Wst), (runW pit cnt shf gov n x).2.1 ≤ x.2.1
  | 0, _ => Nat.le_refl _
  | n + 1, x => by
    by_cases hw : 0 < x.2.1
    · rw [run_s hw]
      have ih := run_wnd (pit := pit) (cnt := cnt) (shf := shf) (gov := gov) n (stpW pit cnt shf gov x)
      obtain ⟨x, wnd, plo, stp, cks⟩ := x
      exact Nat.le_trans ih (stpW_wnd pit cnt shf gov x wnd plo stp cks)
    · rw [run_z hw]
      exact Nat.le_refl _
theorem okC_le {n m : Nat} {c : UInt64} (h : okC n c) (hm : n ≤ m) : okC m c := ⟨h.1, Int.le_trans h.2 (Int.mul_le_mul_of_nonneg_right (by omega) (by exact Int.natCast_nonneg _))⟩
theorem run_clk {pit : Nat → Nat} {cnt shf gov : Nat} (hg : 1 ≤ gov ∧ gov ≤ 8) : ∀ (n m : Nat) (x : Wst), okC m x.2.2.2.2 → m + n ≤ 100000 → x.2.1 ≤ 2000 → okC (m + n) (runW pit cnt shf gov n x).2.2.2.2 ∧ zv x.2.2.2.2 ≤ zv (runW pit cnt shf gov n x).2.2.2.2
  | 0, m, x, h, _, _ => ⟨h, Int.le_refl _⟩
  | n + 1, m, x, h, hm, hw2 => by
    by_cases hw : 0 < x.2.1
    · rw [run_s hw]
      obtain ⟨x, wnd, plo, stp, cks⟩ := x
      obtain ⟨a1, a2⟩ := okC_add (g := gov) (w := wnd) h (by omega) hg hw2
      obtain ⟨b1, b2⟩ := run_clk (pit := pit) (cnt := cnt) (shf := shf) hg n (m + 1) (stpW pit cnt shf gov (x, wnd, plo, stp, cks)) a1 (by omega) (Nat.le_trans (stpW_wnd pit cnt shf gov x wnd plo stp cks) hw2)
      exact ⟨okC_le b1 (by omega), Int.le_trans a2 b2⟩
    · rw [run_z hw]
      exact ⟨okC_le h (by omega), Int.le_refl _⟩
/-- no two of a set's PLACES are near -/
def NF (x : Int64) : Prop := ∀ p off, p < 64 → 1 ≤ off → off ≤ 3 → bitL x p = true → bitL x ((p + off) % 64) = false
/-- what holds of what plucking changes, the clock being c -/
def IP (cnt : Nat) (c : UInt64) : Pst → Prop
  | (bro, scr, _, _, plc, wea, pts, clk, old, kep, evr, _, _) => (∀ t, t < cnt → scr t ≤ 4 ∧ bro t = decide (scr t = 4)) ∧ (∀ ln t q, ln < 3 → t < cnt → q < 64 → bitL (plc (ln * 24 + t)) q = true → wea ((ln * 24 + t) * 64 + q) ≤ 4) ∧ (∀ k, wea k ≤ 5) ∧ (∀ ln t, ln < 3 → t < cnt → NF (plc (ln * 24 + t))) ∧ old < 40 ∧ kep = min 40 evr ∧ (∀ k, pts k < 48) ∧ (∀ k, okC 100000 (clk k)) ∧ (∀ k, k < kep → zv (clk ((old + k) % 40)) ≤ zv c) ∧ (∀ k, k + 1 < kep → zv (clk ((old + k) % 40)) ≤ zv (clk ((old + (k + 1)) % 40)))
theorem NF_clr {x : Int64} {p : Nat} (hp : p < 64) (h : NF x) : NF (clrB x p) := by
  intro q off hq h1 h2 hb
  rw [bit_clr _ hp hq, Bool.and_eq_true] at hb
  rw [bit_clr _ hp (Nat.mod_lt _ (by decide)), h q off hq h1 h2 hb.1, Bool.false_and]
theorem IP_later {cnt : Nat} {c c2 : UInt64} {x : Pst} (h : IP cnt c x) (hc : zv c ≤ zv c2) : IP cnt c2 x := by
  obtain ⟨bro, scr, plu, las, plc, wea, pts, clk, old, kep, evr, buz, wor⟩ := x
  obtain ⟨a1, a2, a3, a4, a5, a6, a7, a8, a9, a10⟩ := h
  exact ⟨a1, a2, a3, a4, a5, a6, a7, a8, fun k hk => Int.le_trans (a9 k hk) hc, a10⟩
theorem IP_plk {pit : Nat → Nat} {cnt shf plo stp tn : Nat} {c : UInt64} {x : Pst} (h : IP cnt c x) (hcn : cnt ≤ 24) (ht : tn < cnt) (hs : shf < 3) (hp : plo < 64) (hpit : pit tn < 48) (hc : okC 100000 c) (h1 : x.1 tn = false) (h2 : bitL (x.2.2.2.2.1 (shf * 24 + tn)) plo = true) : IP cnt c (plkP pit shf plo stp c tn x) := by
  obtain ⟨bro, scr, plu, las, plc, wea, pts, clk, old, kep, evr, buz, wor⟩ := x
  obtain ⟨a1, a2, a3, a4, a5, a6, a7, a8, a9, a10⟩ := h
  have h1 : bro tn = false := h1
  have h2 : bitL (plc (shf * 24 + tn)) plo = true := h2
  have h3 : scr tn ≤ 3 := by
    obtain ⟨b1, b2⟩ := a1 tn ht
    rw [h1] at b2
    have b3 := of_decide_eq_false b2.symm
    omega
  have h4 := a2 shf tn plo hs ht hp h2
  refine ⟨?_, ?_, ?_, ?_, ?_, ?_, ?_, ?_, ?_, ?_⟩
  · intro t h5
    show (if isBz plu las tn stp then va_up scr tn (scr tn + 1) else scr) t ≤ 4 ∧ (if isBz plu las tn stp then va_up bro tn (decide (4 ≤ scr tn + 1)) else bro) t = decide ((if isBz plu las tn stp then va_up scr tn (scr tn + 1) else scr) t = 4)
    cases isBz plu las tn stp with
    | false => exact a1 t h5
    | true =>
      show va_up scr tn (scr tn + 1) t ≤ 4 ∧ va_up bro tn (decide (4 ≤ scr tn + 1)) t = decide (va_up scr tn (scr tn + 1) t = 4)
      by_cases e : t = tn
      · subst e
        rw [xu_self, xu_self]
        refine ⟨by omega, ?_⟩
        by_cases e2 : scr t = 3
        · rw [e2]; rfl
        · rw [decide_eq_false (show ¬ 4 ≤ scr t + 1 from by omega), decide_eq_false (show ¬ scr t + 1 = 4 from by omega)]
      · rw [va_up_ne _ _ e, va_up_ne _ _ e]
        exact a1 t h5
  · intro ln t q b1 b2 b3 b4
    show va_up wea ((shf * 24 + tn) * 64 + plo) (wea ((shf * 24 + tn) * 64 + plo) + 1) ((ln * 24 + t) * 64 + q) ≤ 4
    have b4 : bitL ((if 5 ≤ wea ((shf * 24 + tn) * 64 + plo) + 1 then va_up plc (shf * 24 + tn) (clrB (plc (shf * 24 + tn)) plo) else plc) (ln * 24 + t)) q = true := b4
    by_cases e : (ln * 24 + t) * 64 + q = (shf * 24 + tn) * 64 + plo
    · have e1 : ln * 24 + t = shf * 24 + tn := by omega
      have e2 : q = plo := by omega
      rw [e1, e2] at b4 ⊢
      rw [xu_self]
      by_cases hz : 5 ≤ wea ((shf * 24 + tn) * 64 + plo) + 1
      · rw [if_pos hz, xu_self, bit_clr _ hp hp] at b4
        simp at b4
      · omega
    · rw [va_up_ne _ _ e]
      refine a2 ln t q b1 b2 b3 ?_
      by_cases hz : 5 ≤ wea ((shf * 24 + tn) * 64 + plo) + 1
      · rw [if_pos hz] at b4
        by_cases e1 : ln * 24 + t = shf * 24 + tn
        · rw [e1, xu_self, bit_clr _ hp b3, Bool.and_eq_true] at b4
          rw [e1]
          exact b4.1
        · rw [va_up_ne _ _ e1] at b4
          exact b4
      · rw [if_neg hz] at b4
        exact b4
  · intro k
    show va_up wea ((shf * 24 + tn) * 64 + plo) (wea ((shf * 24 + tn) * 64 + plo) + 1) k ≤ 5
    by_cases e : k = (shf * 24 + tn) * 64 + plo
    · rw [e, xu_self]; omega
    · rw [va_up_ne _ _ e]; exact a3 k
  · intro ln t b1 b2
    show NF ((if 5 ≤ wea ((shf * 24 + tn) * 64 + plo) + 1 then va_up plc (shf * 24 + tn) (clrB (plc (shf * 24 + tn)) plo) else plc) (ln * 24 + t))
    by_cases hz : 5 ≤ wea ((shf * 24 + tn) * 64 + plo) + 1
    · rw [if_pos hz]
      by_cases e1 : ln * 24 + t = shf * 24 + tn
      · rw [e1, xu_self]; exact NF_clr hp (a4 shf tn hs ht)
      · rw [va_up_ne _ _ e1]; exact a4 ln t b1 b2
    · rw [if_neg hz]; exact a4 ln t b1 b2
  · show (if isBz plu las tn stp then old else (if kep < 40 then old else (old + 1) % 40)) < 40
    split
    · exact a5
    · split <;> omega
  · show (if isBz plu las tn stp then kep else (if kep < 40 then kep + 1 else kep)) = min 40 (if isBz plu las tn stp then evr else evr + 1)
    cases isBz plu las tn stp with
    | true => exact a6
    | false =>
      show (if kep < 40 then kep + 1 else kep) = min 40 (evr + 1)
      split <;> omega
  · intro k
    show (if isBz plu las tn stp then pts else va_up pts ((old + kep) % 40) (pit tn)) k < 48
    cases isBz plu las tn stp with
    | true => exact a7 k
    | false =>
      show va_up pts ((old + kep) % 40) (pit tn) k < 48
      exact va_up_lt a7 hpit _ k
  · intro k
    show okC 100000 ((if isBz plu las tn stp then clk else va_up clk ((old + kep) % 40) c) k)
    cases isBz plu las tn stp with
    | true => exact a8 k
    | false =>
      show okC 100000 (va_up clk ((old + kep) % 40) c k)
      by_cases e : k = (old + kep) % 40
      · rw [e, xu_self]; exact hc
      · rw [va_up_ne _ _ e]; exact a8 k
  · show ∀ k, k < (if isBz plu las tn stp then kep else (if kep < 40 then kep + 1 else kep)) → zv ((if isBz plu las tn stp then clk else va_up clk ((old + kep) % 40) c) (((if isBz plu las tn stp then old else (if kep < 40 then old else (old + 1) % 40)) + k) % 40)) ≤ zv c
    cases isBz plu las tn stp with
    | true => exact a9
    | false =>
      show ∀ k, k < (if kep < 40 then kep + 1 else kep) → zv (va_up clk ((old + kep) % 40) c (((if kep < 40 then old else (old + 1) % 40) + k) % 40)) ≤ zv c
      intro k hk
      by_cases hz : kep < 40
      · rw [if_pos hz] at hk ⊢
        by_cases e : k = kep
        · rw [e, xu_self]; exact Int.le_refl _
        · rw [va_up_ne _ _ (show (old + k) % 40 ≠ (old + kep) % 40 from by omega)]
          exact a9 k (by omega)
      · rw [if_neg hz] at hk ⊢
        by_cases e : k = 39
        · rw [show ((old + 1) % 40 + k) % 40 = (old + kep) % 40 from by omega, xu_self]; exact Int.le_refl _
        · rw [va_up_ne _ _ (show ((old + 1) % 40 + k) % 40 ≠ (old + kep) % 40 from by omega), show ((old + 1) % 40 + k) % 40 = (old + (k + 1)) % 40 from by omega]
          exact a9 (k + 1) (by omega)
  · show ∀ k, k + 1 < (if isBz plu las tn stp then kep else (if kep < 40 then kep + 1 else kep)) → zv ((if isBz plu las tn stp then clk else va_up clk ((old + kep) % 40) c) (((if isBz plu las tn stp then old else (if kep < 40 then old else (old + 1) % 40)) + k) % 40)) ≤ zv ((if isBz plu las tn stp then clk else va_up clk ((old + kep) % 40) c) (((if isBz plu las tn stp then old else (if kep < 40 then old else (old + 1) % 40)) + (k + 1)) % 40))
    cases isBz plu las tn stp with
    | true => exact a10
    | false =>
      show ∀ k, k + 1 < (if kep < 40 then kep + 1 else kep) → zv (va_up clk ((old + kep) % 40) c (((if kep < 40 then old else (old + 1) % 40) + k) % 40)) ≤ zv (va_up clk ((old + kep) % 40) c (((if kep < 40 then old else (old + 1) % 40) + (k + 1)) % 40))
      intro k hk
      by_cases hz : kep < 40
      · rw [if_pos hz] at hk ⊢
        rw [va_up_ne _ _ (show (old + k) % 40 ≠ (old + kep) % 40 from by omega)]
        by_cases e : k + 1 = kep
        · rw [e, xu_self]; exact a9 k (by omega)
        · rw [va_up_ne _ _ (show (old + (k + 1)) % 40 ≠ (old + kep) % 40 from by omega)]
          exact a10 k (by omega)
      · rw [if_neg hz] at hk ⊢
        rw [va_up_ne _ _ (show ((old + 1) % 40 + k) % 40 ≠ (old + kep) % 40 from by omega), show ((old + 1) % 40 + k) % 40 = (old + (k + 1)) % 40 from by omega]
        by_cases e : k + 1 = 39
        · rw [show ((old + 1) % 40 + (k + 1)) % 40 = (old + kep) % 40 from by omega, xu_self]; exact a9 (k + 1) (by omega)
        · rw [va_up_ne _ _ (show ((old + 1) % 40 + (k + 1)) % 40 ≠ (old + kep) % 40 from by omega), show ((old + 1) % 40 + (k + 1)) % 40 = (old + ((k + 1) + 1)) % 40 from by omega]
          exact a10 (k + 1) (by omega)
theorem IP_stp {pit : Nat → Nat} {cnt shf gov : Nat} {x : Wst} (h : IP cnt x.2.2.2.2 x.1) (hcn : cnt ≤ 24) (hs : shf < 3) (hpit : ∀ k, pit k < 48) (hc : okC 100000 (stpW pit cnt shf gov x).2.2.2.2) (hz : zv x.2.2.2.2 ≤ zv (stpW pit cnt shf gov x).2.2.2.2) : IP cnt (stpW pit cnt shf gov x).2.2.2.2 (stpW pit cnt shf gov x).1 := by
  obtain ⟨x, wnd, plo, stp, cks⟩ := x
  exact pls_keep (G := IP cnt (FP.dadd cks (tckF gov wnd))) (IP_later h hz) (fun tn y h1 h2 h3 h4 => IP_plk h2 hcn h1 hs (Nat.mod_lt _ (by decide)) (hpit tn) hc h3 h4) cnt (Nat.le_refl _)
theorem IP_run {pit : Nat → Nat} {cnt shf gov : Nat} (hg : 1 ≤ gov ∧ gov ≤ 8) (hcn : cnt ≤ 24) (hs : shf < 3) (hpit : ∀ k, pit k < 48) : ∀ (n m : Nat) (x : Wst), IP cnt x.2.2.2.2 x.1 → okC m x.2.2.2.2 → m + n ≤ 100000 → x.2.1 ≤ 2000 → IP cnt (runW pit cnt shf gov n x).2.2.2.2 (runW pit cnt shf gov n x).1
  | 0, _, _, h, _, _, _ => h
  | n + 1, m, x, h, hc, hm, hw2 => by
    by_cases hw : 0 < x.2.1
    · rw [run_s hw]
      obtain ⟨x, wnd, plo, stp, cks⟩ := x
      obtain ⟨a1, a2⟩ := okC_add (g := gov) (w := wnd) hc (by omega) hg hw2
      exact IP_run hg hcn hs hpit n (m + 1) _ (IP_stp h hcn hs hpit (okC_le a1 (by omega)) a2) a1 (by omega) (Nat.le_trans (stpW_wnd pit cnt shf gov x wnd plo stp cks) hw2)
    · rw [run_z hw]
      exact h
theorem okP_IP {cnt shf : Nat} {c : UInt64} {x : Pst} (h : IP cnt c x) (hs : shf < 3) : okP cnt shf x := by
  obtain ⟨bro, scr, plu, las, plc, wea, pts, clk, old, kep, evr, buz, wor⟩ := x
  obtain ⟨a1, a2, a3, a4, a5, a6, a7, a8, a9, a10⟩ := h
  refine ⟨fun t h1 h2 => ?_, fun t q h1 h2 h3 => a2 shf t q hs h1 h2 h3, a5, by omega⟩
  obtain ⟨b1, b2⟩ := a1 t h1
  rw [h2] at b2
  have b3 := of_decide_eq_false b2.symm
  omega
