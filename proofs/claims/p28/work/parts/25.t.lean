/-! Tunes: NOTES in their order, and how many two TUNES share. -/
def SO (no : Nat → Nat) (b n : Nat) : Prop := ∀ i, i + 1 < n → no (b + i) < no (b + (i + 1))
theorem SO_lt {no : Nat → Nat} {b n : Nat} (h : SO no b n) : ∀ j i, i < j → j < n → no (b + i) < no (b + j)
  | 0, i, h1, _ => absurd h1 (by omega)
  | j + 1, i, h1, h2 => by
    by_cases e : i = j
    · subst e; exact h i h2
    · exact Nat.lt_trans (SO_lt h j i (by omega) (by omega)) (h j h2)
theorem SO_inj {no : Nat → Nat} {b n i j : Nat} (h : SO no b n) (hi : i < n) (hj : j < n) (e : no (b + i) = no (b + j)) : i = j := by
  rcases Nat.lt_trichotomy i j with q | q | q
  · have := SO_lt h j i q hj; omega
  · exact q
  · have := SO_lt h i j q hi; omega
theorem SO_cong {no no2 : Nat → Nat} {b n : Nat} (h : SO no b n) (e : ∀ i, i < n → no2 (b + i) = no (b + i)) : SO no2 b n := fun i hi => by rw [e i (by omega), e (i + 1) hi]; exact h i hi
theorem rk_spec (no : Nat → Nat) (b nt : Nat) : ∀ n, (∀ i, i < rkF no b nt n → no (b + i) < nt) ∧ (rkF no b nt n < n → nt ≤ no (b + rkF no b nt n))
  | 0 => ⟨fun i h => absurd h (Nat.not_lt_zero i), fun h => absurd h (Nat.not_lt_zero _)⟩
  | n + 1 => by
    obtain ⟨a1, a2⟩ := rk_spec no b nt n
    by_cases hz : rkF no b nt n = n ∧ no (b + n) < nt
    · have e : rkF no b nt (n + 1) = n + 1 := if_pos hz
      rw [e]
      refine ⟨fun i hi => ?_, fun h => absurd h (by omega)⟩
      by_cases e2 : i = n
      · rw [e2]; exact hz.2
      · exact a1 i (by have := hz.1; omega)
    · have e : rkF no b nt (n + 1) = rkF no b nt n := if_neg hz
      rw [e]
      refine ⟨a1, fun h => ?_⟩
      by_cases h2 : rkF no b nt n = n
      · rw [h2]; exact Nat.le_of_not_lt (fun h3 => hz ⟨h2, h3⟩)
      · exact a2 (by have := rkF_le no b nt n; omega)
theorem hd_iff {no : Nat → Nat} {b nt n : Nat} (h : SO no b n) : hdF no b nt n = true ↔ ∃ i, i < n ∧ no (b + i) = nt := by
  obtain ⟨a1, a2⟩ := rk_spec no b nt n
  unfold hdF
  constructor
  · intro h1
    rw [Bool.and_eq_true] at h1
    exact ⟨_, of_decide_eq_true h1.1, of_decide_eq_true h1.2⟩
  · rintro ⟨i, hi, e⟩
    have h1 : rkF no b nt n ≤ i := by
      rcases Nat.lt_or_ge i (rkF no b nt n) with q | q
      · have := a1 i q; omega
      · exact q
    have h2 := a2 (by omega)
    have h3 : rkF no b nt n = i := by
      rcases Nat.lt_or_ge (rkF no b nt n) i with q | q
      · have := SO_lt h i _ q hi; omega
      · omega
    rw [h3, decide_eq_true hi, decide_eq_true e]
    rfl
theorem wr_val {no : Nat → Nat} {b nt n i : Nat} (hi : i ≤ n) : wrF no b nt n (b + i) = if i < rkF no b nt n then no (b + i) else if i = rkF no b nt n then nt else no (b + (i - 1)) := by
  have h1 := rkF_le no b nt n
  unfold wrF
  by_cases e : i = rkF no b nt n
  · rw [← e, xu_self, if_neg (by omega), if_pos rfl]
  · rw [va_up_ne _ _ (show b + i ≠ b + rkF no b nt n from by omega)]
    unfold shF
    by_cases h2 : i < rkF no b nt n
    · rw [if_pos h2, if_neg (by omega)]
    · rw [if_neg h2, if_neg e, if_pos (by omega)]
      congr 1
      omega
theorem wr_out {no : Nat → Nat} {b nt n k : Nat} (hk : k < b ∨ b + n < k) : wrF no b nt n k = no k := by
  have h1 := rkF_le no b nt n
  unfold wrF
  rw [va_up_ne _ _ (show k ≠ b + rkF no b nt n from by omega)]
  unfold shF
  rw [if_neg (by omega)]
theorem wr_SO {no : Nat → Nat} {b nt n : Nat} (h : SO no b n) (hh : hdF no b nt n = false) : SO (wrF no b nt n) b (n + 1) := by
  obtain ⟨a1, a2⟩ := rk_spec no b nt n
  have h1 := rkF_le no b nt n
  intro i hi
  rw [wr_val (show i ≤ n from by omega), wr_val (show i + 1 ≤ n from by omega)]
  rcases Nat.lt_trichotomy (i + 1) (rkF no b nt n) with q | q | q
  · rw [if_pos (by omega), if_pos q]
    exact h i (by omega)
  · rw [if_pos (by omega), if_neg (by omega), if_pos q]
    exact a1 i (by omega)
  · rw [if_neg (show ¬ i + 1 < rkF no b nt n from by omega), if_neg (show ¬ i + 1 = rkF no b nt n from by omega), if_neg (show ¬ i < rkF no b nt n from by omega)]
    by_cases e : i = rkF no b nt n
    · rw [if_pos e]
      have h2 := a2 (by omega)
      rw [← e] at h2
      show nt < no (b + i)
      rcases Nat.lt_or_ge nt (no (b + i)) with q2 | q2
      · exact q2
      · have h3 := (hd_iff (nt := nt) h).mpr ⟨i, by omega, by omega⟩
        rw [hh] at h3
        exact absurd h3 (by decide)
    · rw [if_neg e]
      have h2 := h (i - 1) (by omega)
      rw [show i - 1 + 1 = i from by omega] at h2
      exact h2
theorem st_SO {no : Nat → Nat} {b nt n : Nat} (h : SO no b (n + 1)) : SO (stF no b nt n) b n := by
  have h1 := rkF_le no b nt n
  intro i hi
  unfold stF dlF
  by_cases q1 : i < rkF no b nt n
  · rw [if_neg (by omega)]
    by_cases q2 : i + 1 < rkF no b nt n
    · rw [if_neg (by omega)]
      exact h i (by omega)
    · rw [if_pos (by omega)]
      exact SO_lt h (i + 2) i (by omega) (by omega)
  · rw [if_pos (by omega), if_pos (by omega)]
    exact SO_lt h (i + 2) (i + 1) (by omega) (by omega)
theorem st_out {no : Nat → Nat} {b nt n k : Nat} (hk : k < b ∨ b + n ≤ k) : stF no b nt n k = no k := by
  unfold stF dlF
  rw [if_neg (by omega)]
/-- what holds of the two TUNES -/
def TI (siz no : Nat → Nat) : Prop := (∀ k, no k < 3072) ∧ (∀ k, siz k ≤ 30) ∧ SO no (0 * 30) (siz 0) ∧ SO no (1 * 30) (siz 1)
theorem TI_one {siz no : Nat → Nat} (h : TI siz no) {tu : Nat} (ht : tu < 2) : SO no (tu * 30) (siz tu) := by
  rcases (show tu = 0 ∨ tu = 1 from by omega) with rfl | rfl
  · exact h.2.2.1
  · exact h.2.2.2
theorem TI_of {siz no siz2 no2 : Nat → Nat} {tu : Nat} (h : TI siz no) (ht : tu < 2) (h1 : ∀ k, no2 k < 3072) (h2 : ∀ k, siz2 k ≤ 30) (h3 : SO no2 (tu * 30) (siz2 tu)) (h4 : ∀ k, k ≠ tu → siz2 k = siz k) (h5 : ∀ k, k < tu * 30 ∨ tu * 30 + 30 ≤ k → no2 k = no k) : TI siz2 no2 := by
  obtain ⟨a1, a2, a3, a4⟩ := h
  rcases (show tu = 0 ∨ tu = 1 from by omega) with rfl | rfl
  · refine ⟨h1, h2, h3, ?_⟩
    rw [h4 1 (by omega)]
    exact SO_cong a4 (fun i hi => h5 _ (by omega))
  · refine ⟨h1, h2, ?_, h3⟩
    have h6 := a2 0
    rw [h4 0 (by omega)]
    exact SO_cong a3 (fun i hi => h5 _ (by omega))
theorem TI_note {siz no : Nat → Nat} {tu nt : Nat} (h : TI siz no) (ht : tu < 2) (hnt : nt < 3072) (hrm : hdF no (tu * 30) nt (siz tu) = false → siz tu < 30) : TI (va_up siz tu (if hdF no (tu * 30) nt (siz tu) then siz tu - 1 else siz tu + 1)) (if hdF no (tu * 30) nt (siz tu) then stF no (tu * 30) nt (siz tu - 1) else wrF no (tu * 30) nt (siz tu)) := by
  have hs := TI_one h ht
  have h30 := h.2.1 tu
  cases hb : hdF no (tu * 30) nt (siz tu) with
  | true =>
    have hp := hdF_pos hb
    refine TI_of h ht (fun k => dlF_lt h.1 _ _ k) (fun k => ?_) ?_ (fun k hk => va_up_ne _ _ hk) (fun k hk => st_out (by omega))
    · show va_up siz tu (siz tu - 1) k ≤ 30
      by_cases e : k = tu
      · rw [e, xu_self]; omega
      · rw [va_up_ne _ _ e]; exact h.2.1 k
    · show SO (stF no (tu * 30) nt (siz tu - 1)) (tu * 30) (va_up siz tu (siz tu - 1) tu)
      rw [xu_self]
      exact st_SO (by rw [show siz tu - 1 + 1 = siz tu from by omega]; exact hs)
  | false =>
    have hlt := hrm hb
    refine TI_of h ht (fun k => va_up_lt (fun k => shF_lt h.1 _ _ _ k) hnt _ k) (fun k => ?_) ?_ (fun k hk => va_up_ne _ _ hk) (fun k hk => wr_out (by omega))
    · show va_up siz tu (siz tu + 1) k ≤ 30
      by_cases e : k = tu
      · rw [e, xu_self]; omega
      · rw [va_up_ne _ _ e]; exact h.2.1 k
    · show SO (wrF no (tu * 30) nt (siz tu)) (tu * 30) (va_up siz tu (siz tu + 1) tu)
      rw [xu_self]
      exact wr_SO hs hb
/-! How many are shared: both ways the same. -/
def ctS (r : Nat → Nat → Bool) (n2 : Nat) : Nat → Nat
  | 0 => 0
  | i + 1 => ctS r n2 i + fb_ct (r i) n2
theorem ctS_0 (r : Nat → Nat → Bool) : ∀ n, ctS r 0 n = 0
  | 0 => rfl
  | n + 1 => by rw [ctS, ctS_0 r n]; rfl
theorem ctS_s (r : Nat → Nat → Bool) (n2 : Nat) : ∀ n, ctS r (n2 + 1) n = ctS r n2 n + fb_ct (fun i => r i n2) n
  | 0 => rfl
  | n + 1 => by
    rw [ctS, ctS, ctS_s r n2 n, fb_ct_succ, fb_ct_succ]
    omega
theorem ctS_flip (r : Nat → Nat → Bool) (n1 : Nat) : ∀ n2, ctS r n2 n1 = ctS (fun j i => r i j) n1 n2
  | 0 => ctS_0 r n1
  | n2 + 1 => by rw [ctS_s, ctS_flip r n1 n2, ctS]
theorem ct_one {f : Nat → Bool} : ∀ {n : Nat}, (∀ j k, j < n → k < n → f j = true → f k = true → j = k) → fb_ct f n ≤ 1
  | 0, _ => Nat.zero_le _
  | n + 1, h => by
    rw [fb_ct_succ]
    cases hb : f n with
    | false =>
      have ih := ct_one (f := f) (n := n) (fun j k h1 h2 => h j k (by omega) (by omega))
      exact ih
    | true =>
      have h0 : fb_ct f n = 0 := fb_ct_zero.mpr (fun k hk => by
        cases hc : f k with
        | false => rfl
        | true => have := h k n (by omega) (by omega) hc hb; omega)
      rw [h0]
      exact Nat.le_refl _
theorem ct_row {r : Nat → Nat → Bool} {p : Nat → Bool} {n2 : Nat} : ∀ n1, (∀ i, i < n1 → ∀ j k, j < n2 → k < n2 → r i j = true → r i k = true → j = k) → (∀ i, i < n1 → (p i = true ↔ ∃ j, j < n2 ∧ r i j = true)) → fb_ct p n1 = ctS r n2 n1
  | 0, _, _ => rfl
  | n + 1, h1, h2 => by
    rw [fb_ct_succ, ctS, ct_row n (fun i hi => h1 i (by omega)) (fun i hi => h2 i (by omega))]
    congr 1
    have h3 := ct_one (h1 n (by omega))
    have h4 := h2 n (by omega)
    cases hb : p n with
    | true =>
      have h5 := fb_ct_pos.mpr (h4.mp hb)
      show 1 = _
      omega
    | false =>
      have h5 : ¬ 0 < fb_ct (r n) n2 := fun h => by
        have h6 := h4.mpr (fb_ct_pos.mp h)
        rw [hb] at h6
        exact absurd h6 (by decide)
      show 0 = _
      omega
theorem ct_swap {r : Nat → Nat → Bool} {p q : Nat → Bool} {n1 n2 : Nat} (h1 : ∀ i, i < n1 → ∀ j k, j < n2 → k < n2 → r i j = true → r i k = true → j = k) (h2 : ∀ j, j < n2 → ∀ i k, i < n1 → k < n1 → r i j = true → r k j = true → i = k) (hp : ∀ i, i < n1 → (p i = true ↔ ∃ j, j < n2 ∧ r i j = true)) (hq : ∀ j, j < n2 → (q j = true ↔ ∃ i, i < n1 ∧ r i j = true)) : fb_ct p n1 = fb_ct q n2 := by
  rw [ct_row n1 h1 hp, ctS_flip, ← ct_row (r := fun j i => r i j) n2 h2 hq]
def sdC (no : Nat → Nat) (b b2 n2 : Nat) (hi : Int32) (i : Nat) : Prop := ¬ nI (no (b + i) % 48) - hi < 0 ∧ ¬ nI 48 ≤ nI (no (b + i) % 48) - hi ∧ hdF no b2 (no (b + i) / 48 * 48 + (nI (no (b + i) % 48) - hi).toNatClampNeg) n2 = true
theorem sd_ct (no : Nat → Nat) (b b2 n2 : Nat) (hi : Int32) (p : Nat → Bool) (hp : ∀ i, p i = true ↔ sdC no b b2 n2 hi i) : ∀ n, sdF no b b2 n2 hi n = fb_ct p n
  | 0 => rfl
  | n + 1 => by
    rw [fb_ct_succ]
    by_cases hz : sdC no b b2 n2 hi n
    · have e : sdF no b b2 n2 hi (n + 1) = sdF no b b2 n2 hi n + 1 := if_pos hz
      rw [e, sd_ct no b b2 n2 hi p hp n, (hp n).mpr hz]
      rfl
    · have e : sdF no b b2 n2 hi (n + 1) = sdF no b b2 n2 hi n := if_neg hz
      have e2 : p n = false := by
        cases hb : p n with
        | false => rfl
        | true => exact absurd ((hp n).mp hb) hz
      rw [e, sd_ct no b b2 n2 hi p hp n, e2]
      rfl
def mtB (no : Nat → Nat) (h : Int) (b b2 i j : Nat) : Bool := decide (no (b + i) / 48 = no (b2 + j) / 48 ∧ ((no (b + i) % 48 : Nat) : Int) - h = ((no (b2 + j) % 48 : Nat) : Int))
theorem sd_mt {no : Nat → Nat} {b b2 n2 i : Nat} {hi : Int32} (h : SO no b2 n2) (h1 : -24 ≤ hi.toInt) (h2 : hi.toInt ≤ 24) : sdC no b b2 n2 hi i ↔ ∃ j, j < n2 ∧ mtB no hi.toInt b b2 i j = true := by
  have hx : (nI (no (b + i) % 48) - hi).toInt = ((no (b + i) % 48 : Nat) : Int) - hi.toInt := by
    rw [Int32.toInt_sub, nI_toInt (by omega)]
    exact Int.bmod_eq_of_le (by omega) (by omega)
  constructor
  · rintro ⟨c1, c2, c3⟩
    obtain ⟨j, hj, e⟩ := xk_rng c1 c2
    rw [e, nI_clamp (by omega)] at c3
    rw [e, nI_toInt (by omega)] at hx
    obtain ⟨k, hk, e2⟩ := (hd_iff h).mp c3
    exact ⟨k, hk, decide_eq_true ⟨by omega, by omega⟩⟩
  · rintro ⟨j, hj, e⟩
    obtain ⟨e1, e2⟩ := of_decide_eq_true e
    have e3 : nI (no (b + i) % 48) - hi = nI (no (b2 + j) % 48) := Int32.toInt.inj (by rw [hx, e2, nI_toInt (by omega)])
    unfold sdC
    rw [e3, nI_clamp (by omega)]
    exact ⟨nI_pos (by omega), nI_ge (by omega) (by decide), (hd_iff h).mpr ⟨j, hj, by omega⟩⟩
theorem sd_sym {no : Nat → Nat} {b b2 n n2 : Nat} {hi hj : Int32} (h : SO no b n) (h3 : SO no b2 n2) (h1 : -24 ≤ hi.toInt) (h2 : hi.toInt ≤ 24) (e : hj.toInt = -hi.toInt) : sdF no b b2 n2 hi n = sdF no b2 b n hj n2 := by
  classical
  rw [sd_ct no b b2 n2 hi (fun i => decide (sdC no b b2 n2 hi i)) (fun i => decide_eq_true_iff), sd_ct no b2 b n hj (fun i => decide (sdC no b2 b n hj i)) (fun i => decide_eq_true_iff)]
  refine ct_swap (r := fun i j => mtB no hi.toInt b b2 i j) ?_ ?_ (fun i _ => decide_eq_true_iff.trans (sd_mt h3 h1 h2)) (fun j _ => decide_eq_true_iff.trans ((sd_mt h (by omega) (by omega)).trans ?_))
  · intro i _ j k hj hk m1 m2
    have m1 := of_decide_eq_true m1
    have m2 := of_decide_eq_true m2
    exact SO_inj h3 hj hk (by omega)
  · intro j _ i k hi2 hk m1 m2
    have m1 := of_decide_eq_true m1
    have m2 := of_decide_eq_true m2
    exact SO_inj h hi2 hk (by omega)
  · constructor
    · rintro ⟨i, hi2, m⟩
      have m := of_decide_eq_true m
      exact ⟨i, hi2, decide_eq_true ⟨by omega, by omega⟩⟩
    · rintro ⟨i, hi2, m⟩
      have m := of_decide_eq_true m
      exact ⟨i, hi2, decide_eq_true ⟨by omega, by omega⟩⟩
theorem sd_self {no : Nat → Nat} {b n : Nat} (h : SO no b n) : sdF no b b n (nI 0) n = n := by
  classical
  rw [sd_ct no b b n (nI 0) (fun i => decide (sdC no b b n (nI 0) i)) (fun i => decide_eq_true_iff)]
  refine fb_ct_all.mpr (fun k hk => ?_)
  refine decide_eq_true ((sd_mt h (by decide) (by decide)).mpr ⟨k, hk, decide_eq_true ⟨rfl, ?_⟩⟩)
  rw [show (nI 0).toInt = 0 from by decide]
  omega
theorem li_sym {siz no : Nat → Nat} {hi hj : Int32} (h : TI siz no) (h1 : -24 ≤ hi.toInt) (h2 : hi.toInt ≤ 24) (e : hj.toInt = -hi.toInt) : liF siz no 0 1 hi = liF siz no 1 0 hj := by
  unfold liF
  rw [Nat.max_comm (siz 1) (siz 0), sd_sym h.2.2.1 h.2.2.2 h1 h2 e]
theorem li_self {siz no : Nat → Nat} {tu : Nat} (h : TI siz no) (ht : tu < 2) : liF siz no tu tu (nI 0) = if siz tu = 0 then FP.dconst0 else FP.ddiv (FP.i2d (nI (siz tu))) (FP.i2d (nI (siz tu))) := by
  unfold liF
  rw [Nat.max_self, sd_self (TI_one h ht)]
theorem bk_rng (L : Int32 → Nat) : ∀ k, ∃ j, j ≤ k ∧ ((bkF L k).1 = nI j ∨ (bkF L k).1 = -nI j)
  | 0 => ⟨0, Nat.le_refl _, Or.inl rfl⟩
  | k + 1 => by
    obtain ⟨j, hj, h⟩ := bk_rng L k
    have h0 : ∃ j, j ≤ k + 1 ∧ ((bkF L k).1 = nI j ∨ (bkF L k).1 = -nI j) := ⟨j, by omega, h⟩
    have hA : ∃ j, j ≤ k + 1 ∧ (nI (k + 1) = nI j ∨ nI (k + 1) = -nI j) := ⟨k + 1, Nat.le_refl _, Or.inl rfl⟩
    have hB : ∃ j, j ≤ k + 1 ∧ (-nI (k + 1) = nI j ∨ -nI (k + 1) = -nI j) := ⟨k + 1, Nat.le_refl _, Or.inr rfl⟩
    rw [bkF]
    split
    · exact h0
    · split <;> first | exact hA | exact hB | exact h0 | (split <;> first | exact hA | exact hB | exact h0)
theorem bk_in (L : Int32 → Nat) : ∃ x, (bkF L 24).1 = x ∧ (-24 ≤ x.toInt ∧ x.toInt ≤ 24) ∧ (-x).toInt = -x.toInt ∧ ¬ x < -24 ∧ x ≤ nI 24 ∧ ¬ -x < -24 ∧ -x ≤ nI 24 := by
  obtain ⟨j, hj, h⟩ := bk_rng L 24
  refine ⟨_, rfl, ?_⟩
  generalize (bkF L 24).1 = x at h
  have h24 : (-24 : Int32).toInt = -24 := by decide
  have n24 : (nI 24).toInt = 24 := by decide
  have e1 : (nI j).toInt = (j : Int) := nI_toInt (by omega)
  have e2 : (-nI j).toInt = -(j : Int) := sb_negT (by omega)
  have e3 : x.toInt = (j : Int) ∧ (-x).toInt = -(j : Int) ∨ x.toInt = -(j : Int) ∧ (-x).toInt = (j : Int) := by
    rcases h with rfl | rfl
    · exact Or.inl ⟨e1, e2⟩
    · exact Or.inr ⟨e2, by rw [Int32.neg_neg]; exact e1⟩
  refine ⟨by omega, by omega, ?_, ?_, ?_, ?_⟩
  · rw [Int32.lt_iff_toInt_lt, h24]; omega
  · rw [Int32.le_iff_toInt_le, n24]; omega
  · rw [Int32.lt_iff_toInt_lt, h24]; omega
  · rw [Int32.le_iff_toInt_le, n24]; omega
