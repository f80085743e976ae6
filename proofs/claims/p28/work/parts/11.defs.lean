/-! ===== Int64 as a set of bits: test, set, clear ===== -/
theorem ts_nf {x : Bool} (h : ¬ x = false) : x = true := by cases x <;> first | rfl | exact absurd rfl h
theorem ts_nt {x : Bool} (h : ¬ x = true) : x = false := by cases x <;> first | rfl | exact absurd rfl h
theorem ts_bit {w : Int64} {s : UInt64} {j : Nat} (hj : j < 64) (hs : s.toNat = j) : ((w.toUInt64 >>> s).toInt64 &&& 1) = 0 ↔ w.toBitVec.getLsbD j = false := by
  have e : (w.toUInt64 >>> s).toInt64.toBitVec = w.toBitVec >>> j := by
    apply BitVec.eq_of_toNat_eq
    show (w.toUInt64 >>> s).toNat = _
    rw [UInt64.toNat_shiftRight, hs, Nat.mod_eq_of_lt hj, BitVec.toNat_ushiftRight]
    rfl
  rw [← Int64.toBitVec_inj, Int64.toBitVec_and, e]
  show w.toBitVec >>> j &&& 1#64 = 0#64 ↔ _
  constructor
  · intro h
    have t := congrArg (fun x => x.getLsbD 0) h
    simpa using t
  · intro h
    apply BitVec.eq_of_getLsbD_eq
    intro i hi
    cases i with
    | zero => simp [h]
    | succ i => simp
theorem ts_or {w m : Int64} {j : Nat} (hj : j < 64) (hm : m.toBitVec = BitVec.twoPow 64 j) : (w ||| m) = w ↔ w.toBitVec.getLsbD j = true := by
  rw [← Int64.toBitVec_inj, Int64.toBitVec_or, hm]
  constructor
  · intro h
    have t := congrArg (fun x => x.getLsbD j) h
    simp only [BitVec.getLsbD_or, BitVec.getLsbD_twoPow] at t
    simpa [hj] using t.symm
  · intro h
    apply BitVec.eq_of_getLsbD_eq
    intro i hi
    rw [BitVec.getLsbD_or, BitVec.getLsbD_twoPow]
    by_cases e : j = i
    · subst e; rw [h, Bool.true_or]
    · simp [e]
theorem ts_and {w m : Int64} {j : Nat} (hj : j < 64) (hm : m.toBitVec = BitVec.twoPow 64 j) : (w &&& (m ^^^ (-1))) = w ↔ w.toBitVec.getLsbD j = false := by
  have ha : (-1 : Int64).toBitVec = BitVec.allOnes 64 := by decide
  rw [← Int64.toBitVec_inj, Int64.toBitVec_and, Int64.toBitVec_xor, hm, ha]
  constructor
  · intro h
    have t := congrArg (fun x => x.getLsbD j) h
    simp only [BitVec.getLsbD_and, BitVec.getLsbD_xor, BitVec.getLsbD_twoPow, BitVec.getLsbD_allOnes] at t
    simpa [hj] using t.symm
  · intro h
    apply BitVec.eq_of_getLsbD_eq
    intro i hi
    rw [BitVec.getLsbD_and, BitVec.getLsbD_xor, BitVec.getLsbD_twoPow, BitVec.getLsbD_allOnes]
    by_cases e : j = i
    · subst e; rw [h, Bool.false_and]
    · simp [e, hi]
/-! ===== lN n to 2^64: shifts, and, or, masks, one bit ===== -/
theorem wb_tb (n : Nat) : (lN n).toBitVec = BitVec.ofNat 64 n := rfl
theorem wb_inj {a b : Int64} (h : a.toBitVec = b.toBitVec) : a = b := Int64.toBitVec_inj.mp h
theorem wb_tn {n : Nat} (h : n < 2 ^ 64) : (lN n).toBitVec.toNat = n := by rw [wb_tb, BitVec.toNat_ofNat, Nat.mod_eq_of_lt h]
theorem wb_of (x : Int64) : ∃ n, n < 2 ^ 64 ∧ x = lN n := ⟨x.toBitVec.toNat, x.toBitVec.isLt, wb_inj (by rw [wb_tb]; simp)⟩
theorem wb_of32 (x : Int32) : ∃ n, n < 2 ^ 32 ∧ x = nI n := ⟨x.toBitVec.toNat, x.toBitVec.isLt, Int32.toBitVec_inj.mp (by show _ = BitVec.ofNat 32 _; simp)⟩
theorem wb_c : ∀ k, k < 64 → ((nI k).toInt64 &&& 63) = lN k := by decide +kernel
theorem wb_cu : ∀ k, k < 64 → ((nI k).toInt64.toUInt64 &&& Int64.toUInt64 63) = UInt64.ofNat k := by decide +kernel
theorem wb_sm : ∀ k, k < 64 → (BitVec.ofNat 64 k).smod 64 = BitVec.ofNat 64 k := by decide +kernel
theorem wb_pw {a b : Nat} (h : a ≤ b) : 2 ^ b = 2 ^ a * 2 ^ (b - a) := by rw [← Nat.pow_add]; congr 1; omega
theorem wb_lt2 {a b : Nat} (h : a < b) : 2 ^ a < 2 ^ b := Nat.pow_lt_pow_right (by decide) h
theorem wb_mod (n : Nat) : lN n = lN (n % 2 ^ 64) := wb_inj (by rw [wb_tb, wb_tb]; apply BitVec.eq_of_toNat_eq; rw [BitVec.toNat_ofNat, BitVec.toNat_ofNat, Nat.mod_mod])
theorem wb_shr {n k : Nat} (hn : n < 2 ^ 64) (hk : k < 64) : ((lN n).toUInt64 >>> ((nI k).toInt64.toUInt64 &&& Int64.toUInt64 63)).toInt64 = lN (n / 2 ^ k) := by
  rw [wb_cu k hk]
  apply wb_inj
  apply BitVec.eq_of_toNat_eq
  show ((lN n).toUInt64 >>> UInt64.ofNat k).toNat = (BitVec.ofNat 64 _).toNat
  have h1 : (UInt64.ofNat k).toNat = k := by
    show (BitVec.ofNat 64 k).toNat = k
    rw [BitVec.toNat_ofNat, Nat.mod_eq_of_lt (by omega)]
  have h2 : (lN n).toUInt64.toNat = n := wb_tn hn
  rw [UInt64.toNat_shiftRight, h1, h2, Nat.mod_eq_of_lt hk, Nat.shiftRight_eq_div_pow, BitVec.toNat_ofNat, Nat.mod_eq_of_lt (Nat.lt_of_le_of_lt (Nat.div_le_self _ _) hn)]
theorem wb_shl (n : Nat) {k : Nat} (hk : k < 64) : lN n <<< ((nI k).toInt64 &&& 63) = lN (n * 2 ^ k) := by
  rw [wb_c k hk]
  apply wb_inj
  rw [Int64.toBitVec_shiftLeft, wb_tb, wb_tb, wb_tb, wb_sm k hk]
  apply BitVec.eq_of_toNat_eq
  rw [BitVec.shiftLeft_eq', BitVec.toNat_shiftLeft, BitVec.toNat_ofNat, BitVec.toNat_ofNat, BitVec.toNat_ofNat, Nat.mod_eq_of_lt (show k < 2 ^ 64 by omega), Nat.shiftLeft_eq, Nat.mul_mod, Nat.mod_mod, ← Nat.mul_mod]
theorem wb_and {a b : Nat} (ha : a < 2 ^ 64) (hb : b < 2 ^ 64) : lN a &&& lN b = lN (a &&& b) := by
  apply wb_inj
  rw [Int64.toBitVec_and, wb_tb, wb_tb, wb_tb]
  apply BitVec.eq_of_toNat_eq
  rw [BitVec.toNat_and, BitVec.toNat_ofNat, BitVec.toNat_ofNat, BitVec.toNat_ofNat, Nat.mod_eq_of_lt ha, Nat.mod_eq_of_lt hb, Nat.mod_eq_of_lt (Nat.and_lt_two_pow _ hb)]
theorem wb_or {a b : Nat} (ha : a < 2 ^ 64) (hb : b < 2 ^ 64) : lN a ||| lN b = lN (a ||| b) := by
  apply wb_inj
  rw [Int64.toBitVec_or, wb_tb, wb_tb, wb_tb]
  apply BitVec.eq_of_toNat_eq
  rw [BitVec.toNat_or, BitVec.toNat_ofNat, BitVec.toNat_ofNat, BitVec.toNat_ofNat, Nat.mod_eq_of_lt ha, Nat.mod_eq_of_lt hb, Nat.mod_eq_of_lt (Nat.or_lt_two_pow ha hb)]
theorem wb_mask {n k : Nat} (hn : n < 2 ^ 64) (hk : k < 64) : lN n &&& lN (2 ^ k - 1) = lN (n % 2 ^ k) := by
  rw [wb_and hn (by have := wb_lt2 hk; omega), Nat.and_two_pow_sub_one_eq_mod]
theorem wb_a1 {n : Nat} (hn : n < 2 ^ 64) : lN n &&& 1 = lN (n % 2) := wb_mask (k := 1) hn (by decide)
theorem wb_bit {n k : Nat} (hn : n < 2 ^ 64) (hk : k < 64) : ((lN n).toUInt64 >>> ((nI k).toInt64.toUInt64 &&& Int64.toUInt64 63)).toInt64 &&& 1 = lN (n / 2 ^ k % 2) := by
  rw [wb_shr hn hk, wb_a1 (Nat.lt_of_le_of_lt (Nat.div_le_self _ _) hn)]
theorem wb_xor {q k : Nat} (hk : k < 63) (h : 2 ^ k ≤ q) (h2 : q < 2 ^ (k + 1)) : lN q ^^^ lN (2 ^ k) = lN (q - 2 ^ k) := by
  obtain ⟨r, rfl⟩ : ∃ r, q = 2 ^ k + r := ⟨q - 2 ^ k, by omega⟩
  have hr : r < 2 ^ k := by rw [Nat.pow_succ] at h2; omega
  have hx : (2 ^ k + r) ^^^ 2 ^ k = r := by
    apply Nat.eq_of_testBit_eq
    intro i
    rw [Nat.testBit_xor, Nat.testBit_two_pow]
    rcases Nat.lt_trichotomy i k with h | h | h
    · rw [Nat.testBit_two_pow_add_gt h]
      simp [show ¬ k = i by omega]
    · subst h
      rw [Nat.testBit_two_pow_add_eq]
      simp
    · have a1 : 2 ^ (k + 1) ≤ 2 ^ i := Nat.pow_le_pow_right (by decide) h
      rw [Nat.testBit_lt_two_pow (show 2 ^ k + r < 2 ^ i by omega), Nat.testBit_lt_two_pow (show r < 2 ^ i by omega)]
      simp [show ¬ k = i by omega]
  have b1 := wb_lt2 (show k + 1 < 64 by omega)
  have b2 := wb_lt2 (show k < 64 by omega)
  apply wb_inj
  rw [Int64.toBitVec_xor, wb_tb, wb_tb, wb_tb]
  apply BitVec.eq_of_toNat_eq
  rw [BitVec.toNat_xor, BitVec.toNat_ofNat, BitVec.toNat_ofNat, BitVec.toNat_ofNat, Nat.mod_eq_of_lt (by omega : 2 ^ k + r < 2 ^ 64), Nat.mod_eq_of_lt b2, hx, Nat.add_sub_cancel_left, Nat.mod_eq_of_lt (by omega)]
/-! ===== Int64 as an unsigned number: uN x ===== -/
def uN (x : Int64) : Nat := x.toUInt64.toNat
theorem uN_lt (x : Int64) : uN x < 18446744073709551616 := x.toUInt64.toNat_lt
theorem uN_inj {x y : Int64} (h : uN x = uN y) : x = y := congrArg UInt64.toInt64 (UInt64.toNat_inj.mp h)
theorem uN_add (x y : Int64) : uN (x + y) = (uN x + uN y) % 18446744073709551616 := by
  show (x.toUInt64 + y.toUInt64).toNat = _
  exact UInt64.toNat_add _ _
theorem uN_mul (x y : Int64) : uN (x * y) = (uN x * uN y) % 18446744073709551616 := by
  show (x.toUInt64 * y.toUInt64).toNat = _
  exact UInt64.toNat_mul _ _
theorem uN_shl (x : Int64) : uN (x <<< ((1 : Int32).toInt64 &&& 63)) = (2 * uN x) % 18446744073709551616 := by
  have h : (((1 : Int32).toInt64 &&& 63).toBitVec.smod 64).toNat = 1 := by decide
  show (x.toBitVec <<< (((1 : Int32).toInt64 &&& 63).toBitVec.smod 64).toNat).toNat = _
  rw [h, BitVec.toNat_shiftLeft, Nat.shiftLeft_eq, Nat.mul_comm]
  rfl
theorem uN_shr (x : Int64) (s : UInt64) : uN (x.toUInt64 >>> s).toInt64 = uN x / 2 ^ (s.toNat % 64) := by
  show (x.toUInt64 >>> s).toNat = _
  rw [UInt64.toNat_shiftRight, Nat.shiftRight_eq_div_pow]
  rfl
theorem uN_s32 (x : Int64) : uN (x.toUInt64 >>> ((32 : Int32).toInt64.toUInt64 &&& Int64.toUInt64 63)).toInt64 = uN x / 4294967296 := by
  have h : ((32 : Int32).toInt64.toUInt64 &&& Int64.toUInt64 63).toNat % 64 = 32 := by decide
  rw [uN_shr, h]
theorem uN_s63 (x : Int64) : uN (x.toUInt64 >>> ((63 : Int32).toInt64.toUInt64 &&& Int64.toUInt64 63)).toInt64 = uN x / 9223372036854775808 := by
  have h : ((63 : Int32).toInt64.toUInt64 &&& Int64.toUInt64 63).toNat % 64 = 63 := by decide
  rw [uN_shr, h]
theorem uN_lo (x : Int64) : uN (x &&& 4294967295) = uN x % 4294967296 := by
  show (x.toUInt64 &&& Int64.toUInt64 4294967295).toNat = _
  rw [UInt64.toNat_and]
  exact Nat.and_two_pow_sub_one_eq_mod _ 32
theorem uN_bit (x : Int64) : (x &&& 1) = 0 ↔ uN x % 2 = 0 := by
  have h : uN (x &&& 1) = uN x % 2 := by
    show (x.toUInt64 &&& Int64.toUInt64 1).toNat = _
    rw [UInt64.toNat_and]
    exact Nat.and_two_pow_sub_one_eq_mod _ 1
  rw [← h]
  exact ⟨fun z => by rw [z]; rfl, fun z => uN_inj (z.trans rfl)⟩
theorem uN_or {x y : Int64} (hy : uN y < 2) : uN ((x <<< ((1 : Int32).toInt64 &&& 63)) ||| y) = (2 * uN x) % 18446744073709551616 + uN y := by
  have h1 : uN ((x <<< ((1 : Int32).toInt64 &&& 63)) ||| y) = uN (x <<< ((1 : Int32).toInt64 &&& 63)) ||| uN y := UInt64.toNat_or _ _
  have h2 : (2 * uN x) % 18446744073709551616 = 2 ^ 1 * (uN x % 9223372036854775808) := by omega
  rw [h1, uN_shl, h2]
  exact (Nat.two_pow_add_eq_or_of_lt (i := 1) hy _).symm
theorem nat_xor {a : Nat} (h : a < 18446744073709551616) : a ^^^ 2 ^ 63 = (a + 9223372036854775808) % 18446744073709551616 := by
  have h1 : (a ^^^ 2 ^ 63) % 2 ^ 63 = a % 2 ^ 63 := by rw [Nat.xor_mod_two_pow, Nat.mod_self, Nat.xor_zero]
  have h2 : (a ^^^ 2 ^ 63) / 2 ^ 63 = (a / 2 ^ 63) ^^^ 1 := by rw [Nat.xor_div_two_pow, Nat.div_self (Nat.two_pow_pos 63)]
  have h3 : a / 2 ^ 63 = 0 ∨ a / 2 ^ 63 = 1 := by omega
  generalize a ^^^ 2 ^ 63 = t at h1 h2
  rcases h3 with h3 | h3
  · rw [h3] at h2
    have h2 : t / 2 ^ 63 = 1 := h2
    omega
  · rw [h3] at h2
    have h2 : t / 2 ^ 63 = 0 := h2
    omega
theorem uN_xor (x : Int64) : uN (x ^^^ (-9223372036854775808)) = (uN x + 9223372036854775808) % 18446744073709551616 := by
  rw [← nat_xor (uN_lt x)]
  exact UInt64.toNat_xor _ _
theorem uN_int (x : Int64) : x.toInt = if 2 * uN x < 18446744073709551616 then (uN x : Int) else (uN x : Int) - 18446744073709551616 := BitVec.toInt_eq_toNat_cond _
theorem uN_le (x y : Int64) : (x ^^^ (-9223372036854775808)) ≤ (y ^^^ (-9223372036854775808)) ↔ uN x ≤ uN y := by
  have hx := uN_lt x
  have hy := uN_lt y
  rw [Int64.le_iff_toInt_le, uN_int, uN_int, uN_xor, uN_xor]
  omega
theorem uN_sk (x : Int64) {k : Nat} (hk : k < 64) : uN (x.toUInt64 >>> ((nI k).toInt64.toUInt64 &&& Int64.toUInt64 63)).toInt64 = uN x / 2 ^ k := by
  have h : ((nI k).toInt64.toUInt64 &&& Int64.toUInt64 63).toNat % 64 = k := by
    rw [nI_l (by omega), UInt64.toNat_and]
    have e : (lN k).toUInt64.toNat = k % 2 ^ 64 := rfl
    have e2 : (Int64.toUInt64 63).toNat = 2 ^ 6 - 1 := by decide
    rw [e, e2, Nat.and_two_pow_sub_one_eq_mod]
    omega
  rw [uN_shr, h]
/-! ===== how many places have a property ===== -/
def fb_ct (p : Nat → Bool) : Nat → Nat
  | 0 => 0
  | n + 1 => fb_ct p n + (if p n then 1 else 0)
theorem fb_ct_succ (p : Nat → Bool) (n : Nat) : fb_ct p (n + 1) = fb_ct p n + (if p n then 1 else 0) := rfl
theorem fb_ct_le (p : Nat → Bool) : ∀ n, fb_ct p n ≤ n
  | 0 => Nat.le_refl _
  | n + 1 => by
    have h := fb_ct_le p n
    rw [fb_ct_succ]
    split <;> omega
theorem fb_ct_step (p : Nat → Bool) (m : Nat) : ∀ n, fb_ct p m ≤ fb_ct p (m + n)
  | 0 => Nat.le_refl _
  | n + 1 => by
    have h := fb_ct_step p m n
    show fb_ct p m ≤ fb_ct p (m + n + 1)
    rw [fb_ct_succ]
    omega
theorem fb_ct_mono (p : Nat → Bool) {m n : Nat} (h : m ≤ n) : fb_ct p m ≤ fb_ct p n := by
  have := fb_ct_step p m (n - m)
  rwa [Nat.add_sub_cancel' h] at this
theorem fb_ct_cong {p q : Nat → Bool} : ∀ {n : Nat}, (∀ k, k < n → p k = q k) → fb_ct p n = fb_ct q n
  | 0, _ => rfl
  | n + 1, h => by
    rw [fb_ct_succ, fb_ct_succ, fb_ct_cong (fun k hk => h k (by omega)), h n (by omega)]
/-- one place changed -/
theorem fb_ct_out (p : Nat → Bool) (b : Bool) {i n : Nat} (h : n ≤ i) : fb_ct (fun k => if k = i then b else p k) n = fb_ct p n :=
  fb_ct_cong fun k hk => if_neg (by omega)
theorem fb_ct_upd (p : Nat → Bool) (b : Bool) {i : Nat} : ∀ {n : Nat}, i < n → fb_ct (fun k => if k = i then b else p k) n + (if p i then 1 else 0) = fb_ct p n + (if b then 1 else 0)
  | 0, h => absurd h (Nat.not_lt_zero i)
  | n + 1, h => by
    rw [fb_ct_succ, fb_ct_succ]
    rcases Nat.lt_or_ge i n with q | q
    · have := fb_ct_upd p b q
      have e : (if n = i then b else p n) = p n := if_neg (by omega)
      rw [e]
      omega
    · have e : i = n := by omega
      subst e
      rw [fb_ct_out p b (Nat.le_refl _)]
      simp only [if_true]
      omega
theorem fb_ct_sub {p q : Nat → Bool} : ∀ {n : Nat}, (∀ k, k < n → p k = true → q k = true) → fb_ct p n ≤ fb_ct q n
  | 0, _ => Nat.le_refl _
  | n + 1, h => by
    have h1 := fb_ct_sub (n := n) (p := p) (q := q) (fun k hk => h k (by omega))
    have h2 := h n (by omega)
    rw [fb_ct_succ, fb_ct_succ]
    cases hp : p n <;> cases hq : q n <;> simp_all <;> omega
theorem fb_ct_or {p q : Nat → Bool} : ∀ {n : Nat}, (∀ k, k < n → ¬ (p k = true ∧ q k = true)) → fb_ct (fun k => p k || q k) n = fb_ct p n + fb_ct q n
  | 0, _ => rfl
  | n + 1, h => by
    have h1 := fb_ct_or (n := n) (p := p) (q := q) (fun k hk => h k (by omega))
    have h2 := h n (by omega)
    rw [fb_ct_succ, fb_ct_succ, fb_ct_succ, h1]
    cases hp : p n <;> cases hq : q n <;> simp_all <;> omega
theorem fb_ct_not (p : Nat → Bool) : ∀ n, fb_ct p n + fb_ct (fun k => !p k) n = n
  | 0 => rfl
  | n + 1 => by
    have h := fb_ct_not p n
    rw [fb_ct_succ, fb_ct_succ]
    cases p n <;> simp <;> omega
theorem fb_ct_split (p : Nat → Bool) (m : Nat) : ∀ n, fb_ct p (m + n) = fb_ct p m + fb_ct (fun k => p (m + k)) n
  | 0 => rfl
  | n + 1 => by
    have h := fb_ct_split p m n
    show fb_ct p (m + n + 1) = _
    rw [fb_ct_succ, fb_ct_succ, h, Nat.add_assoc]
theorem fb_ct_zero {p : Nat → Bool} : ∀ {n : Nat}, fb_ct p n = 0 ↔ ∀ k, k < n → p k = false
  | 0 => ⟨fun _ k hk => absurd hk (Nat.not_lt_zero k), fun _ => rfl⟩
  | n + 1 => by
    have h := fb_ct_zero (p := p) (n := n)
    rw [fb_ct_succ]
    constructor
    · intro e k hk
      have e1 : fb_ct p n = 0 := by omega
      rcases Nat.lt_or_ge k n with q | q
      · exact h.mp e1 k q
      · have ek : k = n := by omega
        subst ek
        cases hp : p k
        · rfl
        · simp [hp] at e
    · intro a
      rw [h.mpr (fun k hk => a k (by omega)), a n (by omega)]
      rfl
theorem fb_ct_pos {p : Nat → Bool} {n : Nat} : 0 < fb_ct p n ↔ ∃ k, k < n ∧ p k = true := by
  constructor
  · intro h
    refine Classical.byContradiction fun hx => ?_
    have := fb_ct_zero.mpr (fun k hk => by
      cases hp : p k
      · rfl
      · exact absurd ⟨k, hk, hp⟩ hx : ∀ k, k < n → p k = false)
    omega
  · rintro ⟨k, hk, hp⟩
    rcases Nat.eq_zero_or_pos (fb_ct p n) with e | e
    · have := fb_ct_zero.mp e k hk
      rw [this] at hp
      cases hp
    · exact e
theorem fb_ct_all {p : Nat → Bool} {n : Nat} : fb_ct p n = n ↔ ∀ k, k < n → p k = true := by
  have h := fb_ct_not p n
  constructor
  · intro e k hk
    have z : fb_ct (fun k => !p k) n = 0 := by omega
    have := fb_ct_zero.mp z k hk
    cases hp : p k
    · simp [hp] at this
    · rfl
  · intro a
    have z : fb_ct (fun k => !p k) n = 0 := fb_ct_zero.mpr (fun k hk => by simp [a k hk])
    omega
/-- the k-th place with the property -/
theorem fb_ct_kth {p : Nat → Bool} {k : Nat} : ∀ {n : Nat}, k < fb_ct p n → ∃ i, i < n ∧ p i = true ∧ fb_ct p i = k
  | 0, h => absurd h (Nat.not_lt_zero k)
  | n + 1, h => by
    rcases Nat.lt_or_ge k (fb_ct p n) with q | q
    · obtain ⟨i, h1, h2⟩ := fb_ct_kth q
      exact ⟨i, by omega, h2⟩
    · rw [fb_ct_succ] at h
      cases hp : p n
      · simp [hp] at h; omega
      · simp [hp] at h
        exact ⟨n, by omega, hp, by omega⟩
theorem fb_ct_kth_one {p : Nat → Bool} {i j : Nat} (hi : p i = true) (hj : p j = true) (e : fb_ct p i = fb_ct p j) : i = j := by
  have key : ∀ a b : Nat, a < b → p a = true → fb_ct p a < fb_ct p b := by
    intro a b hab ha
    have h := fb_ct_mono p (show a + 1 ≤ b from hab)
    rw [fb_ct_succ, ha] at h
    simp at h
    omega
  rcases Nat.lt_trichotomy i j with q | q | q
  · have := key i j q hi; omega
  · exact q
  · have := key j i q hj; omega
/-! The mathematical values of the system: sets of PLACES as longs, rows as functions, each loop as a function of its count. -/
abbrev xT (cyI cyZ cyJ cyD cyB : ClassId) : List (ClassId × FieldType) := [(cyI, .int), (cyZ, .boolean), (cyJ, .long), (cyD, .double), (cyB, .byte)]
theorem xk_min {x y : Nat} (h1 : x < 2 ^ 31) (h2 : y < 2 ^ 31) : (if nI y < nI x then nI y else nI x) = nI (min x y) := by
  by_cases h : y < x
  · rw [if_pos ((nI_ltI h2 h1).mpr h), Nat.min_eq_right (Nat.le_of_lt h)]
  · rw [if_neg (fun q => h ((nI_ltI h2 h1).mp q)), Nat.min_eq_left (Nat.not_lt.mp h)]
theorem xk_max {x y : Nat} (h1 : x < 2 ^ 31) (h2 : y < 2 ^ 31) : (if nI x < nI y then nI y else nI x) = nI (max x y) := by
  by_cases h : x < y
  · rw [if_pos ((nI_ltI h1 h2).mpr h), Nat.max_eq_right (Nat.le_of_lt h)]
  · rw [if_neg (fun q => h ((nI_ltI h1 h2).mp q)), Nat.max_eq_left (Nat.not_lt.mp h)]
theorem xu_same {α : Type} (f : Nat → α) (k : Nat) : va_up f k (f k) = f := by funext j; unfold va_up; split <;> simp_all
theorem xu_up {α : Type} (f : Nat → α) (k : Nat) (x y : α) : va_up (va_up f k x) k y = va_up f k y := by funext j; unfold va_up; split <;> rfl
theorem xu_self {α : Type} (f : Nat → α) (k : Nat) (x : α) : va_up f k x k = x := va_up_self f k x
def bitL (x : Int64) (p : Nat) : Bool := x.toBitVec.getLsbD p
def setB (x : Int64) (p : Nat) : Int64 := x ||| ((1 : Int64) <<< ((nI p).toInt64 &&& 63))
def clrB (x : Int64) (p : Nat) : Int64 := x &&& (((1 : Int64) <<< ((nI p).toInt64 &&& 63)) ^^^ (-1))
def bcN (x : Int64) : Nat := fb_ct (fun i => bitL x i) 64
def nearL (pl : Nat) : Int64 := ((127 : Int64) <<< ((nI pl - nI 3 &&& nI 63).toInt64 &&& 63)) ||| (((127 : Int64).toUInt64 >>> ((-(nI pl - nI 3 &&& nI 63)).toInt64.toUInt64 &&& Int64.toUInt64 63)).toInt64)
def pinsF (plc : Nat → Int64) (tn : Nat) : Nat := 0 + bcN (plc (0 * 24 + tn)) + bcN (plc ((0 + 1) * 24 + tn)) + bcN (plc ((0 + 1 + 1) * 24 + tn))
/-- the TOOTH for a NOTE, and how few PINS its LINE has, behind i TEETH -/
def frF (pit : Nat → Nat) (bro : Nat → Bool) (plc : Nat → Int64) (ln : Nat) (pi : Int32) (nr : Int64) : Nat → Int32 × Nat
  | 0 => (-1, 64)
  | i + 1 => if nI (pit i) = pi ∧ bro i = false ∧ plc (ln * 24 + i) &&& nr = 0 ∧ bcN (plc (ln * 24 + i)) < (frF pit bro plc ln pi nr i).2 then (nI i, bcN (plc (ln * 24 + i))) else frF pit bro plc ln pi nr i
def puF (x : Int64) (w : Nat → Nat) (b least : Nat) : Nat → Int64 × Nat
  | 0 => (x, 0)
  | i + 1 => if bitL (puF x w b least i).1 i = true ∧ least ≤ w (b + i) then (clrB (puF x w b least i).1 i, (puF x w b least i).2 + 1) else puF x w b least i
def rnF (x : Int64) (w : Nat → Nat) (b : Nat) : Nat → (Nat → Nat) × Nat
  | 0 => (w, 0)
  | i + 1 => if bitL x i = true ∧ 3 ≤ (rnF x w b i).1 (b + i) then (va_up (rnF x w b i).1 (b + i) 0, (rnF x w b i).2 + 1) else rnF x w b i
def isBz (plu las : Nat → Nat) (tn st : Nat) : Bool := decide (¬ nI (plu tn) ≤ 0) && decide (¬ nI 8 ≤ nI st - nI (las tn))
def brF (bro : Nat → Bool) : Nat → Nat
  | 0 => 0
  | i + 1 => if bro i = true then brF bro i + 1 else brF bro i
/-- how many of the n NOTES from b on are ahead of nt -/
def rkF (no : Nat → Nat) (b nt : Nat) : Nat → Nat
  | 0 => 0
  | i + 1 => if rkF no b nt i = i ∧ no (b + i) < nt then i + 1 else rkF no b nt i
def hdF (no : Nat → Nat) (b nt n : Nat) : Bool := decide (rkF no b nt n < n) && decide (no (b + rkF no b nt n) = nt)
/-- a row whose places from b + n - d + 1 to b + n hold what stood one ahead -/
def shF (no : Nat → Nat) (b n d : Nat) : Nat → Nat := fun k => if b + n - d < k ∧ k ≤ b + n then no (k - 1) else no k
/-- a row whose places from b to c - 1 hold what stood one behind -/
def dlF (no : Nat → Nat) (b c : Nat) : Nat → Nat := fun k => if b ≤ k ∧ k < c then no (k + 1) else no k
def wrF (no : Nat → Nat) (b nt n : Nat) : Nat → Nat := va_up (shF no b n (n - rkF no b nt n)) (b + rkF no b nt n) nt
def stF (no : Nat → Nat) (b nt n : Nat) : Nat → Nat := dlF no (b + rkF no b nt n) (b + n)
def lwF (no : Nat → Nat) (b : Nat) : Nat → Int32
  | 0 => -1
  | i + 1 => if lwF no b i = -1 ∨ nI (no (b + i) % 48) < lwF no b i then nI (no (b + i) % 48) else lwF no b i
def hiF (no : Nat → Nat) (b : Nat) : Nat → Int32
  | 0 => -1
  | i + 1 => if hiF no b i < nI (no (b + i) % 48) then nI (no (b + i) % 48) else hiF no b i
def tmF (no : Nat → Nat) (b : Nat) : Nat → Nat
  | 0 => 0
  | i + 1 => if i = 0 ∨ no (b + i) / 48 ≠ no (b + (i - 1)) / 48 then tmF no b i + 1 else tmF no b i
/-- the greatest number at once, and the number at once -/
def moF (no : Nat → Nat) (b : Nat) : Nat → Nat × Nat
  | 0 => (0, 0)
  | i + 1 => if i = 0 ∨ no (b + i) / 48 ≠ no (b + (i - 1)) / 48 then (max (moF no b i).1 1, 1) else (max (moF no b i).1 ((moF no b i).2 + 1), (moF no b i).2 + 1)
/-- how many of the first i NOTES of one TUNE are in the other, told hi higher -/
def sdF (no : Nat → Nat) (b b2 n2 : Nat) (hi : Int32) : Nat → Nat
  | 0 => 0
  | i + 1 => if ¬ nI (no (b + i) % 48) - hi < 0 ∧ ¬ nI 48 ≤ nI (no (b + i) % 48) - hi ∧ hdF no b2 (no (b + i) / 48 * 48 + (nI (no (b + i) % 48) - hi).toNatClampNeg) n2 = true then sdF no b b2 n2 hi i + 1 else sdF no b b2 n2 hi i
/-! The works: Pst is what a pluck changes, Wst what a step does. -/
abbrev Pst : Type := (Nat → Bool) × (Nat → Nat) × (Nat → Nat) × (Nat → Nat) × (Nat → Int64) × (Nat → Nat) × (Nat → Nat) × (Nat → UInt64) × Nat × Nat × Nat × Nat × Nat
abbrev Wst : Type := Pst × Nat × Nat × Nat × UInt64
def plkP (pit : Nat → Nat) (shf plo stp : Nat) (cks : UInt64) (tn : Nat) : Pst → Pst
  | (bro, scr, plu, las, plc, wea, pts, clk, old, kep, evr, buz, wor) =>
    (if isBz plu las tn stp then va_up bro tn (decide (4 ≤ scr tn + 1)) else bro, if isBz plu las tn stp then va_up scr tn (scr tn + 1) else scr, va_up plu tn (plu tn + 1), va_up las tn stp,
     if 5 ≤ wea ((shf * 24 + tn) * 64 + plo) + 1 then va_up plc (shf * 24 + tn) (clrB (plc (shf * 24 + tn)) plo) else plc, va_up wea ((shf * 24 + tn) * 64 + plo) (wea ((shf * 24 + tn) * 64 + plo) + 1),
     if isBz plu las tn stp then pts else va_up pts ((old + kep) % 40) (pit tn), if isBz plu las tn stp then clk else va_up clk ((old + kep) % 40) cks,
     if isBz plu las tn stp then old else (if kep < 40 then old else (old + 1) % 40), if isBz plu las tn stp then kep else (if kep < 40 then kep + 1 else kep), if isBz plu las tn stp then evr else evr + 1,
     if isBz plu las tn stp then buz + 1 else buz, if decide (5 ≤ wea ((shf * 24 + tn) * 64 + plo) + 1) then wor + 1 else wor)
def plsP (pit : Nat → Nat) (shf plo stp : Nat) (cks : UInt64) (x : Pst) : Nat → Pst × Nat
  | 0 => (x, 0)
  | i + 1 => if (plsP pit shf plo stp cks x i).1.1 i = false ∧ bitL ((plsP pit shf plo stp cks x i).1.2.2.2.2.1 (shf * 24 + i)) plo = true then (plkP pit shf plo stp cks i (plsP pit shf plo stp cks x i).1, (plsP pit shf plo stp cks x i).2 + 1) else plsP pit shf plo stp cks x i
def spdS (gov wnd : Nat) : UInt32 := FP.fadd (FP.fmul (1040187392) (FP.i2f (nI gov))) (FP.fmul (FP.i2f (nI wnd)) (981467136))
def spdF (gov wnd : Nat) : UInt32 := if Op.cmpValue (FP.fcmp (spdS gov wnd) FP.fconst2) .l ≤ 0 then spdS gov wnd else FP.fconst2
def tckF (gov wnd : Nat) : UInt64 := FP.ddiv (4593671619917905920) (FP.f2d (spdF gov wnd))
def stpW (pit : Nat → Nat) (cnt shf gov : Nat) : Wst → Wst
  | (x, wnd, plo, stp, cks) => ((plsP pit shf ((plo + 1) % 64) (stp + 1) (FP.dadd cks (tckF gov wnd)) x cnt).1, wnd - 2 - (plsP pit shf ((plo + 1) % 64) (stp + 1) (FP.dadd cks (tckF gov wnd)) x cnt).2, (plo + 1) % 64, stp + 1, FP.dadd cks (tckF gov wnd))
def runW (pit : Nat → Nat) (cnt shf gov : Nat) : Nat → Wst → Wst
  | 0, x => x
  | n + 1, x => if 0 < x.2.1 then runW pit cnt shf gov n (stpW pit cnt shf gov x) else x
/-- what a pluck asks of the state: who is whole has less than four SCRATCHES, a PIN's WEAR is less than five, the SOUNDS' numbers are in their bounds -/
def okP (cnt shf : Nat) : Pst → Prop
  | (bro, scr, _, _, plc, wea, _, _, old, kep, _, _, _) => (∀ t, t < cnt → bro t = false → scr t ≤ 3) ∧ (∀ t q, t < cnt → q < 64 → bitL (plc (shf * 24 + t)) q = true → wea ((shf * 24 + t) * 64 + q) ≤ 4) ∧ old < 40 ∧ kep ≤ 40
def tkF {α : Type} (f g : Nat → α) (n : Nat) : Nat → α := fun k => if k < n then f k else g k
def lsW (pit : Nat → Nat) (cnt shf gov : Nat) : Nat → Wst → Nat
  | 0, _ => 0
  | n + 1, x => if 0 < x.2.1 then lsW pit cnt shf gov n (stpW pit cnt shf gov x) + 1 else 0
/-! The box. -/
def ptF (pit : Nat → Nat) (bro : Nat → Bool) (cnt : Nat) (no : Nat → Nat) (b ln : Nat) (hi : Int32) (plc : Nat → Int64) (wea : Nat → Nat) : Nat → (Nat → Int64) × (Nat → Nat) × Nat
  | 0 => (plc, wea, 0)
  | i + 1 => if (frF pit bro (ptF pit bro cnt no b ln hi plc wea i).1 ln (nI (no (b + i) % 48) + hi) (nearL (no (b + i) / 48)) cnt).1 = -1 then ((ptF pit bro cnt no b ln hi plc wea i).1, (ptF pit bro cnt no b ln hi plc wea i).2.1, (ptF pit bro cnt no b ln hi plc wea i).2.2 + 1)
    else (va_up (ptF pit bro cnt no b ln hi plc wea i).1 (ln * 24 + (frF pit bro (ptF pit bro cnt no b ln hi plc wea i).1 ln (nI (no (b + i) % 48) + hi) (nearL (no (b + i) / 48)) cnt).1.toNatClampNeg) (setB ((ptF pit bro cnt no b ln hi plc wea i).1 (ln * 24 + (frF pit bro (ptF pit bro cnt no b ln hi plc wea i).1 ln (nI (no (b + i) % 48) + hi) (nearL (no (b + i) / 48)) cnt).1.toNatClampNeg)) (no (b + i) / 48)),
      va_up (ptF pit bro cnt no b ln hi plc wea i).2.1 ((ln * 24 + (frF pit bro (ptF pit bro cnt no b ln hi plc wea i).1 ln (nI (no (b + i) % 48) + hi) (nearL (no (b + i) / 48)) cnt).1.toNatClampNeg) * 64 + no (b + i) / 48) 0, (ptF pit bro cnt no b ln hi plc wea i).2.2)
/-- PINS of a LINE's number pulled out, TOOTH by TOOTH -/
def plF (plc : Nat → Int64) (wea : Nat → Nat) (ln least : Nat) : Nat → (Nat → Int64) × Nat
  | 0 => (plc, 0)
  | i + 1 => (va_up (plF plc wea ln least i).1 (ln * 24 + i) (puF ((plF plc wea ln least i).1 (ln * 24 + i)) wea ((ln * 24 + i) * 64) least 64).1, (plF plc wea ln least i).2 + (puF ((plF plc wea ln least i).1 (ln * 24 + i)) wea ((ln * 24 + i) * 64) least 64).2)
/-- one TOOTH's PINS mended: LINES 0, 1, 2 -/
def mlF (plc : Nat → Int64) (tn : Nat) (x : (Nat → Nat) × Nat) : Nat → (Nat → Nat) × Nat
  | 0 => x
  | j + 1 => ((rnF (plc (j * 24 + tn)) (mlF plc tn x j).1 ((j * 24 + tn) * 64) 64).1, (mlF plc tn x j).2 + (rnF (plc (j * 24 + tn)) (mlF plc tn x j).1 ((j * 24 + tn) * 64) 64).2)
/-- all mended: broken, scratches, wears, how many -/
def meF (bro : Nat → Bool) (scr : Nat → Nat) (plc : Nat → Int64) (wea : Nat → Nat) : Nat → (Nat → Bool) × (Nat → Nat) × (Nat → Nat) × Nat
  | 0 => (bro, scr, wea, 0)
  | i + 1 => (va_up (meF bro scr plc wea i).1 i false, va_up (meF bro scr plc wea i).2.1 i 0, (mlF plc i ((meF bro scr plc wea i).2.2.1, (meF bro scr plc wea i).2.2.2 + (if (meF bro scr plc wea i).1 i then 1 else 0)) 3).1, (mlF plc i ((meF bro scr plc wea i).2.2.1, (meF bro scr plc wea i).2.2.2 + (if (meF bro scr plc wea i).1 i then 1 else 0)) 3).2)
def otF (pit : Nat → Nat) (bro : Nat → Bool) (scr plu : Nat → Nat) (plc : Nat → Int64) (tn wh : Nat) : Nat := if wh = 0 then pit tn else if wh = 1 then (if bro tn then 1 else 0) else if wh = 2 then scr tn else if wh = 3 then plu tn else pinsF plc tn
def ouF (siz no : Nat → Nat) (tu wh : Nat) : Int32 := if wh = 0 then nI (siz tu) else if wh = 1 then lwF no (tu * 30) (siz tu) else if wh = 2 then hiF no (tu * 30) (siz tu) else if wh = 3 then nI (tmF no (tu * 30) (siz tu)) else nI (moF no (tu * 30) (siz tu)).1
def liF (siz no : Nat → Nat) (on ot : Nat) (hi : Int32) : UInt64 := if max (siz on) (siz ot) = 0 then FP.dconst0 else FP.ddiv (FP.i2d (nI (sdF no (on * 30) (ot * 30) (siz ot) hi (siz on)))) (FP.i2d (nI (max (siz on) (siz ot))))
def nwF (x : UInt64) : Int64 := if 0 < Op.cmpValue (FP.dcmp (FP.dsub x (FP.l2d (FP.d2l x))) (4602678819172646912)) .l then FP.d2l x + 1 else if ¬ Op.cmpValue (FP.dcmp (FP.dsub x (FP.l2d (FP.d2l x))) (4602678819172646912)) .l = 0 then FP.d2l x else if lg_cmp (FP.d2l x &&& 1) 1 = 0 then FP.d2l x + 1 else FP.d2l x
def whF (c : UInt64) : UInt64 := FP.ddiv (FP.l2d (nwF (FP.dmul (4620693217682128896) c))) (4620693217682128896)
def apF (plc : Nat → Int64) : Nat → Nat
  | 0 => 0
  | i + 1 => apF plc i + pinsF plc i
def wlF (pit : Nat → Nat) (bro : Nat → Bool) (cnt : Nat) (siz no : Nat → Nat) (plc : Nat → Int64) (tu ln : Nat) (hi : Int32) : Nat := (ptF pit bro cnt no (tu * 30) ln hi plc (fun _ => 0) (siz tu)).2.2
def bkF (L : Int32 → Nat) : Nat → Int32 × Nat
  | 0 => (nI 0, L (nI 0))
  | k + 1 => if (bkF L k).2 = 0 then bkF L k else
    if L (-nI (k + 1)) < (if L (nI (k + 1)) < (bkF L k).2 then (nI (k + 1), L (nI (k + 1))) else bkF L k).2 then (-nI (k + 1), L (-nI (k + 1))) else (if L (nI (k + 1)) < (bkF L k).2 then (nI (k + 1), L (nI (k + 1))) else bkF L k)
def mnF (cnt : Nat) (bro : Nat → Bool) (tcn : Nat) (plc : Nat → Int64) (plo shf wnd gov stp evr kep buz wor kn : Nat) (cks : UInt64) (wh : Nat) : Int32 :=
  if wh = 0 then nI cnt else if wh = 1 then nI (brF bro cnt) else if wh = 2 then nI tcn else if wh = 3 then nI (apF plc cnt) else if wh = 4 then nI plo else if wh = 5 then nI shf else if wh = 6 then nI wnd else if wh = 7 then nI gov else if wh = 8 then nI stp else if wh = 9 then nI evr else if wh = 10 then nI kep else if wh = 11 then nI buz else if wh = 12 then nI wor else if wh = 13 then nI kn else FP.d2i cks
def sgF (bro : Nat → Bool) (plc : Nat → Int64) (shf tn pl : Nat) : Nat := if bro tn then 120 else if bitL (plc (shf * 24 + tn)) pl then 124 else 46
/-- the trial works' state behind takeOver -/
def tkO (cnt shf : Nat) : Pst → Pst → Pst
  | (bro, scr, plu, las, plc, wea, _, _, _, _, _, buz, wor), (vbro, vscr, vplu, vlas, vplc, vwea, vpts, vclk, vold, vkep, vevr, _, _) =>
    (tkF bro vbro cnt, tkF scr vscr cnt, tkF plu vplu cnt, tkF las vlas cnt, va_cpy plc vplc (shf * 24 + 0) (shf * 24 + 0) 24, va_cpy wea vwea ((shf * 24 + 0) * 64 + 0) ((shf * 24 + 0) * 64 + 0) 1536, vpts, vclk, vold, vkep, vevr, buz, wor)
/-- alike for playing on: the TEETH, the LINES under them, the BUZZES -/
def smP (cnt shf : Nat) : Pst → Pst → Prop
  | (bro, scr, plu, las, plc, wea, _, _, _, _, _, buz, _), (bro2, scr2, plu2, las2, plc2, wea2, _, _, _, _, _, buz2, _) =>
    (∀ t, t < cnt → bro t = bro2 t ∧ scr t = scr2 t ∧ plu t = plu2 t ∧ las t = las2 t ∧ plc (shf * 24 + t) = plc2 (shf * 24 + t)) ∧ (∀ t q, t < cnt → q < 64 → wea ((shf * 24 + t) * 64 + q) = wea2 ((shf * 24 + t) * 64 + q)) ∧ buz = buz2
abbrev Tst : Type := (Nat → Nat) × (Nat → Bool) × (Nat → Nat) × (Nat → Nat) × (Nat → Nat) × Nat × (Nat → Int64) × (Nat → Nat) × (Nat → Nat) × (Nat → UInt64) × Nat × Nat × Nat × Nat × Nat × Nat × Nat × Nat × Nat × Nat × UInt64
def buzP (x : Pst) : Nat := x.2.2.2.2.2.2.2.2.2.2.2.1
def evrP (x : Pst) : Nat := x.2.2.2.2.2.2.2.2.2.2.1
def dgF (f : Nat → Int64) (d : Int64) : Nat → Int64
  | 0 => d
  | i + 1 => dgF f d i * 31 + f i
def itF (g : Int64 → Nat → Int64) (d : Int64) : Nat → Int64
  | 0 => d
  | i + 1 => g (itF g d i) i
def dtF (pit : Nat → Nat) (bro : Nat → Bool) (scr plu : Nat → Nat) (plc : Nat → Int64) (d : Int64) (tn : Nat) : Int64 := dgF (fun ln => plc (ln * 24 + tn)) (dgF (fun wh => (nI (otF pit bro scr plu plc tn wh)).toInt64) d 5) 3
def duF (pit : Nat → Nat) (bro : Nat → Bool) (cnt : Nat) (siz no : Nat → Nat) (plc : Nat → Int64) (d : Int64) (tu : Nat) : Int64 := dgF (fun wh => (ouF siz no tu wh).toInt64) d 5 * 31 + ((bkF (wlF pit bro cnt siz no plc tu 0) 24).1).toInt64
def dsF (pts : Nat → Nat) (clk : Nat → UInt64) (old : Nat) (d : Int64) (k : Nat) : Int64 := (d * 31 + (nI (pts ((old + k) % 40))).toInt64) * 31 + FP.d2l (FP.dmul (clk ((old + k) % 40)) (4620693217682128896))
abbrev zN : Nat → Nat := fun _ => 0
abbrev zD : Nat → UInt64 := fun _ => 0
abbrev zB : Nat → Bool := fun _ => false
abbrev zL : Nat → Int64 := fun _ => 0
def blF (v : Int32) (n : Nat) : Nat := v.toBitVec.toNat % 2 ^ 31 % n
def suF (f : Nat → Nat) : Nat → Nat
  | 0 => 0
  | i + 1 => suF f i + f i
theorem xb_lt (x : Int64) : x &&& 1 = 0 ∨ x &&& 1 = 1 := by
  obtain ⟨n, hn, rfl⟩ := wb_of x
  rw [wb_a1 hn]
  rcases Nat.mod_two_eq_zero_or_one n with h | h <;> rw [h]
  · exact Or.inl rfl
  · exact Or.inr rfl
theorem xk_bit (x : Int64) {p : Nat} (hp : p < 64) : lg_cmp ((x.toUInt64 >>> ((nI p).toInt64.toUInt64 &&& Int64.toUInt64 63)).toInt64 &&& 1) 1 = 0 ↔ bitL x p = true := by
  have h1 := ts_bit (w := x) (s := (nI p).toInt64.toUInt64 &&& Int64.toUInt64 63) (j := p) hp (by rw [wb_cu p hp]; exact Nat.mod_eq_of_lt (by omega))
  rcases xb_lt ((x.toUInt64 >>> ((nI p).toInt64.toUInt64 &&& Int64.toUInt64 63)).toInt64) with h | h
  · rw [h]
    have h2 := h1.mp h
    constructor
    · intro h3; exact absurd h3 (by decide)
    · intro h3; exact absurd (h2.symm.trans h3) (by decide)
  · rw [h]
    constructor
    · intro _
      cases hb : bitL x p with
      | true => rfl
      | false => exact absurd (h1.mpr hb) (by rw [h]; decide)
    · intro _; decide
theorem bcN_le (x : Int64) : bcN x ≤ 64 := fb_ct_le _ _
theorem frF_le (pit : Nat → Nat) (bro : Nat → Bool) (plc : Nat → Int64) (ln : Nat) (pi : Int32) (nr : Int64) : ∀ i, (frF pit bro plc ln pi nr i).2 ≤ 64
  | 0 => Nat.le_refl 64
  | i + 1 => by
    unfold frF
    split
    · exact bcN_le _
    · exact frF_le pit bro plc ln pi nr i
theorem lg_cmp0 {x y : Int64} : lg_cmp x y = 0 ↔ x = y := by
  unfold lg_cmp
  constructor
  · intro h
    split at h
    · exact absurd h (by decide)
    · split at h
      · assumption
      · exact absurd h (by decide)
  · intro h
    subst h
    rw [if_neg (by simp only [gt_iff_lt, Int64.lt_iff_toInt_lt]; omega), if_pos rfl]
theorem rnF_le (x : Int64) (b : Nat) {w : Nat → Nat} {m : Nat} (hw : ∀ k, w k < m) : ∀ i k, (rnF x w b i).1 k < m
  | 0, k => hw k
  | i + 1, k => by
    unfold rnF
    split
    · show va_up (rnF x w b i).1 (b + i) 0 k < m
      unfold va_up
      split
      · exact Nat.lt_of_le_of_lt (Nat.zero_le _) (hw 0)
      · exact rnF_le x b hw i k
    · exact rnF_le x b hw i k
theorem xk_cpyI (f g : Nat → Nat) (sp dp n : Nat) : va_cpy (fun k => nI (f k)) (fun k => nI (g k)) sp dp n = fun k => nI (va_cpy f g sp dp n k) := by
  funext k; unfold va_cpy; split <;> rfl
theorem rkF_le (no : Nat → Nat) (b nt : Nat) : ∀ i, rkF no b nt i ≤ i
  | 0 => Nat.le_refl 0
  | i + 1 => by
    unfold rkF
    split
    · exact Nat.le_refl _
    · exact Nat.le_succ_of_le (rkF_le no b nt i)
theorem rkF_go {no : Nat → Nat} {b nt i : Nat} (h : rkF no b nt i = i) (h2 : no (b + i) < nt) : rkF no b nt (i + 1) = i + 1 := if_pos ⟨h, h2⟩
theorem rkF_stop {no : Nat → Nat} {b nt i : Nat} (h : rkF no b nt i = i) (h2 : nt ≤ no (b + i)) : ∀ n, i ≤ n → rkF no b nt n = i
  | 0, hn => by have : i = 0 := by omega
                subst this; rfl
  | n + 1, hn => by
    rcases Nat.lt_or_ge n i with q | q
    · have : i = n + 1 := by omega
      rw [← this]; exact h
    · have ih := rkF_stop h h2 n q
      unfold rkF
      split
      · rename_i hq
        rw [ih] at hq
        obtain ⟨hq1, hq2⟩ := hq
        subst hq1
        omega
      · exact ih
theorem shF_succ (no : Nat → Nat) {b n d : Nat} (h : d < n) : va_up (shF no b n d) (b + (n - d)) (shF no b n d (b + (n - d) - 1)) = shF no b n (d + 1) := by
  funext k
  unfold va_up shF
  by_cases h1 : k = b + (n - d)
  · subst h1
    rw [if_pos rfl, if_neg (by omega), if_pos (by omega)]
  · rw [if_neg h1]
    by_cases h2 : b + n - d < k ∧ k ≤ b + n
    · rw [if_pos h2, if_pos (by omega)]
    · rw [if_neg h2, if_neg (by omega)]
theorem shF_0 (no : Nat → Nat) (b n : Nat) : shF no b n 0 = no := by
  funext k; unfold shF; rw [if_neg (by omega)]
theorem dlF_succ (no : Nat → Nat) {b c : Nat} (h : b ≤ c) : va_up (dlF no b c) c (dlF no b c (c + 1)) = dlF no b (c + 1) := by
  funext k
  unfold va_up dlF
  by_cases h1 : k = c
  · subst h1
    rw [if_pos rfl, if_neg (by omega), if_pos (by omega)]
  · rw [if_neg h1]
    by_cases h2 : b ≤ k ∧ k < c
    · rw [if_pos h2, if_pos (by omega)]
    · rw [if_neg h2, if_neg (by omega)]
theorem dlF_0 (no : Nat → Nat) (b : Nat) : dlF no b b = no := by
  funext k; unfold dlF; rw [if_neg (by omega)]
theorem dlF_lt {no : Nat → Nat} {m : Nat} (h : ∀ k, no k < m) (b c k : Nat) : dlF no b c k < m := by
  unfold dlF; split <;> exact h _
theorem shF_lt {no : Nat → Nat} {m : Nat} (h : ∀ k, no k < m) (b n d k : Nat) : shF no b n d k < m := by
  unfold shF; split <;> exact h _
theorem va_up_lt {f : Nat → Nat} {m x : Nat} (h : ∀ k, f k < m) (hx : x < m) (j k : Nat) : va_up f j x k < m := by
  unfold va_up; split
  · exact hx
  · exact h _
theorem xk_rng {x : Int32} (h1 : ¬ x < 0) (h2 : ¬ nI 48 ≤ x) : ∃ j, j < 48 ∧ x = nI j := by
  obtain ⟨j, hj, rfl⟩ := nI_of h1
  refine ⟨j, ?_, rfl⟩
  rcases Nat.lt_or_ge j 48 with q | q
  · exact q
  · exact absurd ((nI_leI (by omega) hj).mpr q) h2
theorem moF_le (no : Nat → Nat) (b : Nat) : ∀ i, (moF no b i).1 ≤ i ∧ (moF no b i).2 ≤ i
  | 0 => ⟨Nat.le_refl 0, Nat.le_refl 0⟩
  | i + 1 => by
    have ih := moF_le no b i
    unfold moF
    split
    · refine ⟨?_, ?_⟩
      · show max (moF no b i).1 1 ≤ i + 1
        omega
      · show 1 ≤ i + 1
        omega
    · refine ⟨?_, ?_⟩
      · show max (moF no b i).1 ((moF no b i).2 + 1) ≤ i + 1
        omega
      · show (moF no b i).2 + 1 ≤ i + 1
        omega
theorem tkF_0 {α : Type} (f g : Nat → α) : tkF f g 0 = g := by funext k; unfold tkF; rw [if_neg (by omega)]
theorem tkF_succ {α : Type} (f g : Nat → α) (n : Nat) : va_up (tkF f g n) n (f n) = tkF f g (n + 1) := by
  funext k
  unfold va_up tkF
  by_cases h : k = n
  · subst h; rw [if_pos rfl, if_pos (by omega)]
  · rw [if_neg h]
    by_cases h2 : k < n
    · rw [if_pos h2, if_pos (by omega)]
    · rw [if_neg h2, if_neg (by omega)]
theorem xk_wnd {w k : Nat} (hw : w < 2 ^ 29) (hk : k < 2 ^ 29) : (if nI 0 < nI w - nI 2 - nI k then nI w - nI 2 - nI k else nI 0) = nI (w - 2 - k) := by
  have e1 : (nI w - nI 2).toInt = (w : Int) - 2 := pk_sub_toInt (by omega) (by omega)
  have e2 : (nI w - nI 2 - nI k).toInt = (w : Int) - 2 - k := by
    rw [Int32.toInt_sub, e1, nI_toInt (by omega)]
    exact Int.bmod_eq_of_le (by omega) (by omega)
  by_cases h : 2 + k < w
  · rw [if_pos (by rw [Int32.lt_iff_toInt_lt, e2, nI_toInt (by omega)]; omega), pk_sub (by omega), pk_sub (by omega)]
  · rw [if_neg (by rw [Int32.lt_iff_toInt_lt, e2, nI_toInt (by omega)]; omega), show w - 2 - k = 0 from by omega]
theorem plsP_le (pit : Nat → Nat) (shf plo stp : Nat) (cks : UInt64) (x : Pst) : ∀ i, (plsP pit shf plo stp cks x i).2 ≤ i
  | 0 => Nat.le_refl 0
  | i + 1 => by
    have ih := plsP_le pit shf plo stp cks x i
    unfold plsP
    split
    · exact Nat.succ_le_succ ih
    · exact Nat.le_succ_of_le ih
theorem xk_one64 : ∀ p, p < 64 → ((1 : Int64) <<< ((nI p).toInt64 &&& 63)).toBitVec = BitVec.twoPow 64 p := by decide +kernel
theorem bit_set (x : Int64) {p q : Nat} (hp : p < 64) (hq : q < 64) : bitL (setB x p) q = (bitL x q || decide (q = p)) := by
  unfold bitL setB
  rw [Int64.toBitVec_or, BitVec.getLsbD_or, xk_one64 p hp, BitVec.getLsbD_twoPow]
  simp [hp, eq_comm]
theorem bit_clr (x : Int64) {p q : Nat} (hp : p < 64) (hq : q < 64) : bitL (clrB x p) q = (bitL x q && !decide (q = p)) := by
  unfold bitL clrB
  rw [Int64.toBitVec_and, BitVec.getLsbD_and, Int64.toBitVec_xor, BitVec.getLsbD_xor, xk_one64 p hp, BitVec.getLsbD_twoPow]
  have h1 : (-1 : Int64).toBitVec.getLsbD q = true := by
    have : (-1 : Int64).toBitVec = BitVec.allOnes 64 := by decide
    rw [this, BitVec.getLsbD_allOnes]; exact decide_eq_true hq
  rw [h1]
  by_cases h : q = p
  · subst h; simp [hp]
  · simp [h, Ne.symm h]
theorem okP_plk {pit : Nat → Nat} {cnt shf plo stp tn : Nat} {cks : UInt64} {x : Pst} (h : okP cnt shf x) (hc : cnt ≤ 24) (ht : tn < cnt) (hs : shf < 3) (hp : plo < 64) (h1 : x.1 tn = false) (h2 : bitL (x.2.2.2.2.1 (shf * 24 + tn)) plo = true) : okP cnt shf (plkP pit shf plo stp cks tn x) := by
  obtain ⟨bro, scr, plu, las, plc, wea, pts, clk, old, kep, evr, buz, wor⟩ := x
  obtain ⟨a1, a2, a3, a4⟩ := h
  refine ⟨?_, ?_, ?_, ?_⟩
  · intro t h3 h4
    show (if isBz plu las tn stp then va_up scr tn (scr tn + 1) else scr) t ≤ 3
    have h4 : (if isBz plu las tn stp then va_up bro tn (decide (4 ≤ scr tn + 1)) else bro) t = false := h4
    by_cases hz : isBz plu las tn stp = true
    · rw [if_pos hz] at h4 ⊢
      by_cases e : t = tn
      · subst e
        rw [xu_self] at h4 ⊢
        have := of_decide_eq_false h4
        omega
      · rw [va_up_ne _ _ e] at h4 ⊢
        exact a1 t h3 h4
    · rw [if_neg hz] at h4 ⊢
      exact a1 t h3 h4
  · intro t q h3 h4 h5
    show va_up wea ((shf * 24 + tn) * 64 + plo) (wea ((shf * 24 + tn) * 64 + plo) + 1) ((shf * 24 + t) * 64 + q) ≤ 4
    have h5 : bitL ((if 5 ≤ wea ((shf * 24 + tn) * 64 + plo) + 1 then va_up plc (shf * 24 + tn) (clrB (plc (shf * 24 + tn)) plo) else plc) (shf * 24 + t)) q = true := h5
    by_cases e : (shf * 24 + t) * 64 + q = (shf * 24 + tn) * 64 + plo
    · have e1 : t = tn := by omega
      have e2 : q = plo := by omega
      subst e1; subst e2
      rw [xu_self]
      by_cases hz : 5 ≤ wea ((shf * 24 + t) * 64 + q) + 1
      · rw [if_pos hz, xu_self, bit_clr _ hp h4] at h5
        simp at h5
      · omega
    · rw [va_up_ne _ _ e]
      refine a2 t q h3 h4 ?_
      by_cases hz : 5 ≤ wea ((shf * 24 + tn) * 64 + plo) + 1
      · rw [if_pos hz] at h5
        by_cases e1 : t = tn
        · subst e1
          rw [xu_self, bit_clr _ hp h4] at h5
          exact (Bool.and_eq_true _ _ ▸ h5).1
        · rw [va_up_ne _ _ (by omega)] at h5
          exact h5
      · rw [if_neg hz] at h5
        exact h5
  · show (if isBz plu las tn stp then old else (if kep < 40 then old else (old + 1) % 40)) < 40
    split
    · exact a3
    · split
      · exact a3
      · omega
  · show (if isBz plu las tn stp then kep else (if kep < 40 then kep + 1 else kep)) ≤ 40
    split
    · exact a4
    · split <;> omega
theorem frF_some (pit : Nat → Nat) (bro : Nat → Bool) (plc : Nat → Int64) (ln : Nat) (pi : Int32) (nr : Int64) : ∀ n, (frF pit bro plc ln pi nr n).1 = -1 ∨ ∃ k, k < n ∧ (frF pit bro plc ln pi nr n).1 = nI k ∧ nI (pit k) = pi ∧ bro k = false ∧ plc (ln * 24 + k) &&& nr = 0
  | 0 => Or.inl rfl
  | n + 1 => by
    have ih := frF_some pit bro plc ln pi nr n
    unfold frF
    split
    · rename_i h
      exact Or.inr ⟨n, Nat.lt_succ_self n, rfl, h.1, h.2.1, h.2.2.1⟩
    · rcases ih with h | ⟨k, h1, h2⟩
      · exact Or.inl h
      · exact Or.inr ⟨k, Nat.lt_succ_of_lt h1, h2⟩
theorem xk_nIm1 {k : Nat} (h : k < 24) : ¬ nI k = -1 := by
  intro q
  have h1 := congrArg Int32.toInt q
  rw [nI_toInt (by omega)] at h1
  have h2 : (-1 : Int32).toInt = -1 := by decide
  omega
theorem plF_wea (w : Nat → Nat) : True := trivial
theorem mlF_lt {m : Nat} {plc : Nat → Int64} {tn : Nat} {x : (Nat → Nat) × Nat} (h : ∀ k, x.1 k < m) : ∀ j k, (mlF plc tn x j).1 k < m
  | 0, k => h k
  | j + 1, k => rnF_le _ _ (fun k => mlF_lt h j k) 64 k
theorem hdF_pos {no : Nat → Nat} {b nt n : Nat} (h : hdF no b nt n = true) : 0 < n := by
  unfold hdF at h
  rw [Bool.and_eq_true] at h
  have := of_decide_eq_true h.1
  omega
theorem ptF_le (pit : Nat → Nat) (bro : Nat → Bool) (cnt : Nat) (no : Nat → Nat) (b ln : Nat) (hi : Int32) (plc : Nat → Int64) (wea : Nat → Nat) : ∀ i, (ptF pit bro cnt no b ln hi plc wea i).2.2 ≤ i
  | 0 => Nat.le_refl 0
  | i + 1 => by
    have ih := ptF_le pit bro cnt no b ln hi plc wea i
    unfold ptF
    split
    · exact Nat.succ_le_succ ih
    · exact Nat.le_succ_of_le ih
def bc1 (x : Int64) : Int64 := x - (((x.toUInt64 >>> ((nI 1).toInt64.toUInt64 &&& Int64.toUInt64 63)).toInt64) &&& ((6148914691236517205) : Int64))
def bc2 (x : Int64) : Int64 := (x &&& ((3689348814741910323) : Int64)) + (((x.toUInt64 >>> ((nI 2).toInt64.toUInt64 &&& Int64.toUInt64 63)).toInt64) &&& ((3689348814741910323) : Int64))
def bc3 (x : Int64) : Int64 := (x + ((x.toUInt64 >>> ((nI 4).toInt64.toUInt64 &&& Int64.toUInt64 63)).toInt64)) &&& ((1085102592571150095) : Int64)
def bc4 (x : Int64) : Int64 := x + ((x.toUInt64 >>> ((nI 8).toInt64.toUInt64 &&& Int64.toUInt64 63)).toInt64)
def bc5 (x : Int64) : Int64 := x + ((x.toUInt64 >>> ((nI 16).toInt64.toUInt64 &&& Int64.toUInt64 63)).toInt64)
def bc6 (x : Int64) : Int64 := x + ((x.toUInt64 >>> ((nI 32).toInt64.toUInt64 &&& Int64.toUInt64 63)).toInt64)
/-! How many bits a long has, as Java counts them: byte by byte. -/
def pbN (r : Nat) : Nat := fb_ct (fun i => r.testBit i) 8
def q1N (M n : Nat) : Nat := n - ((n / 2) &&& M)
def q2N (M n : Nat) : Nat := (n &&& M) + ((n / 4) &&& M)
def q3N (M n : Nat) : Nat := (n + n / 16) &&& M
def mkN (m : Nat) : Nat → Nat
  | 0 => 0
  | k + 1 => m + 256 * mkN m k
theorem yb_land {a b r s : Nat} (hr : r < 256) (hs : s < 256) : (r + 256 * a) &&& (s + 256 * b) = (r &&& s) + 256 * (a &&& b) := by
  have h2 : (r &&& s) < 2 ^ 8 := Nat.and_lt_two_pow r hs
  have e1 : r + 256 * a = 2 ^ 8 * a + r := by omega
  have e2 : s + 256 * b = 2 ^ 8 * b + s := by omega
  have e3 : (r &&& s) + 256 * (a &&& b) = 2 ^ 8 * (a &&& b) + (r &&& s) := by omega
  rw [e1, e2, e3]
  apply Nat.eq_of_testBit_eq
  intro i
  rw [Nat.testBit_and, Nat.testBit_two_pow_mul_add (i := 8) a hr, Nat.testBit_two_pow_mul_add (i := 8) b hs, Nat.testBit_two_pow_mul_add (i := 8) (a &&& b) h2]
  split
  · rw [Nat.testBit_and]
  · rw [Nat.testBit_and]
theorem yb_t1 : ∀ r, r < 256 → ∀ c, c < 2 → ((r / 2 + 128 * c) &&& 85) = ((r / 2) &&& 85) ∧ ((r / 2) &&& 85) ≤ r := by decide +kernel
theorem yb_q1 (M r q : Nat) (hr : r < 256) : q1N (85 + 256 * M) (r + 256 * q) = (r - ((r / 2) &&& 85)) + 256 * q1N M q := by
  have h1 : (r + 256 * q) / 2 = (r / 2 + 128 * (q % 2)) + 256 * (q / 2) := by omega
  have h2 := yb_t1 r hr (q % 2) (Nat.mod_lt _ (by decide))
  have h3 : (q / 2) &&& M ≤ q / 2 := Nat.and_le_left
  unfold q1N
  rw [h1, yb_land (by omega) (by decide), h2.1]
  have h4 := h2.2
  generalize (q / 2 &&& M) = z at *
  generalize (r / 2 &&& 85) = y at *
  omega
theorem yb_t2 : ∀ r, r < 256 → ∀ c, c < 4 → ((r / 4 + 64 * c) &&& 51) = ((r / 4) &&& 51) := by decide +kernel
theorem yb_q2 (M r q : Nat) (hr : r < 256) : q2N (51 + 256 * M) (r + 256 * q) = ((r &&& 51) + ((r / 4) &&& 51)) + 256 * q2N M q := by
  have h1 : (r + 256 * q) / 4 = (r / 4 + 64 * (q % 4)) + 256 * (q / 4) := by omega
  unfold q2N
  rw [h1, yb_land hr (by decide), yb_land (by omega) (by decide), yb_t2 r hr (q % 4) (Nat.mod_lt _ (by decide))]
  generalize (q / 4 &&& M) = z
  generalize (q &&& M) = y
  omega
theorem yb_t3 : ∀ r, r < 103 → ∀ c, c < 5 → r % 16 < 5 → r / 16 < 5 → ((r + r / 16 + 16 * c) &&& 15) = ((r + r / 16) &&& 15) ∧ r + r / 16 + 16 * c < 256 := by decide +kernel
theorem yb_q3 (M r q : Nat) (hr : r < 103) (hr1 : r % 16 < 5) (hr2 : r / 16 < 5) (hq : q % 16 < 5) : q3N (15 + 256 * M) (r + 256 * q) = ((r + r / 16) &&& 15) + 256 * q3N M q := by
  have h1 : (r + 256 * q) + (r + 256 * q) / 16 = (r + r / 16 + 16 * (q % 16)) + 256 * (q + q / 16) := by omega
  have h2 := yb_t3 r hr _ hq hr1 hr2
  unfold q3N
  rw [h1, yb_land h2.2 (by decide), h2.1]
def b2N (r : Nat) : Nat := ((r - ((r / 2) &&& 85)) &&& 51) + (((r - ((r / 2) &&& 85)) / 4) &&& 51)
theorem yb_t4 : ∀ r, r < 256 → (b2N r < 103 ∧ b2N r % 16 < 5 ∧ b2N r / 16 < 5) ∧ ((b2N r + b2N r / 16) &&& 15) = pbN r ∧ pbN r ≤ 8 := by decide +kernel
def y2N (k n : Nat) : Nat := q2N (mkN 51 k) (q1N (mkN 85 k) n)
theorem yb_y2 (k r q : Nat) (hr : r < 256) : y2N (k + 1) (r + 256 * q) = b2N r + 256 * y2N k q := by
  unfold y2N
  rw [show mkN 51 (k + 1) = 51 + 256 * mkN 51 k from rfl, show mkN 85 (k + 1) = 85 + 256 * mkN 85 k from rfl, yb_q1 _ r q hr, yb_q2 _ _ _ (by omega)]
  rfl
theorem yb_y2mod : ∀ k q, q < 256 ^ k → y2N k q % 16 < 5
  | 0, q, h => by
    have h0 : q = 0 := by
      have h1 : q < 1 := h
      omega
    subst h0
    decide
  | k + 1, q, h => by
    have e : q = q % 256 + 256 * (q / 256) := by omega
    rw [e, yb_y2 k _ _ (Nat.mod_lt _ (by decide))]
    have h1 := (yb_t4 (q % 256) (Nat.mod_lt _ (by decide))).1.2.1
    omega
def ybN (k n : Nat) : Nat := q3N (mkN 15 k) (y2N k n)
theorem yb_y (k r q : Nat) (hr : r < 256) (hq : q < 256 ^ k) : ybN (k + 1) (r + 256 * q) = pbN r + 256 * ybN k q := by
  unfold ybN
  have h := yb_t4 r hr
  rw [show mkN 15 (k + 1) = 15 + 256 * mkN 15 k from rfl, yb_y2 k r q hr, yb_q3 _ _ _ h.1.1 h.1.2.1 h.1.2.2 (yb_y2mod k q hq), h.2.1]
theorem yb_ct (r q m : Nat) (hr : r < 256) : fb_ct (fun i => (r + 256 * q).testBit i) (8 + m) = pbN r + fb_ct (fun i => q.testBit i) m := by
  have e1 : r + 256 * q = 2 ^ 8 * q + r := by omega
  rw [fb_ct_split, e1]
  congr 1
  · unfold pbN
    exact fb_ct_cong (fun k hk => by rw [Nat.testBit_two_pow_mul_add (i := 8) q hr, if_pos hk])
  · exact fb_ct_cong (fun k hk => by rw [Nat.testBit_two_pow_mul_add (i := 8) q hr, if_neg (by omega), Nat.add_sub_cancel_left])
theorem yb_dec (k n : Nat) (h : n < 256 ^ (k + 1)) : ∃ r q, r < 256 ∧ q < 256 ^ k ∧ n = r + 256 * q := ⟨n % 256, n / 256, Nat.mod_lt _ (by decide), Nat.div_lt_of_lt_mul (by rw [Nat.pow_succ, Nat.mul_comm] at h; exact h), by omega⟩
theorem yb_all (n : Nat) (hn : n < 256 ^ 8) : ∃ p0 p1 p2 p3 p4 p5 p6 p7, (p0 ≤ 8 ∧ p1 ≤ 8 ∧ p2 ≤ 8 ∧ p3 ≤ 8 ∧ p4 ≤ 8 ∧ p5 ≤ 8 ∧ p6 ≤ 8 ∧ p7 ≤ 8) ∧ ybN 8 n = p0 + 256 * (p1 + 256 * (p2 + 256 * (p3 + 256 * (p4 + 256 * (p5 + 256 * (p6 + 256 * p7)))))) ∧ fb_ct (fun i => n.testBit i) 64 = p0 + (p1 + (p2 + (p3 + (p4 + (p5 + (p6 + p7)))))) := by
  obtain ⟨r0, n1, a0, l1, rfl⟩ := yb_dec 7 n hn
  obtain ⟨r1, n2, a1, l2, rfl⟩ := yb_dec 6 n1 l1
  obtain ⟨r2, n3, a2, l3, rfl⟩ := yb_dec 5 n2 l2
  obtain ⟨r3, n4, a3, l4, rfl⟩ := yb_dec 4 n3 l3
  obtain ⟨r4, n5, a4, l5, rfl⟩ := yb_dec 3 n4 l4
  obtain ⟨r5, n6, a5, l6, rfl⟩ := yb_dec 2 n5 l5
  obtain ⟨r6, n7, a6, l7, rfl⟩ := yb_dec 1 n6 l6
  obtain ⟨r7, n8, a7, l8, rfl⟩ := yb_dec 0 n7 l7
  have h8 : n8 = 0 := by
    have h1 : n8 < 1 := l8
    omega
  subst h8
  have h00 : ybN 0 0 = 0 := by decide
  refine ⟨pbN r0, pbN r1, pbN r2, pbN r3, pbN r4, pbN r5, pbN r6, pbN r7, ⟨(yb_t4 r0 a0).2.2, (yb_t4 r1 a1).2.2, (yb_t4 r2 a2).2.2, (yb_t4 r3 a3).2.2, (yb_t4 r4 a4).2.2, (yb_t4 r5 a5).2.2, (yb_t4 r6 a6).2.2, (yb_t4 r7 a7).2.2⟩, ?_, ?_⟩
  · rw [yb_y 7 r0 _ a0 l1, yb_y 6 r1 _ a1 l2, yb_y 5 r2 _ a2 l3, yb_y 4 r3 _ a3 l4, yb_y 3 r4 _ a4 l5, yb_y 2 r5 _ a5 l6, yb_y 1 r6 _ a6 l7, yb_y 0 r7 _ a7 l8, h00, Nat.mul_zero, Nat.add_zero]
  · rw [show (64 : Nat) = 8 + (8 + (8 + (8 + (8 + (8 + (8 + (8 + 0))))))) from rfl, yb_ct r0 _ _ a0, yb_ct r1 _ _ a1, yb_ct r2 _ _ a2, yb_ct r3 _ _ a3, yb_ct r4 _ _ a4, yb_ct r5 _ _ a5, yb_ct r6 _ _ a6, yb_ct r7 _ _ a7, show fb_ct (fun i => (0 : Nat).testBit i) 0 = 0 from rfl, Nat.add_zero]
theorem yb_fold {p0 p1 p2 p3 p4 p5 p6 p7 y : Nat} (h : p0 ≤ 8 ∧ p1 ≤ 8 ∧ p2 ≤ 8 ∧ p3 ≤ 8 ∧ p4 ≤ 8 ∧ p5 ≤ 8 ∧ p6 ≤ 8 ∧ p7 ≤ 8) (hy : y = p0 + 256 * (p1 + 256 * (p2 + 256 * (p3 + 256 * (p4 + 256 * (p5 + 256 * (p6 + 256 * p7))))))) : ∃ y4 y5 y6, y4 = y + y / 256 ∧ y5 = y4 + y4 / 65536 ∧ y6 = y5 + y5 / 4294967296 ∧ y < 18446744073709551616 ∧ y4 < 18446744073709551616 ∧ y5 < 18446744073709551616 ∧ y6 % 128 = p0 + (p1 + (p2 + (p3 + (p4 + (p5 + (p6 + p7)))))) := by
  obtain ⟨h0, h1, h2, h3, h4, h5, h6, h7⟩ := h
  obtain ⟨d7, e7⟩ : ∃ d, d = p7 := ⟨_, rfl⟩
  obtain ⟨d6, e6⟩ : ∃ d, d = p6 + 256 * d7 := ⟨_, rfl⟩
  obtain ⟨d5, e5⟩ : ∃ d, d = p5 + 256 * d6 := ⟨_, rfl⟩
  obtain ⟨d4, e4⟩ : ∃ d, d = p4 + 256 * d5 := ⟨_, rfl⟩
  obtain ⟨d3, e3⟩ : ∃ d, d = p3 + 256 * d4 := ⟨_, rfl⟩
  obtain ⟨d2, e2⟩ : ∃ d, d = p2 + 256 * d3 := ⟨_, rfl⟩
  obtain ⟨d1, e1⟩ : ∃ d, d = p1 + 256 * d2 := ⟨_, rfl⟩
  have e0 : y = p0 + 256 * d1 := by rw [hy, e1, e2, e3, e4, e5, e6, e7]
  clear hy
  have b6 : d6 ≤ 2056 := by omega
  have b5 : d5 ≤ 526344 := by clear e7 e6 e4 e3 e2 e1 e0; omega
  have b4 : d4 ≤ 134744072 := by clear e7 e6 e5 e3 e2 e1 e0; omega
  have b3 : d3 ≤ 34494482440 := by clear e7 e6 e5 e4 e2 e1 e0; omega
  have b2 : d2 ≤ 8830587504648 := by clear e7 e6 e5 e4 e3 e1 e0; omega
  have b1 : d1 ≤ 2260630401189896 := by clear e7 e6 e5 e4 e3 e2 e0; omega
  have b0 : y ≤ 578721382704613384 := by clear e7 e6 e5 e4 e3 e2 e1; omega
  have q1 : y / 256 = d1 := by clear e7 e6 e5 e4 e3 e2 e1 b6 b5 b4 b3 b2 b1 b0; omega
  obtain ⟨s2, f2⟩ : ∃ d, d = d2 + d3 := ⟨_, rfl⟩
  obtain ⟨s4, f4⟩ : ∃ d, d = d4 + d5 := ⟨_, rfl⟩
  obtain ⟨s6, f6⟩ : ∃ d, d = d6 + d7 := ⟨_, rfl⟩
  obtain ⟨y4, g4⟩ : ∃ d, d = y + d1 := ⟨_, rfl⟩
  have k4 : y4 = (p0 + p1) + 256 * (p1 + p2) + 65536 * s2 := by clear e7 e6 e5 e4 e3 q1 b6 b5 b4 b3 b2 b1 b0 f4 f6; omega
  have k2 : s2 = (p2 + p3) + 256 * (p3 + p4) + 65536 * s4 := by clear e7 e6 e5 e1 e0 q1 b6 b5 b4 b3 b2 b1 b0 f6 k4 g4; omega
  have k6 : s4 = (p4 + p5) + 256 * (p5 + p6) + 65536 * s6 := by clear e7 e3 e2 e1 e0 q1 b6 b5 b4 b3 b2 b1 b0 k4 g4 k2; omega
  have k7 : s6 = (p6 + p7) + 256 * p7 := by clear e5 e4 e3 e2 e1 e0 q1 b6 b5 b4 b3 b2 b1 b0 k4 g4 k2 k6; omega
  have bs : s2 ≤ 9000000000000 ∧ y4 ≤ 600000000000000000 := by clear e7 e6 e5 e4 e3 e2 e1 e0 q1 k4 k2 k6 k7; omega
  clear e7 e6 e5 e4 e3 e2 e1 e0 f2 f4 f6 b6 b5 b4 b3 b2 b1
  have q4 : y4 / 65536 = s2 := by clear k2 k6 k7 q1 g4 bs b0; omega
  obtain ⟨y5, g5⟩ : ∃ d, d = y4 + s2 := ⟨_, rfl⟩
  have k5 : y5 = ((p0 + p1 + p2 + p3) + 256 * (p1 + p2 + p3 + p4) + 65536 * (p2 + p3 + p4 + p5) + 16777216 * (p3 + p4 + p5 + p6)) + 4294967296 * (s4 + s6) := by clear k7 q1 g4 bs b0 q4; omega
  have q5 : y5 / 4294967296 = s4 + s6 := by clear k4 k2 k6 k7 q1 g4 bs b0 q4 g5; omega
  refine ⟨y4, y5, y5 + (s4 + s6), by rw [q1, g4], by rw [q4, g5], by rw [q5], by omega, by omega, by omega, ?_⟩
  clear k4 k2 q1 g4 bs b0 q4 g5 q5
  omega
theorem yb_andI (a b : Nat) : nI a &&& nI b = nI (a &&& b) := by
  apply Int32.toBitVec_inj.1
  show BitVec.ofNat 32 a &&& BitVec.ofNat 32 b = BitVec.ofNat 32 (a &&& b)
  apply BitVec.eq_of_getLsbD_eq
  intro i hi
  rw [BitVec.getLsbD_and, BitVec.getLsbD_ofNat, BitVec.getLsbD_ofNat, BitVec.getLsbD_ofNat, Nat.testBit_and]
  simp [hi]
theorem yb_m85 : mkN 85 8 = 6148914691236517205 := by decide +kernel
theorem yb_m51 : mkN 51 8 = 3689348814741910323 := by decide +kernel
theorem yb_m15 : mkN 15 8 = 1085102592571150095 := by decide +kernel
theorem yb_bits (n : Nat) : bcN (lN n) = fb_ct (fun i => n.testBit i) 64 := by
  unfold bcN
  refine fb_ct_cong (fun k hk => ?_)
  show (lN n).toBitVec.getLsbD k = n.testBit k
  rw [wb_tb, BitVec.getLsbD_ofNat]
  simp [hk]
theorem yb_bitCount (x : Int64) : (bc6 (bc5 (bc4 (bc3 (bc2 (bc1 x)))))).toInt32 &&& nI 127 = nI (bcN x) := by
  obtain ⟨n, hn, rfl⟩ := wb_of x
  obtain ⟨p0, p1, p2, p3, p4, p5, p6, p7, hp, hy, hc⟩ := yb_all n (by rw [show (256 : Nat) ^ 8 = 2 ^ 64 from rfl]; exact hn)
  obtain ⟨y4, y5, y6, h4, h5, h6, b3, b4, b5, hz⟩ := yb_fold hp hy
  have b1 : q1N (mkN 85 8) n < 2 ^ 64 := Nat.lt_of_le_of_lt (Nat.sub_le _ _) hn
  have e1 : bc1 (lN n) = lN (q1N (mkN 85 8) n) := by
    unfold bc1
    rw [wb_shr hn (by decide), show (6148914691236517205 : Int64) = lN (mkN 85 8) from by rw [yb_m85]; rfl, wb_and (Nat.lt_of_le_of_lt (Nat.div_le_self _ _) hn) (by rw [yb_m85]; decide), lN_sub (Nat.le_trans Nat.and_le_left (Nat.div_le_self _ _))]
    rfl
  have hle1 : q1N (mkN 85 8) n &&& mkN 51 8 ≤ 3689348814741910323 := by rw [← yb_m51]; exact Nat.and_le_right
  have hle2 : q1N (mkN 85 8) n / 4 &&& mkN 51 8 ≤ 3689348814741910323 := by rw [← yb_m51]; exact Nat.and_le_right
  have b2 : y2N 8 n ≤ 7378697629483820646 := by
    show (q1N (mkN 85 8) n &&& mkN 51 8) + (q1N (mkN 85 8) n / 4 &&& mkN 51 8) ≤ _
    omega
  have e2 : bc2 (bc1 (lN n)) = lN (y2N 8 n) := by
    rw [e1]
    unfold bc2
    rw [wb_shr b1 (by decide), show (3689348814741910323 : Int64) = lN (mkN 51 8) from by rw [yb_m51]; rfl, wb_and b1 (by rw [yb_m51]; decide), wb_and (Nat.lt_of_le_of_lt (Nat.div_le_self _ _) b1) (by rw [yb_m51]; decide), lN_add]
    rfl
  have e3 : bc3 (bc2 (bc1 (lN n))) = lN (ybN 8 n) := by
    rw [e2]
    unfold bc3
    rw [wb_shr (by omega) (by decide), lN_add, show (1085102592571150095 : Int64) = lN (mkN 15 8) from by rw [yb_m15]; rfl, wb_and (by rw [show (2 : Nat) ^ 4 = 16 from rfl]; omega) (by rw [yb_m15]; decide)]
    rfl
  have e4 : bc4 (lN (ybN 8 n)) = lN y4 := by
    unfold bc4
    rw [wb_shr b3 (by decide), lN_add, h4]
  have e5 : bc5 (lN y4) = lN y5 := by
    unfold bc5
    rw [wb_shr b4 (by decide), lN_add, h5]
  have e6 : bc6 (lN y5) = lN y6 := by
    unfold bc6
    rw [wb_shr b5 (by decide), lN_add, h6]
  rw [e3, e4, e5, e6, lN_i, yb_bits, hc, ← hz, yb_andI, show (127 : Nat) = 2 ^ 7 - 1 from rfl, Nat.and_two_pow_sub_one_eq_mod]
theorem xk_bitCount (x : Int64) : (bc6 (bc5 (bc4 (bc3 (bc2 (bc1 x)))))).toInt32 &&& nI 127 = nI (bcN x) := yb_bitCount x
theorem sdF_le (no : Nat → Nat) (b b2 n2 : Nat) (hi : Int32) : ∀ i, sdF no b b2 n2 hi i ≤ i
  | 0 => Nat.le_refl 0
  | i + 1 => by
    have ih := sdF_le no b b2 n2 hi i
    unfold sdF
    split
    · exact Nat.succ_le_succ ih
    · exact Nat.le_succ_of_le ih
theorem brF_le (bro : Nat → Bool) : ∀ i, brF bro i ≤ i
  | 0 => Nat.le_refl 0
  | i + 1 => by
    have ih := brF_le bro i
    unfold brF
    split
    · exact Nat.succ_le_succ ih
    · exact Nat.le_succ_of_le ih
theorem blF_lt (v : Int32) {n : Nat} (h : 0 < n) : blF v n < n := Nat.mod_lt _ h
