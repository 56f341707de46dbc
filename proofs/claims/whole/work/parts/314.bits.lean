/-! bits of numbers that are not negative -/
theorem nat32 {x : Int} (h0 : 0 ≤ x) (h1 : x < 2147483648) : (Int32.ofInt x).toBitVec.toNat = x.toNat := by
  have h := bv_nat (x := x) ⟨by omega, h1⟩
  omega
theorem of32 {a : Int32} {n : Nat} (h : a.toBitVec.toNat = n) (hn : n < 2147483648) : a.toInt = (n : Int) := by
  show a.toBitVec.toInt = _
  rw [BitVec.toInt_eq_toNat_cond, h]
  rw [if_pos (by omega)]
theorem nat64 {x : Int} (h0 : 0 ≤ x) (h1 : x < 9223372036854775808) : (Int64.ofInt x).toBitVec.toNat = x.toNat := by
  have h : (Int64.ofInt x).toBitVec.toInt = x := w64_of (by omega) h1
  have h2 := BitVec.toInt_eq_toNat_cond (x := (Int64.ofInt x).toBitVec)
  rw [h] at h2
  have hl := (Int64.ofInt x).toBitVec.isLt
  generalize (Int64.ofInt x).toBitVec.toNat = t at *
  split at h2 <;> omega
theorem of64 {a : Int64} {n : Nat} (h : a.toBitVec.toNat = n) (hn : n < 9223372036854775808) : a.toInt = (n : Int) := by
  show a.toBitVec.toInt = _
  rw [BitVec.toInt_eq_toNat_cond, h]
  rw [if_pos (by omega)]
def P32 (x : Int) : Prop := 0 ≤ x ∧ x < 2147483648
def P64 (x : Int) : Prop := 0 ≤ x ∧ x < 9223372036854775808
theorem b_and_n {x y : Int} (hx : P32 x) (hy : P32 y) : b_and x y = ((x.toNat &&& y.toNat : Nat) : Int) := by
  refine of32 ?_ ?_
  · rw [Int32.toBitVec_and, BitVec.toNat_and, nat32 hx.1 hx.2, nat32 hy.1 hy.2]
  · have := Nat.and_le_left (n := x.toNat) (m := y.toNat)
    unfold P32 at hx; omega
theorem b_or_n {x y : Int} (hx : P32 x) (hy : P32 y) : b_or x y = ((x.toNat ||| y.toNat : Nat) : Int) := by
  refine of32 ?_ ?_
  · rw [Int32.toBitVec_or, BitVec.toNat_or, nat32 hx.1 hx.2, nat32 hy.1 hy.2]
  · unfold P32 at hx hy; exact Nat.or_lt_two_pow (n := 31) (by omega) (by omega)
theorem l_and_n {x y : Int} (hx : P64 x) (hy : P64 y) : l_and x y = ((x.toNat &&& y.toNat : Nat) : Int) := by
  refine of64 ?_ ?_
  · rw [Int64.toBitVec_and, BitVec.toNat_and, nat64 hx.1 hx.2, nat64 hy.1 hy.2]
  · have := Nat.and_le_left (n := x.toNat) (m := y.toNat)
    unfold P64 at hx; omega
theorem l_or_n {x y : Int} (hx : P64 x) (hy : P64 y) : l_or x y = ((x.toNat ||| y.toNat : Nat) : Int) := by
  refine of64 ?_ ?_
  · rw [Int64.toBitVec_or, BitVec.toNat_or, nat64 hx.1 hx.2, nat64 hy.1 hy.2]
  · unfold P64 at hx hy; exact Nat.or_lt_two_pow (n := 63) (by omega) (by omega)
theorem b_shl_1 : ∀ k : Nat, k < 31 → b_shl 1 (k : Int) = ((2 ^ k : Nat) : Int) := by decide +kernel
theorem l_shl_1 : ∀ k : Nat, k < 63 → l_shl 1 (k : Int) = ((2 ^ k : Nat) : Int) := by decide +kernel
theorem lshamt : ∀ k : Nat, k < 64 → (((Int32.ofInt (k : Int)).toInt64 &&& 63).toBitVec.smod 64).toNat = k := by decide +kernel
theorem l_shr_n {x : Int} {k : Nat} (hx : P64 x) (hk : k < 64) : l_shr x (k : Int) = ((x.toNat / 2 ^ k : Nat) : Int) := by
  refine of64 ?_ ?_
  · rw [Int64.toBitVec_shiftRight, BitVec.sshiftRight_eq', lshamt k hk]
    rw [BitVec.sshiftRight_eq_of_msb_false, BitVec.toNat_ushiftRight, nat64 hx.1 hx.2, Nat.shiftRight_eq_div_pow]
    rw [BitVec.msb_eq_decide, nat64 hx.1 hx.2]
    unfold P64 at hx
    simp only [decide_eq_false_iff_not]; omega
  · have := Nat.div_le_self x.toNat (2 ^ k)
    unfold P64 at hx; omega
theorem l_int_n {x : Int} (hx : P32 x) : l_int x = x := by
  unfold l_int
  rw [Int64.toInt_toInt32]
  unfold P32 at hx
  rw [show (Int64.ofInt x).toInt = x from w64_of (by omega) (by omega), Int.bmod_def]
  omega
/-- bit k of a number -/
def tb (x : Int) (k : Nat) : Bool := x.toNat.testBit k
theorem pow31 {k : Nat} (hk : k < 31) : P32 ((2 ^ k : Nat) : Int) := by
  have : 2 ^ k < 2 ^ 31 := Nat.pow_lt_pow_right (by decide) hk
  generalize (2 ^ k : Nat) = t at *
  exact ⟨by omega, by omega⟩
theorem pow63 {k : Nat} (hk : k < 63) : P64 ((2 ^ k : Nat) : Int) := by
  have : 2 ^ k < 2 ^ 63 := Nat.pow_lt_pow_right (by decide) hk
  generalize (2 ^ k : Nat) = t at *
  exact ⟨by omega, by omega⟩
theorem land_pow (n k : Nat) : n &&& 2 ^ k = if n.testBit k then 2 ^ k else 0 := by
  apply Nat.eq_of_testBit_eq
  intro i
  rw [Nat.testBit_and, Nat.testBit_two_pow]
  by_cases h : k = i
  · subst h; cases e : n.testBit k <;> simp
  · split <;> simp [h, Nat.testBit_two_pow]
theorem b_and_1shl {x : Int} (hx : P32 x) {k : Nat} (hk : k < 31) : b_and x (b_shl 1 (k : Int)) = if tb x k then ((2 ^ k : Nat) : Int) else 0 := by
  rw [b_shl_1 k hk, b_and_n hx (pow31 hk), Int.toNat_natCast, land_pow]
  unfold tb
  split <;> simp
theorem l_and_1shl {x : Int} (hx : P64 x) {k : Nat} (hk : k < 63) : l_and x (l_shl 1 (k : Int)) = if tb x k then ((2 ^ k : Nat) : Int) else 0 := by
  rw [l_shl_1 k hk, l_and_n hx (pow63 hk), Int.toNat_natCast, land_pow]
  unfold tb
  split <;> simp
theorem l_bit {x : Int} (hx : P64 x) {k : Nat} (hk : k < 63) : l_and (l_shr x (k : Int)) 1 = if tb x k then 1 else 0 := by
  have h1 : P64 (((x.toNat / 2 ^ k : Nat) : Int)) := by
    have := Nat.div_le_self x.toNat (2 ^ k)
    generalize x.toNat / 2 ^ k = t at *
    unfold P64 at *; omega
  rw [l_shr_n hx (by omega), l_and_n h1 (by unfold P64; omega), Int.toNat_natCast]
  unfold tb
  rw [show (1 : Int).toNat = 1 from rfl, Nat.and_one_is_mod, Nat.testBit_eq_decide_div_mod_eq]
  have := Nat.mod_lt (x.toNat / 2 ^ k) (show 2 > 0 by decide)
  by_cases h : x.toNat / 2 ^ k % 2 = 1
  · simp [h]
  · have : x.toNat / 2 ^ k % 2 = 0 := by omega
    simp [this]
theorem b_or_p {x y : Int} (hx : P32 x) (hy : P32 y) : P32 (b_or x y) := by
  rw [b_or_n hx hy]
  unfold P32 at *
  have := Nat.or_lt_two_pow (n := 31) (x := x.toNat) (y := y.toNat) (by omega) (by omega)
  omega
theorem l_or_p {x y : Int} (hx : P64 x) (hy : P64 y) : P64 (l_or x y) := by
  rw [l_or_n hx hy]
  unfold P64 at *
  have := Nat.or_lt_two_pow (n := 63) (x := x.toNat) (y := y.toNat) (by omega) (by omega)
  omega
theorem b_and_p {x y : Int} (hx : P32 x) (hy : P32 y) : P32 (b_and x y) := by
  rw [b_and_n hx hy]
  unfold P32 at *
  have := Nat.and_le_left (n := x.toNat) (m := y.toNat)
  omega
theorem l_and_p {x y : Int} (hx : P64 x) (hy : P64 y) : P64 (l_and x y) := by
  rw [l_and_n hx hy]
  unfold P64 at *
  have := Nat.and_le_left (n := x.toNat) (m := y.toNat)
  omega
theorem tb_or {x y : Int} (hx : P32 x) (hy : P32 y) (k : Nat) : tb (b_or x y) k = (tb x k || tb y k) := by
  unfold tb; rw [b_or_n hx hy, Int.toNat_natCast, Nat.testBit_or]
theorem tb_and {x y : Int} (hx : P32 x) (hy : P32 y) (k : Nat) : tb (b_and x y) k = (tb x k && tb y k) := by
  unfold tb; rw [b_and_n hx hy, Int.toNat_natCast, Nat.testBit_and]
theorem tb_lor {x y : Int} (hx : P64 x) (hy : P64 y) (k : Nat) : tb (l_or x y) k = (tb x k || tb y k) := by
  unfold tb; rw [l_or_n hx hy, Int.toNat_natCast, Nat.testBit_or]
theorem tb_land {x y : Int} (hx : P64 x) (hy : P64 y) (k : Nat) : tb (l_and x y) k = (tb x k && tb y k) := by
  unfold tb; rw [l_and_n hx hy, Int.toNat_natCast, Nat.testBit_and]
theorem tb_pow (i k : Nat) : tb ((2 ^ i : Nat) : Int) k = decide (i = k) := by
  unfold tb; rw [Int.toNat_natCast, Nat.testBit_two_pow]
theorem tb_0 (k : Nat) : tb 0 k = false := by unfold tb; simp
theorem tb_ext {x y : Int} (hx : 0 ≤ x) (hy : 0 ≤ y) (h : ∀ k, tb x k = tb y k) : x = y := by
  have := Nat.eq_of_testBit_eq (x := x.toNat) (y := y.toNat) h
  omega
/-! sums of 0 and 1 -/
theorem osum_r {f : Nat → Int} : ∀ n : Nat, (∀ k, k < n → f k = 0 ∨ f k = 1) → 0 ≤ osum f n ∧ osum f n < ((2 ^ n : Nat) : Int)
  | 0, _ => by simp [osum]
  | n + 1, h => by
    have ih := osum_r n (fun k hk => h k (by omega))
    have e : osum f (n + 1) = osum f n + f n * ((2 ^ n : Nat) : Int) := by show osum f n + f n * 2 ^ n = _; norm_cast
    rw [e, Nat.pow_succ]
    generalize (2 ^ n : Nat) = p at *
    rcases h n (by omega) with h0 | h0 <;> rw [h0] <;> omega
theorem osum_tb {f : Nat → Int} : ∀ n : Nat, (∀ k, k < n → f k = 0 ∨ f k = 1) → ∀ k, tb (osum f n) k = (decide (k < n) && decide (f k = 1))
  | 0, _ => fun k => by simp [osum, tb]
  | n + 1, h => fun k => by
    have ih := osum_tb n (fun k hk => h k (by omega)) k
    have hr := osum_r n (fun k hk => h k (by omega))
    have e : osum f (n + 1) = osum f n + f n * ((2 ^ n : Nat) : Int) := by show osum f n + f n * 2 ^ n = _; norm_cast
    rw [e]
    rcases h n (by omega) with h0 | h0
    · rw [h0, Int.zero_mul, Int.add_zero, ih]
      by_cases hk : k = n
      · subst hk; simp [h0]
      · have : (k < n + 1) ↔ (k < n) := by omega
        simp [this]
    · rw [h0, Int.one_mul]
      unfold tb at *
      rw [show (osum f n + ((2 ^ n : Nat) : Int)).toNat = 2 ^ n + (osum f n).toNat by omega]
      by_cases hk : k = n
      · subst hk
        rw [Nat.testBit_two_pow_add_eq, ih]; simp [h0]
      · by_cases hk2 : k < n
        · rw [Nat.testBit_two_pow_add_gt hk2, ih]; simp [hk2]; omega
        · rw [Nat.testBit_lt_two_pow]
          · simp; omega
          · have h1 : 2 ^ (n + 1) ≤ 2 ^ k := Nat.pow_le_pow_right (by decide) (by omega)
            rw [Nat.pow_succ] at h1
            omega
