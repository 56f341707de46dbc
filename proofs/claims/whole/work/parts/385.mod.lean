/-! numbers modulo 9973 -/
def Pm : Int := 9973
theorem l_rem_eq {a d : Int} (h0 : 0 ≤ a) (h1 : a < 9223372036854775808) (h2 : 0 < d) (h3 : d < 9223372036854775808) : l_rem a d = a % d := by
  have e := l_div_eq h0 h1 h2 h3
  unfold l_div at e
  unfold l_rem
  rw [Int64.toInt_sub, Int64.toInt_mul, e, l_toInt ⟨by omega, h1⟩, l_toInt ⟨by omega, h3⟩]
  have u1 : 0 ≤ a / d := Int.ediv_nonneg h0 (by omega)
  have u2 : a / d * d ≤ a := Int.ediv_mul_le a (by omega)
  have u3 : 0 ≤ a / d * d := Int.mul_nonneg u1 (by omega)
  have u4 : a / d * d = a - a % d := by have := Int.mul_ediv_add_emod a d; rw [Int.mul_comm]; omega
  have u5 := Int.emod_nonneg a (show d ≠ 0 by omega)
  generalize a / d * d = y at *
  rw [show Int.bmod y (2 ^ 64) = y by rw [Int.bmod_def]; omega]
  rw [Int.bmod_def]; omega
theorem b_rem_neg {a : Int} (h0 : -9973 < a) (h1 : a < 0) : b_rem a 9973 = a := by
  unfold b_rem
  rw [Int32.toInt_sub, Int32.toInt_mul, Int32.toInt_div, i_toInt ⟨by omega, by omega⟩, i_toInt ⟨by decide, by decide⟩]
  have : a.tdiv 9973 = 0 := by
    have e : (-a).tdiv 9973 = -(a.tdiv 9973) := Int.neg_tdiv _ _
    rw [Int.tdiv_eq_ediv_of_nonneg (by omega), Int.ediv_eq_zero_of_lt (by omega) (by omega)] at e
    omega
  rw [this]
  have e0 : Int.bmod 0 (2 ^ 32) = 0 := by decide
  rw [e0, Int.zero_mul, e0, Int.bmod_def]
  omega
theorem b_xor_sign {x : Int} (cx : C32 x) {y : Int} (cy : C32 y) (hy : 0 ≤ y) : b_xor x y ≥ 0 ↔ 0 ≤ x := by
  have h1 : (Int32.ofInt x ^^^ Int32.ofInt y).toBitVec.msb = ((Int32.ofInt x).toBitVec.msb ^^ (Int32.ofInt y).toBitVec.msb) := by
    rw [Int32.toBitVec_xor, BitVec.msb_xor]
  rw [BitVec.msb_eq_toInt, BitVec.msb_eq_toInt, BitVec.msb_eq_toInt] at h1
  have e1 : (Int32.ofInt x).toBitVec.toInt = x := i_toInt cx
  have e2 : (Int32.ofInt y).toBitVec.toInt = y := i_toInt cy
  have e3 : (Int32.ofInt x ^^^ Int32.ofInt y).toBitVec.toInt = b_xor x y := rfl
  rw [e1, e2, e3, decide_eq_false (show ¬ y < 0 by omega), Bool.xor_false] at h1
  by_cases hx : x < 0
  · rw [decide_eq_true hx, decide_eq_true_iff] at h1; omega
  · rw [decide_eq_false hx, decide_eq_false_iff_not] at h1; omega
theorem c_floorMod {x : Int} (h0 : -9973 < x) (h1 : x < 2147483648) {σ : St} {Q : Int → St → Prop} (h : Q (x % 9973) σ) : wp_J9_floorMod_7cf53_C x 9973 σ Q := by
  unfold wp_J9_floorMod_7cf53_C
  refine ⟨by decide, fun v ev => ?_⟩
  rw [b_xor_sign ⟨by omega, by omega⟩ ⟨by decide, by decide⟩ (by decide)]
  refine ⟨fun w => ?_, fun w => ?_⟩
  · rw [ev, b_rem_eq w h1 (by decide) (by decide)]; exact h
  · rw [b_rem_neg h0 (by omega)] at ev
    refine ⟨fun z => absurd z (by omega), fun _ => ?_⟩
    rw [ev, w32_of (by omega) (by omega)]
    rw [show x % 9973 = x + 9973 by omega] at h; exact h
def mR (x : Int) : Prop := 0 ≤ x ∧ x < 9973
theorem mR_mod (x : Int) : mR (x % 9973) := by unfold mR; omega
theorem mR_mul {x y : Int} (hx : mR x) (hy : mR y) : 0 ≤ x * y ∧ x * y < 99460729 := by
  refine ⟨Int.mul_nonneg hx.1 hy.1, ?_⟩
  have : x * y ≤ 9972 * 9972 := Int.mul_le_mul (by have := hx.2; omega) (by have := hy.2; omega) hy.1 (by decide)
  omega
theorem pow_mod (x : Int) : ∀ n : Nat, (x % 9973) ^ n % 9973 = x ^ n % 9973
  | 0 => by rw [Int.pow_zero, Int.pow_zero]
  | n + 1 => by rw [Int.pow_succ, Int.pow_succ, Int.mul_emod, pow_mod x n, Int.emod_emod_of_dvd _ (Int.dvd_refl _), ← Int.mul_emod]
/-- the inverse, by the power 9971 -/
def ivN (a : Int) : Int := a ^ 9971 % 9973
theorem r_power {a : Int} (ha : mR a) {N : Nat} (hN : N ≤ 9971) {τ : St} {Q : Int → St → Prop} (h : Q (a ^ N % 9973) τ) : wp_X12_power a (N : Int) τ Q := by
  have lp : ∀ (d k : Nat) (n : Nat), k + d = N → d < n → wp_X12_power_l5 Q n a (N : Int) (a ^ k % 9973) (k : Int) τ := by
    intro d
    induction d with
    | zero =>
      intro k n hd hn
      obtain ⟨n, rfl⟩ := suc_n hn
      unfold wp_X12_power_l5
      refine ⟨fun _ => ?_, fun w => absurd (by omega) w⟩
      rw [show k = N by omega]; exact h
    | succ d ih =>
      intro k n hd hn
      obtain ⟨n, rfl⟩ := suc_n hn
      unfold wp_X12_power_l5
      refine ⟨fun w => absurd w (by omega), fun _ v1 e1 v2 e2 => ?_⟩
      have hm := mR_mul (mR_mod (a ^ k)) ha
      rw [w64_of (by omega) (by omega), l_rem_eq hm.1 (by omega) (by decide) (by decide)] at e1
      rw [e2, w32_of (by omega) (by omega), e1]
      have e : a ^ k % 9973 * a % 9973 = a ^ (k + 1) % 9973 := by
        rw [Int.pow_succ, Int.mul_emod, Int.emod_emod_of_dvd _ (Int.dvd_refl _), ← Int.mul_emod]
      rw [e]
      exact ih (k + 1) n (by omega) (by omega)
  unfold wp_X12_power
  have := lp N 0 bigN (by omega) (by unfold bigN; omega)
  rw [show a ^ 0 % 9973 = (1 : Int) by rw [Int.pow_zero]; decide] at this
  exact this
theorem c_inverse {a : Int} (ha : mR a) {σ : St} {Q : Int → St → Prop} (h : Q (ivN a) σ) : wp_X7_inverse a σ Q := by
  have lp : ∀ (d b : Nat) (res pw : Int) (n : Nat), b ≤ d → b ≤ 9971 → d < n → mR res → mR pw → res * pw ^ b % 9973 = ivN a → wp_X7_inverse_l8 Q n res pw (b : Int) σ := by
    intro d
    induction d with
    | zero =>
      intro b res pw n hb hb2 hn h1 h2 h3
      obtain ⟨n, rfl⟩ := suc_n hn
      unfold wp_X7_inverse_l8
      refine ⟨fun _ => ?_, fun w => absurd (by omega) w⟩
      rw [show b = 0 by omega, Int.pow_zero, Int.mul_one] at h3
      rw [← h3, show res % 9973 = res by unfold mR at h1; omega] at h
      exact h
    | succ d ih =>
      intro b res pw n hb hb2 hn h1 h2 h3
      obtain ⟨n, rfl⟩ := suc_n hn
      unfold wp_X7_inverse_l8
      refine ⟨fun w => ?_, fun w => ?_⟩
      · rw [show b = 0 by omega, Int.pow_zero, Int.mul_one] at h3
        rw [← h3, show res % 9973 = res by unfold mR at h1; omega] at h
        exact h
      · have hp := mR_mul h2 h2
        have nx : ∀ r1, mR r1 → r1 * (pw * pw) ^ (b / 2) % 9973 = ivN a → wp_X7_inverse_b27 Q (wp_X7_inverse_l8 Q n) r1 pw (b : Int) σ := by
          intro r1 hr1 hr2
          unfold wp_X7_inverse_b27
          intro v2 e2 v3 e3
          rw [w32_of (by omega) (by omega), b_rem_eq hp.1 (by omega) (by decide) (by decide)] at e2
          have e3' : v3 = ((b / 2 : Nat) : Int) := by
            rw [e3]
            have := b_shr_eq (x := (b : Int)) (k := 1) ⟨by omega, by omega⟩ (by decide)
            rw [show ((1 : Nat) : Int) = 1 from rfl] at this
            rw [this]; omega
          rw [e3', e2]
          refine ih (b / 2) r1 _ n (by omega) (by omega) (by omega) hr1 (mR_mod _) ?_
          rw [← hr2, Int.mul_emod, Int.mul_emod r1]
          congr 2
          exact pow_mod _ _
        rw [b_and_1 ⟨by omega, by omega⟩]
        have e2b : pw ^ b = (pw * pw) ^ (b / 2) * pw ^ (b % 2) := by
          conv => lhs; rw [show b = 2 * (b / 2) + b % 2 by omega]
          rw [Int.pow_add, Int.pow_mul, show pw ^ 2 = pw * pw by rw [Int.pow_succ, Int.pow_succ, Int.pow_zero, Int.one_mul]]
        refine ⟨fun z => nx res h1 ?_, fun z v1 e1 => nx v1 ?_ ?_⟩
        · rw [e2b, show b % 2 = 0 by omega, Int.pow_zero, Int.mul_one] at h3; exact h3
        · have hm := mR_mul h1 h2
          rw [e1, w32_of (by omega) (by omega), b_rem_eq hm.1 (by omega) (by decide) (by decide)]; exact mR_mod _
        · have hm := mR_mul h1 h2
          rw [e1, w32_of (by omega) (by omega), b_rem_eq hm.1 (by omega) (by decide) (by decide), ← h3, e2b, show b % 2 = 1 by omega, Int.pow_succ, Int.pow_zero, Int.one_mul, Int.mul_comm ((pw * pw) ^ (b / 2)) pw, ← Int.mul_assoc]
          rw [Int.mul_emod, Int.emod_emod_of_dvd _ (Int.dvd_refl _), ← Int.mul_emod]
  unfold wp_X7_inverse
  exact lp 9971 9971 1 a bigN (by omega) (by omega) (by unfold bigN; omega) (by unfold mR; omega) ha (by unfold ivN; rw [Int.one_mul])
