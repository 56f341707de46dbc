/-! numbers of the pure side -/
theorem w32_of {x : Int} (h1 : -2147483648 ≤ x) (h2 : x < 2147483648) : w32 x = x := w32_id ⟨h1, h2⟩
theorem w64_of {x : Int} (h1 : -9223372036854775808 ≤ x) (h2 : x < 9223372036854775808) : w64 x = x := w64_id ⟨h1, h2⟩
theorem upS_s {σ : St} {k j : Nat} {v : Int} : upS σ k j v k j = v := by simp [upS]
theorem upS_k {σ : St} {k j a : Nat} {v : Int} (h : a ≠ k) : upS σ k j v a = σ a := upS_ne a h
theorem upS_j {σ : St} {k j b : Nat} {v : Int} (h : b ≠ j) : upS σ k j v k b = σ k b := by simp [upS, h]
theorem shamt : ∀ k : Nat, k < 32 → ((Int32.ofInt (k : Int) &&& 31).toBitVec.smod 32).toNat = k := by decide +kernel
theorem b_shr_eq {x : Int} {k : Nat} (cx : C32 x) (hk : k < 32) : b_shr x (k : Int) = x / 2 ^ k := by
  unfold b_shr
  rw [pk_shr _ _ k (shamt k hk), i_toInt cx, Int.shiftRight_eq_div_pow]
  norm_cast
theorem bv_nat {x : Int} (cx : C32 x) : ((Int32.ofInt x).toBitVec.toNat : Int) = x % 4294967296 := by
  have h : (Int32.ofInt x).toBitVec.toInt = x := i_toInt cx
  have h2 := BitVec.toInt_eq_toNat_cond (x := (Int32.ofInt x).toBitVec)
  rw [h] at h2
  have hl := (Int32.ofInt x).toBitVec.isLt
  unfold C32 at cx
  generalize (Int32.ofInt x).toBitVec.toNat = t at *
  split at h2 <;> omega
theorem b_and_low {x : Int} (cx : C32 x) {m : Int} (k : Nat) (hm : (Int32.ofInt m).toBitVec.toNat = 2 ^ k - 1) (hk : k ≤ 30) : b_and x m = x % (2 ^ k : Nat) := by
  unfold b_and
  rw [pk_and _ k hm]
  have hlt : (Int32.ofInt x).toBitVec.toNat % 2 ^ k < 2 ^ k := Nat.mod_lt _ (Nat.pos_of_neZero _)
  have hp : 2 ^ k ≤ 2 ^ 30 := Nat.pow_le_pow_right (by decide) hk
  rw [nI_toInt (by omega)]
  rw [Int.natCast_emod, bv_nat cx]
  have : ((2 ^ k : Nat) : Int) ∣ 4294967296 := by
    have h1 : (2 ^ k : Nat) ∣ 2 ^ 32 := Nat.pow_dvd_pow 2 (by omega)
    exact Int.natCast_dvd_natCast.mpr h1
  exact Int.emod_emod_of_dvd x this
theorem b_and_255 {x : Int} (cx : C32 x) : b_and x 255 = x % 256 := b_and_low cx 8 (by decide) (by decide)
theorem b_and_1 {x : Int} (cx : C32 x) : b_and x 1 = x % 2 := b_and_low cx 1 (by decide) (by decide)
theorem i_nat {x : Int} (h : 0 ≤ x) : Int32.ofInt x = nI x.toNat := by
  unfold nI
  conv => lhs; rw [show x = (x.toNat : Int) by omega]
  rfl
theorem b_div_eq {a d : Int} (h0 : 0 ≤ a) (h1 : a < 2147483648) (h2 : 0 < d) (h3 : d < 2147483648) : b_div a d = a / d := by
  unfold b_div
  rw [i_nat h0, i_nat (by omega : 0 ≤ d), pk_div (by omega) (by omega) (by omega)]
  have : a.toNat / d.toNat ≤ a.toNat := Nat.div_le_self _ _
  rw [nI_toInt (by omega)]
  rw [Int.natCast_ediv]
  congr 1 <;> omega
theorem b_rem_eq {a d : Int} (h0 : 0 ≤ a) (h1 : a < 2147483648) (h2 : 0 < d) (h3 : d < 2147483648) : b_rem a d = a % d := by
  unfold b_rem
  rw [i_nat h0, i_nat (by omega : 0 ≤ d), pk_rem (by omega) (by omega) (by omega)]
  have : a.toNat % d.toNat < d.toNat := Nat.mod_lt _ (by omega)
  rw [nI_toInt (by omega)]
  rw [Int.natCast_emod]
  congr 1 <;> omega
theorem ushamt : ∀ k : Nat, k < 32 → (((Int32.ofInt (k : Int)).toUInt32 &&& Int32.toUInt32 31).toBitVec % 32).toNat = k := by decide +kernel
theorem b_ushr_mod {x : Int} {k : Nat} (cx : C32 x) (hk : k < 32) : b_ushr x (k : Int) % 4294967296 = x % 4294967296 / (2 ^ k : Nat) := by
  unfold b_ushr
  have h := pk_ushr (Int32.ofInt x) (Int32.ofInt (k : Int)) k (ushamt k hk)
  have h1 := bv_nat (c32_t ((Int32.ofInt x).toUInt32 >>> ((Int32.ofInt (k : Int)).toUInt32 &&& Int32.toUInt32 31)).toInt32)
  rw [Int32.ofInt_toInt] at h1
  rw [← h1, h, Int.natCast_ediv, bv_nat cx]
theorem b_byte_eq {x : Int} (cx : C32 x) : b_byte x = (x + 128) % 256 - 128 := by
  unfold b_byte
  rw [Int8.toInt_toInt32]
  have h : (Int32.ofInt x).toInt8.toInt = (Int32.ofInt x).toInt.bmod 256 := by
    rw [Int32.toInt_toInt8]
  rw [h, i_toInt cx, Int.bmod_def]
  omega
