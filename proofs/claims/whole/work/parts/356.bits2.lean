/-! how many bits a number has, as the machine counts them: byte by byte -/
def byt (f : Nat → Nat) : Nat → Nat → Nat
  | 0, _ => 0
  | n + 1, x => f (x % 256) + 256 * byt f n (x / 256)
def rep (c : Nat) : Nat → Nat
  | 0 => 0
  | n + 1 => c + 256 * rep c n
theorem and_split {a c h M : Nat} (ha : a < 256) (hc : c < 256) : (a + 256 * h) &&& (c + 256 * M) = (a &&& c) + 256 * (h &&& M) := by
  have hac : a &&& c < 2 ^ 8 := Nat.lt_of_le_of_lt Nat.and_le_left ha
  apply Nat.eq_of_testBit_eq
  intro k
  rw [Nat.testBit_and, show a + 256 * h = 2 ^ 8 * h + a by omega, show c + 256 * M = 2 ^ 8 * M + c by omega, show (a &&& c) + 256 * (h &&& M) = 2 ^ 8 * (h &&& M) + (a &&& c) by omega, Nat.testBit_two_pow_mul_add _ (show a < 2 ^ 8 from ha), Nat.testBit_two_pow_mul_add _ (show c < 2 ^ 8 from hc), Nat.testBit_two_pow_mul_add _ hac]
  by_cases hk : k < 8
  · rw [if_pos hk, if_pos hk, if_pos hk, Nat.testBit_and]
  · rw [if_neg hk, if_neg hk, if_neg hk, Nat.testBit_and]
theorem byt_id : ∀ n x, x < 256 ^ n → byt (fun b => b) n x = x
  | 0, x, h => by simp at h; simp [byt, h]
  | n + 1, x, h => by
    unfold byt
    rw [byt_id n (x / 256) (by rw [Nat.pow_succ] at h; omega)]
    omega
theorem byt_and {c : Nat} (hc : c < 256) : ∀ n x, x < 256 ^ n → x &&& rep c n = byt (fun b => b &&& c) n x
  | 0, x, h => by simp at h; simp [byt, rep, h]
  | n + 1, x, h => by
    unfold byt rep
    rw [← byt_and hc n (x / 256) (by rw [Nat.pow_succ] at h; omega), ← and_split (Nat.mod_lt _ (by decide)) hc]
    congr 1; omega
theorem d55 : ∀ b, b < 256 → ∀ e, e < 2 → (b / 2 + 128 * e) &&& 85 = (b / 2) &&& 85 := by decide +kernel
theorem d33 : ∀ b, b < 256 → ∀ e, e < 4 → (b / 4 + 64 * e) &&& 51 = (b / 4) &&& 51 := by decide +kernel
theorem byt_55 : ∀ n x, x < 256 ^ n → (x / 2) &&& rep 85 n = byt (fun b => (b / 2) &&& 85) n x
  | 0, x, h => by simp at h; simp [byt, rep, h]
  | n + 1, x, h => by
    unfold byt rep
    rw [← byt_55 n (x / 256) (by rw [Nat.pow_succ] at h; omega)]
    show _ = (x % 256 / 2 &&& 85) + _
    rw [← d55 (x % 256) (Nat.mod_lt _ (by decide)) (x / 256 % 2) (Nat.mod_lt _ (by decide)), ← and_split (by omega) (by decide)]
    congr 1; omega
theorem byt_33 : ∀ n x, x < 256 ^ n → (x / 4) &&& rep 51 n = byt (fun b => (b / 4) &&& 51) n x
  | 0, x, h => by simp at h; simp [byt, rep, h]
  | n + 1, x, h => by
    unfold byt rep
    rw [← byt_33 n (x / 256) (by rw [Nat.pow_succ] at h; omega)]
    show _ = (x % 256 / 4 &&& 51) + _
    rw [← d33 (x % 256) (Nat.mod_lt _ (by decide)) (x / 256 % 4) (Nat.mod_lt _ (by decide)), ← and_split (by omega) (by decide)]
    congr 1; omega
theorem byt_add {f g : Nat → Nat} : ∀ n x, byt f n x + byt g n x = byt (fun b => f b + g b) n x
  | 0, x => rfl
  | n + 1, x => by unfold byt; rw [← byt_add n (x / 256)]; omega
theorem byt_comp {f p : Nat → Nat} (hp : ∀ b, b < 256 → p b < 256) : ∀ n x, byt f n (byt p n x) = byt (fun b => f (p b)) n x
  | 0, x => rfl
  | n + 1, x => by
    have := hp (x % 256) (Nat.mod_lt _ (by decide))
    show f (byt p (n + 1) x % 256) + 256 * byt f n (byt p (n + 1) x / 256) = f (p (x % 256)) + 256 * byt (fun b => f (p b)) n (x / 256)
    rw [show byt p (n + 1) x = p (x % 256) + 256 * byt p n (x / 256) from rfl, show (p (x % 256) + 256 * byt p n (x / 256)) % 256 = p (x % 256) by omega, show (p (x % 256) + 256 * byt p n (x / 256)) / 256 = byt p n (x / 256) by omega, byt_comp hp n]
theorem byt_lt {p : Nat → Nat} (hp : ∀ b, b < 256 → p b < 256) : ∀ n x, byt p n x < 256 ^ n
  | 0, x => by simp [byt]
  | n + 1, x => by
    have := hp (x % 256) (Nat.mod_lt _ (by decide))
    have := byt_lt hp n (x / 256)
    unfold byt; rw [Nat.pow_succ]; omega
theorem byt_congr {f g : Nat → Nat} (h : ∀ b, b < 256 → f b = g b) : ∀ n x, byt f n x = byt g n x
  | 0, x => rfl
  | n + 1, x => by unfold byt; rw [h _ (Nat.mod_lt _ (by decide)), byt_congr h n]
theorem byt_0f {p : Nat → Nat} (hp : ∀ b, b < 256 → p b ≤ 68 ∧ p b % 16 ≤ 4) : ∀ n x, (byt p n x + byt p n x / 16) &&& rep 15 n = byt (fun b => (p b + p b / 16) % 16) n x
  | 0, x => by simp [byt, rep]
  | n + 1, x => by
    have h0 := hp (x % 256) (Nat.mod_lt _ (by decide))
    have h1 : byt p n (x / 256) % 16 ≤ 4 := by
      cases n with
      | zero => simp [byt]
      | succ n =>
        have := hp (x / 256 % 256) (Nat.mod_lt _ (by decide))
        unfold byt; omega
    have ih := byt_0f hp n (x / 256)
    unfold byt rep
    rw [← ih, show p (x % 256) + 256 * byt p n (x / 256) + (p (x % 256) + 256 * byt p n (x / 256)) / 16 = (p (x % 256) + p (x % 256) / 16 + 16 * (byt p n (x / 256) % 16)) + 256 * (byt p n (x / 256) + byt p n (x / 256) / 16) by omega, and_split (by omega) (by decide)]
    congr 1
    have := Nat.and_two_pow_sub_one_eq_mod (p (x % 256) + p (x % 256) / 16 + 16 * (byt p n (x / 256) % 16)) 4
    rw [show (2 ^ 4 - 1 : Nat) = 15 from rfl] at this
    rw [this]; omega
def p1 (b : Nat) : Nat := b - ((b / 2) &&& 85)
def p2 (b : Nat) : Nat := (p1 b &&& 51) + ((p1 b / 4) &&& 51)
def p3 (b : Nat) : Nat := (p2 b + p2 b / 16) % 16
theorem p1_ok : ∀ b, b < 256 → ((b / 2) &&& 85) ≤ b ∧ p1 b < 256 := by decide +kernel
theorem p2_ok : ∀ b, b < 256 → p2 b ≤ 68 ∧ p2 b % 16 ≤ 4 := by decide +kernel
theorem p3_ok : ∀ b, b < 256 → p3 b = b % 2 + b / 2 % 2 + b / 4 % 2 + b / 8 % 2 + b / 16 % 2 + b / 32 % 2 + b / 64 % 2 + b / 128 % 2 := by decide +kernel
theorem st1 {x : Nat} (h : x < 256 ^ 8) : x - ((x / 2) &&& rep 85 8) = byt p1 8 x := by
  have e := byt_id 8 x h
  have s : byt (fun b => (b / 2) &&& 85) 8 x + byt p1 8 x = x := by
    rw [byt_add, byt_congr (g := fun b => b) (fun b hb => by have := p1_ok b hb; show (b / 2 &&& 85) + (b - (b / 2 &&& 85)) = b; omega)]
    exact e
  rw [byt_55 8 x h]; omega
theorem st2 {x : Nat} : (byt p1 8 x &&& rep 51 8) + ((byt p1 8 x / 4) &&& rep 51 8) = byt p2 8 x := by
  have hl := byt_lt (p := p1) (fun b hb => (p1_ok b hb).2) 8 x
  rw [byt_and (by decide) 8 _ hl, byt_33 8 _ hl, byt_comp (fun b hb => (p1_ok b hb).2), byt_comp (fun b hb => (p1_ok b hb).2), byt_add]
  rfl
theorem st3 {x : Nat} : (byt p2 8 x + byt p2 8 x / 16) &&& rep 15 8 = byt p3 8 x := byt_0f p2_ok 8 x
theorem bitof {y k : Nat} (hk : k < 8) : y % 256 / 2 ^ k % 2 = y / 2 ^ k % 2 := by
  have : k = 0 ∨ k = 1 ∨ k = 2 ∨ k = 3 ∨ k = 4 ∨ k = 5 ∨ k = 6 ∨ k = 7 := by omega
  rcases this with e | e | e | e | e | e | e | e <;> subst e <;> omega
theorem p3_bits {y : Nat} : p3 (y % 256) = y % 2 + y / 2 % 2 + y / 4 % 2 + y / 8 % 2 + y / 16 % 2 + y / 32 % 2 + y / 64 % 2 + y / 128 % 2 := by
  rw [p3_ok _ (Nat.mod_lt _ (by decide))]
  have h0 := bitof (y := y) (k := 0) (by decide)
  have h1 := bitof (y := y) (k := 1) (by decide)
  have h2 := bitof (y := y) (k := 2) (by decide)
  have h3 := bitof (y := y) (k := 3) (by decide)
  have h4 := bitof (y := y) (k := 4) (by decide)
  have h5 := bitof (y := y) (k := 5) (by decide)
  have h6 := bitof (y := y) (k := 6) (by decide)
  have h7 := bitof (y := y) (k := 7) (by decide)
  simp only [Nat.pow_zero, Nat.div_one, show 2 ^ 1 = 2 from rfl, show 2 ^ 2 = 4 from rfl, show 2 ^ 3 = 8 from rfl, show 2 ^ 4 = 16 from rfl, show 2 ^ 5 = 32 from rfl, show 2 ^ 6 = 64 from rfl, show 2 ^ 7 = 128 from rfl] at h0 h1 h2 h3 h4 h5 h6 h7
  omega
def bsum (x : Nat) : Nat → Int := sumN (fun k => ((x / 2 ^ k % 2 : Nat) : Int))
theorem p3_sum {x i : Nat} : ((p3 (x / 2 ^ (8 * i) % 256) : Nat) : Int) = sumN (fun k => ((x / 2 ^ (8 * i + k) % 2 : Nat) : Int)) 8 := by
  rw [p3_bits]
  show _ = 0 + ((x / 2 ^ (8 * i + 0) % 2 : Nat) : Int) + ((x / 2 ^ (8 * i + 1) % 2 : Nat) : Int) + ((x / 2 ^ (8 * i + 2) % 2 : Nat) : Int) + ((x / 2 ^ (8 * i + 3) % 2 : Nat) : Int) + ((x / 2 ^ (8 * i + 4) % 2 : Nat) : Int) + ((x / 2 ^ (8 * i + 5) % 2 : Nat) : Int) + ((x / 2 ^ (8 * i + 6) % 2 : Nat) : Int) + ((x / 2 ^ (8 * i + 7) % 2 : Nat) : Int)
  simp only [Nat.pow_add, ← Nat.div_div_eq_div_mul, Nat.pow_zero, Nat.div_one, show 2 ^ 1 = 2 from rfl, show 2 ^ 2 = 4 from rfl, show 2 ^ 3 = 8 from rfl, show 2 ^ 4 = 16 from rfl, show 2 ^ 5 = 32 from rfl, show 2 ^ 6 = 64 from rfl, show 2 ^ 7 = 128 from rfl]
  generalize x / 2 ^ (8 * i) = y
  push_cast; omega
theorem bsum_40 {x : Nat} : bsum x 40 = ((p3 (x % 256) + p3 (x / 256 % 256) + p3 (x / 65536 % 256) + p3 (x / 16777216 % 256) + p3 (x / 4294967296 % 256) : Nat) : Int) := by
  have h0 := p3_sum (x := x) (i := 0)
  have h1 := p3_sum (x := x) (i := 1)
  have h2 := p3_sum (x := x) (i := 2)
  have h3 := p3_sum (x := x) (i := 3)
  have h4 := p3_sum (x := x) (i := 4)
  unfold bsum
  rw [show 40 = 32 + 8 from rfl, sumN_app, show 32 = 24 + 8 from rfl, sumN_app, show 24 = 16 + 8 from rfl, sumN_app, show 16 = 8 + 8 from rfl, sumN_app]
  rw [show x / 2 ^ (8 * 0) = x by simp] at h0
  rw [show 2 ^ (8 * 1) = 256 from rfl] at h1
  rw [show 2 ^ (8 * 2) = 65536 from rfl] at h2
  rw [show 2 ^ (8 * 3) = 16777216 from rfl] at h3
  rw [show 2 ^ (8 * 4) = 4294967296 from rfl] at h4
  simp only [Int.natCast_add]
  rw [h0, h1, h2, h3, h4]
  rw [show (fun k => ((x / 2 ^ (8 * 0 + k) % 2 : Nat) : Int)) = (fun k => ((x / 2 ^ k % 2 : Nat) : Int)) by funext k; rw [Nat.mul_zero, Nat.zero_add]]
theorem l_ushr_n {x : Int} (hx : P64 x) {k : Nat} (hk : k < 64) : l_ushr x (k : Int) = ((x.toNat / 2 ^ k : Nat) : Int) := by
  have hs : ∀ k : Nat, k < 64 → (((Int32.ofInt (k : Int)).toInt64.toUInt64 &&& Int64.toUInt64 63).toBitVec % 64).toNat = k := by decide +kernel
  refine of64 ?_ ?_
  · show ((Int64.ofInt x).toBitVec >>> (((Int32.ofInt (k : Int)).toInt64.toUInt64 &&& Int64.toUInt64 63).toBitVec % 64)).toNat = _
    rw [BitVec.ushiftRight_eq', BitVec.toNat_ushiftRight, hs k hk, nat64 hx.1 hx.2, Nat.shiftRight_eq_div_pow]
  · have := Nat.div_le_self x.toNat (2 ^ k)
    unfold P64 at hx; omega
theorem low7 {v S K : Int} (h : v = S + 256 * K) (hS : 0 ≤ S ∧ S ≤ 40) : (if v % 4294967296 < (4294967296 + 1) / 2 then v % 4294967296 else v % 4294967296 - 4294967296) % 128 = S := by
  have h1 : v % 4294967296 % 256 = S := by omega
  split <;> omega
theorem r_bitCount {x : Int} (hx : 0 ≤ x ∧ x < 1099511627776) {σ : St} {Q : Int → St → Prop} (h : Q (bsum x.toNat 40) σ) : wp_J13_bitCount_95d88_R x σ Q := by
  have hP : P64 x := by unfold P64; omega
  have hx8 : x.toNat < 256 ^ 8 := by have : (256 : Nat) ^ 8 = 18446744073709551616 := by decide
                                     omega
  have m5 : P64 6148914691236517205 := by unfold P64; omega
  have m3 : P64 3689348814741910323 := by unfold P64; omega
  have mf : P64 1085102592571150095 := by unfold P64; omega
  have a1 := st1 hx8
  have a2 := st2 (x := x.toNat)
  have a3 := st3 (x := x.toNat)
  have r5 : rep 85 8 = 6148914691236517205 := by decide
  have r3 : rep 51 8 = 3689348814741910323 := by decide
  have rf : rep 15 8 = 1085102592571150095 := by decide
  rw [r5] at a1
  rw [r3] at a2
  rw [rf] at a3
  have b1 : byt p1 8 x.toNat ≤ x.toNat := by omega
  have u0 : (x.toNat / 2 &&& 6148914691236517205) ≤ x.toNat / 2 := Nat.and_le_left
  have u1 : (byt p1 8 x.toNat &&& 3689348814741910323) ≤ byt p1 8 x.toNat := Nat.and_le_left
  have u2 : (byt p1 8 x.toNat / 4 &&& 3689348814741910323) ≤ byt p1 8 x.toNat / 4 := Nat.and_le_left
  have b2 : byt p2 8 x.toNat ≤ 2 * x.toNat := by omega
  have u3 : ((byt p2 8 x.toNat + byt p2 8 x.toNat / 16) &&& 1085102592571150095) ≤ byt p2 8 x.toNat + byt p2 8 x.toNat / 16 := Nat.and_le_left
  have e3 : byt p3 8 x.toNat = p3 (x.toNat % 256) + 256 * (p3 (x.toNat / 256 % 256) + 256 * (p3 (x.toNat / 65536 % 256) + 256 * (p3 (x.toNat / 16777216 % 256) + 256 * p3 (x.toNat / 4294967296 % 256)))) := by
    have z : x.toNat / 1099511627776 = 0 := by omega
    show p3 (x.toNat % 256) + 256 * (p3 (x.toNat / 256 % 256) + 256 * (p3 (x.toNat / 256 / 256 % 256) + 256 * (p3 (x.toNat / 256 / 256 / 256 % 256) + 256 * (p3 (x.toNat / 256 / 256 / 256 / 256 % 256) + 256 * byt p3 3 (x.toNat / 256 / 256 / 256 / 256 / 256))))) = _
    simp only [Nat.div_div_eq_div_mul, show 256 * 256 = 65536 from rfl, show 65536 * 256 = 16777216 from rfl, show 16777216 * 256 = 4294967296 from rfl, show 4294967296 * 256 = 1099511627776 from rfl]
    rw [z, show byt p3 3 0 = 0 by decide]
    omega
  have q : ∀ y : Nat, p3 (y % 256) ≤ 8 := fun y => by rw [p3_bits]; omega
  have q0 := q x.toNat
  have q1 := q (x.toNat / 256)
  have q2 := q (x.toNat / 65536)
  have q3 := q (x.toNat / 16777216)
  have q4 := q (x.toNat / 4294967296)
  rw [bsum_40] at h
  unfold wp_J13_bitCount_95d88_R
  intro v1 ev1 v2 ev2 v3 ev3 v4 ev4 v5 ev5 v6 ev6
  generalize hA : byt p1 8 x.toNat = A at *
  generalize hB : byt p2 8 x.toNat = B at *
  generalize hC : byt p3 8 x.toNat = C at *
  have k1 : v1 = (A : Int) := by
    rw [ev1, show (1 : Int) = ((1 : Nat) : Int) from rfl, l_ushr_n hP (by decide), show (2 : Nat) ^ 1 = 2 from rfl, l_and_n (by unfold P64 at *; omega) m5, Int.toNat_natCast, show (6148914691236517205 : Int).toNat = 6148914691236517205 from rfl, w64_of (by omega) (by omega)]
    omega
  have P1 : P64 v1 := by unfold P64 at *; omega
  have k2 : v2 = (B : Int) := by
    rw [ev2, show (2 : Int) = ((2 : Nat) : Int) from rfl, l_ushr_n P1 (by decide), show (2 : Nat) ^ 2 = 4 from rfl, l_and_n P1 m3, l_and_n (by unfold P64 at *; omega) m3, Int.toNat_natCast, show (3689348814741910323 : Int).toNat = 3689348814741910323 from rfl, k1, Int.toNat_natCast, w64_of (by omega) (by omega)]
    omega
  have P2 : P64 v2 := by unfold P64 at *; omega
  have k3 : v3 = (C : Int) := by
    rw [ev3, show (4 : Int) = ((4 : Nat) : Int) from rfl, l_ushr_n P2 (by decide), show (2 : Nat) ^ 4 = 16 from rfl, k2, Int.toNat_natCast, w64_of (by omega) (by omega), l_and_n (by unfold P64 at *; omega) mf, show (1085102592571150095 : Int).toNat = 1085102592571150095 from rfl, show ((B : Int) + ((B / 16 : Nat) : Int)).toNat = B + B / 16 by omega]
    omega
  have P3 : P64 v3 := by unfold P64 at *; omega
  have k4 : v4 = ((C + C / 256 : Nat) : Int) := by
    rw [ev4, show (8 : Int) = ((8 : Nat) : Int) from rfl, l_ushr_n P3 (by decide), show (2 : Nat) ^ 8 = 256 from rfl, k3, Int.toNat_natCast, w64_of (by omega) (by omega)]
    omega
  have P4 : P64 v4 := by unfold P64 at *; omega
  have k5 : v5 = ((C + C / 256 + (C + C / 256) / 65536 : Nat) : Int) := by
    rw [ev5, show (16 : Int) = ((16 : Nat) : Int) from rfl, l_ushr_n P4 (by decide), show (2 : Nat) ^ 16 = 65536 from rfl, k4, Int.toNat_natCast, w64_of (by omega) (by omega)]
    omega
  have P5 : P64 v5 := by unfold P64 at *; omega
  have k6 : v6 = ((C + C / 256 + (C + C / 256) / 65536 + (C + C / 256 + (C + C / 256) / 65536) / 4294967296 : Nat) : Int) := by
    rw [ev6, show (32 : Int) = ((32 : Nat) : Int) from rfl, l_ushr_n P5 (by decide), show (2 : Nat) ^ 32 = 4294967296 from rfl, k5, Int.toNat_natCast, w64_of (by omega) (by omega)]
    omega
  have P6 : P64 v6 := by unfold P64 at *; omega
  have el : l_int v6 = Int.bmod v6 4294967296 := by
    unfold l_int
    rw [Int64.toInt_toInt32, show (Int64.ofInt v6).toInt = v6 from w64_of (by unfold P64 at P6; omega) (by unfold P64 at P6; omega)]
  have cl : C32 (l_int v6) := by rw [el, Int.bmod_def]; unfold C32; omega
  rw [b_and_low cl 7 (by decide) (by decide), el, Int.bmod_def]
  have fin : (if v6 % 4294967296 < (4294967296 + 1) / 2 then v6 % 4294967296 else v6 % 4294967296 - 4294967296) % ((2 ^ 7 : Nat) : Int) = ((p3 (x.toNat % 256) + p3 (x.toNat / 256 % 256) + p3 (x.toNat / 65536 % 256) + p3 (x.toNat / 16777216 % 256) + p3 (x.toNat / 4294967296 % 256) : Nat) : Int) := by
    rw [k6]
    generalize p3 (x.toNat % 256) = y0 at *
    generalize p3 (x.toNat / 256 % 256) = y1 at *
    generalize p3 (x.toNat / 65536 % 256) = y2 at *
    generalize p3 (x.toNat / 16777216 % 256) = y3 at *
    generalize p3 (x.toNat / 4294967296 % 256) = y4 at *
    have c1 : C / 256 = y1 + 256 * (y2 + 256 * (y3 + 256 * y4)) := by omega
    have c2 : (C + C / 256) / 65536 = y2 + y3 + 256 * (y3 + y4) + 65536 * y4 := by omega
    have c3 : (C + C / 256 + (C + C / 256) / 65536) / 4294967296 = y4 := by omega
    rw [c3, c2, c1, e3, show ((2 ^ 7 : Nat) : Int) = 128 from rfl]
    refine low7 (K := (y1 : Int) + 256 * y2 + 65536 * y3 + 16777216 * y4 + (y2 + 256 * y3 + 65536 * y4) + (y3 + y4) + 256 * y4) ?_ (by omega)
    omega
  rw [show ((4294967296 : Nat) : Int) = 4294967296 from rfl, fin]
  exact h
