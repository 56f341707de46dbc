/-! sums and products that stop at B0 -/
theorem l_div_eq {a d : Int} (h0 : 0 ≤ a) (h1 : a < 9223372036854775808) (h2 : 0 < d) (h3 : d < 9223372036854775808) : l_div a d = a / d := by
  unfold l_div
  rw [Int64.toInt_div, l_toInt ⟨by omega, h1⟩, l_toInt ⟨by omega, h3⟩, Int.tdiv_eq_ediv_of_nonneg h0]
  have u1 : 0 ≤ a / d := Int.ediv_nonneg h0 (by omega)
  have u2 : a / d ≤ a := Int.ediv_le_self _ h0
  generalize a / d = y at *
  rw [Int.bmod_def]
  omega
def sR (x : Int) : Prop := 0 ≤ x ∧ x ≤ B0
theorem sat_r {x : Int} (h : 0 ≤ x) : sR (min B0 x) := by unfold sR B0; omega
theorem c_add {a b : Int} (ha : sR a) (hb : sR b) {σ : St} {Q : Int → St → Prop} (h : Q (min B0 (a + b)) σ) : wp_X8_add a b σ Q := by
  unfold sR B0 at *
  unfold wp_X8_add
  intro v ev
  rw [w64_of (by omega) (by omega)] at ev
  refine ⟨fun z => ?_, fun z => ?_⟩
  · rw [ev]; rw [show min 1000000000000001 (a + b) = a + b by omega] at h; exact h
  · rw [show min 1000000000000001 (a + b) = 1000000000000001 by omega] at h; exact h
theorem r_plusGreat {a b : Int} (ha : sR a) (hb : sR b) {σ : St} {Q : Int → St → Prop} (h : Q (min B0 (a + b)) σ) : wp_X12_plusGreat a b σ Q := by
  unfold sR B0 at *
  unfold wp_X12_plusGreat
  rw [w64_of (by omega) (by omega)]; exact h
theorem c_multiply {a b : Int} (ha : sR a) (hb : sR b) {σ : St} {Q : Int → St → Prop} (h : Q (min B0 (a * b)) σ) : wp_X8_multiply a b σ Q := by
  unfold sR B0 at *
  have nn : 0 ≤ a * b := Int.mul_nonneg ha.1 hb.1
  have z1 : a = 0 → a * b = 0 := fun e => by rw [e, Int.zero_mul]
  have z2 : b = 0 → a * b = 0 := fun e => by rw [e, Int.mul_zero]
  unfold wp_X8_multiply wp_X8_multiply_b48 wp_X8_multiply_b63
  have big : 0 < b → ((a > l_div 1000000000000001 b) → ((0 : Int) = 0 → Q 1000000000000001 σ) ∧ (¬ (0 : Int) = 0 → Q (w64 (a * b)) σ)) ∧ (¬ (a > l_div 1000000000000001 b) → ((1 : Int) = 0 → Q 1000000000000001 σ) ∧ (¬ (1 : Int) = 0 → Q (w64 (a * b)) σ)) := by
    intro hb0
    rw [l_div_eq (by decide) (by decide) hb0 (by omega)]
    have k : a ≤ 1000000000000001 / b ↔ a * b ≤ 1000000000000001 := Int.le_ediv_iff_mul_le hb0
    refine ⟨fun z => ⟨fun _ => ?_, fun w => absurd rfl w⟩, fun z => ⟨fun w => absurd w (by decide), fun _ => ?_⟩⟩
    · rw [show min 1000000000000001 (a * b) = 1000000000000001 by omega] at h; exact h
    · rw [show min 1000000000000001 (a * b) = a * b by omega] at h
      rw [w64_of (by omega) (by omega)]; exact h
  refine ⟨fun e => ?_, fun e => ⟨fun e2 => ⟨fun e3 => ?_, fun e3 => ⟨fun e4 => ?_, fun e4 => ?_⟩⟩, fun e2 => ?_⟩⟩
  · rw [z1 e] at h; exact h
  · exact ⟨e2, big (by omega)⟩
  · exact ⟨e2, big (by omega)⟩
  · have : a * b ≤ 2147483647 * 2147483647 := Int.mul_le_mul (by omega) (by omega) hb.1 (by decide)
    rw [w64_of (by omega) (by omega)]
    refine ⟨fun z => ⟨fun _ => ?_, fun w => absurd rfl w⟩, fun z => ⟨fun w => absurd w (by decide), fun _ => ?_⟩⟩
    · rw [show min 1000000000000001 (a * b) = 1000000000000001 by omega] at h; exact h
    · rw [show min 1000000000000001 (a * b) = a * b by omega] at h; exact h
  · rw [z2 (by omega)] at h; exact h
theorem r_timesGreat {a b : Int} (ha : sR a) (hb : sR b) {σ : St} {Q : Int → St → Prop} (h : Q (min B0 (a * b)) σ) : wp_X12_timesGreat a b σ Q := by
  unfold sR B0 at *
  have nn : 0 ≤ a * b := Int.mul_nonneg ha.1 hb.1
  have z1 : a = 0 → a * b = 0 := fun e => by rw [e, Int.zero_mul]
  have z2 : b = 0 → a * b = 0 := fun e => by rw [e, Int.mul_zero]
  unfold wp_X12_timesGreat
  refine ⟨fun e => ?_, fun e => ⟨fun e2 => ⟨e2, ?_⟩, fun e2 => ?_⟩⟩
  · rw [z1 e] at h; exact h
  · have hb0 : 0 < b := by omega
    rw [l_div_eq (by decide) (by decide) hb0 (by omega)]
    have k : a ≤ 1000000000000000 / b ↔ a * b ≤ 1000000000000000 := Int.le_ediv_iff_mul_le hb0
    refine ⟨fun z => ?_, fun z => ?_⟩
    · rw [show min 1000000000000001 (a * b) = a * b by omega] at h
      rw [w64_of (by omega) (by omega)]; exact h
    · rw [show min 1000000000000001 (a * b) = 1000000000000001 by omega] at h; exact h
  · rw [z2 (by omega)] at h; exact h
def eR (x : Int) : Prop := x = -5 ∨ sR x
theorem c_endlessSum {a b : Int} (ha : eR a) (hb : eR b) {σ : St} {Q : Int → St → Prop} (h : Q (if a = -5 ∨ b = -5 then -5 else min B0 (a + b)) σ) : wp_X2_endlessSum a b σ Q := by
  unfold wp_X2_endlessSum wp_X2_endlessSum_b16
  refine ⟨fun e => ?_, fun e => ⟨fun e2 => ?_, fun e2 => ?_⟩⟩
  · rw [if_pos (Or.inl e)] at h; exact h
  · rw [if_neg (fun w => by rcases w with w | w; exact e w; exact e2 w)] at h
    exact c_add (ha.resolve_left e) (hb.resolve_left e2) h
  · rw [if_pos (Or.inr (by omega))] at h; exact h
theorem c_endlessProduct {a b : Int} (ha : eR a) (hb : eR b) {σ : St} {Q : Int → St → Prop} (h : Q (if a = -5 ∨ b = -5 then -5 else min B0 (a * b)) σ) : wp_X2_endlessProduct a b σ Q := by
  unfold wp_X2_endlessProduct wp_X2_endlessProduct_b16
  refine ⟨fun e => ?_, fun e => ⟨fun e2 => ?_, fun e2 => ?_⟩⟩
  · rw [if_pos (Or.inl e)] at h; exact h
  · rw [if_neg (fun w => by rcases w with w | w; exact e w; exact e2 w)] at h
    exact c_multiply (ha.resolve_left e) (hb.resolve_left e2) h
  · rw [if_pos (Or.inr (by omega))] at h; exact h
theorem sat_add {x y : Int} (hx : 0 ≤ x) (hy : 0 ≤ y) : min B0 (min B0 x + y) = min B0 (x + y) := by unfold B0; omega
