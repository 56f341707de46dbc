/-! rule, table -/
theorem w_bit {ρ : St} (h : Wg ρ) : ∀ k, k < (ρ 0 4).toNat → ρ 8 k = 0 ∨ ρ 8 k = 1 := fun k hk => (h.2.2 k (by omega)).2.2.2.2.2
theorem w_out {ρ : St} (h : Wg ρ) : P64 (osum (ρ 8) (ρ 0 4).toNat) := by
  have h1 := osum_r (f := ρ 8) (ρ 0 4).toNat (w_bit h)
  have h2 : 2 ^ (ρ 0 4).toNat ≤ 2 ^ 40 := Nat.pow_le_pow_right (by decide) (by have := h.2.1; omega)
  generalize (2 ^ (ρ 0 4).toNat : Nat) = p at *
  unfold P64; omega
theorem w_outb {ρ : St} (h : Wg ρ) {k : Nat} (hk : (k : Int) < ρ 0 4) : tb (osum (ρ 8) (ρ 0 4).toNat) k = decide (ρ 8 k = 1) := by
  rw [osum_tb _ (w_bit h)]
  have : k < (ρ 0 4).toNat := by omega
  simp [this]
section OPS
variable {Cc : Bool → St → St → Prop}
theorem s_rule : Step_rule (Inv Cc) := by
  rintro b σ τ ⟨ρ, hW, hVC, hVR, hc⟩ x1 x2 c1 c2
  have hI : Inv Cc b σ τ := ⟨ρ, hW, hVC, hVR, hc⟩
  obtain ⟨f1, f2⟩ := hVC.2.2.2.1
  obtain ⟨g1, g2, g3⟩ := hVR.2.2.2.1
  have hg := hW.2.2.1
  unfold wp_X11_rule
  refine c_knows ?_
  rw [f1]
  have ref : ∀ r : Int, (¬ (0 ≤ x1 ∧ x1 < ρ 0 4) → r = -2) → ((0 ≤ x1 ∧ x1 < ρ 0 4) → r = (if x2 = 0 then ρ 3 x1.toNat else if x2 = 1 then ρ 4 x1.toNat else if x2 = 2 then ρ 5 x1.toNat else if x2 = 3 then ρ 6 x1.toNat else if x2 = 4 then ρ 7 x1.toNat else if x2 = 5 then ρ 8 x1.toNat else -2)) → wp_X12_rule x1 x2 τ (fun r1 τ1 => r = r1 ∧ Inv Cc b σ τ1) := by
    intro r hr1 hr2
    unfold wp_X12_rule
    refine r_isRule g1 ⟨hg.1, hg.2.1⟩ ?_
    by_cases hx : 0 ≤ x1 ∧ x1 < ρ 0 4
    · rw [if_pos hx]
      have hr := hr2 hx
      obtain ⟨k1, k2, k3, k4, k5⟩ := g3 x1.toNat (by omega)
      have hn : 0 ≤ x1 ∧ x1 < 80 := by have := hg.2.1; omega
      refine ⟨fun _ => ⟨?_, ?_, ?_, ?_, ?_, ?_, ?_⟩, fun h => absurd (by decide) h⟩
      · rintro rfl; exact ⟨hn, by rw [hr, k1]; rfl, hI⟩
      · rintro rfl; exact ⟨hn, by rw [hr, k2]; rfl, hI⟩
      · rintro rfl; exact ⟨hn, by rw [hr, k3]; rfl, hI⟩
      · rintro rfl; exact ⟨hn, by rw [hr, k4]; rfl, hI⟩
      · rintro rfl; exact ⟨hn, by rw [hr, k5]; rfl, hI⟩
      · rintro rfl
        refine ⟨?_, hI⟩
        rw [hr, g2]
        conv => rhs; rw [show x1 = (x1.toNat : Int) by omega]
        rw [l_bit (w_out hg) (by have := hg.2.1; omega), w_outb hg (by omega)]
        show ρ 8 x1.toNat = _
        rcases w_bit hg x1.toNat (by omega) with e | e <;> rw [e] <;> decide
      · rintro ⟨q0, q1, q2, q3, q4, q5⟩
        exact ⟨by rw [hr, if_neg q0, if_neg q1, if_neg q2, if_neg q3, if_neg q4, if_neg q5], hI⟩
    · rw [if_neg hx]
      exact ⟨fun h => absurd rfl h, fun _ => ⟨hr1 hx, hI⟩⟩
  by_cases hx : 0 ≤ x1 ∧ x1 < ρ 0 4
  · rw [if_pos hx]
    have hn : 0 ≤ x1 ∧ x1 < 40 := by have := hg.2.1; omega
    obtain ⟨k1, k2, k3, k4, k5, k6⟩ := f2 x1.toNat (by omega)
    refine ⟨fun _ => ⟨?_, ?_, ?_, ?_, ?_, ?_, ?_⟩, fun h => absurd (by decide) h⟩
    · rintro rfl; exact ⟨hn, ref _ (fun h => absurd hx h) (fun _ => by rw [k1]; rfl)⟩
    · rintro rfl; exact ⟨hn, ref _ (fun h => absurd hx h) (fun _ => by rw [k2]; rfl)⟩
    · rintro rfl; exact ⟨hn, ref _ (fun h => absurd hx h) (fun _ => by rw [k3]; rfl)⟩
    · rintro rfl; exact ⟨hn, ref _ (fun h => absurd hx h) (fun _ => by rw [k4]; rfl)⟩
    · rintro rfl; exact ⟨hn, ref _ (fun h => absurd hx h) (fun _ => by rw [k5]; rfl)⟩
    · rintro rfl
      refine ⟨hn, fun h => ref _ (fun h => absurd hx h) (fun _ => ?_), fun h => ref _ (fun h => absurd hx h) (fun _ => ?_)⟩
      · show 0 = ρ 8 x1.toNat; rw [← k6]; exact h.symm
      · show 1 = ρ 8 x1.toNat
        rcases w_bit hg x1.toNat (by omega) with e | e
        · rw [k6, e] at h; exact absurd rfl h
        · exact e.symm
    · rintro ⟨q0, q1, q2, q3, q4, q5⟩
      exact ref _ (fun h => absurd hx h) (fun _ => by rw [if_neg q0, if_neg q1, if_neg q2, if_neg q3, if_neg q4, if_neg q5])
  · rw [if_neg hx]
    exact ⟨fun h => absurd rfl h, fun _ => ref _ (fun _ => rfl) (fun h => absurd h hx)⟩
theorem prod_r {a b n : Int} (h0 : 0 ≤ a ∧ a < n) (h1 : 0 ≤ b ∧ b < n) (hn : 2 ≤ n ∧ n ≤ 5) : 0 ≤ a * n ∧ a * n ≤ 20 ∧ 0 ≤ a * n + b ∧ a * n + b < 25 ∧ a * n + b < n * n := by
  obtain ⟨hn1, hn2⟩ := hn
  have : n = 2 ∨ n = 3 ∨ n = 4 ∨ n = 5 := by omega
  rcases this with rfl | rfl | rfl | rfl <;> omega
theorem c_plus {a b : Int} {σ ρ : St} {Q : Int → St → Prop} (hb : Wb ρ) (v : VCb σ ρ) (ha : 0 ≤ a ∧ a < ρ 0 5) (hb2 : 0 ≤ b ∧ b < ρ 0 5) (h : Q (ρ 9 (a * ρ 0 5 + b).toNat) σ) : wp_X4_plus a b σ Q := by
  obtain ⟨v1, v2, v3, v4⟩ := v
  have hp := prod_r ha hb2 ⟨hb.1, hb.2.1⟩
  unfold wp_X4_plus
  rw [v1, w32_of (x := a * ρ 0 5) (by omega) (by omega), w32_of (by omega) (by omega)]
  refine ⟨by omega, ?_⟩
  rw [(v4 _ (by omega)).1]; exact h
theorem c_times {a b : Int} {σ ρ : St} {Q : Int → St → Prop} (hb : Wb ρ) (v : VCb σ ρ) (ha : 0 ≤ a ∧ a < ρ 0 5) (hb2 : 0 ≤ b ∧ b < ρ 0 5) (h : Q (ρ 10 (a * ρ 0 5 + b).toNat) σ) : wp_X4_times a b σ Q := by
  obtain ⟨v1, v2, v3, v4⟩ := v
  have hp := prod_r ha hb2 ⟨hb.1, hb.2.1⟩
  unfold wp_X4_times
  rw [v1, w32_of (x := a * ρ 0 5) (by omega) (by omega), w32_of (by omega) (by omega)]
  refine ⟨by omega, ?_⟩
  rw [(v4 _ (by omega)).2]; exact h
theorem r_sum2 {a b : Int} {σ ρ : St} {Q : Int → St → Prop} (hb : Wb ρ) (v : VRb σ ρ) (ha : 0 ≤ a ∧ a < ρ 0 5) (hb2 : 0 ≤ b ∧ b < ρ 0 5) (h : Q (ρ 9 (a * ρ 0 5 + b).toNat) σ) : wp_X12_sum2 a b σ Q := by
  obtain ⟨v1, v2, v3, v4⟩ := v
  have hp := prod_r ha hb2 ⟨hb.1, hb.2.1⟩
  unfold wp_X12_sum2
  rw [show σ 6 (Int.toNat 0) = ρ 0 5 from v1, w32_of (x := a * ρ 0 5) (by omega) (by omega), w32_of (by omega) (by omega)]
  refine ⟨by omega, ?_⟩
  rw [(v4 _ (by omega)).1]; exact h
theorem r_product2 {a b : Int} {σ ρ : St} {Q : Int → St → Prop} (hb : Wb ρ) (v : VRb σ ρ) (ha : 0 ≤ a ∧ a < ρ 0 5) (hb2 : 0 ≤ b ∧ b < ρ 0 5) (h : Q (ρ 10 (a * ρ 0 5 + b).toNat) σ) : wp_X12_product2 a b σ Q := by
  obtain ⟨v1, v2, v3, v4⟩ := v
  have hp := prod_r ha hb2 ⟨hb.1, hb.2.1⟩
  unfold wp_X12_product2
  rw [show σ 6 (Int.toNat 0) = ρ 0 5 from v1, w32_of (x := a * ρ 0 5) (by omega) (by omega), w32_of (by omega) (by omega)]
  refine ⟨by omega, ?_⟩
  rw [(v4 _ (by omega)).2]; exact h
theorem s_table : Step_table (Inv Cc) := by
  rintro b σ τ ⟨ρ, hW, hVC, hVR, hc⟩ x1 x2 x3 c1 c2 c3
  have hI : Inv Cc b σ τ := ⟨ρ, hW, hVC, hVR, hc⟩
  have vb := hVC.2.2.2.2.1
  have ub := hVR.2.2.2.2.1
  have wb := hW.2.2.2.1
  have e5 : σ 14 7 = ρ 0 5 := vb.1
  have u5 : τ 6 0 = ρ 0 5 := ub.1
  have ref : ∀ r : Int, (r = if (0 ≤ x2 ∧ x2 < ρ 0 5) ∧ (0 ≤ x3 ∧ x3 < ρ 0 5) then (if x1 = 0 then ρ 9 (x2 * ρ 0 5 + x3).toNat else if x1 = 1 then ρ 10 (x2 * ρ 0 5 + x3).toNat else -2) else -2) → wp_X12_table x1 x2 x3 τ (fun r1 τ1 => r = r1 ∧ Inv Cc b σ τ1) := by
    intro r hr
    unfold wp_X12_table
    refine r_in ?_
    by_cases h1 : 0 ≤ x1 ∧ x1 ≤ 1
    · rw [if_pos h1]
      refine ⟨fun h => absurd h (by decide), fun _ => r_isElement u5 ⟨wb.1, wb.2.1⟩ ?_⟩
      by_cases h2 : 0 ≤ x2 ∧ x2 < ρ 0 5
      · rw [if_pos h2]
        refine ⟨fun h => absurd h (by decide), fun _ => r_isElement u5 ⟨wb.1, wb.2.1⟩ ?_⟩
        by_cases h3 : 0 ≤ x3 ∧ x3 < ρ 0 5
        · rw [if_pos h3]
          rw [if_pos ⟨h2, h3⟩] at hr
          refine ⟨fun _ => ⟨fun h => ?_, fun h => ?_⟩, fun h => absurd (by decide) h⟩
          · rw [if_neg h, if_pos (by omega)] at hr
            exact r_product2 wb ub h2 h3 ⟨hr, hI⟩
          · rw [if_pos (by omega)] at hr
            exact r_sum2 wb ub h2 h3 ⟨hr, hI⟩
        · rw [if_neg h3]
          rw [if_neg (fun h => h3 h.2)] at hr
          exact ⟨fun h => absurd rfl h, fun _ => ⟨hr, hI⟩⟩
      · rw [if_neg h2]
        rw [if_neg (fun h => h2 h.1)] at hr
        exact ⟨fun _ => ⟨hr, hI⟩, fun h => absurd rfl h⟩
    · rw [if_neg h1]
      refine ⟨fun _ => ⟨?_, hI⟩, fun h => absurd rfl h⟩
      rw [hr]
      split
      · rw [if_neg (by omega), if_neg (by omega)]
      · rfl
  unfold wp_X11_table
  refine c_isElement ?_
  rw [e5]
  by_cases h2 : 0 ≤ x2 ∧ x2 < ρ 0 5
  · rw [if_pos h2]
    refine ⟨fun h => absurd h (by decide), fun _ => c_isElement ?_⟩
    rw [e5]
    by_cases h3 : 0 ≤ x3 ∧ x3 < ρ 0 5
    · rw [if_pos h3]
      refine ⟨fun _ => ⟨fun h => ?_, fun h => ?_, fun h => ?_⟩, fun h => absurd (by decide) h⟩
      · exact c_plus wb vb h2 h3 (ref _ (by rw [if_pos ⟨h2, h3⟩, if_pos h]))
      · exact c_times wb vb h2 h3 (ref _ (by rw [if_pos ⟨h2, h3⟩, if_neg (by omega), if_pos h]))
      · exact ref _ (by rw [if_pos ⟨h2, h3⟩, if_neg h.1, if_neg h.2])
    · rw [if_neg h3]
      exact ⟨fun h => absurd rfl h, fun _ => ref _ (by rw [if_neg (fun h => h3 h.2)])⟩
  · rw [if_neg h2]
    exact ⟨fun _ => ref _ (by rw [if_neg (fun h => h2 h.1)]), fun h => absurd rfl h⟩
end OPS
