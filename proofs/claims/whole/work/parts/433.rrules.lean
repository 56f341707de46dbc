/-! all rules of two parts over a span -/
theorem pb_skip {ρ : St} (hg : Wg ρ) (hL : LL ρ < 9) {F : Fo} {s r b : Nat} (hs : s < spN (LL ρ)) (hb : b < 12) (h : ρ 8 r ≠ 0 ∨ ρ 5 r = -1) (w : En) : PBf ρ F s r 0 0 0 b w ↔ PBf ρ F s (r + 1) 0 0 0 b w := by
  unfold PBf
  refine and_congr_right (fun hw => and_congr_right (fun hc => ?_))
  obtain ⟨r', -, h8, -, hc', -, -, -, -, kind⟩ := cs_kind hg hL hb hs hw.1
  rcases kind with ⟨-, -, e2, -⟩ | ⟨h5, m', k1, k2, e2, -⟩
  · exact absurd e2 hc
  · have hne : r' ≠ r := by
      intro e
      subst e
      rcases h with h | h
      · exact h h8
      · exact h5 h
    omega
theorem pb_all {ρ : St} (hg : Wg ρ) (hL : LL ρ < 9) {F : Fo} {s b : Nat} (hs : s < spN (LL ρ)) (hb : b < 12) (w : En) : PBf ρ F s (ρ 0 4).toNat 0 0 0 b w ↔ (CandE ρ F (12 * s + b) w ∧ cm ρ (12 * s + b) w.2.1 ≠ -1) := by
  unfold PBf
  refine and_congr_right (fun hw => ⟨fun h => h.1, fun hc => ⟨hc, Or.inl ?_⟩⟩)
  obtain ⟨r', hr, -, -, hc', -⟩ := cs_kind hg hL hb hs hw.1
  have := hg.1
  omega
theorem r_rules {ρ τ0 : St} (hg : Wg ρ) (hL : LL ρ < 9) (hS : RSg ρ τ0) (h28 : τ0 0 28 = osum (ρ 8) (ρ 0 4).toNat) {F : Fo} {D : Nat → Prop} (hF : ClF ρ F D) (hT : ∀ q, D q → SgF ρ F q) {s N0 : Nat} (hs : s < spN (LL ρ)) (hD : ∀ q, D q → q / 12 ≠ s) (hN : N0 ≤ 39000) (hP0 : ∀ a, a < 12 → ∀ t, t < (cI ρ (12 * s + a)).length → ¬ (cm ρ (12 * s + a) t = -1 ∧ 0 ≤ cf ρ (12 * s + a) t) → PDf ρ D (12 * s + a) t) (hPd : ∀ (p : Int) (i j : Nat), isPart p → spB (LL ρ) s ≤ i → i < j → j ≤ spF (LL ρ) s → ¬ (i = spB (LL ρ) s ∧ j = spF (LL ρ) s) → 0 ≤ pv ρ p i j → D (pv ρ p i j).toNat) {Q : Int → St → Prop} (hQ : ∀ τ, (∃ n L, BPh ρ τ F D s N0 (fun b w => CandE ρ F (12 * s + b) w ∧ cm ρ (12 * s + b) w.2.1 ≠ -1) n L) → stF τ0 τ → ∀ σ1 : St, σ1 = upS τ 0 59 0 → ∀ σ2 : St, σ2 = upS σ1 0 55 ((-1)) → wp_X12_laysBestSpan_l53 Q bigN (spB (LL ρ) s : Nat) (spF (LL ρ) s : Nat) 0 σ2) : ∀ (d r : Nat) (τ : St) (n : Nat), r + d = (ρ 0 4).toNat → d < n → IBf ρ τ0 τ F D s N0 r 0 0 0 → wp_X12_laysBestSpan_l2 Q n (spB (LL ρ) s : Nat) (spF (LL ρ) s : Nat) (r : Int) τ := by
  have h0 := hg.1
  have h40 := hg.2.1
  intro d
  induction d with
  | zero =>
    intro r τ n hr hn hI
    obtain ⟨n, rfl⟩ := suc_n hn
    obtain ⟨⟨nn, L, hB⟩, hst⟩ := hI
    have hS1 := hS.st hst
    unfold wp_X12_laysBestSpan_l2
    rw [hS1.1]
    refine ⟨fun _ => hQ τ ⟨nn, L, hB.cg (fun b hb w => ?_)⟩ hst, fun w => absurd (by omega) w⟩
    have er : r = (ρ 0 4).toNat := by omega
    subst er
    exact pb_all hg hL hs hb w
  | succ d ih =>
    intro r τ n hr hn hI
    obtain ⟨n, rfl⟩ := suc_n hn
    have hst := hI.2
    have hS1 := hS.st hst
    have hr4 : (r : Int) < ρ 0 4 := by omega
    obtain ⟨g1, g2, g3, g4⟩ := hS1.2.1 r hr4
    have nx : ∀ τ', IBf ρ τ0 τ' F D s N0 (r + 1) 0 0 0 → wp_X12_laysBestSpan_b35 Q (wp_X12_laysBestSpan_l2 Q n) (spB (LL ρ) s : Nat) (spF (LL ρ) s : Nat) (r : Int) τ' := by
      intro τ' hI'
      unfold wp_X12_laysBestSpan_b35
      intro v9 e9
      rw [w32_of (by omega) (by omega), show (r : Int) + 1 = ((r + 1 : Nat) : Int) by omega] at e9
      rw [e9]
      exact ih (r + 1) τ' n (by omega) (by omega) hI'
    unfold wp_X12_laysBestSpan_l2
    rw [hS1.1]
    refine ⟨fun w => absurd w (by omega), fun _ => r_isIn hg (by rw [hst.2 28 (by decide) (by decide) (by decide)]; exact h28) hr4 ?_⟩
    rw [Int.toNat_natCast, g3]
    by_cases h8 : ρ 8 r = 0
    · rw [if_pos h8]
      refine ⟨fun w => absurd w (by decide), fun _ => ⟨by omega, fun h5 => nx τ (hI.cg (fun b hb w => pb_skip hg hL hs hb (Or.inr h5) w)), fun h5 => ?_⟩⟩
      exact r_two hg hL hS hF hT hs hD hN hP0 hPd hr4 h8 h5 nx hI
    · rw [if_neg h8]
      exact ⟨fun _ => nx τ (hI.cg (fun b hb w => pb_skip hg hL hs hb (Or.inl h8) w)), fun w => absurd rfl w⟩
