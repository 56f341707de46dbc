theorem c_lc37 {ρ σ : St} (hg : Wg ρ) (hL : LL ρ < 9) (hB : Bt ρ σ) {o y : Int} {s a : Nat} (ha : a < 12) (hs : s < spN (LL ρ)) (hD : DR ρ (gO ρ o) (jY y) (σ 37) s) {Q : Int → St → Prop} (hq : ∀ v, snd1 ρ y o a s v → (∀ c ∈ cI ρ (12 * s + a), cov ρ y o (σ 37) c v) → Q v σ) : wp_X1_leastOfCases_c37 ((12 * s + a : Nat) : Int) o y σ Q := by
  have hqq : 12 * s + a < 12 * spN (LL ρ) := by omega
  have h3360 := PL_3360 hg hL
  have vg : VCg σ ρ := hB.1.2.2.1.1
  have hn4 := hg.2.1
  have lp : ∀ (d t : Nat) (acc : Int) (n : Nat), t + d = (cI ρ (12 * s + a)).length → d < n → snd1 ρ y o a s acc → (∀ (t' : Nat) (h : t' < (cI ρ (12 * s + a)).length), t' < t → cov ρ y o (σ 37) (cI ρ (12 * s + a))[t'] acc) → wp_X1_leastOfCases_c37_l13 Q n ((12 * s + a : Nat) : Int) o y acc (((PL ρ (12 * s + a)).length + t : Nat) : Int) σ := by
    intro d
    induction d with
    | zero =>
      intro t acc n hd hn h1 h2
      obtain ⟨n, rfl⟩ := suc_n hn
      unfold wp_X1_leastOfCases_c37_l13
      refine c_caseEnd hL hB hqq ⟨fun _ => hq acc h1 (fun c hc => ?_), fun h => absurd h (by omega)⟩
      obtain ⟨t', ht', e⟩ := List.getElem_of_mem hc
      rw [← e]; exact h2 t' ht' (by omega)
    | succ d ih =>
      intro t acc n hd hn h1 h2
      obtain ⟨n, rfl⟩ := suc_n hn
      have ht : t < (cI ρ (12 * s + a)).length := by omega
      obtain ⟨hlen, e29, e30, e31, e32⟩ := hB.seg hqq ht
      have hok := case_ok hg hL ha hs hD (List.getElem_mem ht)
      have hcov : ∀ v, (cov ρ y o (σ 37) (cI ρ (12 * s + a))[t] v) → (∀ (t' : Nat) (h : t' < (cI ρ (12 * s + a)).length), t' < t → cov ρ y o (σ 37) (cI ρ (12 * s + a))[t'] v) → ∀ (t' : Nat) (h : t' < (cI ρ (12 * s + a)).length), t' < t + 1 → cov ρ y o (σ 37) (cI ρ (12 * s + a))[t'] v := by
        intro v ha hb t' h ht'
        by_cases e : t' = t
        · subst e; exact ha
        · exact hb t' h (by omega)
      unfold wp_X1_leastOfCases_c37_l13 wp_X1_leastOfCases_c37_b85 wp_X1_leastOfCases_c37_b116 wp_X1_leastOfCases_c37_b159
      rw [Int.toNat_natCast]
      generalize (cI ρ (12 * s + a))[t] = c at *
      obtain ⟨⟨r0, r1⟩, l1, l2, l3, l4, hte⟩ := hok
      have nx : ∀ v : Int, snd1 ρ y o a s v → cov ρ y o (σ 37) c v → (∀ (t' : Nat) (h : t' < (cI ρ (12 * s + a)).length), t' < t → cov ρ y o (σ 37) (cI ρ (12 * s + a))[t'] v) → ∀ w : Int, w = w32 ((((PL ρ (12 * s + a)).length + t : Nat) : Int) + 1) → wp_X1_leastOfCases_c37_l13 Q n ((12 * s + a : Nat) : Int) o y v w σ := by
        intro v q1 q2 q3 w ew
        rw [ew, w32_of (by omega) (by omega), show (((PL ρ (12 * s + a)).length + t : Nat) : Int) + 1 = (((PL ρ (12 * s + a)).length + (t + 1) : Nat) : Int) by omega]
        exact ih (t + 1) v n (by omega) (by omega) q1 (hcov v q2 q3)
      refine c_caseEnd hL hB hqq ⟨fun h => absurd h (by omega), fun _ => ⟨by omega, fun v5 e5 => ⟨fun h => ?_, fun h => ?_⟩⟩⟩
      · rw [e29] at e5
        exact nx acc h1 (fun q => absurd (by omega) q) h2
      · rw [e29] at e5
        refine c_goesOn (by omega) ?_
        rw [e30, e31]
        by_cases hgo : c.2.1 = -1 ∧ 0 ≤ c.2.2.1
        · rw [if_pos hgo]
          exact ⟨fun _ => nx acc h1 (fun _ q => absurd hgo q) h2, fun q => absurd (by decide) q⟩
        · rw [if_neg hgo]
          have fin : ∀ x1 x2 : Int, x1 = pw (σ 37) c.2.2.1 → x2 = pw (σ 37) c.2.2.2 → ((x1 < 0) → ∀ v8 : Int, v8 = w32 ((((PL ρ (12 * s + a)).length + t : Nat) : Int) + 1) → wp_X1_leastOfCases_c37_l13 Q n ((12 * s + a : Nat) : Int) o y acc v8 σ) ∧ (¬ (x1 < 0) → ((x2 < 0) → ∀ v8 : Int, v8 = w32 ((((PL ρ (12 * s + a)).length + t : Nat) : Int) + 1) → wp_X1_leastOfCases_c37_l13 Q n ((12 * s + a : Nat) : Int) o y acc v8 σ) ∧ (¬ (x2 < 0) → (0 ≤ v5 ∧ v5 < 40) ∧ wp_X1_join x1 x2 y σ (fun r9 σ10 => wp_X1_join (σ 18 (v5.toNat)) r9 y σ10 (fun r11 σ12 => wp_X1_lesser acc r11 σ12 (fun r13 σ14 => ∀ v8 : Int, v8 = w32 ((((PL ρ (12 * s + a)).length + t : Nat) : Int) + 1) → wp_X1_leastOfCases_c37_l13 Q n ((12 * s + a : Nat) : Int) o y r13 v8 σ14))))) := by
            intro x1 x2 ex1 ex2
            refine ⟨fun q => nx acc h1 (fun _ _ q1 => by omega) h2, fun q => ⟨fun q2 => nx acc h1 (fun _ _ _ q1 => by omega) h2, fun q2 => ⟨by omega, ?_⟩⟩⟩
            obtain ⟨b1, b2, tt⟩ := hte (by omega) hgo (by omega) (by omega)
            rw [← ex1, ← ex2] at tt
            obtain ⟨-, -, -, k18, -⟩ := vg.2 c.1.toNat (by omega)
            have hpr := (hg.2.2 c.1.toNat (by omega)).2.2.2.1
            have hJ := jokY y
            have n1 := hJ.1 x1 x2 (by omega)
            have u1 : jY y x1 x2 ≤ x1 + x2 := by
              by_cases hy : y = 0
              · rw [hy, jY_0]; omega
              · rw [jY_1 hy]; omega
            have n2 := hJ.1 (ρ 6 c.1.toNat) (jY y x1 x2) (by omega)
            have u2 : jY y (ρ 6 c.1.toNat) (jY y x1 x2) ≤ ρ 6 c.1.toNat + jY y x1 x2 := by
              by_cases hy : y = 0
              · rw [hy, jY_0]; rw [hy] at n1; omega
              · rw [jY_1 hy]; omega
            refine c_join (by omega) (by omega) ?_
            rw [e5, k18]
            refine c_join (by omega) (by omega) (c_lesser ?_)
            refine nx _ ?_ ?_ (fun t' ht' hlt => ?_)
            · unfold lsr
              split
              · exact Or.inr ⟨by omega, by omega, tt⟩
              · exact h1
            · intro _ _ _ _
              rw [← ex1, ← ex2]
              unfold lsr
              split
              · exact ⟨by omega, Int.le_refl _⟩
              · rcases h1 with h1 | h1 <;> omega
            · intro a1 a2 a3 a4
              have := h2 t' ht' hlt a1 a2 a3 a4
              unfold lsr
              split <;> omega
          rw [e32]
          refine ⟨fun q => absurd rfl q, fun _ => ⟨by omega, fun g1 => ⟨by omega, by omega, by omega, fun g2 => ⟨by omega, by omega, ?_⟩, fun g2 => ?_⟩, fun g1 => ⟨by omega, fun g2 => ⟨by omega, by omega, ?_⟩, fun g2 => ?_⟩⟩⟩
          · exact fin _ _ (by unfold pw; rw [if_neg (by omega)]) (by unfold pw; rw [if_neg (by omega)])
          · exact fin _ _ (by unfold pw; rw [if_neg (by omega)]) (by unfold pw; rw [if_pos (by omega)])
          · exact fin _ _ (by unfold pw; rw [if_pos (by omega)]) (by unfold pw; rw [if_neg (by omega)])
          · exact fin _ _ (by unfold pw; rw [if_pos (by omega)]) (by unfold pw; rw [if_pos (by omega)])
  unfold wp_X1_leastOfCases_c37
  exact c_caseStart hL hB hqq (lp (cI ρ (12 * s + a)).length 0 (-1) bigN (by omega) (by unfold bigN; have := PL_s (ρ := ρ) (q := 12 * s + a); obtain ⟨l, hl⟩ := PL_split (ρ := ρ) (q := 12 * s + a) (12 * spN (LL ρ) - (12 * s + a + 1)); rw [show 12 * s + a + 1 + (12 * spN (LL ρ) - (12 * s + a + 1)) = 12 * spN (LL ρ) by omega] at hl; rw [hl, List.length_append, List.length_append] at h3360; omega) (Or.inl rfl) (fun t' _ h => by omega))
theorem c_lc38 {ρ σ : St} (hg : Wg ρ) (hL : LL ρ < 9) (hB : Bt ρ σ) {o y : Int} {s a : Nat} (ha : a < 12) (hs : s < spN (LL ρ)) (hD : DR ρ (gO ρ o) (jY y) (σ 38) s) {Q : Int → St → Prop} (hq : ∀ v, snd1 ρ y o a s v → (∀ c ∈ cI ρ (12 * s + a), cov ρ y o (σ 38) c v) → Q v σ) : wp_X1_leastOfCases_c38 ((12 * s + a : Nat) : Int) o y σ Q := by
  have hqq : 12 * s + a < 12 * spN (LL ρ) := by omega
  have h3360 := PL_3360 hg hL
  have vg : VCg σ ρ := hB.1.2.2.1.1
  have hn4 := hg.2.1
  have lp : ∀ (d t : Nat) (acc : Int) (n : Nat), t + d = (cI ρ (12 * s + a)).length → d < n → snd1 ρ y o a s acc → (∀ (t' : Nat) (h : t' < (cI ρ (12 * s + a)).length), t' < t → cov ρ y o (σ 38) (cI ρ (12 * s + a))[t'] acc) → wp_X1_leastOfCases_c38_l13 Q n ((12 * s + a : Nat) : Int) o y acc (((PL ρ (12 * s + a)).length + t : Nat) : Int) σ := by
    intro d
    induction d with
    | zero =>
      intro t acc n hd hn h1 h2
      obtain ⟨n, rfl⟩ := suc_n hn
      unfold wp_X1_leastOfCases_c38_l13
      refine c_caseEnd hL hB hqq ⟨fun _ => hq acc h1 (fun c hc => ?_), fun h => absurd h (by omega)⟩
      obtain ⟨t', ht', e⟩ := List.getElem_of_mem hc
      rw [← e]; exact h2 t' ht' (by omega)
    | succ d ih =>
      intro t acc n hd hn h1 h2
      obtain ⟨n, rfl⟩ := suc_n hn
      have ht : t < (cI ρ (12 * s + a)).length := by omega
      obtain ⟨hlen, e29, e30, e31, e32⟩ := hB.seg hqq ht
      have hok := case_ok hg hL ha hs hD (List.getElem_mem ht)
      have hcov : ∀ v, (cov ρ y o (σ 38) (cI ρ (12 * s + a))[t] v) → (∀ (t' : Nat) (h : t' < (cI ρ (12 * s + a)).length), t' < t → cov ρ y o (σ 38) (cI ρ (12 * s + a))[t'] v) → ∀ (t' : Nat) (h : t' < (cI ρ (12 * s + a)).length), t' < t + 1 → cov ρ y o (σ 38) (cI ρ (12 * s + a))[t'] v := by
        intro v ha hb t' h ht'
        by_cases e : t' = t
        · subst e; exact ha
        · exact hb t' h (by omega)
      unfold wp_X1_leastOfCases_c38_l13 wp_X1_leastOfCases_c38_b85 wp_X1_leastOfCases_c38_b116 wp_X1_leastOfCases_c38_b159
      rw [Int.toNat_natCast]
      generalize (cI ρ (12 * s + a))[t] = c at *
      obtain ⟨⟨r0, r1⟩, l1, l2, l3, l4, hte⟩ := hok
      have nx : ∀ v : Int, snd1 ρ y o a s v → cov ρ y o (σ 38) c v → (∀ (t' : Nat) (h : t' < (cI ρ (12 * s + a)).length), t' < t → cov ρ y o (σ 38) (cI ρ (12 * s + a))[t'] v) → ∀ w : Int, w = w32 ((((PL ρ (12 * s + a)).length + t : Nat) : Int) + 1) → wp_X1_leastOfCases_c38_l13 Q n ((12 * s + a : Nat) : Int) o y v w σ := by
        intro v q1 q2 q3 w ew
        rw [ew, w32_of (by omega) (by omega), show (((PL ρ (12 * s + a)).length + t : Nat) : Int) + 1 = (((PL ρ (12 * s + a)).length + (t + 1) : Nat) : Int) by omega]
        exact ih (t + 1) v n (by omega) (by omega) q1 (hcov v q2 q3)
      refine c_caseEnd hL hB hqq ⟨fun h => absurd h (by omega), fun _ => ⟨by omega, fun v5 e5 => ⟨fun h => ?_, fun h => ?_⟩⟩⟩
      · rw [e29] at e5
        exact nx acc h1 (fun q => absurd (by omega) q) h2
      · rw [e29] at e5
        refine c_goesOn (by omega) ?_
        rw [e30, e31]
        by_cases hgo : c.2.1 = -1 ∧ 0 ≤ c.2.2.1
        · rw [if_pos hgo]
          exact ⟨fun _ => nx acc h1 (fun _ q => absurd hgo q) h2, fun q => absurd (by decide) q⟩
        · rw [if_neg hgo]
          have fin : ∀ x1 x2 : Int, x1 = pw (σ 38) c.2.2.1 → x2 = pw (σ 38) c.2.2.2 → ((x1 < 0) → ∀ v8 : Int, v8 = w32 ((((PL ρ (12 * s + a)).length + t : Nat) : Int) + 1) → wp_X1_leastOfCases_c38_l13 Q n ((12 * s + a : Nat) : Int) o y acc v8 σ) ∧ (¬ (x1 < 0) → ((x2 < 0) → ∀ v8 : Int, v8 = w32 ((((PL ρ (12 * s + a)).length + t : Nat) : Int) + 1) → wp_X1_leastOfCases_c38_l13 Q n ((12 * s + a : Nat) : Int) o y acc v8 σ) ∧ (¬ (x2 < 0) → (0 ≤ v5 ∧ v5 < 40) ∧ wp_X1_join x1 x2 y σ (fun r9 σ10 => wp_X1_join (σ 18 (v5.toNat)) r9 y σ10 (fun r11 σ12 => wp_X1_lesser acc r11 σ12 (fun r13 σ14 => ∀ v8 : Int, v8 = w32 ((((PL ρ (12 * s + a)).length + t : Nat) : Int) + 1) → wp_X1_leastOfCases_c38_l13 Q n ((12 * s + a : Nat) : Int) o y r13 v8 σ14))))) := by
            intro x1 x2 ex1 ex2
            refine ⟨fun q => nx acc h1 (fun _ _ q1 => by omega) h2, fun q => ⟨fun q2 => nx acc h1 (fun _ _ _ q1 => by omega) h2, fun q2 => ⟨by omega, ?_⟩⟩⟩
            obtain ⟨b1, b2, tt⟩ := hte (by omega) hgo (by omega) (by omega)
            rw [← ex1, ← ex2] at tt
            obtain ⟨-, -, -, k18, -⟩ := vg.2 c.1.toNat (by omega)
            have hpr := (hg.2.2 c.1.toNat (by omega)).2.2.2.1
            have hJ := jokY y
            have n1 := hJ.1 x1 x2 (by omega)
            have u1 : jY y x1 x2 ≤ x1 + x2 := by
              by_cases hy : y = 0
              · rw [hy, jY_0]; omega
              · rw [jY_1 hy]; omega
            have n2 := hJ.1 (ρ 6 c.1.toNat) (jY y x1 x2) (by omega)
            have u2 : jY y (ρ 6 c.1.toNat) (jY y x1 x2) ≤ ρ 6 c.1.toNat + jY y x1 x2 := by
              by_cases hy : y = 0
              · rw [hy, jY_0]; rw [hy] at n1; omega
              · rw [jY_1 hy]; omega
            refine c_join (by omega) (by omega) ?_
            rw [e5, k18]
            refine c_join (by omega) (by omega) (c_lesser ?_)
            refine nx _ ?_ ?_ (fun t' ht' hlt => ?_)
            · unfold lsr
              split
              · exact Or.inr ⟨by omega, by omega, tt⟩
              · exact h1
            · intro _ _ _ _
              rw [← ex1, ← ex2]
              unfold lsr
              split
              · exact ⟨by omega, Int.le_refl _⟩
              · rcases h1 with h1 | h1 <;> omega
            · intro a1 a2 a3 a4
              have := h2 t' ht' hlt a1 a2 a3 a4
              unfold lsr
              split <;> omega
          rw [e32]
          refine ⟨fun q => absurd rfl q, fun _ => ⟨by omega, fun g1 => ⟨by omega, by omega, by omega, fun g2 => ⟨by omega, by omega, ?_⟩, fun g2 => ?_⟩, fun g1 => ⟨by omega, fun g2 => ⟨by omega, by omega, ?_⟩, fun g2 => ?_⟩⟩⟩
          · exact fin _ _ (by unfold pw; rw [if_neg (by omega)]) (by unfold pw; rw [if_neg (by omega)])
          · exact fin _ _ (by unfold pw; rw [if_neg (by omega)]) (by unfold pw; rw [if_pos (by omega)])
          · exact fin _ _ (by unfold pw; rw [if_pos (by omega)]) (by unfold pw; rw [if_neg (by omega)])
          · exact fin _ _ (by unfold pw; rw [if_pos (by omega)]) (by unfold pw; rw [if_pos (by omega)])
  unfold wp_X1_leastOfCases_c38
  exact c_caseStart hL hB hqq (lp (cI ρ (12 * s + a)).length 0 (-1) bigN (by omega) (by unfold bigN; have := PL_s (ρ := ρ) (q := 12 * s + a); obtain ⟨l, hl⟩ := PL_split (ρ := ρ) (q := 12 * s + a) (12 * spN (LL ρ) - (12 * s + a + 1)); rw [show 12 * s + a + 1 + (12 * spN (LL ρ) - (12 * s + a + 1)) = 12 * spN (LL ρ) by omega] at hl; rw [hl, List.length_append, List.length_append] at h3360; omega) (Or.inl rfl) (fun t' _ h => by omega))
theorem c_lc39 {ρ σ : St} (hg : Wg ρ) (hL : LL ρ < 9) (hB : Bt ρ σ) {o y : Int} {s a : Nat} (ha : a < 12) (hs : s < spN (LL ρ)) (hD : DR ρ (gO ρ o) (jY y) (σ 39) s) {Q : Int → St → Prop} (hq : ∀ v, snd1 ρ y o a s v → (∀ c ∈ cI ρ (12 * s + a), cov ρ y o (σ 39) c v) → Q v σ) : wp_X1_leastOfCases_c39 ((12 * s + a : Nat) : Int) o y σ Q := by
  have hqq : 12 * s + a < 12 * spN (LL ρ) := by omega
  have h3360 := PL_3360 hg hL
  have vg : VCg σ ρ := hB.1.2.2.1.1
  have hn4 := hg.2.1
  have lp : ∀ (d t : Nat) (acc : Int) (n : Nat), t + d = (cI ρ (12 * s + a)).length → d < n → snd1 ρ y o a s acc → (∀ (t' : Nat) (h : t' < (cI ρ (12 * s + a)).length), t' < t → cov ρ y o (σ 39) (cI ρ (12 * s + a))[t'] acc) → wp_X1_leastOfCases_c39_l13 Q n ((12 * s + a : Nat) : Int) o y acc (((PL ρ (12 * s + a)).length + t : Nat) : Int) σ := by
    intro d
    induction d with
    | zero =>
      intro t acc n hd hn h1 h2
      obtain ⟨n, rfl⟩ := suc_n hn
      unfold wp_X1_leastOfCases_c39_l13
      refine c_caseEnd hL hB hqq ⟨fun _ => hq acc h1 (fun c hc => ?_), fun h => absurd h (by omega)⟩
      obtain ⟨t', ht', e⟩ := List.getElem_of_mem hc
      rw [← e]; exact h2 t' ht' (by omega)
    | succ d ih =>
      intro t acc n hd hn h1 h2
      obtain ⟨n, rfl⟩ := suc_n hn
      have ht : t < (cI ρ (12 * s + a)).length := by omega
      obtain ⟨hlen, e29, e30, e31, e32⟩ := hB.seg hqq ht
      have hok := case_ok hg hL ha hs hD (List.getElem_mem ht)
      have hcov : ∀ v, (cov ρ y o (σ 39) (cI ρ (12 * s + a))[t] v) → (∀ (t' : Nat) (h : t' < (cI ρ (12 * s + a)).length), t' < t → cov ρ y o (σ 39) (cI ρ (12 * s + a))[t'] v) → ∀ (t' : Nat) (h : t' < (cI ρ (12 * s + a)).length), t' < t + 1 → cov ρ y o (σ 39) (cI ρ (12 * s + a))[t'] v := by
        intro v ha hb t' h ht'
        by_cases e : t' = t
        · subst e; exact ha
        · exact hb t' h (by omega)
      unfold wp_X1_leastOfCases_c39_l13 wp_X1_leastOfCases_c39_b85 wp_X1_leastOfCases_c39_b116 wp_X1_leastOfCases_c39_b159
      rw [Int.toNat_natCast]
      generalize (cI ρ (12 * s + a))[t] = c at *
      obtain ⟨⟨r0, r1⟩, l1, l2, l3, l4, hte⟩ := hok
      have nx : ∀ v : Int, snd1 ρ y o a s v → cov ρ y o (σ 39) c v → (∀ (t' : Nat) (h : t' < (cI ρ (12 * s + a)).length), t' < t → cov ρ y o (σ 39) (cI ρ (12 * s + a))[t'] v) → ∀ w : Int, w = w32 ((((PL ρ (12 * s + a)).length + t : Nat) : Int) + 1) → wp_X1_leastOfCases_c39_l13 Q n ((12 * s + a : Nat) : Int) o y v w σ := by
        intro v q1 q2 q3 w ew
        rw [ew, w32_of (by omega) (by omega), show (((PL ρ (12 * s + a)).length + t : Nat) : Int) + 1 = (((PL ρ (12 * s + a)).length + (t + 1) : Nat) : Int) by omega]
        exact ih (t + 1) v n (by omega) (by omega) q1 (hcov v q2 q3)
      refine c_caseEnd hL hB hqq ⟨fun h => absurd h (by omega), fun _ => ⟨by omega, fun v5 e5 => ⟨fun h => ?_, fun h => ?_⟩⟩⟩
      · rw [e29] at e5
        exact nx acc h1 (fun q => absurd (by omega) q) h2
      · rw [e29] at e5
        refine c_goesOn (by omega) ?_
        rw [e30, e31]
        by_cases hgo : c.2.1 = -1 ∧ 0 ≤ c.2.2.1
        · rw [if_pos hgo]
          exact ⟨fun _ => nx acc h1 (fun _ q => absurd hgo q) h2, fun q => absurd (by decide) q⟩
        · rw [if_neg hgo]
          have fin : ∀ x1 x2 : Int, x1 = pw (σ 39) c.2.2.1 → x2 = pw (σ 39) c.2.2.2 → ((x1 < 0) → ∀ v8 : Int, v8 = w32 ((((PL ρ (12 * s + a)).length + t : Nat) : Int) + 1) → wp_X1_leastOfCases_c39_l13 Q n ((12 * s + a : Nat) : Int) o y acc v8 σ) ∧ (¬ (x1 < 0) → ((x2 < 0) → ∀ v8 : Int, v8 = w32 ((((PL ρ (12 * s + a)).length + t : Nat) : Int) + 1) → wp_X1_leastOfCases_c39_l13 Q n ((12 * s + a : Nat) : Int) o y acc v8 σ) ∧ (¬ (x2 < 0) → (0 ≤ v5 ∧ v5 < 40) ∧ wp_X1_join x1 x2 y σ (fun r9 σ10 => wp_X1_join (σ 18 (v5.toNat)) r9 y σ10 (fun r11 σ12 => wp_X1_lesser acc r11 σ12 (fun r13 σ14 => ∀ v8 : Int, v8 = w32 ((((PL ρ (12 * s + a)).length + t : Nat) : Int) + 1) → wp_X1_leastOfCases_c39_l13 Q n ((12 * s + a : Nat) : Int) o y r13 v8 σ14))))) := by
            intro x1 x2 ex1 ex2
            refine ⟨fun q => nx acc h1 (fun _ _ q1 => by omega) h2, fun q => ⟨fun q2 => nx acc h1 (fun _ _ _ q1 => by omega) h2, fun q2 => ⟨by omega, ?_⟩⟩⟩
            obtain ⟨b1, b2, tt⟩ := hte (by omega) hgo (by omega) (by omega)
            rw [← ex1, ← ex2] at tt
            obtain ⟨-, -, -, k18, -⟩ := vg.2 c.1.toNat (by omega)
            have hpr := (hg.2.2 c.1.toNat (by omega)).2.2.2.1
            have hJ := jokY y
            have n1 := hJ.1 x1 x2 (by omega)
            have u1 : jY y x1 x2 ≤ x1 + x2 := by
              by_cases hy : y = 0
              · rw [hy, jY_0]; omega
              · rw [jY_1 hy]; omega
            have n2 := hJ.1 (ρ 6 c.1.toNat) (jY y x1 x2) (by omega)
            have u2 : jY y (ρ 6 c.1.toNat) (jY y x1 x2) ≤ ρ 6 c.1.toNat + jY y x1 x2 := by
              by_cases hy : y = 0
              · rw [hy, jY_0]; rw [hy] at n1; omega
              · rw [jY_1 hy]; omega
            refine c_join (by omega) (by omega) ?_
            rw [e5, k18]
            refine c_join (by omega) (by omega) (c_lesser ?_)
            refine nx _ ?_ ?_ (fun t' ht' hlt => ?_)
            · unfold lsr
              split
              · exact Or.inr ⟨by omega, by omega, tt⟩
              · exact h1
            · intro _ _ _ _
              rw [← ex1, ← ex2]
              unfold lsr
              split
              · exact ⟨by omega, Int.le_refl _⟩
              · rcases h1 with h1 | h1 <;> omega
            · intro a1 a2 a3 a4
              have := h2 t' ht' hlt a1 a2 a3 a4
              unfold lsr
              split <;> omega
          rw [e32]
          refine ⟨fun q => absurd rfl q, fun _ => ⟨by omega, fun g1 => ⟨by omega, by omega, by omega, fun g2 => ⟨by omega, by omega, ?_⟩, fun g2 => ?_⟩, fun g1 => ⟨by omega, fun g2 => ⟨by omega, by omega, ?_⟩, fun g2 => ?_⟩⟩⟩
          · exact fin _ _ (by unfold pw; rw [if_neg (by omega)]) (by unfold pw; rw [if_neg (by omega)])
          · exact fin _ _ (by unfold pw; rw [if_neg (by omega)]) (by unfold pw; rw [if_pos (by omega)])
          · exact fin _ _ (by unfold pw; rw [if_pos (by omega)]) (by unfold pw; rw [if_neg (by omega)])
          · exact fin _ _ (by unfold pw; rw [if_pos (by omega)]) (by unfold pw; rw [if_pos (by omega)])
  unfold wp_X1_leastOfCases_c39
  exact c_caseStart hL hB hqq (lp (cI ρ (12 * s + a)).length 0 (-1) bigN (by omega) (by unfold bigN; have := PL_s (ρ := ρ) (q := 12 * s + a); obtain ⟨l, hl⟩ := PL_split (ρ := ρ) (q := 12 * s + a) (12 * spN (LL ρ) - (12 * s + a + 1)); rw [show 12 * s + a + 1 + (12 * spN (LL ρ) - (12 * s + a + 1)) = 12 * spN (LL ρ) by omega] at hl; rw [hl, List.length_append, List.length_append] at h3360; omega) (Or.inl rfl) (fun t' _ h => by omega))
