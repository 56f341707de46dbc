/-! a whole span of the reference; all spans -/
def dLo (s q : Nat) : Prop := q / 12 < s
theorem dLo_s {s : Nat} : dSp (dLo s) s = dLo (s + 1) := by
  funext q
  unfold dSp dLo
  exact propext ⟨fun h => by omega, fun h => by omega⟩
theorem sumG_0 {f : Nat → Nat} : ∀ n, (∀ b, b < n → f b = 0) → sumG f n = 0
  | 0, _ => rfl
  | n + 1, h => by
    rw [sumG_s, sumG_0 n (fun b hb => h b (by omega)), h n (by omega)]
theorem gLt_le {ρ : St} {s : Nat} : ∀ m, sumG (gLt ρ s) m ≤ m
  | 0 => Nat.le_refl _
  | m + 1 => by
    have := gLt_le (ρ := ρ) (s := s) m
    have h : gLt ρ s m ≤ 1 := by unfold gLt; split <;> omega
    rw [sumG_s]; omega
theorem lo_base {ρ : St} (hg : Wg ρ) (hL : LL ρ < 9) {s : Nat} (hs : s < spN (LL ρ)) : ∀ a, a < 12 → ∀ t, t < (cI ρ (12 * s + a)).length → ¬ (cm ρ (12 * s + a) t = -1 ∧ 0 ≤ cf ρ (12 * s + a) t) → PDf ρ (dLo s) (12 * s + a) t := fun _ ha _ ht hb => ⟨(base_low hg hL ha hs ht hb).1, (base_low hg hL ha hs ht hb).2, (base_ins hg hL ha hs ht).1⟩
theorem lo_part {ρ : St} (hL : LL ρ < 9) {s : Nat} (hs : s < spN (LL ρ)) : ∀ (p : Int) (i j : Nat), isPart p → spB (LL ρ) s ≤ i → i < j → j ≤ spF (LL ρ) s → ¬ (i = spB (LL ρ) s ∧ j = spF (LL ρ) s) → 0 ≤ pv ρ p i j → dLo s (pv ρ p i j).toNat := by
  intro p i j hp h1 h2 h3 h4 h0
  have qs := sp_s hL hs
  obtain ⟨-, p2, -⟩ := pv_item hL hp (i := i) (j := j) ⟨h2, by omega⟩ (by omega)
  obtain ⟨b, b1, -, b3⟩ := p2 h0
  have lt := sp_lt (L := LL ρ) hL (i := i) (j := j) (k := spB (LL ρ) s) (l := spF (LL ρ) s) ⟨h2, by omega⟩ ⟨qs.1, qs.2.1⟩ (Or.inl (by omega))
  rw [qs.2.2] at lt
  unfold dLo
  rw [b3, Int.toNat_natCast]
  omega
theorem lo_cl {ρ : St} (hg : Wg ρ) (hL : LL ρ < 9) {F : Fo} {s : Nat} (hs : s < spN (LL ρ)) (hF : ClF ρ F (dLo s)) (hz0 : ∀ b, b < 12 → F.1 (12 * s + b) = 0) : ClF ρ F (dSp (dLo s) s) := by
  rintro q (h | h)
  · obtain ⟨g1, g2, g3⟩ := hF q h
    exact ⟨g1, g2, fun t ht => ⟨fun h0 => Or.inl ((g3 t ht).1 h0), fun h0 => Or.inl ((g3 t ht).2.1 h0), (g3 t ht).2.2⟩⟩
  · obtain ⟨b, hb, rfl⟩ : ∃ b, b < 12 ∧ q = 12 * s + b := ⟨q % 12, by omega, by omega⟩
    have z := hz0 b hb
    refine ⟨fun k hk => by omega, fun k l _ hl => by omega, fun t ht => ?_⟩
    by_cases hu : cm ρ (12 * s + b) t = -1 ∧ 0 ≤ cf ρ (12 * s + b) t
    · obtain ⟨r, hr, h3, ⟨ht2, et⟩, hc⟩ := uTc_of hg hL hb hs ht hu
      have ui := uy_info hg hr
      have eb : (ρ 3 r).toNat = b := by omega
      rw [eb] at et
      have ef : cf ρ (12 * s + b) t = ((12 * s + (ρ 4 r).toNat : Nat) : Int) := by unfold cf; rw [et]
      have eg : cg ρ (12 * s + b) t = -1 := by unfold cg; rw [et]
      exact ⟨fun _ => Or.inr (by rw [ef]; omega), fun h0 => absurd h0 (by omega), (base_ins hg hL hb hs ht).1⟩
    · have := lo_base hg hL hs b hb t ht hu
      exact ⟨fun h0 => Or.inl (this.1 h0), fun h0 => Or.inl (this.2.1 h0), this.2.2⟩
theorem r_bestSpan {ρ τ0 : St} (hg : Wg ρ) (hL : LL ρ < 9) (hS : RSg ρ τ0) (h28 : τ0 0 28 = osum (ρ 8) (ρ 0 4).toNat) {F : Fo} {s N0 : Nat} (hs : s < spN (LL ρ)) (hF : ClF ρ F (dLo s)) (hTs : ∀ q, dLo s q → TopP (ltE ρ F q) (CandE ρ F q) (F.1 q) (F.2 q)) (hR : RFo ρ τ0 F (dLo s)) (hz0 : ∀ b, b < 12 → F.1 (12 * s + b) = 0) (h38 : ∀ q, q < 12 * spN (LL ρ) → s ≤ q / 12 → τ0 38 (iR ρ q) = 0) (h55 : τ0 0 55 = -1) (h54 : τ0 0 54 = (N0 : Int)) (hN : N0 ≤ 39000) (hlow : ∀ p, dLo s p → ∀ k, k < F.1 p → τ0 37 (16 * iR ρ p + k) < (N0 : Int)) {Q : Int → St → Prop} (hQ : ∀ τ F1, RFo ρ τ F1 (dSp (dLo s) s) → ClF ρ F1 (dSp (dLo s) s) → LowEq F F1 s → (∀ a, a < 12 → TopP (ltE ρ F1 (12 * s + a)) (CandE ρ F1 (12 * s + a)) (F1.1 (12 * s + a)) (F1.2 (12 * s + a))) → stF τ0 τ → (∀ p, dSp (dLo s) s p → ∀ k, k < F1.1 p → τ 37 (16 * iR ρ p + k) < τ 0 54) → (∀ q, q < 12 * spN (LL ρ) → s < q / 12 → τ 38 (iR ρ q) = 0) → τ 0 55 = -1 → (N0 : Int) ≤ τ 0 54 → τ 0 54 ≤ (N0 : Int) + 873 → Q 0 τ) : wp_X12_laysBestSpan (spB (LL ρ) s : Nat) (spF (LL ρ) s : Nat) τ0 Q := by
  have h0 := hg.1
  have h40 := hg.2.1
  have hT : ∀ q, dLo s q → SgF ρ F q := fun q hq => (hTs q hq).sg
  have hD : ∀ q, dLo s q → q / 12 ≠ s := fun q hq => by unfold dLo at hq; omega
  have hP0 := lo_base hg hL hs
  have hqb : ∀ b, b < 12 → 12 * s + b < 12 * spN (LL ρ) := fun b hb => by omega
  unfold wp_X12_laysBestSpan
  refine r_rules hg hL hS h28 hF hT hs hD hN hP0 (lo_part hL hs) (fun τ hB hst σ1 e1 σ2 e2 => ?_) (ρ 0 4).toNat 0 τ0 bigN (Nat.zero_add _) (by unfold bigN; omega) ⟨⟨fun _ => 0, fun _ _ => (0, 0, 0, 0), hR, hlow, fun b hb => ⟨TopP.nil (fun w hw => ?_), ⟨?_, fun i hi => absurd hi (Nat.not_lt_zero _)⟩, fun i hi => absurd hi (Nat.not_lt_zero _)⟩, fun b c i j _ _ hi => absurd hi (Nat.not_lt_zero _), Or.inl h55, ?_, fun q hq hsq => h38 q hq (by omega)⟩, stF.rf⟩
  · obtain ⟨n, L, hB⟩ := hB
    obtain ⟨b1, b2, b3, b4, b5, b6, b7⟩ := id hB
    have s16 := sumG_le (f := n) 12 (fun b hb => (b3 b hb).1.1)
    have k2 : ∀ k, k ≠ 0 → σ2 k = τ k := fun k hk => by rw [e2, upS_k hk, e1, upS_k hk]
    have z2 : ∀ j, j ≠ 55 → j ≠ 59 → σ2 0 j = τ 0 j := fun j j1 j2 => by rw [e2, upS_j j1, e1, upS_j j2]
    have c55 : σ2 0 55 = -1 := by rw [e2, upS_s]
    have c59 : σ2 0 59 = 0 := by rw [e2, upS_j (by decide), e1, upS_s]
    have t54 : τ 0 54 = ((N0 + sumG n 12 : Nat) : Int) ∨ τ 0 54 = ((N0 + sumG n 12 : Nat) : Int) + 1 := by
      by_cases e : τ 0 55 = -1
      · rw [if_pos e] at b6; left; omega
      · rw [if_neg e] at b6; right; omega
    refine r_move hL hs (n := n) (fun b hb => (b3 b hb).1.1) (fun b hb => by rw [k2 38 (by decide)]; exact (b3 b hb).2.1.1) (fun τ1 hm => ?_) 12 0 σ2 bigN (by omega) (by unfold bigN; omega) ⟨fun _ _ _ _ => rfl, fun _ _ => rfl, fun c hc => by omega, fun _ _ => rfl, by rw [c59]; rfl, fun c k hc => by omega⟩
    obtain ⟨m1, m2, m3, m4, m5, m6⟩ := hm
    have k1 : ∀ k, k ≠ 0 → k ≠ 38 → k ≠ 39 → τ1 k = τ k := fun k a1 a2 a3 => by rw [m1 k a1 a2 a3, k2 k a1]
    have d55 : τ1 0 55 = -1 := by rw [m2 55 (by decide)]; exact c55
    have d54 : τ1 0 54 = τ 0 54 := by rw [m2 54 (by decide), z2 54 (by decide) (by decide)]
    obtain ⟨E0, hl, hE0⟩ := LPd.start (τ := τ) (τ1 := τ1) (P := fun b w => CandE ρ F (12 * s + b) w ∧ cm ρ (12 * s + b) w.2.1 ≠ -1) (fun b hb w hw => ⟨hw.1, hP0 b hb _ hw.1.1 (fun e => hw.2 e.1)⟩) hB k1 m5 (fun c k hc hk => by
      rw [m6 c k hc hk]; unfold ndL; rw [k2 37 (by decide)]) d55 d54
    have R1 : RFo ρ τ1 F (dLo s) := by
      intro p hp
      obtain ⟨r1, r2, r3, r4⟩ := b1 p hp
      refine ⟨r1, r2, ?_, fun k hk => ?_⟩
      · rw [m4 _ (fun c hc e => by have := iR_inj hL r1 (hqb c hc) e; unfold dLo at hp; omega), k2 38 (by decide)]; exact r3
      · rw [k1 37 (by decide) (by decide) (by decide)]
        exact (r4 k hk).eqs (fun i i1 i2 => k1 i (by omega) (by omega) (by omega))
    have st1 : stF τ0 τ1 := hst.tr ⟨fun k hk => k1 k (by omega) (by omega) (by omega), fun j j1 j2 j3 => by rw [m2 j j3, z2 j j2 j3]⟩
    refine r_letters hg hL hS h28 hF hT hs hP0 (τs := τ1) (B := fun b w => ∃ k, k < n b ∧ L b k = w) ?_ (c0 := sumG n 12) (by omega) (T0 := τ 0 54) (by omega) (fun τ' hLI => ?_) (ρ 0 4).toNat 0 τ1 bigN (Nat.zero_add _) (by unfold bigN; omega) ⟨E0, hl, fun b w hb => ?_, R1, fun p hp k hk => ?_, ?_, st1, rfl, rfl⟩
    · rintro b w hb ⟨k, hk, rfl⟩
      exact ((b3 b hb).1.2.1 k hk).2
    · obtain ⟨E, hl', hE, R', low', t54', st', e37, e38⟩ := hLI
      have gl := gLt_le (ρ := ρ) (s := s) (ρ 0 4).toNat
      have hz : ∀ q, q / 12 = s → F.1 q = 0 := fun q hq => by
        have := hz0 (q % 12) (by omega)
        rw [show 12 * s + q % 12 = q by omega] at this; exact this
      have hF2 := lo_cl hg hL hs hF hz0
      have low2 : ∀ p, dSp (dLo s) s p → ∀ k, k < F.1 p → τ' 37 (16 * iR ρ p + k) < τ' 0 54 := by
        rintro p (hp | hp) k hk
        · exact low' p hp k hk
        · have := hz p hp; omega
      have R2 : RFo ρ τ' F (dSp (dLo s) s) := by
        rintro q (hq | hq)
        · exact R' q hq
        · have zq := hz q hq
          refine ⟨by omega, by omega, ?_, fun k hk => by omega⟩
          have := m3 (q % 12) (by omega)
          rw [show 12 * s + q % 12 = q by omega] at this
          rw [e38, this, zq]; rfl
      have dD : ∀ a, a < 12 → dSp (dLo s) s (12 * s + a) := fun a ha => Or.inr (by omega)
      refine r_main hg hL hS h28 hs hF hD hTs (T1 := τ 0 54 - (sumG n 12 : Nat)) (c1 := sumG n 12 + sumG (gLt ρ s) (ρ 0 4).toNat) (by omega) (by omega) (fun τ2 F1 q1 q2 q3 q4 q5 q6 q7 q8 q9 q10 => hQ τ2 F1 q1 q2 q3 q4 q5 q6 q7 q8 (by omega) (by omega)) 192 τ' F 0 (sumG n 12 + sumG (gLt ρ s) (ρ 0 4).toNat) E bigN ?_ (by unfold bigN; omega) ⟨R2, ⟨hF2, dD, fun a ha => by have := hz0 a ha; omega, fun a ha z _ => Or.inr (fun k hk => by have := hz0 a ha; omega), fun a ha _ k hk => by have := hz0 a ha; omega, fun a ha _ _ z hz _ => by have := (hF2.sub (dD a ha) hz).1; omega, fun a ha h => absurd trivial h, fun a ha h => absurd trivial h⟩, LowEq.rf, ⟨hl'.1, hl'.2.1, fun p hp => ?_, hl'.2.2.2⟩, by rw [t54']; push_cast; omega, st', low2, fun q hq hsq => ?_⟩ (fun b w hb hw _ => ?_) ?_
      · have : smF F s = 0 := sumG_0 12 (fun b hb => hz0 b hb)
        omega
      · obtain ⟨l1, l2, l3, l4, l5⟩ := hl'.2.2.1 p hp
        refine ⟨l1, l2, Or.inr ⟨l4, l5, ?_⟩⟩
        rintro ⟨k, hk, -⟩
        have := hz0 _ l1; omega
      · rw [e38, m4 _ (fun c hc e => by have := iR_inj hL hq (hqb c hc) e; omega), k2 38 (by decide)]
        exact b7 q hq hsq
      · obtain ⟨r, hr, -, -, hc, -⟩ := cs_kind hg hL hb hs hw.1
        by_cases hcm : cm ρ (12 * s + b) w.2.1 = -1
        · by_cases hf : cf ρ (12 * s + b) w.2.1 < 0
          · exact Or.inl ((hE b w hb).1 (Or.inr ⟨hw, hcm, hf, by omega⟩))
          · exfalso
            obtain ⟨r2, hr2, h3, ⟨ht2, et⟩, -⟩ := uTc_of hg hL hb hs hw.1 ⟨hcm, by omega⟩
            have ui := uy_info hg hr2
            have eb : (ρ 3 r2).toNat = b := by omega
            rw [eb] at et
            have ef : cf ρ (12 * s + b) w.2.1 = ((12 * s + (ρ 4 r2).toNat : Nat) : Int) := by unfold cf; rw [et]
            have c2 := hw.2.1
            rw [ef, hsF_pos (by omega), Int.toNat_natCast, hz0 _ (by omega)] at c2
            omega
        · rcases (b3 b hb).1.2.2.2 w ⟨hw, hcm⟩ with ⟨i, hi, e⟩ | ⟨e16, g⟩
          · exact Or.inl ((hE b w hb).1 (Or.inl ⟨i, hi, e⟩))
          · exact Or.inr ⟨L b, fun i hi => (hE b (L b i) hb).1 (Or.inl ⟨i, by omega, rfl⟩), fun i j hij hj => (b3 b hb).1.2.2.1 i j hij (by omega), g⟩
      · have : sumG (gUn ρ F s) (ρ 0 4).toNat = 0 := sumG_0 _ (fun r _ => by
          unfold gUn
          split
          · exact hz0 _ (by omega)
          · rfl)
        omega
    · show _ ↔ ∃ p, p < sumG n 12 + 0 ∧ E0 p = (b, w)
      rw [Nat.add_zero, ← hE0 b w hb]
      refine ⟨fun h => ?_, Or.inl⟩
      rcases h with h | ⟨h1, -, -, h2⟩
      · exact h
      · obtain ⟨r, hr, -, -, hc, -⟩ := cs_kind hg hL hb hs h1.1
        omega
    · rw [k1 37 (by decide) (by decide) (by decide), d54]
      have := b2 p hp k hk
      omega
    · show τ1 0 54 = τ 0 54 + ((0 : Nat) : Int)
      rw [d54]; omega
  · obtain ⟨h1, h2, h3⟩ := hw
    obtain ⟨r, hr, -, -, hc, -, -, -, -, kind⟩ := cs_kind hg hL hb hs h1.1
    rcases kind with ⟨-, -, e2, -⟩ | ⟨-, m, k1, k2, e2, -⟩
    · exact h2 e2
    · omega
  · rw [h38 _ (hqb b hb) (by omega)]; rfl
  · rw [if_pos h55, h54]
    have : sumG (fun _ => 0) 12 = 0 := rfl
    rw [this]; omega
