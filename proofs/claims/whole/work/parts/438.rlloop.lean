/-! the letters' loop -/
def LIv (ρ τ0 τs τ : St) (F : Fo) (D : Nat → Prop) (s : Nat) (B : Nat → En → Prop) (c0 : Nat) (T0 : Int) (r : Nat) : Prop := ∃ E, LPd ρ τ F D s (c0 + sumG (gLt ρ s) r) E ∧ (∀ b w, b < 12 → (SLt ρ F s B r b w ↔ ∃ p, p < c0 + sumG (gLt ρ s) r ∧ E p = (b, w))) ∧ RFo ρ τ F D ∧ (∀ p, D p → ∀ k, k < F.1 p → τ 37 (16 * iR ρ p + k) < τ 0 54) ∧ τ 0 54 = T0 + (sumG (gLt ρ s) r : Nat) ∧ stF τ0 τ ∧ τ 37 = τs 37 ∧ τ 38 = τs 38
theorem LIv.skip {ρ τ0 τs τ : St} (hg : Wg ρ) (hL : LL ρ < 9) {F : Fo} {D : Nat → Prop} {s : Nat} (hs : s < spN (LL ρ)) {B : Nat → En → Prop} {c0 : Nat} {T0 : Int} {r : Nat} (hI : LIv ρ τ0 τs τ F D s B c0 T0 r) (h : ¬ (ρ 8 r = 0 ∧ ρ 5 r = -1 ∧ pv ρ (ρ 4 r) (spB (LL ρ) s) (spF (LL ρ) s) = -1)) : LIv ρ τ0 τs τ F D s B c0 T0 (r + 1) := by
  have e : sumG (gLt ρ s) (r + 1) = sumG (gLt ρ s) r := by
    show sumG (gLt ρ s) r + gLt ρ s r = _
    unfold gLt; rw [if_neg h, Nat.add_zero]
  obtain ⟨E, h1, h2, h3⟩ := hI
  refine ⟨E, by rw [e]; exact h1, fun b w hb => by rw [e, ← sl_skip hg hL hs hb h w]; exact h2 b w hb, by rw [e]; exact h3⟩
theorem r_letters {ρ τ0 τs : St} (hg : Wg ρ) (hL : LL ρ < 9) (hS : RSg ρ τ0) (h28 : τ0 0 28 = osum (ρ 8) (ρ 0 4).toNat) {F : Fo} {D : Nat → Prop} (hF : ClF ρ F D) (hT : ∀ q, D q → SgF ρ F q) {s : Nat} (hs : s < spN (LL ρ)) (hP0 : ∀ a, a < 12 → ∀ t, t < (cI ρ (12 * s + a)).length → ¬ (cm ρ (12 * s + a) t = -1 ∧ 0 ≤ cf ρ (12 * s + a) t) → PDf ρ D (12 * s + a) t) {B : Nat → En → Prop} (hBc : ∀ b w, b < 12 → B b w → cm ρ (12 * s + b) w.2.1 ≠ -1) {c0 : Nat} (hc0 : c0 ≤ 192) {T0 : Int} (hT0 : 0 ≤ T0 ∧ T0 < 39500) {Q : Int → St → Prop} (hQ : ∀ τ, LIv ρ τ0 τs τ F D s B c0 T0 (ρ 0 4).toNat → wp_X12_firstPending τ (fun r10 σ11 => wp_X12_laysBestSpan_l205 Q bigN (spB (LL ρ) s : Nat) (spF (LL ρ) s : Nat) r10 σ11)) : ∀ (d r : Nat) (τ : St) (n : Nat), r + d = (ρ 0 4).toNat → d < n → LIv ρ τ0 τs τ F D s B c0 T0 r → wp_X12_laysBestSpan_l121 Q n (spB (LL ρ) s : Nat) (spF (LL ρ) s : Nat) (r : Int) τ := by
  have h0 := hg.1
  have h40 := hg.2.1
  have qs := sp_s hL hs
  intro d
  induction d with
  | zero =>
    intro r τ n hr hn hI
    obtain ⟨n, rfl⟩ := suc_n hn
    have er : r = (ρ 0 4).toNat := by omega
    subst er
    obtain ⟨E, -, -, -, -, -, hst, -⟩ := id hI
    unfold wp_X12_laysBestSpan_l121
    rw [(hS.st hst).1]
    exact ⟨fun _ => hQ τ hI, fun w => absurd (by omega) w⟩
  | succ d ih =>
    intro r τ n hr hn hI
    obtain ⟨n, rfl⟩ := suc_n hn
    obtain ⟨E, hl, hE, hR, hlow, h54, hst, e37, e38⟩ := id hI
    have hS1 := hS.st hst
    have hr4 : (r : Int) < ρ 0 4 := by omega
    obtain ⟨g1, g2, g3, g4⟩ := hS1.2.1 r hr4
    have hp1 := (hg.2.2 r hr4).2.1
    have hh := w_head hg hr4
    have s40 : sumG (gLt ρ s) r ≤ r := by
      have : ∀ m, sumG (gLt ρ s) m ≤ m := by
        intro m
        induction m with
        | zero => exact Nat.le_refl _
        | succ m ihm =>
          have : gLt ρ s m ≤ 1 := by unfold gLt; split <;> omega
          show sumG (gLt ρ s) m + gLt ρ s m ≤ m + 1
          omega
      exact this r
    have nx : ∀ τ', LIv ρ τ0 τs τ' F D s B c0 T0 (r + 1) → wp_X12_laysBestSpan_b194 Q (wp_X12_laysBestSpan_l121 Q n) (spB (LL ρ) s : Nat) (spF (LL ρ) s : Nat) (r : Int) τ' := by
      intro τ' hI'
      unfold wp_X12_laysBestSpan_b194
      intro v9 e9
      rw [w32_of (by omega) (by omega), show (r : Int) + 1 = ((r + 1 : Nat) : Int) by omega] at e9
      rw [e9]
      exact ih (r + 1) τ' n (by omega) (by omega) hI'
    unfold wp_X12_laysBestSpan_l121
    rw [hS1.1]
    refine ⟨fun w => absurd w (by omega), fun _ => r_isIn hg (by rw [hst.2 28 (by decide) (by decide) (by decide)]; exact h28) hr4 ?_⟩
    rw [Int.toNat_natCast, g3, g2]
    by_cases h8 : ρ 8 r = 0
    · rw [if_pos h8]
      unfold isPart at hp1
      refine ⟨fun w => absurd w (by decide), fun _ => ⟨by omega, fun h5 => nx τ (hI.skip hg hL hs (fun g => h5 g.2.1)), fun h5 => ⟨by omega, fun h100 => nx τ (hI.skip hg hL hs (fun g => ?_)), fun h100 => ⟨by omega, ?_⟩⟩⟩⟩
      · have := g.2.2
        rw [pv_lab (by omega)] at this
        omega
      · have h5' : ρ 5 r = -1 := Classical.byContradiction h5
        refine r_fitsL hL hS1.2.2 (by omega) ⟨qs.1, qs.2.1⟩ (fun hpv => ⟨fun _ => ?_, fun w => absurd (by decide) w⟩) (fun hpv => ⟨fun w => absurd rfl w, fun _ => nx τ (hI.skip hg hL hs (fun g => hpv g.2.2))⟩)
        obtain ⟨t, ht, et⟩ := one_ex hg (s := s) hr4 h8 h5' hpv
        have ef : cf ρ (12 * s + (ρ 3 r).toNat) t = -1 := by unfold cf; rw [et]
        have eg : cg ρ (12 * s + (ρ 3 r).toNat) t = -1 := by unfold cg; rw [et]
        have em : cm ρ (12 * s + (ρ 3 r).toNat) t = -1 := by unfold cm; rw [et]
        have er : (cq ρ (12 * s + (ρ 3 r).toNat) t).1 = (r : Int) := by rw [et]
        have ha : (ρ 3 r).toNat < 12 := by omega
        obtain ⟨z, ez⟩ : ∃ z : En, z = (cp ρ (12 * s + (ρ 3 r).toNat) t + scF F (cf ρ (12 * s + (ρ 3 r).toNat) t) 0 + scF F (cg ρ (12 * s + (ρ 3 r).toNat) t) 0, t, 0, 0) := ⟨_, rfl⟩
        have hz : CandE ρ F (12 * s + (ρ 3 r).toNat) z := by
          rw [ez]
          refine ⟨ht, ?_, ?_, rfl⟩
          · show 0 < hsF F (cf ρ (12 * s + (ρ 3 r).toNat) t)
            rw [ef, hsF_neg (by decide)]; decide
          · show 0 < hsF F (cg ρ (12 * s + (ρ 3 r).toNat) t)
            rw [eg, hsF_neg (by decide)]; decide
        have z1 : z.2.1 = t := by rw [ez]
        have hp := hP0 _ ha t ht (fun e => by rw [ef] at e; omega)
        have c1 : ∀ x, chN ρ τ (-1) x = -1 := fun x => by unfold chN; rw [if_pos (by decide)]
        have eS : sumG (gLt ρ s) (r + 1) = sumG (gLt ρ s) r + 1 := by
          show sumG (gLt ρ s) r + gLt ρ s r = _
          have : gLt ρ s r = 1 := by unfold gLt; rw [if_pos ⟨h8, h5', hpv⟩]
          omega
        have eqs : (12 * s + (ρ 3 r).toNat) / 12 = s := by omega
        have fresh : ∀ p, p < c0 + sumG (gLt ρ s) r → E p ≠ ((ρ 3 r).toNat, z) := fun p hp' e => by
          rcases (hE _ z ha).2 ⟨p, hp', e⟩ with g | ⟨-, -, -, g⟩
          · exact hBc _ z ha g (by rw [z1]; exact em)
          · rw [z1, er] at g; omega
        refine r_wait1 hg hL hF hT hR (q := 12 * s + (ρ 3 r).toNat) (z := z) (by rw [z1]; exact hp) hz (by rw [z1]; exact er) hr4 g4 hl.2.1 (by omega) hl.1 (by omega) hlow (by rw [eqs]) (by rw [z1]; exact em.symm) (by rw [eqs]) (by rw [z1, ef, c1]) (by rw [z1, eg, c1]) (fun τ3 a1 a2 a3 a4 a5 a6 a7 a8 a9 a10 a11 => nx τ3 ?_)
        refine ⟨fun p => if p = c0 + sumG (gLt ρ s) r then ((ρ 3 r).toNat, z) else E p, ⟨by rw [a6, eS]; omega, a5, fun p hp' => ?_, fun p p' hp1' hp2' e => ?_⟩, fun b w hb => ?_, a9, fun p hp' k hk => ?_, ?_, hst.tr a1, a2.trans e37, a3.trans e38⟩
        · rw [eS] at hp'
          by_cases ep : p = c0 + sumG (gLt ρ s) r
          · simp only [if_pos ep]
            refine ⟨ha, hz, by rw [z1]; exact hp, ?_, ?_⟩
            · rw [ep, a8]; exact a10
            · rw [ep, a8, a4]; omega
          · simp only [if_neg ep]
            obtain ⟨l1, l2, l3, l4, l5⟩ := hl.2.2.1 p (by omega)
            refine ⟨l1, l2, l3, ?_, ?_⟩
            · rw [a7 p ep]; exact a11 _ _ _ (by omega) l4
            · rw [a7 p ep, a4]; omega
        · rw [eS] at hp1' hp2'
          by_cases ep : p = c0 + sumG (gLt ρ s) r
          · by_cases ep' : p' = c0 + sumG (gLt ρ s) r
            · omega
            · simp only [if_pos ep, if_neg ep'] at e
              exact absurd e.symm (fresh p' (by omega))
          · by_cases ep' : p' = c0 + sumG (gLt ρ s) r
            · simp only [if_neg ep, if_pos ep'] at e
              exact absurd e (fresh p (by omega))
            · simp only [if_neg ep, if_neg ep'] at e
              exact hl.2.2.2 p p' (by omega) (by omega) e
        · rw [eS]
          constructor
          · intro h
            by_cases hw : SLt ρ F s B r b w
            · obtain ⟨p, p1, p2⟩ := (hE b w hb).1 hw
              exact ⟨p, by omega, by simp only [if_neg (show ¬ p = c0 + sumG (gLt ρ s) r by omega)]; exact p2⟩
            · rcases h with h | ⟨w1, w2, w3, w4⟩
              · exact absurd (Or.inl h) hw
              · have e1 : (cq ρ (12 * s + b) w.2.1).1 = (r : Int) := by
                  have : ¬ (cq ρ (12 * s + b) w.2.1).1 < (r : Int) := fun g => hw (Or.inr ⟨w1, w2, w3, g⟩)
                  omega
                obtain ⟨-, -, -, -, o5, o6, o7⟩ := one_of hg hL hb hs w1 e1 w2 w3
                have eb : b = (ρ 3 r).toNat := by omega
                subst eb
                have e2 : w.2.1 = t := cq_inj w1.1 ht (by rw [e1, er]) (by rw [w2, em])
                have e3 : w = z := by
                  rw [ez]
                  refine Prod.ext ?_ (Prod.ext e2 (Prod.ext o6 o7))
                  rw [w1.2.2.2, e2, o6, o7]
                exact ⟨c0 + sumG (gLt ρ s) r, by omega, by simp only [if_true]; rw [e3]⟩
          · rintro ⟨p, p1, p2⟩
            by_cases ep : p = c0 + sumG (gLt ρ s) r
            · simp only [if_pos ep, Prod.mk.injEq] at p2
              obtain ⟨q1, q2⟩ := p2
              subst q1 q2
              exact Or.inr ⟨hz, by rw [z1]; exact em, by rw [z1, ef]; decide, by rw [z1, er]; omega⟩
            · simp only [if_neg ep] at p2
              rcases (hE b w hb).2 ⟨p, by omega, p2⟩ with g | ⟨w1, w2, w3, w4⟩
              · exact Or.inl g
              · exact Or.inr ⟨w1, w2, w3, by omega⟩
        · rw [a2, a4]; have := hlow p hp' k hk; omega
        · rw [a4, h54, eS]; push_cast; omega
    · rw [if_neg h8]
      exact ⟨fun _ => nx τ (hI.skip hg hL hs (fun g => h8 g.1)), fun w => absurd rfl w⟩
