/-! a node is written and waits -/
theorem NdC.eqs {ρ τ τ1 : St} {F : Fo} {q : Nat} {z : En} {v : Int} (e : ∀ k, 28 ≤ k → k ≤ 37 → τ1 k = τ k) (h : NdC ρ τ F q z v) : NdC ρ τ1 F q z v := by
  unfold NdC chN at *
  rw [e 28 (by decide) (by decide), e 29 (by decide) (by decide), e 30 (by decide) (by decide), e 31 (by decide) (by decide), e 32 (by decide) (by decide), e 33 (by decide) (by decide), e 34 (by decide) (by decide), e 35 (by decide) (by decide), e 36 (by decide) (by decide), e 37 (by decide) (by decide)]
  exact h
theorem r_wait1 {ρ τ : St} (hg : Wg ρ) (hL : LL ρ < 9) {F : Fo} {D : Nat → Prop} (hF : ClF ρ F D) (hT : ∀ q, D q → SgF ρ F q) (hR : RFo ρ τ F D) {q : Nat} {z : En} (hp : PDf ρ D q z.2.1) (hz : CandE ρ F q z) {r : Nat} (hr : (cq ρ q z.2.1).1 = (r : Int)) (hr4 : (r : Int) < ρ 0 4) (h4 : τ 4 r = ρ 6 r) (h55 : τ 0 55 = -1) (h54 : 0 ≤ τ 0 54 ∧ τ 0 54 < 40000) {c : Nat} (h59 : τ 0 59 = (c : Int)) (hc : c < 1000) (hlow : ∀ p, D p → ∀ k, k < F.1 p → τ 37 (16 * iR ρ p + k) < τ 0 54) {i m j a b : Int} (hi : i = (spB (LL ρ) (q / 12) : Nat)) (hm : m = cm ρ q z.2.1) (hj : j = (spF (LL ρ) (q / 12) : Nat)) (ha : a = chN ρ τ (cf ρ q z.2.1) z.2.2.1) (hb : b = chN ρ τ (cg ρ q z.2.1) z.2.2.2) {Q : Int → St → Prop} (hQ : ∀ τ3, stF τ τ3 → τ3 37 = τ 37 → τ3 38 = τ 38 → τ3 0 54 = τ 0 54 + 1 → τ3 0 55 = -1 → τ3 0 59 = ((c + 1 : Nat) : Int) → (∀ j, j ≠ c → τ3 39 j = τ 39 j) → τ3 39 c = τ 0 54 → RFo ρ τ3 F D → NdC ρ τ3 F q z (τ 0 54) → (∀ q' z' u, u ≠ τ 0 54 → NdC ρ τ F q' z' u → NdC ρ τ3 F q' z' u) → Q 0 τ3) : wp_X12_writes (r : Int) i m j a b τ (fun r39 σ40 => wp_X12_waits r39 σ40 (fun _ σ42 => wp_X12_takesNode σ42 Q)) := by
  have chv : ∀ (p : Int) (x : Nat), (0 ≤ p → D p.toNat) → x < hsF F p → chN ρ τ p x ≠ τ 0 54 := by
    intro p x hp hx
    unfold chN
    by_cases h0 : p < 0
    · rw [if_pos h0]; omega
    · rw [if_neg h0]
      rw [hsF_pos (by omega)] at hx
      have := hlow _ (hp (by omega)) x hx
      omega
  refine r_writes hg hL hF hT hR hp hz hr hr4 h4 (v := τ 0 54) (by rw [if_pos h55]) h54 (chv _ _ hp.1 hz.2.1) (chv _ _ hp.2.1 hz.2.2.1) hi hm hj ha hb (fun τ1 f1 nv => ?_)
  have e0 : τ1 0 = τ 0 := f1.1 0 (by decide)
  have R1 := hR.fr f1 h54.1 (fun p hp k hk => by have := hlow p hp k hk; omega)
  unfold wp_X12_waits wp_X12_takesNode wp_X12_takesNode_b18
  rw [e0, h59, Int.toNat_natCast]
  refine ⟨by omega, fun σ2 e2 σ3 e3 => ?_⟩
  have c59 : σ2 0 59 = (c : Int) := by rw [e2, upS_k (by decide), e0]; exact h59
  rw [c59, w32_of (by omega) (by omega)] at e3
  have k3 : ∀ k, k ≠ 0 → k ≠ 39 → σ3 k = τ1 k := fun k k0 k1 => by rw [e3, upS_k k0, e2, upS_k k1]
  have z3 : ∀ l, l ≠ 59 → σ3 0 l = τ 0 l := fun l hl => by rw [e3, upS_j hl, e2, upS_k (by decide), e0]
  refine ⟨fun h => absurd (by rw [z3 55 (by decide)]; exact h55) h, fun _ σ4 e4 σ5 e5 => ?_⟩
  rw [z3 54 (by decide), w32_of (by omega) (by omega)] at e4
  have k5 : ∀ k, k ≠ 0 → k ≠ 39 → σ5 k = τ1 k := fun k k0 k1 => by rw [e5, upS_k k0, e4, upS_k k0]; exact k3 k k0 k1
  have c39 : σ5 39 = σ2 39 := by rw [e5, upS_k (by decide), e4, upS_k (by decide), e3, upS_k (by decide)]
  refine hQ σ5 ⟨fun k hk => ?_, fun l l1 l2 l3 => ?_⟩ ?_ ?_ ?_ ?_ ?_ (fun l hl => ?_) ?_ (fun p hp => ?_) (nv.eqs (fun k k1 k2 => k5 k (by omega) (by omega))) (fun q' z' u hu h => (f1.nd h54.1 hu h).eqs (fun k k1 k2 => k5 k (by omega) (by omega)))
  · rw [k5 k (by omega) (by omega), f1.1 k (by omega)]
  · rw [e5, upS_j l2, e4, upS_j l1, z3 l l3]
  · rw [k5 37 (by decide) (by decide), f1.1 37 (by decide)]
  · rw [k5 38 (by decide) (by decide), f1.1 38 (by decide)]
  · rw [e5, upS_j (by decide), e4, upS_s]
  · rw [e5, upS_s]
  · rw [e5, upS_j (by decide), e4, upS_j (by decide), e3, upS_s]; omega
  · rw [c39, e2, upS_j hl, f1.1 39 (by decide)]
  · rw [c39, e2, upS_s]
  · obtain ⟨r1, r2, r3, r4⟩ := R1 p hp
    refine ⟨r1, r2, by rw [k5 38 (by decide) (by decide)]; exact r3, fun k hk => ?_⟩
    rw [k5 37 (by decide) (by decide)]
    exact (r4 k hk).eqs (fun k k1 k2 => k5 k (by omega) (by omega))
