/-! lists of a span wait -/
theorem nd_same {ρ τ : St} {F : Fo} {D : Nat → Prop} (hF : ClF ρ F D) (hR : RFo ρ τ F D) {q : Nat} {z w : En} (hp : PDf ρ D q z.2.1) (hz : CandE ρ F q z) (hw : CandE ρ F q w) {v : Int} (nz : NdC ρ τ F q z v) (nw : NdC ρ τ F q w v) : z = w := by
  have et := nd_key nz nw hz.1 hw.1 rfl rfl
  have part : ∀ (p : Int) (x y : Nat), (0 ≤ p → D p.toNat) → x < hsF F p → y < hsF F p → chN ρ τ p x = chN ρ τ p y → x = y := by
    intro p x y hp hx hy he
    unfold chN at he
    by_cases h0 : p < 0
    · rw [hsF_neg h0] at hx hy; omega
    · rw [if_neg h0, if_neg h0] at he
      rw [hsF_pos (by omega)] at hx hy
      exact nd_inj hF hR _ _ x y (hp (by omega)) hx hy (Nat.lt_succ_self _) he
  have c2 := hw.2.1
  have c3 := hw.2.2.1
  have f1 := nw.2.2.2.2.2.2.1
  have f2 := nw.2.2.2.2.2.2.2.1
  rw [← et] at c2 c3 f1 f2
  have ex := part _ _ _ hp.1 hz.2.1 c2 (by rw [← nz.2.2.2.2.2.2.1, ← f1])
  have ey := part _ _ _ hp.2.1 hz.2.2.1 c3 (by rw [← nz.2.2.2.2.2.2.2.1, ← f2])
  have ec : z.1 = w.1 := by rw [← nz.2.2.2.2.2.2.2.2.1, ← nw.2.2.2.2.2.2.2.2.1]
  exact Prod.ext ec (Prod.ext et (Prod.ext ex ey))
theorem sumG_mo {n : Nat → Nat} {b : Nat} : ∀ c, b < c → sumG n b + n b ≤ sumG n c
  | 0, h => by omega
  | c + 1, h => by
    show _ ≤ sumG n c + n c
    by_cases e : b = c
    · rw [e]; exact Nat.le_refl _
    · have := sumG_mo (n := n) (b := b) c (by omega); omega
/-- labels below b wait -/
def MVf (ρ τ τ1 : St) (s : Nat) (n : Nat → Nat) (b : Nat) : Prop := (∀ k, k ≠ 0 → k ≠ 38 → k ≠ 39 → τ1 k = τ k) ∧ (∀ j, j ≠ 59 → τ1 0 j = τ 0 j) ∧ (∀ c, c < b → τ1 38 (iR ρ (12 * s + c)) = 0) ∧ (∀ j, (∀ c, c < b → j ≠ iR ρ (12 * s + c)) → τ1 38 j = τ 38 j) ∧ τ1 0 59 = (sumG n b : Nat) ∧ ∀ c k, c < b → k < n c → τ1 39 (sumG n c + k) = ndL ρ τ s c k
theorem r_move {ρ τ : St} (hL : LL ρ < 9) {s : Nat} (hs : s < spN (LL ρ)) {n : Nat → Nat} (hn16 : ∀ b, b < 12 → n b ≤ 16) (h38 : ∀ b, b < 12 → τ 38 (iR ρ (12 * s + b)) = (n b : Nat)) {Q : Int → St → Prop} (hQ : ∀ τ1, MVf ρ τ τ1 s n 12 → wp_X12_laysBestSpan_l121 Q bigN (spB (LL ρ) s : Nat) (spF (LL ρ) s : Nat) 0 τ1) : ∀ (d b : Nat) (τ' : St) (m : Nat), b + d = 12 → d < m → MVf ρ τ τ' s n b → wp_X12_laysBestSpan_l53 Q m (spB (LL ρ) s : Nat) (spF (LL ρ) s : Nat) (b : Int) τ' := by
  have qs := sp_s hL hs
  have hqb : ∀ b, b < 12 → 12 * s + b < 12 * spN (LL ρ) := fun b hb => by omega
  have s16 := sumG_le (f := n) 12 hn16
  intro d
  induction d with
  | zero =>
    intro b τ' m hb hm h
    obtain ⟨m, rfl⟩ := suc_n hm
    have eb : b = 12 := by omega
    subst eb
    unfold wp_X12_laysBestSpan_l53
    exact ⟨fun _ => hQ τ' h, fun w => absurd (by omega) w⟩
  | succ d ih =>
    intro b τ' m hb hm h
    obtain ⟨m, rfl⟩ := suc_n hm
    obtain ⟨h1, h2, h3, h4, h5, h6⟩ := h
    have hb12 : b < 12 := by omega
    obtain ⟨iRl, iRe⟩ := iR_it hL (hqb b hb12)
    rw [show (12 * s + b) % 12 = b by omega, show (12 * s + b) / 12 = s by omega] at iRe
    have own : ∀ c, c < b → iR ρ (12 * s + b) ≠ iR ρ (12 * s + c) := fun c hc e => by
      have := iR_inj hL (hqb b hb12) (hqb c (by omega)) e; omega
    have nb16 := hn16 b hb12
    have sb := sumG_mo (n := n) (b := b) 12 hb12
    have n38 : τ' 38 (iR ρ (12 * s + b)) = (n b : Nat) := by rw [h4 _ own]; exact h38 b hb12
    have l70 : ∀ (e k : Nat) (τ'' : St) (m' : Nat), k + e = n b → e < m' → (∀ i, i ≠ 0 → i ≠ 39 → τ'' i = τ' i) → (∀ j, j ≠ 59 → τ'' 0 j = τ' 0 j) → τ'' 0 59 = ((sumG n b + k : Nat) : Int) → (∀ j, j < sumG n b → τ'' 39 j = τ' 39 j) → (∀ i, i < k → τ'' 39 (sumG n b + i) = ndL ρ τ s b i) → wp_X12_laysBestSpan_l70 Q (wp_X12_laysBestSpan_l53 Q m) m' (spB (LL ρ) s : Nat) (spF (LL ρ) s : Nat) (b : Int) (iR ρ (12 * s + b) : Int) (k : Int) τ'' := by
      intro e
      induction e with
      | zero =>
        intro k τ'' m' hk hm' a1 a2 a3 a4 a5
        obtain ⟨m', rfl⟩ := suc_n hm'
        unfold wp_X12_laysBestSpan_l70
        rw [Int.toNat_natCast, a1 38 (by decide) (by decide), n38]
        refine ⟨by omega, fun _ => ⟨by omega, fun σ22 e22 v23 e23 => ?_⟩, fun w => absurd (by omega) w⟩
        rw [w32_of (by omega) (by omega), show (b : Int) + 1 = ((b + 1 : Nat) : Int) by omega] at e23
        rw [e23]
        refine ih (b + 1) σ22 m (by omega) (by omega) ⟨fun i i0 i1 i2 => by rw [e22, upS_k i1, a1 i i0 i2]; exact h1 i i0 i1 i2, fun j hj => by rw [e22, upS_k (by decide), a2 j hj]; exact h2 j hj, fun c hc => ?_, fun j hj => ?_, ?_, fun c i hc hi => ?_⟩
        · by_cases ec : c = b
          · rw [ec, e22, upS_s]
          · rw [e22, upS_j (Ne.symm (own c (by omega))), a1 38 (by decide) (by decide)]; exact h3 c (by omega)
        · rw [e22, upS_j (hj b (by omega)), a1 38 (by decide) (by decide)]; exact h4 j (fun c hc => hj c (by omega))
        · rw [e22, upS_k (by decide), a3]
          show ((sumG n b + k : Nat) : Int) = ((sumG n b + n b : Nat) : Int)
          rw [show k = n b by omega]
        · rw [e22, upS_k (by decide)]
          by_cases ec : c = b
          · rw [ec] at hi ⊢; exact a5 i (by omega)
          · have := sumG_mo (n := n) (b := c) b (by omega)
            rw [a4 _ (by omega)]; exact h6 c i (by omega) hi
      | succ e ih2 =>
        intro k τ'' m' hk hm' a1 a2 a3 a4 a5
        obtain ⟨m', rfl⟩ := suc_n hm'
        unfold wp_X12_laysBestSpan_l70 wp_X12_waits
        rw [Int.toNat_natCast, a1 38 (by decide) (by decide), n38, w32_of (x := (iR ρ (12 * s + b) : Int) * 16) (by omega) (by omega), w32_of (x := (iR ρ (12 * s + b) : Int) * 16 + (k : Int)) (by omega) (by omega), show (iR ρ (12 * s + b) : Int) * 16 + (k : Int) = ((16 * iR ρ (12 * s + b) + k : Nat) : Int) by omega, Int.toNat_natCast, a3, Int.toNat_natCast]
        refine ⟨by omega, fun w => absurd w (by omega), fun _ => ⟨by omega, by omega, fun σ1 e1 σ2 e2 v26 e26 => ?_⟩⟩
        have c59 : σ1 0 59 = ((sumG n b + k : Nat) : Int) := by rw [e1, upS_k (by decide)]; exact a3
        rw [c59, w32_of (by omega) (by omega)] at e2
        rw [w32_of (by omega) (by omega), show (k : Int) + 1 = ((k + 1 : Nat) : Int) by omega] at e26
        rw [e26]
        have e37 : τ'' 37 = τ 37 := by rw [a1 37 (by decide) (by decide)]; exact h1 37 (by decide) (by decide) (by decide)
        refine ih2 (k + 1) σ2 m' (by omega) (by omega) (fun i i0 i1 => by rw [e2, upS_k i0, e1, upS_k i1]; exact a1 i i0 i1) (fun j hj => by rw [e2, upS_j hj, e1, upS_k (by decide)]; exact a2 j hj) (by rw [e2, upS_s]; omega) (fun j hj => by rw [e2, upS_k (by decide), e1, upS_j (by omega)]; exact a4 j hj) (fun i hi => ?_)
        rw [e2, upS_k (by decide), e1]
        by_cases ei : i = k
        · rw [ei, upS_s, e37]; rfl
        · rw [upS_j (by omega)]; exact a5 i (by omega)
    unfold wp_X12_laysBestSpan_l53
    refine ⟨fun w => absurd w (by omega), fun _ => r_item (by omega) (by omega) ?_⟩
    rw [iRe]
    exact l70 (n b) 0 τ' bigN (by omega) (by unfold bigN; omega) (fun _ _ _ => rfl) (fun _ _ => rfl) h5 (fun _ _ => rfl) (fun i hi => by omega)
