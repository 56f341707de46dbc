/-! items -/
def isItm (ρ : St) (x1 x2 x3 : Int) : Prop := (0 ≤ x1 ∧ x1 < 12) ∧ 0 ≤ x2 ∧ x2 < x3 ∧ x3 ≤ ρ 0 8
def itN (ρ : St) (x1 x2 x3 : Int) : Nat := 12 * spA (LL ρ) x2.toNat x3.toNat + x1.toNat
theorem itN_r {ρ : St} (hL : LL ρ < 9) {x1 x2 x3 : Int} (h : isItm ρ x1 x2 x3) : itN ρ x1 x2 x3 < 12 * spN (LL ρ) ∧ itN ρ x1 x2 x3 < 432 := by
  obtain ⟨h1, h2, h3, h4⟩ := h
  have q := sp_a (L := LL ρ) (i := x2.toNat) (j := x3.toNat) hL ⟨by omega, by unfold LL; omega⟩
  have := sp_3 _ hL
  unfold itN; omega
theorem c_itemOf {ρ σ : St} (hW : WW ρ) (vg : VCg σ ρ) (vs : VCs σ ρ) (hb : σ 24 17 = 0 ∨ Bt ρ σ) {x1 x2 x3 : Int} {Q : Int → St → Prop} (hno : ¬ isItm ρ x1 x2 x3 → Q (-2) σ) (hyes : isItm ρ x1 x2 x3 → ∀ σ1, Bt ρ σ1 → Fr S_X0_build σ σ1 → Q (itN ρ x1 x2 x3 : Nat) σ1) : wp_X11_itemOf x1 x2 x3 σ Q := by
  have h8 := hW.2.2.2.2.2.1
  have h80 := hW.2.2.2.2.1
  have hL : LL ρ < 9 := by unfold LL; omega
  unfold wp_X11_itemOf
  rw [vs.1]
  unfold isItm at hno hyes
  refine ⟨fun h => hno (by omega), fun h1 => ⟨fun h => hno (by omega), fun h2 => ⟨fun h => hno (by omega), fun h3 => ⟨fun h => hno (by omega), fun h4 => ⟨fun h5 => ?_, fun h => hno (by omega)⟩⟩⟩⟩⟩
  refine mf_X0_build (σ0 := σ) (Q := fun _ σ1 => Bt ρ σ1) (fun r1 σ2 hB f => ?_) Fr.rf (c_build hW vg vs hb (fun _ h => h))
  have hij : x2.toNat < x3.toNat ∧ x3.toNat ≤ LL ρ := ⟨by omega, by unfold LL; omega⟩
  have q := sp_a (L := LL ρ) hL hij
  have q3 := sp_3 _ hL
  have e : w32 (w32 (x2 * 9) + x3) = ((x2.toNat * 9 + x3.toNat : Nat) : Int) := by rw [w32_of (x := x2 * 9) (by omega) (by omega), w32_of (by omega) (by omega)]; push_cast; omega
  unfold wp_X0_itemAt
  rw [e, Int.toNat_natCast, hB.1.2.1.2.2.2 _ _ hij.1 hij.2 q.1]
  refine ⟨by omega, ?_⟩
  have e2 : w32 (w32 (((spA (LL ρ) x2.toNat x3.toNat : Nat) : Int) * 12) + x1) = (itN ρ x1 x2 x3 : Nat) := by
    rw [w32_of (x := ((spA (LL ρ) x2.toNat x3.toNat : Nat) : Int) * 12) (by omega) (by omega), w32_of (by omega) (by omega)]
    unfold itN; push_cast; omega
  rw [e2]
  exact hyes ⟨by omega, by omega, by omega, by omega⟩ σ2 hB f
theorem r_isItem {ρ τ : St} (us : τ 0 15 = ρ 0 8) {x1 x2 x3 : Int} {Q : Int → St → Prop} (hno : ¬ isItm ρ x1 x2 x3 → Q 0 τ) (hyes : isItm ρ x1 x2 x3 → Q 1 τ) : wp_X12_isItem x1 x2 x3 τ Q := by
  unfold wp_X12_isItem wp_X12_isItem_b33
  unfold isItm at hno hyes
  refine r_in ?_
  by_cases h1 : 0 ≤ x1 ∧ x1 ≤ 11
  · rw [if_pos h1, us]
    exact ⟨fun h => absurd h (by decide), fun _ => ⟨fun h => hno (by omega), fun h2 => ⟨fun h => hno (by omega), fun h3 => ⟨fun h => hno (by omega), fun h4 => hyes ⟨by omega, by omega, by omega, by omega⟩⟩⟩⟩⟩
  · rw [if_neg h1]
    exact ⟨fun _ => hno (by omega), fun h => absurd rfl h⟩
theorem c_lowestOf {ρ σ : St} (hW : WW ρ) (vg : VCg σ ρ) (vs : VCs σ ρ) (hb : σ 24 17 = 0 ∨ Bt ρ σ) (hl : σ 36 7 = 0 ∨ (σ 36 7 = 1 ∧ Lw ρ σ)) {q : Nat} (hq4 : q < 432) {Q : Int → St → Prop} (hq : ∀ σ1, Bt ρ σ1 → σ1 36 7 = 1 → Lw ρ σ1 → Q (σ1 37 q) σ1) : wp_X1_lowestOf (q : Int) σ Q := by
  unfold wp_X1_lowestOf
  refine c_prepare hW vg vs hb hl (fun σ1 h1 h2 h3 => ⟨by omega, ?_⟩)
  rw [Int.toNat_natCast]; exact hq σ1 h1 h2 h3
/-- the class's least against the reference's -/
theorem low_eq {ρ σ τ : St} (hL : LL ρ < 9) (h8 : 0 ≤ ρ 0 8) (hw : Lw ρ σ) (ha : LA ρ τ) {x1 x2 x3 : Int} (h : isItm ρ x1 x2 x3) : σ 37 (itN ρ x1 x2 x3) = if rl τ x1 x2 x3 < 1000000000 then rl τ x1 x2 x3 else -1 := by
  obtain ⟨h1, h2, h3, h4⟩ := h
  have hij : x2.toNat < x3.toNat ∧ x3.toNat ≤ LL ρ := ⟨by omega, by unfold LL; omega⟩
  have q := sp_a (L := LL ρ) hL hij
  have a := hw (spA (LL ρ) x2.toNat x3.toNat) x1.toNat q.1 (by omega)
  rw [q.2.1, q.2.2, show ((x1.toNat : Nat) : Int) = x1 by omega, show ((x2.toNat : Nat) : Int) = x2 by omega, show ((x3.toNat : Nat) : Int) = x3 by omega] at a
  exact lo_agree a (ha.2 x1 x2 x3 h1.1 h1.2 h2 h3 h4)
