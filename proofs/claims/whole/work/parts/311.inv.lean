/-! what the two stores have in common: ρ. ρ 0: 0 tape's length, 1 out's, 2 fault, 3 its place, 4 rules, 5 N, 6 zero, 7 one, 8 letters; ρ 1 tape, 2 out, 3 head, 4 first part, 5 second, 6 cost, 7 element, 8 left out, 9 plus, 10 times, 11 sentence -/
def sby (x : Int) : Int := if x < 128 then x else x - 256
def isPart (x : Int) : Prop := (0 ≤ x ∧ x < 12) ∨ (100 ≤ x ∧ x < 126)
def osum (f : Nat → Int) : Nat → Int
  | 0 => 0
  | n + 1 => osum f n + f n * 2 ^ n
def Wt (ρ : St) : Prop := 0 ≤ ρ 0 0 ∧ ρ 0 0 ≤ 1000 ∧ ∀ j : Nat, (j : Int) < ρ 0 0 → 0 ≤ ρ 1 j ∧ ρ 1 j ≤ 255
def Wo (ρ : St) : Prop := 0 ≤ ρ 0 1 ∧ ρ 0 1 ≤ 2048
def Wg (ρ : St) : Prop := 0 ≤ ρ 0 4 ∧ ρ 0 4 ≤ 40 ∧ ∀ r : Nat, (r : Int) < ρ 0 4 → (0 ≤ ρ 3 r ∧ ρ 3 r < 12) ∧ isPart (ρ 4 r) ∧ (ρ 5 r = -1 ∨ isPart (ρ 5 r)) ∧ (1 ≤ ρ 6 r ∧ ρ 6 r ≤ 99) ∧ (0 ≤ ρ 7 r ∧ ρ 7 r < ρ 0 5) ∧ (ρ 8 r = 0 ∨ ρ 8 r = 1)
def Wb (ρ : St) : Prop := 2 ≤ ρ 0 5 ∧ ρ 0 5 ≤ 5 ∧ (0 ≤ ρ 0 6 ∧ ρ 0 6 < ρ 0 5) ∧ (0 ≤ ρ 0 7 ∧ ρ 0 7 < ρ 0 5) ∧ ∀ j : Nat, (j : Int) < ρ 0 5 * ρ 0 5 → (0 ≤ ρ 9 j ∧ ρ 9 j < ρ 0 5) ∧ (0 ≤ ρ 10 j ∧ ρ 10 j < ρ 0 5)
def Ws (ρ : St) : Prop := 0 ≤ ρ 0 8 ∧ ρ 0 8 ≤ 8 ∧ ∀ j : Nat, (j : Int) < ρ 0 8 → 0 ≤ ρ 11 j ∧ ρ 11 j ≤ 25
def VCt (σ ρ : St) : Prop := σ 0 1 = ρ 0 0 ∧ ∀ j : Nat, (j : Int) < ρ 0 0 → σ 1 j = ρ 1 j
def VCo (σ ρ : St) : Prop := σ 0 3 = ρ 0 1 ∧ ∀ j : Nat, (j : Int) < ρ 0 1 → σ 2 j = ρ 2 j
def VCf (σ ρ : St) : Prop := σ 3 2 = ρ 0 2 ∧ σ 3 3 = ρ 0 3
def VCg (σ ρ : St) : Prop := σ 14 0 = ρ 0 4 ∧ ∀ r : Nat, (r : Int) < ρ 0 4 → σ 15 r = ρ 3 r ∧ σ 16 r = ρ 4 r ∧ σ 17 r = ρ 5 r ∧ σ 18 r = ρ 6 r ∧ σ 19 r = ρ 7 r ∧ σ 20 r = ρ 8 r
def VCb (σ ρ : St) : Prop := σ 14 7 = ρ 0 5 ∧ σ 14 8 = ρ 0 6 ∧ σ 14 9 = ρ 0 7 ∧ ∀ j : Nat, (j : Int) < ρ 0 5 * ρ 0 5 → σ 21 j = ρ 9 j ∧ σ 22 j = ρ 10 j
def VCs (σ ρ : St) : Prop := σ 24 2 = ρ 0 8 ∧ ∀ j : Nat, (j : Int) < ρ 0 8 → σ 25 j = ρ 11 j
def VRt (τ ρ : St) : Prop := τ 0 17 = ρ 0 0 ∧ ∀ j : Nat, (j : Int) < ρ 0 0 → τ 12 j = sby (ρ 1 j)
def VRo (τ ρ : St) : Prop := τ 0 61 = ρ 0 1 ∧ ∀ j : Nat, (j : Int) < ρ 0 1 → τ 40 j = ρ 2 j
def VRf (τ ρ : St) : Prop := τ 0 24 = ρ 0 2 ∧ τ 0 25 = ρ 0 3
def VRg (τ ρ : St) : Prop := τ 0 1 = ρ 0 4 ∧ τ 0 2 = osum (ρ 8) (ρ 0 4).toNat ∧ ∀ r : Nat, (r : Int) < ρ 0 4 → τ 1 r = ρ 3 r ∧ τ 2 r = ρ 4 r ∧ τ 3 r = ρ 5 r ∧ τ 4 r = ρ 6 r ∧ τ 5 r = ρ 7 r
def VRb (τ ρ : St) : Prop := τ 6 0 = ρ 0 5 ∧ τ 7 0 = ρ 0 6 ∧ τ 8 0 = ρ 0 7 ∧ ∀ j : Nat, (j : Int) < ρ 0 5 * ρ 0 5 → τ 9 j = ρ 9 j ∧ τ 10 j = ρ 10 j
def VRs (τ ρ : St) : Prop := τ 0 15 = ρ 0 8 ∧ ∀ j : Nat, (j : Int) < ρ 0 8 → τ 11 j = ρ 11 j
def WW (ρ : St) : Prop := Wt ρ ∧ Wo ρ ∧ Wg ρ ∧ Wb ρ ∧ Ws ρ
def VC (σ ρ : St) : Prop := VCt σ ρ ∧ VCo σ ρ ∧ VCf σ ρ ∧ VCg σ ρ ∧ VCb σ ρ ∧ VCs σ ρ
def VR (τ ρ : St) : Prop := VRt τ ρ ∧ VRo τ ρ ∧ VRf τ ρ ∧ VRg τ ρ ∧ VRb τ ρ ∧ VRs τ ρ
def Inv (Cc : Bool → St → St → Prop) (b : Bool) (σ τ : St) : Prop := ∃ ρ : St, WW ρ ∧ VC σ ρ ∧ VR τ ρ ∧ Cc b σ ρ
/-- which cells of the class its kept findings may read; which of ρ -/
def cK (k _j : Nat) : Bool := Nat.ble 24 k
def cR (k j : Nat) : Bool := Nat.ble 3 k || (k == 0 && Nat.ble 4 j)
def CcI (Cc : Bool → St → St → Prop) : Prop := ∀ (b : Bool) (σ σ1 ρ ρ1 : St), Cc b σ ρ → (∀ k j, cK k j = true → σ1 k j = σ k j) → (∀ k j, cR k j = true → ρ1 k j = ρ k j) → Cc b σ1 ρ1
theorem cK_of {A : List Nat} {F : List (Nat × Nat)} (hA : ∀ a ∈ A, a < 24) (hF : ∀ q ∈ F, q.1 < 24) {σ σ1 : St} (f : Fr (mkS A F) σ σ1) : ∀ k j, cK k j = true → σ1 k j = σ k j := by
  intro k j h
  refine f k j ?_
  unfold cK at h
  cases e : mkS A F k j with
  | false => rfl
  | true =>
    exfalso
    unfold mkS at e
    simp only [Bool.or_eq_true, List.contains_iff_mem, Nat.ble_eq, Bool.and_eq_true, beq_iff_eq, Bool.not_eq_true', beq_eq_false_iff_ne] at e h
    rcases e with e | e
    · have := hA k e; omega
    · have : k < 24 := hF (k, j) e
      omega
theorem Fr.at {S : Nat → Nat → Bool} {σ0 σ : St} (f : Fr S σ0 σ) {k j : Nat} (h : S k j = false) : σ k j = σ0 k j := f k j h
theorem VCt.fr {S : Nat → Nat → Bool} {σ σ1 ρ : St} (f : Fr S σ σ1) (hS : S 0 1 = false ∧ (∀ j, S 1 j = false)) (h : VCt σ ρ) : VCt σ1 ρ := by
  obtain ⟨h0, h1⟩ := hS
  unfold VCt at *
  rw [f.at h0]
  have e1 : ∀ j, σ1 1 j = σ 1 j := fun j => f.at (h1 j)
  simp only [e1]
  exact h
theorem VCo.fr {S : Nat → Nat → Bool} {σ σ1 ρ : St} (f : Fr S σ σ1) (hS : S 0 3 = false ∧ (∀ j, S 2 j = false)) (h : VCo σ ρ) : VCo σ1 ρ := by
  obtain ⟨h0, h1⟩ := hS
  unfold VCo at *
  rw [f.at h0]
  have e2 : ∀ j, σ1 2 j = σ 2 j := fun j => f.at (h1 j)
  simp only [e2]
  exact h
theorem VCf.fr {S : Nat → Nat → Bool} {σ σ1 ρ : St} (f : Fr S σ σ1) (hS : S 3 2 = false ∧ S 3 3 = false) (h : VCf σ ρ) : VCf σ1 ρ := by
  obtain ⟨h0, h1⟩ := hS
  unfold VCf at *
  rw [f.at h0, f.at h1]
  exact h
theorem VCg.fr {S : Nat → Nat → Bool} {σ σ1 ρ : St} (f : Fr S σ σ1) (hS : S 14 0 = false ∧ (∀ j, S 15 j = false) ∧ (∀ j, S 16 j = false) ∧ (∀ j, S 17 j = false) ∧ (∀ j, S 18 j = false) ∧ (∀ j, S 19 j = false) ∧ (∀ j, S 20 j = false)) (h : VCg σ ρ) : VCg σ1 ρ := by
  obtain ⟨h0, h1, h2, h3, h4, h5, h6⟩ := hS
  unfold VCg at *
  rw [f.at h0]
  have e15 : ∀ j, σ1 15 j = σ 15 j := fun j => f.at (h1 j)
  have e16 : ∀ j, σ1 16 j = σ 16 j := fun j => f.at (h2 j)
  have e17 : ∀ j, σ1 17 j = σ 17 j := fun j => f.at (h3 j)
  have e18 : ∀ j, σ1 18 j = σ 18 j := fun j => f.at (h4 j)
  have e19 : ∀ j, σ1 19 j = σ 19 j := fun j => f.at (h5 j)
  have e20 : ∀ j, σ1 20 j = σ 20 j := fun j => f.at (h6 j)
  simp only [e15, e16, e17, e18, e19, e20]
  exact h
theorem VCb.fr {S : Nat → Nat → Bool} {σ σ1 ρ : St} (f : Fr S σ σ1) (hS : S 14 7 = false ∧ S 14 8 = false ∧ S 14 9 = false ∧ (∀ j, S 21 j = false) ∧ (∀ j, S 22 j = false)) (h : VCb σ ρ) : VCb σ1 ρ := by
  obtain ⟨h0, h1, h2, h3, h4⟩ := hS
  unfold VCb at *
  rw [f.at h0, f.at h1, f.at h2]
  have e21 : ∀ j, σ1 21 j = σ 21 j := fun j => f.at (h3 j)
  have e22 : ∀ j, σ1 22 j = σ 22 j := fun j => f.at (h4 j)
  simp only [e21, e22]
  exact h
theorem VCs.fr {S : Nat → Nat → Bool} {σ σ1 ρ : St} (f : Fr S σ σ1) (hS : S 24 2 = false ∧ (∀ j, S 25 j = false)) (h : VCs σ ρ) : VCs σ1 ρ := by
  obtain ⟨h0, h1⟩ := hS
  unfold VCs at *
  rw [f.at h0]
  have e25 : ∀ j, σ1 25 j = σ 25 j := fun j => f.at (h1 j)
  simp only [e25]
  exact h
theorem VRt.fr {S : Nat → Nat → Bool} {σ σ1 ρ : St} (f : Fr S σ σ1) (hS : S 0 17 = false ∧ (∀ j, S 12 j = false)) (h : VRt σ ρ) : VRt σ1 ρ := by
  obtain ⟨h0, h1⟩ := hS
  unfold VRt at *
  rw [f.at h0]
  have e12 : ∀ j, σ1 12 j = σ 12 j := fun j => f.at (h1 j)
  simp only [e12]
  exact h
theorem VRo.fr {S : Nat → Nat → Bool} {σ σ1 ρ : St} (f : Fr S σ σ1) (hS : S 0 61 = false ∧ (∀ j, S 40 j = false)) (h : VRo σ ρ) : VRo σ1 ρ := by
  obtain ⟨h0, h1⟩ := hS
  unfold VRo at *
  rw [f.at h0]
  have e40 : ∀ j, σ1 40 j = σ 40 j := fun j => f.at (h1 j)
  simp only [e40]
  exact h
theorem VRf.fr {S : Nat → Nat → Bool} {σ σ1 ρ : St} (f : Fr S σ σ1) (hS : S 0 24 = false ∧ S 0 25 = false) (h : VRf σ ρ) : VRf σ1 ρ := by
  obtain ⟨h0, h1⟩ := hS
  unfold VRf at *
  rw [f.at h0, f.at h1]
  exact h
theorem VRg.fr {S : Nat → Nat → Bool} {σ σ1 ρ : St} (f : Fr S σ σ1) (hS : S 0 1 = false ∧ S 0 2 = false ∧ (∀ j, S 1 j = false) ∧ (∀ j, S 2 j = false) ∧ (∀ j, S 3 j = false) ∧ (∀ j, S 4 j = false) ∧ (∀ j, S 5 j = false)) (h : VRg σ ρ) : VRg σ1 ρ := by
  obtain ⟨h0, h1, h2, h3, h4, h5, h6⟩ := hS
  unfold VRg at *
  rw [f.at h0, f.at h1]
  have e1 : ∀ j, σ1 1 j = σ 1 j := fun j => f.at (h2 j)
  have e2 : ∀ j, σ1 2 j = σ 2 j := fun j => f.at (h3 j)
  have e3 : ∀ j, σ1 3 j = σ 3 j := fun j => f.at (h4 j)
  have e4 : ∀ j, σ1 4 j = σ 4 j := fun j => f.at (h5 j)
  have e5 : ∀ j, σ1 5 j = σ 5 j := fun j => f.at (h6 j)
  simp only [e1, e2, e3, e4, e5]
  exact h
theorem VRb.fr {S : Nat → Nat → Bool} {σ σ1 ρ : St} (f : Fr S σ σ1) (hS : S 6 0 = false ∧ S 7 0 = false ∧ S 8 0 = false ∧ (∀ j, S 9 j = false) ∧ (∀ j, S 10 j = false)) (h : VRb σ ρ) : VRb σ1 ρ := by
  obtain ⟨h0, h1, h2, h3, h4⟩ := hS
  unfold VRb at *
  rw [f.at h0, f.at h1, f.at h2]
  have e9 : ∀ j, σ1 9 j = σ 9 j := fun j => f.at (h3 j)
  have e10 : ∀ j, σ1 10 j = σ 10 j := fun j => f.at (h4 j)
  simp only [e9, e10]
  exact h
theorem VRs.fr {S : Nat → Nat → Bool} {σ σ1 ρ : St} (f : Fr S σ σ1) (hS : S 0 15 = false ∧ (∀ j, S 11 j = false)) (h : VRs σ ρ) : VRs σ1 ρ := by
  obtain ⟨h0, h1⟩ := hS
  unfold VRs at *
  rw [f.at h0]
  have e11 : ∀ j, σ1 11 j = σ 11 j := fun j => f.at (h1 j)
  simp only [e11]
  exact h
