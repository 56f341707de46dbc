/-! the start: both stores as they are made -/
def ρ00 : St := fun k j => match k with
  | 0 => (match j with
    | 0 => σC0 0 1
    | 1 => σC0 0 3
    | 2 => σC0 3 2
    | 3 => σC0 3 3
    | 4 => σC0 14 0
    | 5 => σC0 14 7
    | 6 => σC0 14 8
    | 7 => σC0 14 9
    | 8 => σC0 24 2
    | _ => 0)
  | 1 => σC0 1 j
  | 2 => σC0 2 j
  | 3 => σC0 15 j
  | 4 => σC0 16 j
  | 5 => σC0 17 j
  | 6 => σC0 18 j
  | 7 => σC0 19 j
  | 8 => σC0 20 j
  | 9 => σC0 21 j
  | 10 => σC0 22 j
  | 11 => σC0 25 j
  | _ => 0
theorem b_nums : ρ00 0 0 = 0 ∧ ρ00 0 1 = 0 ∧ ρ00 0 4 = 0 ∧ (2 ≤ ρ00 0 5 ∧ ρ00 0 5 ≤ 5) ∧ (0 ≤ ρ00 0 6 ∧ ρ00 0 6 < ρ00 0 5) ∧ (0 ≤ ρ00 0 7 ∧ ρ00 0 7 < ρ00 0 5) ∧ ρ00 0 8 = 0 := by decide +kernel
theorem b_tab : ∀ j : Nat, j < 25 → ((j : Int) < ρ00 0 5 * ρ00 0 5 → ((0 ≤ ρ00 9 j ∧ ρ00 9 j < ρ00 0 5) ∧ (0 ≤ ρ00 10 j ∧ ρ00 10 j < ρ00 0 5)) ∧ σR0 9 j = ρ00 9 j ∧ σR0 10 j = ρ00 10 j) := by decide +kernel
theorem b_ref : σR0 0 17 = 0 ∧ σR0 0 61 = 0 ∧ σR0 0 24 = ρ00 0 2 ∧ σR0 0 25 = ρ00 0 3 ∧ σR0 0 1 = 0 ∧ σR0 0 2 = 0 ∧ σR0 6 0 = ρ00 0 5 ∧ σR0 7 0 = ρ00 0 6 ∧ σR0 8 0 = ρ00 0 7 ∧ σR0 0 15 = 0 := by decide +kernel
theorem b_forget : FgA σC0 := by
  refine ⟨by decide +kernel, ⟨by decide +kernel, by decide +kernel, by decide +kernel⟩, by decide +kernel, ⟨by decide +kernel, by decide +kernel, by decide +kernel⟩, by decide +kernel, ?_, ?_, ?_, ?_, by decide +kernel⟩
  · exact fun j _ => rfl
  · exact fun j _ => rfl
  · exact fun j _ => rfl
  · exact fun j _ => rfl
theorem b_inv : Inv Cc1 false σC0 σR0 := by
  obtain ⟨n0, n1, n4, n5, n6, n7, n8⟩ := b_nums
  obtain ⟨r17, r61, r24, r25, r1, r2, r6, r7, r8, r15⟩ := b_ref
  have n25 : ∀ j : Nat, (j : Int) < ρ00 0 5 * ρ00 0 5 → j < 25 := fun j hj => by
    have : ρ00 0 5 * ρ00 0 5 ≤ 5 * 5 := Int.mul_le_mul n5.2 n5.2 (by omega) (by decide)
    omega
  refine ⟨ρ00, ⟨⟨by omega, by omega, fun j hj => by omega⟩, ⟨by omega, by omega⟩, ⟨by omega, by omega, fun r hr => by omega⟩, ⟨n5.1, n5.2, n6, n7, fun j hj => (b_tab j (n25 j hj) hj).1⟩, by omega, by omega, fun j hj => by omega⟩, ⟨⟨rfl, fun j _ => rfl⟩, ⟨rfl, fun j _ => rfl⟩, ⟨rfl, rfl⟩, ⟨rfl, fun r _ => ⟨rfl, rfl, rfl, rfl, rfl, rfl⟩⟩, ⟨rfl, rfl, rfl, fun j _ => ⟨rfl, rfl⟩⟩, rfl, fun j _ => rfl⟩, ⟨⟨by omega, fun j hj => by omega⟩, ⟨by omega, fun j hj => by omega⟩, ⟨r24, r25⟩, ⟨by omega, ?_, fun r hr => by omega⟩, ⟨r6, r7, r8, fun j hj => (b_tab j (n25 j hj) hj).2⟩, by omega, fun j hj => by omega⟩, cc_F false σC0 ρ00 b_forget, fun q _ => rfl, fun _ j => rfl⟩
  rw [r2, n4]; rfl
