/-! sums and counting -/
noncomputable def ix (P : Prop) : Int := @ite Int P (Classical.propDecidable P) 1 0
theorem ix_y {P : Prop} (h : P) : ix P = 1 := by unfold ix; rw [if_pos h]
theorem ix_n {P : Prop} (h : ¬ P) : ix P = 0 := by unfold ix; rw [if_neg h]
theorem ix_r (P : Prop) : 0 ≤ ix P ∧ ix P ≤ 1 := by
  by_cases h : P
  · rw [ix_y h]; omega
  · rw [ix_n h]; omega
theorem ix_e {P R : Prop} (h : P ↔ R) : ix P = ix R := by rw [propext h]
theorem sumN_congr {f g : Nat → Int} : ∀ n, (∀ k, k < n → f k = g k) → sumN f n = sumN g n
  | 0, _ => rfl
  | n + 1, h => by unfold sumN; rw [sumN_congr n (fun k hk => h k (by omega)), h n (by omega)]
theorem sumN_0 : ∀ n, sumN (fun _ => 0) n = 0
  | 0 => rfl
  | n + 1 => by unfold sumN; rw [sumN_0 n]; rfl
theorem sumN_plus {f g : Nat → Int} : ∀ n, sumN (fun k => f k + g k) n = sumN f n + sumN g n
  | 0 => rfl
  | n + 1 => by unfold sumN; rw [sumN_plus n]; omega
theorem sumN_comm {f : Nat → Nat → Int} {m : Nat} : ∀ n, sumN (fun a => sumN (fun b => f a b) m) n = sumN (fun b => sumN (fun a => f a b) n) m
  | 0 => (sumN_0 m).symm
  | n + 1 => by
    show sumN (fun a => sumN (fun b => f a b) m) n + sumN (fun b => f n b) m = sumN (fun b => sumN (fun a => f a b) n + f n b) m
    rw [sumN_plus, sumN_comm n]
theorem sumN_app {f : Nat → Int} {m : Nat} : ∀ k, sumN f (m + k) = sumN f m + sumN (fun a => f (m + a)) k
  | 0 => by unfold sumN; simp
  | k + 1 => by
    show sumN f (m + k) + f (m + k) = sumN f m + (sumN (fun a => f (m + a)) k + f (m + k))
    rw [sumN_app k]; omega
theorem sumN_12 {f : Nat → Int} : ∀ n, sumN f (12 * n) = sumN (fun s => sumN (fun a => f (12 * s + a)) 12) n
  | 0 => rfl
  | n + 1 => by
    rw [show 12 * (n + 1) = 12 * n + 12 by omega, sumN_app, sumN_12 n]
    rfl
theorem sumN_one {f : Nat → Int} {a : Nat} : ∀ n, a < n → (∀ k, k < n → k ≠ a → f k = 0) → sumN f n = f a
  | 0, h, _ => by omega
  | n + 1, h, hz => by
    unfold sumN
    by_cases e : n = a
    · subst e
      rw [sumN_congr (g := fun _ => 0) n (fun k hk => hz k (by omega) (by omega)), sumN_0]; omega
    · rw [sumN_one n (by omega) (fun k hk => hz k (by omega)), hz n (by omega) e]; omega
theorem sumN_none {f : Nat → Int} {n : Nat} (hz : ∀ k, k < n → f k = 0) : sumN f n = 0 := by rw [sumN_congr (g := fun _ => 0) n hz, sumN_0]
theorem sumN_mul {f : Nat → Int} {c : Int} : ∀ n, sumN (fun k => c * f k) n = c * sumN f n
  | 0 => by simp [sumN]
  | n + 1 => by unfold sumN; rw [sumN_mul n, Int.mul_add]
theorem span_sum0 (g : Nat → Nat → Int) : sumN (fun s => g (spB 0 s) (spF 0 s)) (spN 0) = sumN (fun i => sumN (fun t => g i (i + 1 + t)) (0 - i)) 0 := by
  show (0 : Int) = (0 : Int)
  rfl
theorem span_sum1 (g : Nat → Nat → Int) : sumN (fun s => g (spB 1 s) (spF 1 s)) (spN 1) = sumN (fun i => sumN (fun t => g i (i + 1 + t)) (1 - i)) 1 := by
  show (0 + g 0 1) = (0 + (0 + g 0 1))
  omega
theorem span_sum2 (g : Nat → Nat → Int) : sumN (fun s => g (spB 2 s) (spF 2 s)) (spN 2) = sumN (fun i => sumN (fun t => g i (i + 1 + t)) (2 - i)) 2 := by
  show (((0 + g 0 1) + g 1 2) + g 0 2) = ((0 + ((0 + g 0 1) + g 0 2)) + (0 + g 1 2))
  omega
theorem span_sum3 (g : Nat → Nat → Int) : sumN (fun s => g (spB 3 s) (spF 3 s)) (spN 3) = sumN (fun i => sumN (fun t => g i (i + 1 + t)) (3 - i)) 3 := by
  show ((((((0 + g 0 1) + g 1 2) + g 2 3) + g 0 2) + g 1 3) + g 0 3) = (((0 + (((0 + g 0 1) + g 0 2) + g 0 3)) + ((0 + g 1 2) + g 1 3)) + (0 + g 2 3))
  omega
theorem span_sum4 (g : Nat → Nat → Int) : sumN (fun s => g (spB 4 s) (spF 4 s)) (spN 4) = sumN (fun i => sumN (fun t => g i (i + 1 + t)) (4 - i)) 4 := by
  show ((((((((((0 + g 0 1) + g 1 2) + g 2 3) + g 3 4) + g 0 2) + g 1 3) + g 2 4) + g 0 3) + g 1 4) + g 0 4) = ((((0 + ((((0 + g 0 1) + g 0 2) + g 0 3) + g 0 4)) + (((0 + g 1 2) + g 1 3) + g 1 4)) + ((0 + g 2 3) + g 2 4)) + (0 + g 3 4))
  omega
theorem span_sum5 (g : Nat → Nat → Int) : sumN (fun s => g (spB 5 s) (spF 5 s)) (spN 5) = sumN (fun i => sumN (fun t => g i (i + 1 + t)) (5 - i)) 5 := by
  show (((((((((((((((0 + g 0 1) + g 1 2) + g 2 3) + g 3 4) + g 4 5) + g 0 2) + g 1 3) + g 2 4) + g 3 5) + g 0 3) + g 1 4) + g 2 5) + g 0 4) + g 1 5) + g 0 5) = (((((0 + (((((0 + g 0 1) + g 0 2) + g 0 3) + g 0 4) + g 0 5)) + ((((0 + g 1 2) + g 1 3) + g 1 4) + g 1 5)) + (((0 + g 2 3) + g 2 4) + g 2 5)) + ((0 + g 3 4) + g 3 5)) + (0 + g 4 5))
  omega
theorem span_sum6 (g : Nat → Nat → Int) : sumN (fun s => g (spB 6 s) (spF 6 s)) (spN 6) = sumN (fun i => sumN (fun t => g i (i + 1 + t)) (6 - i)) 6 := by
  show (((((((((((((((((((((0 + g 0 1) + g 1 2) + g 2 3) + g 3 4) + g 4 5) + g 5 6) + g 0 2) + g 1 3) + g 2 4) + g 3 5) + g 4 6) + g 0 3) + g 1 4) + g 2 5) + g 3 6) + g 0 4) + g 1 5) + g 2 6) + g 0 5) + g 1 6) + g 0 6) = ((((((0 + ((((((0 + g 0 1) + g 0 2) + g 0 3) + g 0 4) + g 0 5) + g 0 6)) + (((((0 + g 1 2) + g 1 3) + g 1 4) + g 1 5) + g 1 6)) + ((((0 + g 2 3) + g 2 4) + g 2 5) + g 2 6)) + (((0 + g 3 4) + g 3 5) + g 3 6)) + ((0 + g 4 5) + g 4 6)) + (0 + g 5 6))
  omega
theorem span_sum7 (g : Nat → Nat → Int) : sumN (fun s => g (spB 7 s) (spF 7 s)) (spN 7) = sumN (fun i => sumN (fun t => g i (i + 1 + t)) (7 - i)) 7 := by
  show ((((((((((((((((((((((((((((0 + g 0 1) + g 1 2) + g 2 3) + g 3 4) + g 4 5) + g 5 6) + g 6 7) + g 0 2) + g 1 3) + g 2 4) + g 3 5) + g 4 6) + g 5 7) + g 0 3) + g 1 4) + g 2 5) + g 3 6) + g 4 7) + g 0 4) + g 1 5) + g 2 6) + g 3 7) + g 0 5) + g 1 6) + g 2 7) + g 0 6) + g 1 7) + g 0 7) = (((((((0 + (((((((0 + g 0 1) + g 0 2) + g 0 3) + g 0 4) + g 0 5) + g 0 6) + g 0 7)) + ((((((0 + g 1 2) + g 1 3) + g 1 4) + g 1 5) + g 1 6) + g 1 7)) + (((((0 + g 2 3) + g 2 4) + g 2 5) + g 2 6) + g 2 7)) + ((((0 + g 3 4) + g 3 5) + g 3 6) + g 3 7)) + (((0 + g 4 5) + g 4 6) + g 4 7)) + ((0 + g 5 6) + g 5 7)) + (0 + g 6 7))
  omega
theorem span_sum8 (g : Nat → Nat → Int) : sumN (fun s => g (spB 8 s) (spF 8 s)) (spN 8) = sumN (fun i => sumN (fun t => g i (i + 1 + t)) (8 - i)) 8 := by
  show ((((((((((((((((((((((((((((((((((((0 + g 0 1) + g 1 2) + g 2 3) + g 3 4) + g 4 5) + g 5 6) + g 6 7) + g 7 8) + g 0 2) + g 1 3) + g 2 4) + g 3 5) + g 4 6) + g 5 7) + g 6 8) + g 0 3) + g 1 4) + g 2 5) + g 3 6) + g 4 7) + g 5 8) + g 0 4) + g 1 5) + g 2 6) + g 3 7) + g 4 8) + g 0 5) + g 1 6) + g 2 7) + g 3 8) + g 0 6) + g 1 7) + g 2 8) + g 0 7) + g 1 8) + g 0 8) = ((((((((0 + ((((((((0 + g 0 1) + g 0 2) + g 0 3) + g 0 4) + g 0 5) + g 0 6) + g 0 7) + g 0 8)) + (((((((0 + g 1 2) + g 1 3) + g 1 4) + g 1 5) + g 1 6) + g 1 7) + g 1 8)) + ((((((0 + g 2 3) + g 2 4) + g 2 5) + g 2 6) + g 2 7) + g 2 8)) + (((((0 + g 3 4) + g 3 5) + g 3 6) + g 3 7) + g 3 8)) + ((((0 + g 4 5) + g 4 6) + g 4 7) + g 4 8)) + (((0 + g 5 6) + g 5 7) + g 5 8)) + ((0 + g 6 7) + g 6 8)) + (0 + g 7 8))
  omega
theorem span_sum {L : Nat} (hL : L < 9) (g : Nat → Nat → Int) : sumN (fun s => g (spB L s) (spF L s)) (spN L) = sumN (fun i => sumN (fun t => g i (i + 1 + t)) (L - i)) L := by
  have : L = 0 ∨ L = 1 ∨ L = 2 ∨ L = 3 ∨ L = 4 ∨ L = 5 ∨ L = 6 ∨ L = 7 ∨ L = 8 := by omega
  rcases this with e | e | e | e | e | e | e | e | e <;> subst e
  · exact span_sum0 g
  · exact span_sum1 g
  · exact span_sum2 g
  · exact span_sum3 g
  · exact span_sum4 g
  · exact span_sum5 g
  · exact span_sum6 g
  · exact span_sum7 g
  · exact span_sum8 g
abbrev Cs : Type := Int × Int × Int × Int
noncomputable def cntL (P : Cs → Prop) : List Cs → Int
  | [] => 0
  | c :: l => ix (P c) + cntL P l
theorem cntL_app {P : Cs → Prop} {k : List Cs} : ∀ l, cntL P (l ++ k) = cntL P l + cntL P k
  | [] => by show cntL P k = 0 + cntL P k; omega
  | c :: l => by show ix (P c) + cntL P (l ++ k) = ix (P c) + cntL P l + cntL P k; rw [cntL_app l]; omega
theorem cntL_r {P : Cs → Prop} : ∀ l, 0 ≤ cntL P l ∧ cntL P l ≤ l.length
  | [] => by unfold cntL; simp
  | c :: l => by
    have := cntL_r (P := P) l
    have := ix_r (P c)
    unfold cntL; rw [List.length_cons]; push_cast; omega
theorem cntL_all {l : List Cs} : cntL (fun _ => True) l = l.length := by
  induction l with
  | nil => rfl
  | cons c l ih => show ix True + cntL _ l = _; rw [ih, ix_y trivial, List.length_cons]; push_cast; omega
theorem cntL_cOne {P : Cs → Prop} {r : Nat} {m f s : Int} : cntL P (cOne r m f s) = ix (f ≠ -2 ∧ s ≠ -2 ∧ P ((r : Int), m, f, s)) := by
  unfold cOne
  by_cases h : f = -2 ∨ s = -2
  · rw [if_pos h, ix_n (by rintro ⟨h1, h2, -⟩; rcases h with h | h; exact h1 h; exact h2 h)]; rfl
  · rw [if_neg h]
    show ix (P ((r : Int), m, f, s)) + 0 = _
    rw [Int.add_zero]
    exact ix_e ⟨fun q => ⟨fun e => h (Or.inl e), fun e => h (Or.inr e), q⟩, fun q => q.2.2⟩
theorem cntL_cB {P : Cs → Prop} {ρ : St} {r i j : Nat} : ∀ d, cntL P (cB ρ r i j d) = sumN (fun t => ix (pv ρ (ρ 4 r) i (i + 1 + t) ≠ -2 ∧ pv ρ (ρ 5 r) (i + 1 + t) j ≠ -2 ∧ P ((r : Int), ((i + 1 + t : Nat) : Int), pv ρ (ρ 4 r) i (i + 1 + t), pv ρ (ρ 5 r) (i + 1 + t) j))) d
  | 0 => rfl
  | d + 1 => by
    show cntL P (cB ρ r i j d ++ cOne r _ _ _) = sumN _ d + _
    rw [cntL_app, cntL_cB d, cntL_cOne]
theorem cntL_cS {P : Cs → Prop} {ρ : St} {s a : Nat} : ∀ n, cntL P (cS ρ s (liA ρ a n)) = sumN (fun r => if inA ρ a r then cntL P (cC ρ (spB (LL ρ) s) (spF (LL ρ) s) r) else 0) n
  | 0 => rfl
  | n + 1 => by
    show cntL P (cS ρ s (liA ρ a n ++ (if inA ρ a n then [n] else []))) = sumN _ n + (if inA ρ a n then cntL P (cC ρ (spB (LL ρ) s) (spF (LL ρ) s) n) else 0)
    rw [cS_app, cntL_app, cntL_cS n]
    by_cases h : inA ρ a n = true
    · rw [if_pos h, if_pos h, cS_one]
    · rw [if_neg h, if_neg h]; rfl
theorem cntL_PL {P : Cs → Prop} {ρ : St} : ∀ n, cntL P (PL ρ n) = sumN (fun q => cntL P (cI ρ q)) n
  | 0 => rfl
  | n + 1 => by show cntL P (PL ρ n ++ cI ρ n) = _ + _; rw [cntL_app, cntL_PL n]
theorem cntL_tot {P : Cs → Prop} {ρ : St} (hg : Wg ρ) (N : Nat) : cntL P (PL ρ (12 * N)) = sumN (fun r => if ρ 8 r = 0 then sumN (fun s => cntL P (cC ρ (spB (LL ρ) s) (spF (LL ρ) s) r)) N else 0) (ρ 0 4).toNat := by
  rw [cntL_PL, sumN_12]
  have e1 : ∀ s : Nat, s < N → sumN (fun a => cntL P (cI ρ (12 * s + a))) 12 = sumN (fun r => if ρ 8 r = 0 then cntL P (cC ρ (spB (LL ρ) s) (spF (LL ρ) s) r) else 0) (ρ 0 4).toNat := by
    intro s _
    rw [sumN_congr (g := fun a => sumN (fun r => if inA ρ a r then cntL P (cC ρ (spB (LL ρ) s) (spF (LL ρ) s) r) else 0) (ρ 0 4).toNat) 12 (fun a ha => by
      unfold cI; rw [show (12 * s + a) / 12 = s by omega, show (12 * s + a) % 12 = a by omega, cntL_cS])]
    rw [sumN_comm]
    refine sumN_congr _ (fun r hr => ?_)
    have hh := w_head hg (show (r : Int) < ρ 0 4 by omega)
    by_cases h8 : ρ 8 r = 0
    · rw [if_pos h8, sumN_one (a := (ρ 3 r).toNat) 12 (by omega) (fun k hk hne => ?_)]
      · rw [if_pos (by unfold inA; simp [h8]; omega)]
      · rw [if_neg (by unfold inA; simp [h8]; omega)]
    · rw [if_neg h8]
      refine sumN_none (fun k hk => ?_)
      rw [if_neg (by unfold inA; simp [h8])]
  rw [sumN_congr N e1, sumN_comm]
  refine sumN_congr _ (fun r hr => ?_)
  by_cases h8 : ρ 8 r = 0
  · simp only [h8, if_true]
  · simp only [h8, if_false]; exact sumN_0 N
/-! whether all parts of a case have trees -/
def hPt (ρ : St) (x : Int) : Prop := x < 0 ∨ hT ρ (x % 12) (spB (LL ρ) (x / 12).toNat : Nat) (spF (LL ρ) (x / 12).toNat : Nat)
def fullC (ρ : St) (c : Cs) : Prop := hPt ρ c.2.2.1 ∧ hPt ρ c.2.2.2
theorem pv_r {ρ : St} (hL : LL ρ < 9) {p : Int} (hp : isPart p) {i j : Nat} (hi : i < j ∧ j ≤ LL ρ) : -2 ≤ pv ρ p i j ∧ pv ρ p i j < ((12 * spN (LL ρ) : Nat) : Int) := by
  have q := sp_a (L := LL ρ) hL hi
  unfold isPart at hp
  by_cases h : 100 ≤ p
  · by_cases hc : j = i + 1 ∧ ρ 11 i = p - 100
    · rw [pv_yes h hc]; omega
    · rw [pv_no h hc]; omega
  · rw [pv_lab (by omega)]; push_cast; omega
theorem hPt_it {ρ : St} {s a : Nat} (ha : a < 12) : hPt ρ ((12 * s + a : Nat) : Int) ↔ hT ρ (a : Int) (spB (LL ρ) s : Nat) (spF (LL ρ) s : Nat) := by
  unfold hPt
  rw [show (((12 * s + a : Nat) : Int) / 12).toNat = s by omega, show ((12 * s + a : Nat) : Int) % 12 = (a : Int) by omega]
  exact ⟨fun h => h.resolve_left (by omega), fun h => Or.inr h⟩
theorem hPt_pv {ρ : St} (hg : Wg ρ) (hL : LL ρ < 9) {p : Int} (hp : isPart p) {i j : Nat} (hi : i < j ∧ j ≤ LL ρ) : (pv ρ p i j ≠ -2 ∧ hPt ρ (pv ρ p i j)) ↔ hT ρ p i j := by
  have q := sp_a (L := LL ρ) hL hi
  unfold isPart at hp
  by_cases h : 100 ≤ p
  · by_cases hc : j = i + 1 ∧ ρ 11 i = p - 100
    · rw [pv_yes h hc]
      refine ⟨fun _ => ⟨0, (Te.letter_iff hg h).2 ⟨by omega, ?_, rfl⟩⟩, fun _ => ⟨by decide, Or.inl (by decide)⟩⟩
      rw [Int.toNat_natCast]; exact hc.2
    · rw [pv_no h hc]
      refine ⟨fun w => absurd rfl w.1, fun ⟨c, hc2⟩ => absurd ?_ hc⟩
      have := (Te.letter_iff hg h).1 hc2
      rw [Int.toNat_natCast] at this
      exact ⟨by omega, this.2.1⟩
  · rw [pv_lab (by omega), show ((spA (LL ρ) i j * 12 : Nat) : Int) + p = ((12 * spA (LL ρ) i j + p.toNat : Nat) : Int) by push_cast; omega, hPt_it (by omega), q.2.1, q.2.2, show ((p.toNat : Nat) : Int) = p by omega]
    exact ⟨fun w => w.2, fun w => ⟨by omega, w⟩⟩
theorem pv_ok {ρ : St} {p : Int} (hp : isPart p) {i j : Nat} : pv ρ p i j ≠ -2 ↔ (p < 100 ∨ (j = i + 1 ∧ ρ 11 i = p - 100)) := by
  unfold isPart at hp
  by_cases h : 100 ≤ p
  · by_cases hc : j = i + 1 ∧ ρ 11 i = p - 100
    · rw [pv_yes h hc]; exact ⟨fun _ => Or.inr hc, fun _ => by decide⟩
    · rw [pv_no h hc]; exact ⟨fun w => absurd rfl w, fun w => absurd (w.resolve_left (by omega)) hc⟩
  · rw [pv_lab (by omega)]; exact ⟨fun _ => Or.inl (by omega), fun _ => by omega⟩
/-- what a case is -/
theorem cI_info {ρ : St} {s a : Nat} (ha : a < 12) {c : Cs} (hc : c ∈ cI ρ (12 * s + a)) : ∃ r : Nat, (r : Int) < ρ 0 4 ∧ ρ 8 r = 0 ∧ ρ 3 r = (a : Int) ∧ c.1 = (r : Int) ∧ ((ρ 5 r = -1 ∧ pv ρ (ρ 4 r) (spB (LL ρ) s) (spF (LL ρ) s) ≠ -2 ∧ c.2.1 = -1 ∧ c.2.2.1 = pv ρ (ρ 4 r) (spB (LL ρ) s) (spF (LL ρ) s) ∧ c.2.2.2 = -1) ∨ (ρ 5 r ≠ -1 ∧ ∃ m : Nat, spB (LL ρ) s < m ∧ m < spF (LL ρ) s ∧ pv ρ (ρ 4 r) (spB (LL ρ) s) m ≠ -2 ∧ pv ρ (ρ 5 r) m (spF (LL ρ) s) ≠ -2 ∧ c.2.1 = (m : Int) ∧ c.2.2.1 = pv ρ (ρ 4 r) (spB (LL ρ) s) m ∧ c.2.2.2 = pv ρ (ρ 5 r) m (spF (LL ρ) s))) := by
  obtain ⟨r, hr, hi, h⟩ := (mem_cI ha).1 hc
  unfold inA at hi
  simp only [Bool.and_eq_true, decide_eq_true_iff] at hi
  refine ⟨r, by omega, hi.2, hi.1, ?_⟩
  rcases mem_cC.1 h with ⟨h5, h6, rfl⟩ | ⟨h5, m, h6, h7, h8, h9, rfl⟩
  · exact ⟨rfl, Or.inl ⟨h5, h6, rfl, rfl, rfl⟩⟩
  · exact ⟨rfl, Or.inr ⟨h5, m, h6, h7, h8, h9, rfl, rfl, rfl⟩⟩
theorem cI_r {ρ : St} (hg : Wg ρ) (hL : LL ρ < 9) {s a : Nat} (ha : a < 12) (hs : s < spN (LL ρ)) {c : Cs} (hc : c ∈ cI ρ (12 * s + a)) : (-1 ≤ c.2.2.1 ∧ c.2.2.1 < ((12 * spN (LL ρ) : Nat) : Int)) ∧ (-1 ≤ c.2.2.2 ∧ c.2.2.2 < ((12 * spN (LL ρ) : Nat) : Int)) := by
  have q := sp_s hL hs
  obtain ⟨r, hr, -, -, -, h⟩ := cI_info ha hc
  have hp1 := (hg.2.2 r hr).2.1
  have hp2 := (hg.2.2 r hr).2.2.1
  rcases h with ⟨-, h1, -, h2, h3⟩ | ⟨h5, m, h6, h7, h8, h9, -, h10, h11⟩
  · have := pv_r hL hp1 ⟨q.1, q.2.1⟩
    rw [h2, h3]; omega
  · have a1 := pv_r (ρ := ρ) hL hp1 ⟨h6, by omega⟩
    have a2 := pv_r (ρ := ρ) hL (hp2.resolve_left h5) ⟨h7, q.2.1⟩
    rw [h10, h11]; omega
theorem c_hasI {ρ σ : St} (hg : Wg ρ) (hL : LL ρ < 9) (hw : Lw ρ σ) {x : Int} (h0 : 0 ≤ x ∧ x < ((12 * spN (LL ρ) : Nat) : Int)) {Q : Int → St → Prop} (hno : ¬ hPt ρ x → Q 0 σ) (hyes : hPt ρ x → Q 1 σ) : wp_X1_has x σ Q := by
  have e : x = ((12 * (x.toNat / 12) + x.toNat % 12 : Nat) : Int) := by omega
  rw [e, hPt_it (Nat.mod_lt _ (by decide))] at hno hyes
  rw [e]
  exact c_has2 hg hL hw (by omega) (Nat.mod_lt _ (by decide)) hno hyes
theorem c_isFull {ρ σ : St} (hg : Wg ρ) (hL : LL ρ < 9) (hw : Lw ρ σ) {x : Nat} {c : Cs} (hx : x < 3360) (h1 : σ 31 x = c.2.2.1) (h2 : σ 32 x = c.2.2.2) (hr : (-1 ≤ c.2.2.1 ∧ c.2.2.1 < ((12 * spN (LL ρ) : Nat) : Int)) ∧ (-1 ≤ c.2.2.2 ∧ c.2.2.2 < ((12 * spN (LL ρ) : Nat) : Int))) {Q : Int → St → Prop} (hno : ¬ fullC ρ c → Q 0 σ) (hyes : fullC ρ c → Q 1 σ) : wp_X1_isFull (x : Int) σ Q := by
  unfold wp_X1_isFull wp_X1_isFull_b32 wp_X1_isFull_b44 wp_X1_isFull_b48
  unfold fullC at hno hyes
  rw [Int.toNat_natCast, h1, h2]
  refine ⟨by omega, fun v1 e1 => ⟨by omega, fun v2 e2 => ?_⟩⟩
  rw [e1, e2]
  have snd : hPt ρ c.2.2.1 → ((c.2.2.2 < 0) → Q 1 σ) ∧ (¬ (c.2.2.2 < 0) → wp_X1_has c.2.2.2 σ (fun r5 σ6 => ((r5 = 0) → Q 0 σ6) ∧ (¬ (r5 = 0) → Q 1 σ6))) := by
    intro hp
    refine ⟨fun h => hyes ⟨hp, Or.inl h⟩, fun h => c_hasI hg hL hw (by omega) (fun w => ⟨fun _ => hno (fun z => w z.2), fun z => absurd rfl z⟩) (fun w => ⟨fun z => absurd z (by decide), fun _ => hyes ⟨hp, w⟩⟩)⟩
  refine ⟨fun h => snd (Or.inl h), fun h => c_hasI hg hL hw (by omega) (fun w => ⟨fun _ => hno (fun z => w z.1), fun z => absurd rfl z⟩) (fun w => ⟨fun z => absurd z (by decide), fun _ => snd w⟩)⟩
