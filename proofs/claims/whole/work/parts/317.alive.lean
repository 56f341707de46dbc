/-! counting bits; masks that grow -/
def cntB (f : Nat → Bool) : Nat → Nat
  | 0 => 0
  | n + 1 => cntB f n + (if f n then 1 else 0)
theorem cntB_le (f : Nat → Bool) : ∀ n, cntB f n ≤ n
  | 0 => Nat.le_refl 0
  | n + 1 => by have := cntB_le f n; unfold cntB; split <;> omega
theorem cntB_mono {f g : Nat → Bool} : ∀ n, (∀ k, k < n → f k = true → g k = true) → cntB f n ≤ cntB g n
  | 0, _ => Nat.le_refl 0
  | n + 1, h => by
    have ih := cntB_mono n (fun k hk => h k (by omega))
    unfold cntB
    by_cases e : f n = true
    · rw [if_pos e, if_pos (h n (by omega) e)]; omega
    · rw [if_neg e]; split <;> omega
theorem cntB_lt {f g : Nat → Bool} : ∀ n, (∀ k, k < n → f k = true → g k = true) → (∃ k, k < n ∧ g k = true ∧ f k = false) → cntB f n < cntB g n
  | 0, _, ⟨k, hk, _⟩ => by omega
  | n + 1, h, ⟨k, hk, hg, hf⟩ => by
    unfold cntB
    by_cases e : k = n
    · subst e
      have := cntB_mono k (fun i hi => h i (by omega))
      rw [hf, hg]; simp; omega
    · have ih := cntB_lt n (fun k hk => h k (by omega)) ⟨k, by omega, hg, hf⟩
      by_cases e : f n = true
      · rw [if_pos e, if_pos (h n (by omega) e)]; omega
      · rw [if_neg e]; split <;> omega
/-- a chain of masks over twelve that grows stands still at one of its first thirteen steps -/
theorem grow12 {s : Nat → Nat → Bool} (hm : ∀ n k, k < 12 → s n k = true → s (n + 1) k = true) : ∃ n, n < 13 ∧ ∀ k, k < 12 → s (n + 1) k = s n k := by
  refine Classical.byContradiction (fun hno => ?_)
  have hne : ∀ n, n < 13 → ∃ k, k < 12 ∧ s (n + 1) k = true ∧ s n k = false := by
    intro n hn
    refine Classical.byContradiction (fun h2 => hno ⟨n, hn, fun k hk => ?_⟩)
    cases e : s n k with
    | true => exact hm n k hk e
    | false =>
      cases e2 : s (n + 1) k with
      | false => rfl
      | true => exact absurd ⟨k, hk, e2, e⟩ h2
  have hc : ∀ n, n ≤ 13 → n ≤ cntB (s n) 12 := by
    intro n
    induction n with
    | zero => intro _; omega
    | succ n ih =>
      intro hn
      have h1 := ih (by omega)
      have h2 := cntB_lt 12 (hm n) (hne n (by omega))
      omega
  have := hc 13 (by omega)
  have := cntB_le (s 13) 12
  omega
theorem b_bit {x : Int} (hx : P32 x) {k : Nat} (hk : k < 31) : b_and (b_shr x (k : Int)) 1 = if tb x k then 1 else 0 := by
  rw [b_and_1 (x := b_shr x k) (c32_t _), b_shr_eq ⟨by have := hx.1; omega, hx.2⟩ (by omega)]
  unfold tb
  rw [Nat.testBit_eq_decide_div_mod_eq]
  have e : x / 2 ^ k % 2 = ((x.toNat / 2 ^ k % 2 : Nat) : Int) := by
    rw [show x / 2 ^ k = (x.toNat : Int) / ((2 ^ k : Nat) : Int) by
      rw [show (x.toNat : Int) = x by have := hx.1; omega]; norm_cast]
    rw [← Int.natCast_ediv]; omega
  rw [e]
  have := Nat.mod_lt (x.toNat / 2 ^ k) (show 2 > 0 by decide)
  by_cases h : x.toNat / 2 ^ k % 2 = 1
  · simp [h]
  · have : x.toNat / 2 ^ k % 2 = 0 := by omega
    simp [this]
theorem p32_0 : P32 0 := ⟨by decide, by decide⟩
theorem p64_0 : P64 0 := ⟨by decide, by decide⟩
theorem b_or_assoc {x y z : Int} (hx : P32 x) (hy : P32 y) (hz : P32 z) : b_or x (b_or y z) = b_or (b_or x y) z := by
  refine tb_ext (b_or_p hx (b_or_p hy hz)).1 (b_or_p (b_or_p hx hy) hz).1 (fun k => ?_)
  rw [tb_or hx (b_or_p hy hz), tb_or hy hz, tb_or (b_or_p hx hy) hz, tb_or hx hy, Bool.or_assoc]
theorem b_or_in {x : Int} (hx : P32 x) {k : Nat} (hk : k < 31) (h : tb x k = true) : b_or x (b_shl 1 (k : Int)) = x := by
  rw [b_shl_1 k hk]
  refine tb_ext (b_or_p hx (pow31 hk)).1 hx.1 (fun i => ?_)
  rw [tb_or hx (pow31 hk), tb_pow]
  by_cases e : k = i
  · subst e; simp [h]
  · simp [e]
theorem b_or_0 {x : Int} (hx : P32 x) : b_or x 0 = x := by
  refine tb_ext (b_or_p hx p32_0).1 hx.1 (fun i => ?_)
  rw [tb_or hx p32_0, tb_0, Bool.or_false]
/-! alive -/
def okp (x p : Int) : Bool := decide (p < 0) || decide (100 ≤ p) || tb x p.toNat
def pbit (p : Int) : Int := if p < 0 ∨ 100 ≤ p then 0 else b_shl 1 p
theorem pshl {p : Int} (h : 0 ≤ p ∧ p < 12) : b_shl 1 p = ((2 ^ p.toNat : Nat) : Int) := by
  conv => lhs; rw [show p = (p.toNat : Int) by omega]
  exact b_shl_1 _ (by omega)
theorem pshl_p {p : Int} (h : 0 ≤ p ∧ p < 12) : P32 (b_shl 1 p) := by rw [pshl h]; exact pow31 (by omega)
/-- a part or none -/
def isP (p : Int) : Prop := p = -1 ∨ isPart p
theorem pbit_p {p : Int} (h : isP p) : P32 (pbit p) := by
  unfold pbit isP isPart at *
  split
  · exact p32_0
  · exact pshl_p (by omega)
theorem pbit_tb {p : Int} (h : isP p) (k : Nat) : tb (pbit p) k = decide (0 ≤ p ∧ p < 100 ∧ p.toNat = k) := by
  unfold pbit isP isPart at *
  split
  · rw [tb_0]; symm; rw [decide_eq_false_iff_not]; omega
  · rw [pshl (by omega), tb_pow]
    by_cases e : p.toNat = k
    · rw [decide_eq_true e, decide_eq_true (by omega)]
    · rw [decide_eq_false e, decide_eq_false (by omega)]
theorem okp_12 {x y p : Int} (h : isP p) (e : ∀ k, k < 12 → tb x k = tb y k) : okp x p = okp y p := by
  unfold okp isP isPart at *
  by_cases h1 : p < 0
  · simp [h1]
  · by_cases h2 : 100 ≤ p
    · simp [h2]
    · rw [e _ (by omega)]
/-- rule r is in, and its parts are among x -/
def okr (ρ : St) (x : Int) (r : Nat) : Bool := decide (ρ 8 r = 0) && okp x (ρ 4 r) && okp x (ρ 5 r)
def frR (ρ : St) : Nat → Nat → Int → Int
  | 0, _, x => x
  | d + 1, r, x => frR ρ d (r + 1) (if okr ρ x r then b_or x (b_shl 1 (ρ 3 r)) else x)
def frI (ρ : St) : Nat → Int
  | 0 => 0
  | k + 1 => frR ρ (ρ 0 4).toNat 0 (frI ρ k)
def alR (ρ : St) (f : Int) : Nat → Nat → Int → Int → Int × Int
  | 0, _, y, z => (y, z)
  | d + 1, r, y, z => if okr ρ f r && tb y (ρ 3 r).toNat then alR ρ f d (r + 1) (b_or (b_or y (pbit (ρ 4 r))) (pbit (ρ 5 r))) (l_or z (l_shl 1 (r : Int))) else alR ρ f d (r + 1) y z
def alI (ρ : St) (f y : Int) : Nat → Int × Int
  | 0 => (y, 0)
  | k + 1 => alR ρ f (ρ 0 4).toNat 0 (alI ρ f y k).1 (alI ρ f y k).2
theorem w_head {ρ : St} (h : Wg ρ) {r : Nat} (hr : (r : Int) < ρ 0 4) : 0 ≤ ρ 3 r ∧ ρ 3 r < 12 := (h.2.2 r hr).1
theorem w_p1 {ρ : St} (h : Wg ρ) {r : Nat} (hr : (r : Int) < ρ 0 4) : isP (ρ 4 r) := Or.inr (h.2.2 r hr).2.1
theorem w_p2 {ρ : St} (h : Wg ρ) {r : Nat} (hr : (r : Int) < ρ 0 4) : isP (ρ 5 r) := (h.2.2 r hr).2.2.1
theorem okr_12 {ρ : St} (h : Wg ρ) {r : Nat} (hr : (r : Int) < ρ 0 4) {x y : Int} (e : ∀ k, k < 12 → tb x k = tb y k) : okr ρ x r = okr ρ y r := by
  unfold okr; rw [okp_12 (w_p1 h hr) e, okp_12 (w_p2 h hr) e]
theorem frS_p {ρ : St} (h : Wg ρ) {r : Nat} (hr : (r : Int) < ρ 0 4) {x : Int} (hx : P32 x) : P32 (if okr ρ x r then b_or x (b_shl 1 (ρ 3 r)) else x) := by
  split
  · exact b_or_p hx (pshl_p (w_head h hr))
  · exact hx
theorem frS_m {ρ : St} (h : Wg ρ) {r : Nat} (hr : (r : Int) < ρ 0 4) {x : Int} (hx : P32 x) {k : Nat} (hk : tb x k = true) : tb (if okr ρ x r then b_or x (b_shl 1 (ρ 3 r)) else x) k = true := by
  split
  · rw [tb_or hx (pshl_p (w_head h hr)), hk, Bool.true_or]
  · exact hk
theorem frR_p {ρ : St} (h : Wg ρ) : ∀ (d r : Nat) (x : Int), (r : Int) + d = ρ 0 4 → P32 x → P32 (frR ρ d r x)
  | 0, _, _, _, hx => hx
  | d + 1, r, x, hd, hx => frR_p h d (r + 1) _ (by push_cast at hd ⊢; omega) (frS_p h (by omega) hx)
theorem frR_m {ρ : St} (h : Wg ρ) {k : Nat} : ∀ (d r : Nat) (x : Int), (r : Int) + d = ρ 0 4 → P32 x → tb x k = true → tb (frR ρ d r x) k = true
  | 0, _, _, _, _, hk => hk
  | d + 1, r, x, hd, hx, hk => frR_m h d (r + 1) _ (by push_cast at hd ⊢; omega) (frS_p h (by omega) hx) (frS_m h (by omega) hx hk)
/-- x is closed: what a rule that is in makes of it lies in it -/
def frC (ρ : St) (x : Int) (r : Nat) : Prop := ∀ i : Nat, r ≤ i → (i : Int) < ρ 0 4 → okr ρ x i = true → tb x (ρ 3 i).toNat = true
theorem frR_c {ρ : St} (h : Wg ρ) : ∀ (d r : Nat) (x : Int), (r : Int) + d = ρ 0 4 → P32 x → (∀ k, k < 12 → tb (frR ρ d r x) k = tb x k) → frC ρ x r
  | 0, r, x, hd, hx, _ => fun i hi hi2 _ => by omega
  | d + 1, r, x, hd, hx, he => by
    have hr : (r : Int) < ρ 0 4 := by omega
    have hd1 : ((r + 1 : Nat) : Int) + d = ρ 0 4 := by push_cast at hd ⊢; omega
    have e1 : ∀ k, k < 12 → tb (if okr ρ x r then b_or x (b_shl 1 (ρ 3 r)) else x) k = tb x k := by
      intro k hk
      cases e : tb x k with
      | true => exact frS_m h hr hx e
      | false =>
        cases e2 : tb (if okr ρ x r then b_or x (b_shl 1 (ρ 3 r)) else x) k with
        | false => rfl
        | true =>
          have := frR_m h d (r + 1) _ hd1 (frS_p h hr hx) e2
          have h3 := he k hk
          unfold frR at h3
          rw [this, e] at h3
          exact absurd h3 (by decide)
    have ih := frR_c h d (r + 1) _ hd1 (frS_p h hr hx) (fun k hk => by rw [e1 k hk]; exact he k hk)
    intro i hi hi2 ho
    by_cases hir : i = r
    · subst hir
      have hh := w_head h hi2
      have h4 := e1 (ρ 3 i).toNat (by omega)
      rw [if_pos ho, tb_or hx (pshl_p hh), pshl hh, tb_pow] at h4
      rw [← h4]; simp
    · have hh := w_head h hi2
      rw [← e1 _ (by omega)]
      refine ih i (by omega) hi2 ?_
      rw [okr_12 h hi2 e1]; exact ho
theorem frR_i {ρ : St} (h : Wg ρ) : ∀ (d r : Nat) (x : Int), (r : Int) + d = ρ 0 4 → P32 x → frC ρ x r → frR ρ d r x = x
  | 0, _, _, _, _, _ => rfl
  | d + 1, r, x, hd, hx, hc => by
    have hr : (r : Int) < ρ 0 4 := by omega
    unfold frR
    have e : (if okr ρ x r then b_or x (b_shl 1 (ρ 3 r)) else x) = x := by
      split
      · rename_i ho
        have hh := w_head h hr
        have h1 := hc r (Nat.le_refl r) hr ho
        conv => lhs; rw [show ρ 3 r = ((ρ 3 r).toNat : Int) by omega]
        exact b_or_in hx (by omega) h1
      · rfl
    rw [e]
    exact frR_i h d (r + 1) x (by push_cast at hd ⊢; omega) hx (fun i hi => hc i (by omega))
theorem wg_n {ρ : St} (h : Wg ρ) : ((0 : Nat) : Int) + (ρ 0 4).toNat = ρ 0 4 := by have := h.1; omega
theorem frI_p {ρ : St} (h : Wg ρ) : ∀ k, P32 (frI ρ k)
  | 0 => p32_0
  | k + 1 => frR_p h _ 0 _ (wg_n h) (frI_p h k)
theorem frC_12 {ρ : St} (h : Wg ρ) {x y : Int} (e : ∀ k, k < 12 → tb x k = tb y k) (hc : frC ρ x 0) : frC ρ y 0 := fun i hi hi2 ho => by
  have hh := w_head h hi2
  rw [← e _ (by omega)]
  exact hc i hi hi2 (by rw [okr_12 h hi2 e]; exact ho)
theorem frI_c {ρ : St} (h : Wg ρ) : frC ρ (frI ρ 13) 0 := by
  obtain ⟨n, hn, he⟩ := grow12 (s := fun n k => tb (frI ρ n) k) (fun n k _ hk => frR_m h _ 0 _ (wg_n h) (frI_p h n) hk)
  have h1 : frC ρ (frI ρ n) 0 := frR_c h _ 0 _ (wg_n h) (frI_p h n) he
  have h2 : frC ρ (frI ρ (n + 1)) 0 := frC_12 h (fun k hk => (he k hk).symm) h1
  have h3 : ∀ d, frI ρ (n + 1 + d) = frI ρ (n + 1) := by
    intro d
    induction d with
    | zero => rfl
    | succ d ih =>
      show frR ρ (ρ 0 4).toNat 0 (frI ρ (n + 1 + d)) = _
      rw [ih]
      exact frR_i h _ 0 _ (wg_n h) (frI_p h (n + 1)) h2
  have h4 := h3 (12 - n)
  rw [show n + 1 + (12 - n) = 13 by omega] at h4
  rw [h4]; exact h2
