/-! alive: both sides -/
theorem c_labelBit {p : Int} {σ : St} {Q : Int → St → Prop} (h : Q (pbit p) σ) : wp_X4_labelBit p σ Q := by
  unfold wp_X4_labelBit wp_X4_labelBit_b16
  unfold pbit at h
  refine ⟨fun h1 => ?_, fun h1 => ⟨fun h2 => ?_, fun h2 => ?_⟩⟩
  · rw [if_pos (Or.inl h1)] at h; exact h
  · rw [if_pos (Or.inr h2)] at h; exact h
  · rw [if_neg (by omega)] at h; exact h
theorem within_iff {x p q : Int} (hx : P32 x) (hp : isP p) (hq : isP q) : b_and (b_or (pbit p) (pbit q)) x = b_or (pbit p) (pbit q) ↔ (okp x p && okp x q) = true := by
  have h1 := pbit_p hp
  have h2 := pbit_p hq
  have h3 := b_or_p h1 h2
  have key : ∀ {p : Int}, isP p → ((∀ k, tb (pbit p) k = true → tb x k = true) ↔ okp x p = true) := by
    intro p hp
    unfold okp
    constructor
    · intro h
      by_cases a1 : p < 0
      · simp [a1]
      · by_cases a2 : 100 ≤ p
        · simp [a2]
        · have := h p.toNat (by rw [pbit_tb hp]; simp; omega)
          simp [this]
    · intro h k hk
      rw [pbit_tb hp, decide_eq_true_iff] at hk
      simp only [Bool.or_eq_true, decide_eq_true_eq] at h
      rcases h with (h | h) | h
      · omega
      · omega
      · rw [← hk.2.2]; exact h
  rw [Bool.and_eq_true, ← key hp, ← key hq]
  constructor
  · intro h
    have hh : ∀ k, (tb (pbit p) k || tb (pbit q) k) = true → tb x k = true := by
      intro k hk
      have h5 : tb (b_and (b_or (pbit p) (pbit q)) x) k = tb (b_or (pbit p) (pbit q)) k := by rw [h]
      rw [tb_and h3 hx, tb_or h1 h2, hk, Bool.true_and] at h5
      exact h5
    exact ⟨fun k hk => hh k (by rw [hk, Bool.true_or]), fun k hk => hh k (by rw [hk, Bool.or_true])⟩
  · rintro ⟨ha, hb⟩
    refine tb_ext (b_and_p h3 hx).1 h3.1 (fun k => ?_)
    rw [tb_and h3 hx, tb_or h1 h2]
    cases e1 : tb (pbit p) k with
    | true => rw [ha k e1]; rfl
    | false =>
      cases e2 : tb (pbit q) k with
      | true => rw [hb k e2]; rfl
      | false => rfl
theorem c_partsWithin {r : Nat} {x : Int} {σ ρ : St} {Q : Int → St → Prop} (hg : Wg ρ) (v : VCg σ ρ) (hr : (r : Int) < ρ 0 4) (hx : P32 x) (h : Q (if okp x (ρ 4 r) && okp x (ρ 5 r) then 1 else 0) σ) : wp_X4_partsWithin (r : Int) x σ Q := by
  obtain ⟨k1, k2, k3, k4, k5, k6⟩ := v.2 r hr
  have hb := hg.2.1
  unfold wp_X4_partsWithin
  rw [Int.toNat_natCast, k2]
  refine ⟨by omega, c_labelBit ⟨by omega, ?_⟩⟩
  rw [k3]
  refine c_labelBit (fun v5 e5 => ?_)
  rw [e5]
  have hw := within_iff hx (w_p1 hg hr) (w_p2 hg hr)
  refine ⟨fun h1 => ?_, fun h1 => ?_⟩
  · rw [if_neg (fun h2 => h1 (hw.2 h2))] at h; exact h
  · rw [if_pos (hw.1 (by omega))] at h; exact h
theorem r_isOf {x p : Int} {σ : St} {Q : Int → St → Prop} (hp : isP p) (hx : P32 x) (h : Q (if okp x p then 1 else 0) σ) : wp_X12_isOf p x σ Q := by
  unfold wp_X12_isOf wp_X12_isOf_b20
  unfold okp at h
  unfold isP isPart at hp
  refine ⟨fun h1 => ?_, fun h1 => ⟨fun h2 => ?_, fun h2 => ?_⟩⟩
  · rw [h1] at h; exact h
  · rw [if_pos (by simp [h2])] at h; exact h
  · have e : b_and (b_shr x p) 1 = if tb x p.toNat then 1 else 0 := by
      conv => lhs; rw [show p = (p.toNat : Int) by omega]
      exact b_bit hx (by omega)
    rw [e]
    have a1 : ¬ p < 0 := by omega
    have a2 : ¬ 100 ≤ p := by omega
    simp only [a1, a2, decide_false, Bool.false_or] at h
    cases e3 : tb x p.toNat with
    | true => rw [e3] at h; exact ⟨fun h => absurd (by decide) h, fun _ => h⟩
    | false => rw [e3] at h; exact ⟨fun _ => h, fun h => absurd (by decide) h⟩
theorem c_frR {Q : Int → St → Prop} {K : Int → Int → St → Prop} {ρ σ : St} (hg : Wg ρ) (v : VCg σ ρ) {x2 : Int} (h2 : 0 ≤ x2 ∧ x2 < 20) : ∀ (d r : Nat) (x : Int) (n : Nat), (r : Int) + d = ρ 0 4 → d < n → P32 x → K (frR ρ d r x) (x2 + 1) σ → wp_X4_fruitfulLabels_l12 Q K n x x2 (r : Int) σ := by
  intro d
  induction d with
  | zero =>
    intro r x n hd hn hx hk
    obtain ⟨n, rfl⟩ := suc_n hn
    unfold wp_X4_fruitfulLabels_l12
    rw [v.1]
    refine ⟨fun _ w ew => ?_, fun h => absurd h (by omega)⟩
    rw [ew, w32_of (by omega) (by omega)]; exact hk
  | succ d ih =>
    intro r x n hd hn hx hk
    obtain ⟨n, rfl⟩ := suc_n hn
    have hr : (r : Int) < ρ 0 4 := by omega
    have hb := hg.2.1
    obtain ⟨k1, k2, k3, k4, k5, k6⟩ := v.2 r hr
    unfold wp_X4_fruitfulLabels_l12 wp_X4_fruitfulLabels_b49
    have nx : ∀ x' : Int, x' = (if okr ρ x r then b_or x (b_shl 1 (ρ 3 r)) else x) → ∀ w : Int, w = w32 ((r : Int) + 1) → wp_X4_fruitfulLabels_l12 Q K n x' x2 w σ := by
      intro x' ex w ew
      rw [ew, w32_of (by omega) (by omega), show (r : Int) + 1 = ((r + 1 : Nat) : Int) by omega, ex]
      exact ih (r + 1) _ n (by push_cast at hd ⊢; omega) (by omega) (frS_p hg hr hx) hk
    rw [v.1, Int.toNat_natCast, k6]
    refine ⟨fun h => absurd h (by omega), fun _ => ⟨by omega, fun h8 => nx x (by unfold okr; simp [h8]), fun h8 => c_partsWithin hg v hr hx ?_⟩⟩
    have h8 : ρ 8 r = 0 := by omega
    cases e : (okp x (ρ 4 r) && okp x (ρ 5 r)) with
    | true =>
      rw [if_pos rfl]
      refine ⟨fun h => absurd h (by decide), fun _ => ⟨by omega, fun w ew => nx w ?_⟩⟩
      rw [ew, k1, if_pos]; unfold okr; rw [Bool.and_assoc, e]; simp [h8]
    | false =>
      rw [if_neg (by decide)]
      refine ⟨fun _ => nx x ?_, fun h => absurd rfl h⟩
      rw [if_neg]; unfold okr; rw [Bool.and_assoc, e]; simp
theorem c_frI {Q : Int → St → Prop} {ρ σ : St} (hg : Wg ρ) (v : VCg σ ρ) (hq : Q (frI ρ 13) σ) : ∀ (d k n : Nat), k + d = 13 → d < n → wp_X4_fruitfulLabels_l4 Q n (frI ρ k) (k : Int) σ := by
  intro d
  induction d with
  | zero =>
    intro k n hk hn
    obtain ⟨n, rfl⟩ := suc_n hn
    have : k = 13 := by omega
    subst this
    unfold wp_X4_fruitfulLabels_l4
    exact ⟨fun _ => hq, fun h => absurd h (by omega)⟩
  | succ d ih =>
    intro k n hk hn
    obtain ⟨n, rfl⟩ := suc_n hn
    unfold wp_X4_fruitfulLabels_l4
    refine ⟨fun h => absurd h (by omega), fun _ => c_frR hg v (by omega) (ρ 0 4).toNat 0 (frI ρ k) bigN (wg_n hg) (by have := hg.2.1; unfold bigN; omega) (frI_p hg k) ?_⟩
    rw [show (k : Int) + 1 = ((k + 1 : Nat) : Int) by omega]
    exact ih (k + 1) n (by omega) (by omega)
theorem alR_p {ρ : St} {f : Int} (hg : Wg ρ) : ∀ (d r : Nat) (y z : Int), (r : Int) + d = ρ 0 4 → P32 y → P64 z → P32 (alR ρ f d r y z).1 ∧ P64 (alR ρ f d r y z).2
  | 0, _, _, _, _, hy, hz => ⟨hy, hz⟩
  | d + 1, r, y, z, hd, hy, hz => by
    have hr : (r : Int) < ρ 0 4 := by omega
    have hb := hg.2.1
    have hd1 : ((r + 1 : Nat) : Int) + d = ρ 0 4 := by push_cast at hd ⊢; omega
    unfold alR
    split
    · refine alR_p hg d (r + 1) _ _ hd1 (b_or_p (b_or_p hy (pbit_p (w_p1 hg hr))) (pbit_p (w_p2 hg hr))) (l_or_p hz ?_)
      rw [l_shl_1 r (by omega)]; exact pow63 (by omega)
    · exact alR_p hg d (r + 1) _ _ hd1 hy hz
theorem alI_p {ρ : St} {f y : Int} (hg : Wg ρ) (hy : P32 y) : ∀ k, P32 (alI ρ f y k).1 ∧ P64 (alI ρ f y k).2
  | 0 => ⟨hy, p64_0⟩
  | k + 1 => alR_p hg _ 0 _ _ (wg_n hg) (alI_p hg hy k).1 (alI_p hg hy k).2
theorem c_alR {Q : Int → St → Prop} {K : Int → Int → Int → Int → St → Prop} {ρ σ : St} (hg : Wg ρ) (v : VCg σ ρ) {f x5 : Int} (hf : P32 f) (h5 : 0 ≤ x5 ∧ x5 < 20) : ∀ (d r : Nat) (y z : Int) (n : Nat), (r : Int) + d = ρ 0 4 → d < n → P32 y → P64 z → K f (alR ρ f d r y z).1 (alR ρ f d r y z).2 (x5 + 1) σ → wp_X4_rulesAlive_l36 Q K n f y z x5 (r : Int) σ := by
  intro d
  induction d with
  | zero =>
    intro r y z n hd hn hy hz hk
    obtain ⟨n, rfl⟩ := suc_n hn
    unfold wp_X4_rulesAlive_l36
    rw [v.1]
    refine ⟨fun _ w ew => ?_, fun h => absurd h (by omega)⟩
    rw [ew, w32_of (by omega) (by omega)]; exact hk
  | succ d ih =>
    intro r y z n hd hn hy hz hk
    obtain ⟨n, rfl⟩ := suc_n hn
    have hr : (r : Int) < ρ 0 4 := by omega
    have hb := hg.2.1
    have hh := w_head hg hr
    obtain ⟨k1, k2, k3, k4, k5, k6⟩ := v.2 r hr
    have hd1 : ((r + 1 : Nat) : Int) + d = ρ 0 4 := by push_cast at hd ⊢; omega
    unfold alR at hk
    unfold wp_X4_rulesAlive_l36 wp_X4_rulesAlive_b111
    have no : ¬ (okr ρ f r && tb y (ρ 3 r).toNat) = true → ∀ w : Int, w = w32 ((r : Int) + 1) → wp_X4_rulesAlive_l36 Q K n f y z x5 w σ := by
      intro ho w ew
      rw [ew, w32_of (by omega) (by omega), show (r : Int) + 1 = ((r + 1 : Nat) : Int) by omega]
      rw [if_neg ho] at hk
      exact ih (r + 1) _ _ n hd1 (by omega) hy hz hk
    rw [v.1, Int.toNat_natCast, k6, k1]
    have e : b_and (b_shr y (ρ 3 r)) 1 = if tb y (ρ 3 r).toNat then 1 else 0 := by
      conv => lhs; rw [show ρ 3 r = ((ρ 3 r).toNat : Int) by omega]
      exact b_bit hy (by omega)
    rw [e]
    refine ⟨fun h => absurd h (by omega), fun _ => ⟨by omega, fun h8 => no (by unfold okr; simp [h8]), fun h8 => ⟨by omega, fun ht => no (fun h => ?_), fun ht => c_partsWithin hg v hr hf ?_⟩⟩⟩
    · rw [Bool.and_eq_true] at h
      rw [h.2] at ht; exact absurd rfl ht
    have h8 : ρ 8 r = 0 := by omega
    have ht : tb y (ρ 3 r).toNat = true := by
      cases e3 : tb y (ρ 3 r).toNat with
      | true => rfl
      | false => rw [e3] at ht; exact absurd (by decide) ht
    cases e : (okp f (ρ 4 r) && okp f (ρ 5 r)) with
    | true =>
      rw [if_pos rfl]
      refine ⟨fun h => absurd h (by decide), fun _ w ew => ⟨by omega, ?_⟩⟩
      rw [k2]
      refine c_labelBit ⟨by omega, ?_⟩
      rw [k3]
      refine c_labelBit (fun w2 e2 w3 e3 => ?_)
      rw [if_pos (by unfold okr; rw [Bool.and_assoc (decide _), e, ht]; simp [h8])] at hk
      rw [e3, w32_of (by omega) (by omega), show (r : Int) + 1 = ((r + 1 : Nat) : Int) by omega, e2, ew, b_or_assoc hy (pbit_p (w_p1 hg hr)) (pbit_p (w_p2 hg hr))]
      refine ih (r + 1) _ _ n hd1 (by omega) (b_or_p (b_or_p hy (pbit_p (w_p1 hg hr))) (pbit_p (w_p2 hg hr))) (l_or_p hz ?_) hk
      rw [l_shl_1 r (by omega)]; exact pow63 (by omega)
    | false =>
      rw [if_neg (by decide)]
      refine ⟨fun _ => no ?_, fun h => absurd rfl h⟩
      unfold okr; rw [Bool.and_assoc (decide _), e]; simp
theorem c_alI {Q : Int → St → Prop} {ρ σ : St} (hg : Wg ρ) (v : VCg σ ρ) {f y : Int} (hf : P32 f) (hy : P32 y) (hq : Q (alI ρ f y 13).2 σ) : ∀ (d k n : Nat), k + d = 13 → d < n → wp_X4_rulesAlive_l26 Q n f (alI ρ f y k).1 (alI ρ f y k).2 (k : Int) σ := by
  intro d
  induction d with
  | zero =>
    intro k n hk hn
    obtain ⟨n, rfl⟩ := suc_n hn
    have : k = 13 := by omega
    subst this
    unfold wp_X4_rulesAlive_l26
    exact ⟨fun _ => hq, fun h => absurd h (by omega)⟩
  | succ d ih =>
    intro k n hk hn
    obtain ⟨n, rfl⟩ := suc_n hn
    unfold wp_X4_rulesAlive_l26
    refine ⟨fun h => absurd h (by omega), fun _ => c_alR hg v hf (by omega) (ρ 0 4).toNat 0 _ _ bigN (wg_n hg) (by have := hg.2.1; unfold bigN; omega) (alI_p hg hy k).1 (alI_p hg hy k).2 ?_⟩
    rw [show (k : Int) + 1 = ((k + 1 : Nat) : Int) by omega]
    exact ih (k + 1) n (by omega) (by omega)
