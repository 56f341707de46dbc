/-! cases: the reference's casesWith, and the op -/
theorem wiM_r {ρ : St} {x1 x2 x3 : Int} {r i j : Nat} : ∀ n, 0 ≤ wiM ρ x1 x2 x3 r i j n ∧ wiM ρ x1 x2 x3 r i j n ≤ n
  | 0 => by unfold wiM sumN; omega
  | n + 1 => by
    have h := wiM_r (ρ := ρ) (x1 := x1) (x2 := x2) (x3 := x3) (r := r) (i := i) (j := j) n
    have h2 := ix_r (wiP ρ x1 x2 x3 r i ((i + 1 + n : Nat) : Int) j)
    have e : wiM ρ x1 x2 x3 r i j (n + 1) = wiM ρ x1 x2 x3 r i j n + ix (wiP ρ x1 x2 x3 r i ((i + 1 + n : Nat) : Int) j) := rfl
    omega
theorem r_cw113 {ρ τ : St} (hg : Wg ρ) (hL : LL ρ < 9) (h80 : 0 ≤ ρ 0 8) (ha : LA ρ τ) {r : Nat} (hr : (r : Int) < ρ 0 4) (h5 : ρ 5 r ≠ -1) {i j : Nat} (hi : i < j ∧ j ≤ LL ρ) {x1 x2 x3 A : Int} (hA : 0 ≤ A ∧ A ≤ 1000000) {Q : Int → St → Prop} {K6 : Int → Int → Int → Int → Int → St → Prop} {K72 : Int → Int → Int → Int → Int → Int → St → Prop} {K : Int → Int → Int → Int → Int → Int → Int → St → Prop} (hk : K x1 x2 x3 (A + wiM ρ x1 x2 x3 r i j (j - i - 1)) (r : Int) i ((j + 1 : Nat) : Int) τ) : ∀ (e d : Nat) (n : Nat), i + 1 + d + e = j → e < n → wp_X12_casesWith_l113 Q K6 K72 K n x1 x2 x3 (A + wiM ρ x1 x2 x3 r i j d) (r : Int) i j ((i + 1 + d : Nat) : Int) τ := by
  have hb := hg.2.1
  have hs8 : ρ 0 8 ≤ 8 := by unfold LL at hL; omega
  have eL : ((LL ρ : Nat) : Int) = ρ 0 8 := by unfold LL; omega
  obtain ⟨k1, k2, k3, k4⟩ := ha.1.2.2.2.1 r hr
  obtain ⟨hh, hp1, hp2, hpr, -⟩ := hg.2.2 r hr
  have hp2 : isPart (ρ 5 r) := hp2.resolve_left h5
  intro e
  induction e with
  | zero =>
    intro d n hd hn
    obtain ⟨n, rfl⟩ := suc_n hn
    unfold wp_X12_casesWith_l113
    refine ⟨fun _ v ev => ?_, fun w => absurd (by omega) w⟩
    rw [ev, w32_of (by omega) (by omega), show (j : Int) + 1 = ((j + 1 : Nat) : Int) by omega, show d = j - i - 1 by omega]
    exact hk
  | succ e ih =>
    intro d n hd hn
    obtain ⟨n, rfl⟩ := suc_n hn
    have hb2 := wiM_r (ρ := ρ) (x1 := x1) (x2 := x2) (x3 := x3) (r := r) (i := i) (j := j) d
    have st : wiM ρ x1 x2 x3 r i j (d + 1) = wiM ρ x1 x2 x3 r i j d + ix (wiP ρ x1 x2 x3 r i ((i + 1 + d : Nat) : Int) j) := rfl
    have hy := ix_r (wiP ρ x1 x2 x3 r i ((i + 1 + d : Nat) : Int) j)
    have fin : ∀ y : Int, y = A + wiM ρ x1 x2 x3 r i j (d + 1) → wp_X12_casesWith_b211 Q K6 K72 K (wp_X12_casesWith_l113 Q K6 K72 K n) x1 x2 x3 y (r : Int) i j ((i + 1 + d : Nat) : Int) τ := by
      intro y ey
      unfold wp_X12_casesWith_b211
      intro v ev
      rw [ev, w32_of (by omega) (by omega), show ((i + 1 + d : Nat) : Int) + 1 = ((i + 1 + (d + 1) : Nat) : Int) by omega, ey]
      exact ih (d + 1) n (by omega) (by omega)
    have nxt : ∀ y : Int, y = ix (wiP ρ x1 x2 x3 r i ((i + 1 + d : Nat) : Int) j) → wp_X12_casesWith_b208 Q K6 K72 K (wp_X12_casesWith_l113 Q K6 K72 K n) x1 x2 x3 (r : Int) i j ((i + 1 + d : Nat) : Int) y (A + wiM ρ x1 x2 x3 r i j d) τ := by
      intro y ey
      unfold wp_X12_casesWith_b208
      intro v ev
      rw [w32_of (by omega) (by omega)] at ev
      exact fin v (by rw [ev, st]; omega)
    have go : ((ρ 4 r = x1 ∧ (i : Int) = x2 ∧ ((i + 1 + d : Nat) : Int) = x3) ∨ (ρ 5 r = x1 ∧ ((i + 1 + d : Nat) : Int) = x2 ∧ (j : Int) = x3)) → wp_X12_casesWith_b165 Q K6 K72 K (wp_X12_casesWith_l113 Q K6 K72 K n) x1 x2 x3 (A + wiM ρ x1 x2 x3 r i j d) (r : Int) i j ((i + 1 + d : Nat) : Int) τ := by
      intro hor
      unfold wp_X12_casesWith_b165 wp_X12_casesWith_b207
      rw [Int.toNat_natCast, k2]
      refine ⟨by omega, r_fits2 hg ha hs8 hp1 (by omega) (fun hn => ⟨fun _ => nxt 0 (ix_n (fun w => hn w.2.1)).symm, fun w => absurd rfl w⟩) (fun hy => ⟨fun w => absurd w (by decide), fun _ => ⟨by omega, ?_⟩⟩)⟩
      rw [k3]
      exact r_fits2 hg ha hs8 hp2 (by omega) (fun hn => ⟨fun _ => nxt 0 (ix_n (fun w => hn w.2.2)).symm, fun w => absurd rfl w⟩) (fun hy2 => ⟨fun w => absurd w (by decide), fun _ => nxt 1 (ix_y ⟨hor, hy, hy2⟩).symm⟩)
    unfold wp_X12_casesWith_l113
    rw [Int.toNat_natCast, k2]
    refine ⟨fun w => absurd w (by omega), fun _ => ⟨by omega, r_isAt (fun h1 => ⟨fun w => absurd rfl w, fun _ => ⟨by omega, ?_⟩⟩) (fun h1 => ⟨fun _ => go (Or.inl h1), fun w => absurd (by decide) w⟩)⟩⟩
    rw [k3]
    refine r_isAt (fun h2 => ⟨fun w => absurd rfl w, fun _ => fin _ ?_⟩) (fun h2 => ⟨fun _ => go (Or.inr h2), fun w => absurd (by decide) w⟩)
    rw [st, ix_n (fun w => by rcases w.1 with z | z; exact h1 z; exact h2 z), Int.add_zero]
noncomputable def wiJ (ρ : St) (x1 x2 x3 : Int) (r i : Nat) : Nat → Int := sumN (fun t => wiM ρ x1 x2 x3 r i (i + 1 + t) (i + 1 + t - i - 1))
theorem wiJ_r {ρ : St} {x1 x2 x3 : Int} {r i : Nat} : ∀ n : Nat, n ≤ 9 → 0 ≤ wiJ ρ x1 x2 x3 r i n ∧ wiJ ρ x1 x2 x3 r i n ≤ 9 * n
  | 0, _ => by unfold wiJ sumN; omega
  | n + 1, hn => by
    have h := wiJ_r (ρ := ρ) (x1 := x1) (x2 := x2) (x3 := x3) (r := r) (i := i) n (by omega)
    have h2 := wiM_r (ρ := ρ) (x1 := x1) (x2 := x2) (x3 := x3) (r := r) (i := i) (j := i + 1 + n) (i + 1 + n - i - 1)
    have e : wiJ ρ x1 x2 x3 r i (n + 1) = wiJ ρ x1 x2 x3 r i n + wiM ρ x1 x2 x3 r i (i + 1 + n) (i + 1 + n - i - 1) := rfl
    omega
theorem r_cw98 {ρ τ : St} (hg : Wg ρ) (hL : LL ρ < 9) (h80 : 0 ≤ ρ 0 8) (ha : LA ρ τ) {r : Nat} (hr : (r : Int) < ρ 0 4) (h5 : ρ 5 r ≠ -1) {i : Nat} (hi : i < LL ρ) {x1 x2 x3 A : Int} (hA : 0 ≤ A ∧ A ≤ 500000) {Q : Int → St → Prop} {K6 : Int → Int → Int → Int → Int → St → Prop} {K : Int → Int → Int → Int → Int → Int → St → Prop} (hk : K x1 x2 x3 (A + wiJ ρ x1 x2 x3 r i (LL ρ - i)) (r : Int) ((i + 1 : Nat) : Int) τ) : ∀ (e t : Nat) (n : Nat), i + t + e = LL ρ → 1 ≤ t → e < n → wp_X12_casesWith_l98 Q K6 K n x1 x2 x3 (A + wiJ ρ x1 x2 x3 r i t) (r : Int) i ((i + 1 + t : Nat) : Int) τ := by
  have hb := hg.2.1
  have eL : ((LL ρ : Nat) : Int) = ρ 0 8 := by unfold LL; omega
  intro e
  induction e with
  | zero =>
    intro t n hd h1 hn
    obtain ⟨n, rfl⟩ := suc_n hn
    unfold wp_X12_casesWith_l98
    rw [ha.1.2.2.1]
    refine ⟨fun _ v ev => ?_, fun w => absurd (by omega) w⟩
    rw [ev, w32_of (by omega) (by omega), show (i : Int) + 1 = ((i + 1 : Nat) : Int) by omega, show t = LL ρ - i by omega]
    exact hk
  | succ e ih =>
    intro t n hd h1 hn
    obtain ⟨n, rfl⟩ := suc_n hn
    have hb2 := wiJ_r (ρ := ρ) (x1 := x1) (x2 := x2) (x3 := x3) (r := r) (i := i) t (by omega)
    unfold wp_X12_casesWith_l98
    rw [ha.1.2.2.1]
    refine ⟨fun w => absurd w (by omega), fun _ v ev => ?_⟩
    rw [ev, w32_of (by omega) (by omega), show (i : Int) + 1 = ((i + 1 + 0 : Nat) : Int) by omega]
    have h := r_cw113 hg hL h80 ha hr h5 (i := i) (j := i + 1 + t) (by omega) (x1 := x1) (x2 := x2) (x3 := x3) (A := A + wiJ ρ x1 x2 x3 r i t) (by omega) (Q := Q) (K6 := K6) (K72 := K) (K := wp_X12_casesWith_l98 Q K6 K n) (by
      have := ih (t + 1) n (by omega) (by omega) (by omega)
      rw [show A + wiJ ρ x1 x2 x3 r i (t + 1) = A + wiJ ρ x1 x2 x3 r i t + wiM ρ x1 x2 x3 r i (i + 1 + t) (i + 1 + t - i - 1) from (Int.add_assoc _ _ _).symm] at this
      exact this) t 0 bigN (by omega) (by unfold bigN; omega)
    rw [show wiM ρ x1 x2 x3 r i (i + 1 + t) 0 = 0 from rfl, Int.add_zero] at h
    exact h
noncomputable def wiI (ρ : St) (x1 x2 x3 : Int) (r : Nat) : Nat → Int := sumN (fun i => wiJ ρ x1 x2 x3 r i (LL ρ - i))
theorem wiI_r {ρ : St} (hL : LL ρ < 9) {x1 x2 x3 : Int} {r : Nat} : ∀ n : Nat, 0 ≤ wiI ρ x1 x2 x3 r n ∧ wiI ρ x1 x2 x3 r n ≤ 81 * n
  | 0 => by unfold wiI sumN; omega
  | n + 1 => by
    have h := wiI_r (ρ := ρ) hL (x1 := x1) (x2 := x2) (x3 := x3) (r := r) n
    have h2 := wiJ_r (ρ := ρ) (x1 := x1) (x2 := x2) (x3 := x3) (r := r) (i := n) (LL ρ - n) (by omega)
    have e : wiI ρ x1 x2 x3 r (n + 1) = wiI ρ x1 x2 x3 r n + wiJ ρ x1 x2 x3 r n (LL ρ - n) := rfl
    omega
theorem r_cw72 {ρ τ : St} (hg : Wg ρ) (hL : LL ρ < 9) (h80 : 0 ≤ ρ 0 8) (ha : LA ρ τ) {r : Nat} (hr : (r : Int) < ρ 0 4) (h5 : ρ 5 r ≠ -1) {x1 x2 x3 A : Int} (hA : 0 ≤ A ∧ A ≤ 400000) {Q : Int → St → Prop} {K : Int → Int → Int → Int → Int → St → Prop} (hk : wp_X12_casesWith_b229 Q K x1 x2 x3 (A + wiI ρ x1 x2 x3 r (LL ρ)) (r : Int) τ) : ∀ (e i : Nat) (n : Nat), i + e = LL ρ → e < n → wp_X12_casesWith_l72 Q K n x1 x2 x3 (A + wiI ρ x1 x2 x3 r i) (r : Int) (i : Int) τ := by
  have hb := hg.2.1
  have eL : ((LL ρ : Nat) : Int) = ρ 0 8 := by unfold LL; omega
  obtain ⟨k1, k2, k3, k4⟩ := ha.1.2.2.2.1 r hr
  intro e
  induction e with
  | zero =>
    intro i n hd hn
    obtain ⟨n, rfl⟩ := suc_n hn
    unfold wp_X12_casesWith_l72
    rw [ha.1.2.2.1]
    refine ⟨fun _ => ?_, fun w => absurd (by omega) w⟩
    rw [show i = LL ρ by omega]; exact hk
  | succ e ih =>
    intro i n hd hn
    obtain ⟨n, rfl⟩ := suc_n hn
    have hb2 := wiI_r (ρ := ρ) hL (x1 := x1) (x2 := x2) (x3 := x3) (r := r) i
    unfold wp_X12_casesWith_l72
    rw [ha.1.2.2.1, Int.toNat_natCast, k3]
    refine ⟨fun w => absurd w (by omega), fun _ => ⟨by omega, fun w => absurd w h5, fun _ v ev => ?_⟩⟩
    rw [ev, w32_of (by omega) (by omega), show (i : Int) + 2 = ((i + 1 + 1 : Nat) : Int) by omega]
    have h := r_cw98 hg hL h80 ha hr h5 (i := i) (by omega) (x1 := x1) (x2 := x2) (x3 := x3) (A := A + wiI ρ x1 x2 x3 r i) (by omega) (Q := Q) (K6 := K) (K := wp_X12_casesWith_l72 Q K n) (by
      have := ih (i + 1) n (by omega) (by omega)
      rw [show A + wiI ρ x1 x2 x3 r (i + 1) = A + wiI ρ x1 x2 x3 r i + wiJ ρ x1 x2 x3 r i (LL ρ - i) from (Int.add_assoc _ _ _).symm] at this
      exact this) (LL ρ - i - 1) 1 bigN (by omega) (by omega) (by unfold bigN; omega)
    have z : wiJ ρ x1 x2 x3 r i 1 = 0 := by
      unfold wiJ sumN
      show 0 + wiM ρ x1 x2 x3 r i (i + 1 + 0) (i + 1 + 0 - i - 1) = 0
      rw [show i + 1 + 0 - i - 1 = 0 by omega]; rfl
    rw [z, Int.add_zero] at h
    exact h
theorem wiR_r {ρ : St} (hL : LL ρ < 9) {x1 x2 x3 : Int} {r : Nat} : 0 ≤ wiR ρ x1 x2 x3 r ∧ wiR ρ x1 x2 x3 r ≤ 800 := by
  unfold wiR
  by_cases h8 : ρ 8 r = 0
  · rw [if_pos h8]
    by_cases h5 : ρ 5 r = -1
    · rw [if_pos h5]; have := ix_r (ρ 4 r = x1 ∧ hT ρ x1 x2 x3); omega
    · rw [if_neg h5]
      have := wiI_r (ρ := ρ) hL (x1 := x1) (x2 := x2) (x3 := x3) (r := r) (LL ρ)
      unfold wiI wiJ at this; omega
  · rw [if_neg h8]; omega
theorem r_cw6 {ρ τ : St} (hg : Wg ρ) (hL : LL ρ < 9) (h80 : 0 ≤ ρ 0 8) (ha : LA ρ τ) {x1 x2 x3 : Int} (hx : isItm ρ x1 x2 x3) {Q : Int → St → Prop} (hq : Q (sumN (wiR ρ x1 x2 x3) (ρ 0 4).toNat) τ) : ∀ (d r : Nat) (n : Nat), (r : Int) + d = ρ 0 4 → d < n → 0 ≤ sumN (wiR ρ x1 x2 x3) r → sumN (wiR ρ x1 x2 x3) r ≤ 800 * r → wp_X12_casesWith_l6 Q n x1 x2 x3 (sumN (wiR ρ x1 x2 x3) r) (r : Int) τ := by
  have hb := hg.2.1
  have hs8 : ρ 0 8 ≤ 8 := by unfold LL at hL; omega
  intro d
  induction d with
  | zero =>
    intro r n hd hn hlo hle
    obtain ⟨n, rfl⟩ := suc_n hn
    unfold wp_X12_casesWith_l6
    rw [ha.1.1]
    refine ⟨fun _ => ?_, fun w => absurd w (by omega)⟩
    rw [show r = (ρ 0 4).toNat by omega]; exact hq
  | succ d ih =>
    intro r n hd hn hlo hle
    obtain ⟨n, rfl⟩ := suc_n hn
    have hr : (r : Int) < ρ 0 4 := by push_cast at hd; omega
    obtain ⟨k1, k2, k3, k4⟩ := ha.1.2.2.2.1 r hr
    have hw := wiR_r (ρ := ρ) hL (x1 := x1) (x2 := x2) (x3 := x3) (r := r)
    have st : sumN (wiR ρ x1 x2 x3) (r + 1) = sumN (wiR ρ x1 x2 x3) r + wiR ρ x1 x2 x3 r := rfl
    have nx : ∀ y, y = sumN (wiR ρ x1 x2 x3) (r + 1) → wp_X12_casesWith_b229 Q (wp_X12_casesWith_l6 Q n) x1 x2 x3 y (r : Int) τ := by
      intro y ey
      unfold wp_X12_casesWith_b229
      intro v ev
      rw [ev, w32_of (by omega) (by omega), show (r : Int) + 1 = ((r + 1 : Nat) : Int) by omega, ey]
      exact ih (r + 1) n (by push_cast at hd ⊢; omega) (by omega) (by omega) (by push_cast; omega)
    unfold wp_X12_casesWith_l6
    rw [ha.1.1]
    refine ⟨fun w => absurd w (by omega), fun _ => r_isIn hg ha.1.2.1 hr ?_⟩
    by_cases h8 : ρ 8 r = 0
    · rw [if_pos h8, Int.toNat_natCast, k3, k2]
      refine ⟨fun _ => ⟨by omega, fun h5 => ?_, fun h5 => ⟨by omega, ?_⟩⟩, fun w => absurd (by decide) w⟩
      · have e : wiR ρ x1 x2 x3 r = wiI ρ x1 x2 x3 r (LL ρ) := by unfold wiR; rw [if_pos h8, if_neg h5]; rfl
        unfold wp_X12_casesWith_b69
        have h := r_cw72 hg hL h80 ha hr h5 (x1 := x1) (x2 := x2) (x3 := x3) (A := sumN (wiR ρ x1 x2 x3) r) (by omega) (Q := Q) (K := wp_X12_casesWith_l6 Q n) (nx _ (by rw [st, e])) (LL ρ) 0 bigN (by omega) (by unfold bigN; omega)
        rw [show wiI ρ x1 x2 x3 r 0 = 0 from rfl, Int.add_zero] at h
        exact h
      · have h5 : ρ 5 r = -1 := by omega
        have e : wiR ρ x1 x2 x3 r = ix (ρ 4 r = x1 ∧ hT ρ x1 x2 x3) := by unfold wiR; rw [if_pos h8, if_pos h5]
        have go : ∀ y : Int, y = ix (ρ 4 r = x1 ∧ hT ρ x1 x2 x3) → wp_X12_casesWith_b66 Q (wp_X12_casesWith_l6 Q n) x1 x2 x3 (r : Int) y (sumN (wiR ρ x1 x2 x3) r) τ := by
          intro y ey
          unfold wp_X12_casesWith_b66 wp_X12_casesWith_b69
          intro v ev
          rw [w32_of (by omega) (by omega)] at ev
          have fin : wp_X12_casesWith_b229 Q (wp_X12_casesWith_l6 Q n) x1 x2 x3 v (r : Int) τ := nx v (by rw [ev, st, e, ey])
          obtain ⟨nb, hnb⟩ := suc_n (show 0 < bigN by unfold bigN; omega)
          rw [hnb]
          unfold wp_X12_casesWith_l72
          rw [ha.1.2.2.1, Int.toNat_natCast, k3]
          exact ⟨fun _ => fin, fun _ => ⟨by omega, fun _ => fin, fun w => absurd h5 w⟩⟩
        unfold wp_X12_casesWith_b65
        refine ⟨fun h => go 0 (ix_n (fun w => h w.1)).symm, fun h => r_has2 ha hs8 hx (fun hn => ⟨fun _ => go 0 (ix_n (fun w => hn w.2)).symm, fun w => absurd rfl w⟩) (fun hy => ⟨fun w => absurd w (by decide), fun _ => go 1 (ix_y ⟨by omega, hy⟩).symm⟩)⟩
    · rw [if_neg h8]
      refine ⟨fun w => absurd rfl w, fun _ => nx _ ?_⟩
      rw [st]; unfold wiR; rw [if_neg h8, Int.add_zero]
/-! the op -/
theorem c_cases {ρ σ : St} (hW : WW ρ) (hk : KL ρ σ) {x1 x2 x3 x4 : Int} {Q : Int → St → Prop} (hno : ¬ (isItm ρ x1 x2 x3 ∧ 0 ≤ x4 ∧ x4 ≤ 2) → ∀ σ1, (σ1 = σ ∨ (Bt ρ σ1 ∧ Fr S_X0_build σ σ1)) → Q (-2) σ1) (h01 : isItm ρ x1 x2 x3 → (x4 = 0 ∨ x4 = 1) → ∀ σ1, Bt ρ σ1 → (Fr S_X0_build σ σ1 ∨ (σ1 36 7 = 1 ∧ Lw ρ σ1)) → Q (cntL (okC4 ρ x4) (cI ρ (itN ρ x1 x2 x3))) σ1) (h2 : isItm ρ x1 x2 x3 → x4 = 2 → ∀ σ1, Bt ρ σ1 → (σ1 36 7 = 1 ∧ Lw ρ σ1) → Q (cntL (arC ρ ((itN ρ x1 x2 x3 : Nat) : Int)) (PL ρ (12 * spN (LL ρ)))) σ1) : wp_X11_cases x1 x2 x3 x4 σ Q := by
  have hg := hW.2.2.1
  have hL : LL ρ < 9 := by have := hW.2.2.2.2.2.1; unfold LL; omega
  have h3360 := PL_3360 hg hL
  unfold wp_X11_cases
  refine c_itemOf hW hk.1 hk.2.1 hk.2.2.1 (fun h => ⟨fun w => absurd w (by decide), fun _ => hno (fun w => h w.1) σ (Or.inl rfl)⟩) (fun h σ1 hB f => ⟨fun _ => ⟨?_, ?_, ?_, ?_⟩, fun w => absurd (by omega) w⟩)
  · intro e4
    have hr := (itN_r hL h).1
    refine c_caseEnd hL hB hr (c_caseStart hL hB hr ?_)
    have sg : (PL ρ (itN ρ x1 x2 x3)).length + (cI ρ (itN ρ x1 x2 x3)).length ≤ 3360 := by
      by_cases hz : (cI ρ (itN ρ x1 x2 x3)).length = 0
      · obtain ⟨l, hl⟩ := PL_split (ρ := ρ) (q := itN ρ x1 x2 x3) (12 * spN (LL ρ) - (itN ρ x1 x2 x3 + 1))
        rw [show itN ρ x1 x2 x3 + 1 + (12 * spN (LL ρ) - (itN ρ x1 x2 x3 + 1)) = 12 * spN (LL ρ) by omega] at hl
        rw [hl, List.length_append] at h3360
        omega
      · have := (hB.seg (t := (cI ρ (itN ρ x1 x2 x3)).length - 1) hr (by omega)).1
        omega
    rw [w32_of (by omega) (by omega)]
    have hy := h01 h (Or.inl e4) σ1 hB (Or.inl f)
    have e : cntL (okC4 ρ x4) (cI ρ (itN ρ x1 x2 x3)) = (cI ρ (itN ρ x1 x2 x3)).length := by
      rw [← cntL_all]
      congr 1
      funext c
      exact propext ⟨fun _ => trivial, fun _ w => absurd e4 w⟩
    rw [e] at hy
    rw [show (((PL ρ (itN ρ x1 x2 x3)).length + (cI ρ (itN ρ x1 x2 x3)).length : Nat) : Int) - ((PL ρ (itN ρ x1 x2 x3)).length : Nat) = (cI ρ (itN ρ x1 x2 x3)).length by push_cast; omega]
    exact hy
  · intro e4
    have hk1 := hk.bt hB f
    unfold wp_X1_fullCases
    refine c_prepare hW hk1.1 hk1.2.1 hk1.2.2.1 hk1.2.2.2 (fun σ2 b1 b2 b3 => ?_)
    have e : itN ρ x1 x2 x3 = 12 * spA (LL ρ) x2.toNat x3.toNat + x1.toNat := rfl
    have hij : x2.toNat < x3.toNat ∧ x3.toNat ≤ LL ρ := ⟨by have := h.2; omega, by have := h.2; unfold LL; omega⟩
    have q := sp_a (L := LL ρ) hL hij
    refine c_caseStart hL b1 (itN_r hL h).1 ?_
    have hy := h01 h (Or.inr e4) σ2 b1 (Or.inr ⟨b2, b3⟩)
    rw [e] at hy ⊢
    have hp : (okC4 ρ x4) = fullC ρ := by
      funext c
      exact propext ⟨fun w => w (by omega), fun w _ => w⟩
    rw [hp] at hy
    exact c_fullCases hg hL b1 b3 q.1 (by have := h.1; omega) hy _ 0 bigN (Nat.zero_add _) (by
      have := PL_s (ρ := ρ) (q := 12 * spA (LL ρ) x2.toNat x3.toNat + x1.toNat)
      by_cases hz : (cI ρ (12 * spA (LL ρ) x2.toNat x3.toNat + x1.toNat)).length = 0
      · rw [hz]; unfold bigN; omega
      · have := (b1.seg (q := 12 * spA (LL ρ) x2.toNat x3.toNat + x1.toNat) (t := (cI ρ (12 * spA (LL ρ) x2.toNat x3.toNat + x1.toNat)).length - 1) (by have := (itN_r hL h).1; omega) (by omega)).1
        unfold bigN; omega)
  · intro e4
    have hk1 := hk.bt hB f
    unfold wp_X1_casesAround
    refine c_prepare hW hk1.1 hk1.2.1 hk1.2.2.1 hk1.2.2.2 (fun σ2 b1 b2 b3 => ?_)
    exact c_casesAround hg hL b1 b3 (h2 h e4 σ2 b1 ⟨b2, b3⟩) _ 0 bigN (Nat.zero_add _) (by unfold bigN; omega)
  · rintro ⟨n0, n1, n2⟩
    exact hno (fun w => by omega) σ1 (Or.inr ⟨hB, f⟩)
theorem r_cases {ρ τ : St} (hW : WW ρ) (hV : VR τ ρ) {x1 x2 x3 x4 : Int} {Q : Int → St → Prop} (hno : ¬ (isItm ρ x1 x2 x3 ∧ 0 ≤ x4 ∧ x4 ≤ 2) → Q (-2) τ) (h01 : isItm ρ x1 x2 x3 → (x4 = 0 ∨ x4 = 1) → ∀ τ1, Q (cntL (okC4 ρ x4) (cI ρ (itN ρ x1 x2 x3))) τ1) (h2 : isItm ρ x1 x2 x3 → x4 = 2 → ∀ τ1, Q (cntL (arC ρ ((itN ρ x1 x2 x3 : Nat) : Int)) (PL ρ (12 * spN (LL ρ)))) τ1) : wp_X12_cases x1 x2 x3 x4 τ Q := by
  have hg := hW.2.2.1
  have h80 := hW.2.2.2.2.1
  have hL : LL ρ < 9 := by have := hW.2.2.2.2.2.1; unfold LL; omega
  unfold wp_X12_cases
  refine r_isItem hV.2.2.2.2.2.1 (fun h => ⟨fun _ => hno (fun w => h w.1), fun w => absurd rfl w⟩) (fun h => ⟨fun w => absurd w (by decide), fun _ => r_in ?_⟩)
  by_cases h4 : 0 ≤ x4 ∧ x4 ≤ 2
  · rw [if_pos h4]
    refine ⟨fun _ => r_looks hW hV (fun τ1 hA => ?_), fun w => absurd (by decide) w⟩
    have e : itN ρ x1 x2 x3 = 12 * spA (LL ρ) x2.toNat x3.toNat + x1.toNat := rfl
    have hij : x2.toNat < x3.toNat ∧ x3.toNat ≤ LL ρ := ⟨by have := h.2; omega, by have := h.2; unfold LL; omega⟩
    have q := sp_a (L := LL ρ) hL hij
    have one : (x4 = 0 ∨ x4 = 1) → wp_X12_cases_b61 Q x4 x3 x2 x1 τ1 := by
      intro h01'
      unfold wp_X12_cases_b61 wp_X12_casesOf
      have hy := h01 h h01' τ1
      rw [e] at hy
      have := r_co6 hg hL h80 hA (x := x4) q.1 (a := x1.toNat) (by have := h.1; omega) hy (ρ 0 4).toNat 0 bigN (by have := hg.1; omega) (by have := hg.2.1; unfold bigN; omega) (by show (0 : Int) ≤ _; omega)
      rw [q.2.1, q.2.2, show ((x1.toNat : Nat) : Int) = x1 by have := h.1; omega, show ((x2.toNat : Nat) : Int) = x2 by have := h.2; omega, show ((x3.toNat : Nat) : Int) = x3 by have := h.2; omega] at this
      exact this
    refine ⟨fun n2 => ⟨fun n1 => ?_, fun n1 => ?_⟩, fun n2 => ?_⟩
    · have e0 : x4 = 0 := by omega
      have := one (Or.inl e0)
      rw [e0] at this; exact this
    · have e0 : x4 = 1 := by omega
      have := one (Or.inr e0)
      rw [e0] at this; exact this
    · unfold wp_X12_casesWith
      have hy := h2 h (by omega) τ1
      rw [around_eq hg hL h80 h] at hy
      exact r_cw6 hg hL h80 hA h hy (ρ 0 4).toNat 0 bigN (by have := hg.1; omega) (by have := hg.2.1; unfold bigN; omega) (by show (0 : Int) ≤ 0; omega) (by show (0 : Int) ≤ _; omega)
  · rw [if_neg h4]
    exact ⟨fun w => absurd rfl w, fun _ => hno (fun w => h4 w.2)⟩
section OPS
variable {Cc : Bool → St → St → Prop}
theorem s_cases (hC : CcL Cc) (hB : CcB Cc) : Step_cases (Inv Cc) := by
  rintro b σ τ ⟨ρ, hW, hVC, hVR, hc⟩ x1 x2 x3 x4 c1 c2 c3 c4
  have hk := hC.kl hVC hc
  refine mf_X11_cases (Q := fun r σ1 => (σ1 = σ ∨ (Bt ρ σ1 ∧ (Fr S_X0_build σ σ1 ∨ (σ1 36 7 = 1 ∧ Lw ρ σ1)))) ∧ ((¬ (isItm ρ x1 x2 x3 ∧ 0 ≤ x4 ∧ x4 ≤ 2) ∧ r = -2) ∨ (isItm ρ x1 x2 x3 ∧ (x4 = 0 ∨ x4 = 1) ∧ r = cntL (okC4 ρ x4) (cI ρ (itN ρ x1 x2 x3))) ∨ (isItm ρ x1 x2 x3 ∧ x4 = 2 ∧ r = cntL (arC ρ ((itN ρ x1 x2 x3 : Nat) : Int)) (PL ρ (12 * spN (LL ρ)))))) (fun r σ1 h f => ?_) Fr.rf (c_cases hW hk (fun h σ1 o => ⟨o.imp id (fun w => ⟨w.1, Or.inl w.2⟩), Or.inl ⟨h, rfl⟩⟩) (fun h h4 σ1 hB o => ⟨Or.inr ⟨hB, o⟩, Or.inr (Or.inl ⟨h, h4, rfl⟩)⟩) (fun h h4 σ1 hB o => ⟨Or.inr ⟨hB, Or.inr o⟩, Or.inr (Or.inr ⟨h, h4, rfl⟩)⟩))
  refine mf_X12_cases (Q := fun r _ => (¬ (isItm ρ x1 x2 x3 ∧ 0 ≤ x4 ∧ x4 ≤ 2) ∧ r = -2) ∨ (isItm ρ x1 x2 x3 ∧ (x4 = 0 ∨ x4 = 1) ∧ r = cntL (okC4 ρ x4) (cI ρ (itN ρ x1 x2 x3))) ∨ (isItm ρ x1 x2 x3 ∧ x4 = 2 ∧ r = cntL (arC ρ ((itN ρ x1 x2 x3 : Nat) : Int)) (PL ρ (12 * spN (LL ρ))))) (fun r1 τ1 h1 f1 => ?_) Fr.rf (r_cases hW hVR (fun h => Or.inl ⟨h, rfl⟩) (fun h h4 τ1 => Or.inr (Or.inl ⟨h, h4, rfl⟩)) (fun h h4 τ1 => Or.inr (Or.inr ⟨h, h4, rfl⟩)))
  refine ⟨?_, ρ, hW, VC.frB f (by decide) hVC, VR.frB f1 (by decide) hVR, ?_⟩
  · rcases h.2 with ⟨g0, rfl⟩ | ⟨g0, g1, rfl⟩ | ⟨g0, g1, rfl⟩ <;> rcases h1 with ⟨k0, rfl⟩ | ⟨k0, k1, rfl⟩ | ⟨k0, k1, rfl⟩
    · rfl
    · exact absurd ⟨k0, by omega⟩ g0
    · exact absurd ⟨k0, by omega⟩ g0
    · exact absurd ⟨g0, by omega⟩ k0
    · rfl
    · omega
    · exact absurd ⟨g0, by omega⟩ k0
    · omega
    · rfl
  · rcases h.1 with e | ⟨e1, e2 | e2⟩
    · rw [e]; exact hc
    · exact hB b σ σ1 ρ hc e1 (Fr.rf.tr e2 (mkS_sub (by decide) (by decide)))
    · exact hC.2 b σ σ1 ρ hc e1 e2 f
end OPS
