/-! how many items have trees -/
noncomputable def nA (ρ : St) (i j : Nat) : Nat → Int := sumN (fun a => ix (hT ρ (a : Int) (i : Int) (j : Int)))
noncomputable def nJ (ρ : St) (i : Nat) : Nat → Int := sumN (fun t => nA ρ i (i + 1 + t) 12)
noncomputable def nI2 (ρ : St) : Nat → Int := sumN (fun i => nJ ρ i (LL ρ - i))
noncomputable def nQ (ρ : St) : Nat → Int := sumN (fun q => ix (hPt ρ ((q : Nat) : Int)))
theorem nQ_eq {ρ : St} (hL : LL ρ < 9) : nQ ρ (12 * spN (LL ρ)) = nI2 ρ (LL ρ) := by
  unfold nQ nI2 nJ
  rw [sumN_12, ← span_sum hL (fun i j => nA ρ i j 12)]
  refine sumN_congr _ (fun s hs => ?_)
  unfold nA
  refine sumN_congr _ (fun a ha => ix_e (hPt_it ha))
theorem nA_r {ρ : St} {i j : Nat} : ∀ n : Nat, 0 ≤ nA ρ i j n ∧ nA ρ i j n ≤ n
  | 0 => by unfold nA sumN; omega
  | n + 1 => by
    have h := nA_r (ρ := ρ) (i := i) (j := j) n
    have h2 := ix_r (hT ρ (n : Int) (i : Int) (j : Int))
    have e : nA ρ i j (n + 1) = nA ρ i j n + ix (hT ρ (n : Int) (i : Int) (j : Int)) := rfl
    omega
theorem nJ_r {ρ : St} {i : Nat} : ∀ n : Nat, 0 ≤ nJ ρ i n ∧ nJ ρ i n ≤ 12 * n
  | 0 => by unfold nJ sumN; omega
  | n + 1 => by
    have h := nJ_r (ρ := ρ) (i := i) n
    have h2 := nA_r (ρ := ρ) (i := i) (j := i + 1 + n) 12
    have e : nJ ρ i (n + 1) = nJ ρ i n + nA ρ i (i + 1 + n) 12 := rfl
    omega
theorem nI2_r {ρ : St} (hL : LL ρ < 9) : ∀ n : Nat, 0 ≤ nI2 ρ n ∧ nI2 ρ n ≤ 108 * n
  | 0 => by unfold nI2 sumN; omega
  | n + 1 => by
    have h := nI2_r hL n
    have h2 := nJ_r (ρ := ρ) (i := n) (LL ρ - n)
    have e : nI2 ρ (n + 1) = nI2 ρ n + nJ ρ n (LL ρ - n) := rfl
    omega
theorem nQ_r {ρ : St} : ∀ n : Nat, 0 ≤ nQ ρ n ∧ nQ ρ n ≤ n
  | 0 => by unfold nQ sumN; omega
  | n + 1 => by
    have h := nQ_r (ρ := ρ) n
    have h2 := ix_r (hPt ρ ((n : Nat) : Int))
    have e : nQ ρ (n + 1) = nQ ρ n + ix (hPt ρ ((n : Nat) : Int)) := rfl
    omega
theorem c_iwt {ρ σ : St} (hg : Wg ρ) (hL : LL ρ < 9) (hB : Bt ρ σ) (hw : Lw ρ σ) {Q : Int → St → Prop} (hq : Q (nQ ρ (12 * spN (LL ρ))) σ) : ∀ (d q : Nat) (n : Nat), q + d = 12 * spN (LL ρ) → d < n → wp_X1_itemsWithTrees_l8 Q n (nQ ρ q) (q : Int) σ := by
  have h3 := sp_3 _ hL
  have e3 : σ 24 3 = spN (LL ρ) := hB.1.2.1.2.1
  intro d
  induction d with
  | zero =>
    intro q n hd hn
    obtain ⟨n, rfl⟩ := suc_n hn
    unfold wp_X1_itemsWithTrees_l8 wp_X0_itemCount
    rw [e3, w32_of (x := (spN (LL ρ) : Int) * 12) (by omega) (by omega)]
    refine ⟨fun _ => ?_, fun w => absurd (by omega) w⟩
    rw [show q = 12 * spN (LL ρ) by omega]; exact hq
  | succ d ih =>
    intro q n hd hn
    obtain ⟨n, rfl⟩ := suc_n hn
    have hr := nQ_r (ρ := ρ) q
    have st : nQ ρ (q + 1) = nQ ρ q + ix (hPt ρ ((q : Nat) : Int)) := rfl
    unfold wp_X1_itemsWithTrees_l8 wp_X0_itemCount wp_X1_itemsWithTrees_b30
    rw [e3, w32_of (x := (spN (LL ρ) : Int) * 12) (by omega) (by omega)]
    refine ⟨fun w => absurd w (by omega), fun _ => c_hasI hg hL hw (by omega) (fun hn => ⟨fun _ v ev => ?_, fun w => absurd rfl w⟩) (fun hy => ⟨fun w => absurd w (by decide), fun _ v ev v2 ev2 => ?_⟩)⟩
    · rw [ev, w32_of (by omega) (by omega), show (q : Int) + 1 = ((q + 1 : Nat) : Int) by omega]
      have := ih (q + 1) n (by omega) (by omega)
      rw [st, ix_n hn, Int.add_zero] at this
      exact this
    · rw [ev2, ev, w32_of (x := nQ ρ q + 1) (by omega) (by omega), w32_of (by omega) (by omega), show (q : Int) + 1 = ((q + 1 : Nat) : Int) by omega]
      have := ih (q + 1) n (by omega) (by omega)
      rw [st, ix_y hy] at this
      exact this
theorem r_im31 {ρ τ : St} (hL : LL ρ < 9) (h80 : 0 ≤ ρ 0 8) (ha : LA ρ τ) {i j : Nat} (hi : i < j ∧ j ≤ LL ρ) {A : Int} (hA : 0 ≤ A ∧ A ≤ 100000) {Q : Int → St → Prop} {K8 : Int → Int → St → Prop} {K : Int → Int → Int → St → Prop} (hk : K (A + nA ρ i j 12) i ((j + 1 : Nat) : Int) τ) : ∀ (d a : Nat) (n : Nat), a + d = 12 → d < n → wp_X12_itemsMany_l31 Q K8 K n (A + nA ρ i j a) i j (a : Int) τ := by
  have hs8 : ρ 0 8 ≤ 8 := by unfold LL at hL; omega
  have eL : ((LL ρ : Nat) : Int) = ρ 0 8 := by unfold LL; omega
  intro d
  induction d with
  | zero =>
    intro a n hd hn
    obtain ⟨n, rfl⟩ := suc_n hn
    unfold wp_X12_itemsMany_l31
    refine ⟨fun _ v ev => ?_, fun w => absurd (by omega) w⟩
    rw [ev, w32_of (by omega) (by omega), show (j : Int) + 1 = ((j + 1 : Nat) : Int) by omega, show a = 12 by omega]; exact hk
  | succ d ih =>
    intro a n hd hn
    obtain ⟨n, rfl⟩ := suc_n hn
    have hr := nA_r (ρ := ρ) (i := i) (j := j) a
    have st : nA ρ i j (a + 1) = nA ρ i j a + ix (hT ρ (a : Int) (i : Int) (j : Int)) := rfl
    unfold wp_X12_itemsMany_l31 wp_X12_itemsMany_b55
    refine ⟨fun w => absurd w (by omega), fun _ => r_has2 ha hs8 ⟨by omega, by omega, by omega, by omega⟩ (fun hn => ⟨fun _ v ev v2 ev2 => ?_, fun w => absurd rfl w⟩) (fun hy => ⟨fun w => absurd w (by decide), fun _ v ev v2 ev2 => ?_⟩)⟩
    · rw [ev, ev2, w32_of (x := A + nA ρ i j a + 0) (by omega) (by omega), w32_of (by omega) (by omega), show (a : Int) + 1 = ((a + 1 : Nat) : Int) by omega]
      have := ih (a + 1) n (by omega) (by omega)
      rw [st, ix_n hn, ← Int.add_assoc] at this
      exact this
    · rw [ev, ev2, w32_of (x := A + nA ρ i j a + 1) (by omega) (by omega), w32_of (by omega) (by omega), show (a : Int) + 1 = ((a + 1 : Nat) : Int) by omega]
      have := ih (a + 1) n (by omega) (by omega)
      rw [st, ix_y hy, ← Int.add_assoc] at this
      exact this
theorem r_im20 {ρ τ : St} (hL : LL ρ < 9) (h80 : 0 ≤ ρ 0 8) (ha : LA ρ τ) {i : Nat} (hi : i < LL ρ) {A : Int} (hA : 0 ≤ A ∧ A ≤ 50000) {Q : Int → St → Prop} {K : Int → Int → St → Prop} (hk : K (A + nJ ρ i (LL ρ - i)) ((i + 1 : Nat) : Int) τ) : ∀ (d t : Nat) (n : Nat), i + t + d = LL ρ → d < n → wp_X12_itemsMany_l20 Q K n (A + nJ ρ i t) i ((i + 1 + t : Nat) : Int) τ := by
  have eL : ((LL ρ : Nat) : Int) = ρ 0 8 := by unfold LL; omega
  intro d
  induction d with
  | zero =>
    intro t n hd hn
    obtain ⟨n, rfl⟩ := suc_n hn
    unfold wp_X12_itemsMany_l20
    rw [ha.1.2.2.1]
    refine ⟨fun _ v ev => ?_, fun w => absurd (by omega) w⟩
    rw [ev, w32_of (by omega) (by omega), show (i : Int) + 1 = ((i + 1 : Nat) : Int) by omega, show t = LL ρ - i by omega]; exact hk
  | succ d ih =>
    intro t n hd hn
    obtain ⟨n, rfl⟩ := suc_n hn
    have hr := nJ_r (ρ := ρ) (i := i) t
    unfold wp_X12_itemsMany_l20
    rw [ha.1.2.2.1]
    refine ⟨fun w => absurd w (by omega), fun _ => ?_⟩
    have h := r_im31 hL h80 ha (i := i) (j := i + 1 + t) (by omega) (A := A + nJ ρ i t) (by omega) (Q := Q) (K8 := K) (K := wp_X12_itemsMany_l20 Q K n) (by
      have := ih (t + 1) n (by omega) (by omega)
      rw [show A + nJ ρ i (t + 1) = A + nJ ρ i t + nA ρ i (i + 1 + t) 12 from (Int.add_assoc _ _ _).symm] at this
      exact this) 12 0 bigN (by omega) (by unfold bigN; omega)
    rw [show nA ρ i (i + 1 + t) 0 = 0 from rfl, Int.add_zero] at h
    exact h
theorem r_im8 {ρ τ : St} (hL : LL ρ < 9) (h80 : 0 ≤ ρ 0 8) (ha : LA ρ τ) {Q : Int → St → Prop} (hq : Q (nI2 ρ (LL ρ)) τ) : ∀ (d i : Nat) (n : Nat), i + d = LL ρ → d < n → wp_X12_itemsMany_l8 Q n (nI2 ρ i) (i : Int) τ := by
  have eL : ((LL ρ : Nat) : Int) = ρ 0 8 := by unfold LL; omega
  intro d
  induction d with
  | zero =>
    intro i n hd hn
    obtain ⟨n, rfl⟩ := suc_n hn
    unfold wp_X12_itemsMany_l8
    rw [ha.1.2.2.1]
    refine ⟨fun _ => ?_, fun w => absurd (by omega) w⟩
    rw [show i = LL ρ by omega]; exact hq
  | succ d ih =>
    intro i n hd hn
    obtain ⟨n, rfl⟩ := suc_n hn
    have hr := nI2_r (ρ := ρ) hL i
    unfold wp_X12_itemsMany_l8
    rw [ha.1.2.2.1]
    refine ⟨fun w => absurd w (by omega), fun _ v ev => ?_⟩
    rw [ev, w32_of (by omega) (by omega), show (i : Int) + 1 = ((i + 1 + 0 : Nat) : Int) by omega]
    have h := r_im20 hL h80 ha (i := i) (by omega) (A := nI2 ρ i) (by omega) (Q := Q) (K := wp_X12_itemsMany_l8 Q n) (ih (i + 1) n (by omega) (by omega)) (LL ρ - i) 0 bigN (by omega) (by unfold bigN; omega)
    rw [show nJ ρ i 0 = 0 from rfl, Int.add_zero] at h
    exact h
theorem r_itemsMany {ρ τ : St} (hW : WW ρ) (hV : VR τ ρ) {Q : Int → St → Prop} (hq : ∀ τ1, LA ρ τ1 → Q (nI2 ρ (LL ρ)) τ1) : wp_X12_itemsMany τ Q := by
  have hL : LL ρ < 9 := by have := hW.2.2.2.2.2.1; unfold LL; omega
  unfold wp_X12_itemsMany
  exact r_looks hW hV (fun τ1 hA => r_im8 hL hW.2.2.2.2.1 hA (hq τ1 hA) (LL ρ) 0 bigN (by omega) (by unfold bigN; omega))
theorem c_itemsWithTrees {ρ σ : St} (hW : WW ρ) (hk : KL ρ σ) {Q : Int → St → Prop} (hq : ∀ σ1, Bt ρ σ1 → σ1 36 7 = 1 → Lw ρ σ1 → Q (nI2 ρ (LL ρ)) σ1) : wp_X1_itemsWithTrees σ Q := by
  have hL : LL ρ < 9 := by have := hW.2.2.2.2.2.1; unfold LL; omega
  have h3 := sp_3 _ hL
  unfold wp_X1_itemsWithTrees
  refine c_prepare hW hk.1 hk.2.1 hk.2.2.1 hk.2.2.2 (fun σ2 b1 b2 b3 => ?_)
  have hy := hq σ2 b1 b2 b3
  rw [← nQ_eq hL] at hy
  exact c_iwt hW.2.2.1 hL b1 b3 hy (12 * spN (LL ρ)) 0 bigN (by omega) (by unfold bigN; omega)
