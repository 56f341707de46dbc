/-! sums: what a rule brings; the reference's -/
theorem rw_sur {ρ : St} {s x : Nat} : ∀ n, x < rwN ρ s n → ∃ b, b < n ∧ hsB ρ s b = true ∧ rwN ρ s b = x
  | 0, h => by have : rwN ρ s 0 = 0 := rfl; omega
  | n + 1, h => by
    have e : rwN ρ s (n + 1) = rwN ρ s n + (if hsB ρ s n then 1 else 0) := rfl
    by_cases hx : x < rwN ρ s n
    · obtain ⟨b, b1, b2⟩ := rw_sur n hx
      exact ⟨b, by omega, b2⟩
    · by_cases hh : hsB ρ s n = true
      · rw [if_pos hh] at e; exact ⟨n, by omega, hh, by omega⟩
      · rw [if_neg hh] at e; omega
def UnK (ρ τ : St) (s : Nat) : Prop := ∀ b, b < 12 → hsB ρ s b = true → τ 25 (rwN ρ s b) = (b : Int)
theorem r_rowOf {ρ τ : St} {s a : Nat} (hU : UnK ρ τ s) (ha : a < 12) (hh : hsB ρ s a = true) {Q : Int → St → Prop} (hq : Q ((rwN ρ s a : Nat) : Int) τ) : wp_X12_rowOf (a : Int) τ Q := by
  have hr := rw_12 (ρ := ρ) (s := s) (a := a)
  have lp : ∀ (d x : Nat) (n : Nat), x + d = rwN ρ s a → d < n → wp_X12_rowOf_l2 Q n (a : Int) (x : Int) τ := by
    intro d
    induction d with
    | zero =>
      intro x n hd hn
      obtain ⟨n, rfl⟩ := suc_n hn
      unfold wp_X12_rowOf_l2
      rw [Int.toNat_natCast, show x = rwN ρ s a by omega, hU a ha hh]
      exact ⟨by omega, fun _ => hq, fun w => absurd rfl w⟩
    | succ d ih =>
      intro x n hd hn
      obtain ⟨n, rfl⟩ := suc_n hn
      obtain ⟨b, b1, b2, b3⟩ := rw_sur (ρ := ρ) (s := s) (x := x) a (by omega)
      unfold wp_X12_rowOf_l2
      have e := hU b (by omega) b2
      rw [b3] at e
      rw [Int.toNat_natCast, e]
      refine ⟨by omega, fun w => absurd w (by omega), fun _ v ev => ?_⟩
      rw [ev, w32_of (by omega) (by omega)]
      exact ih (x + 1) n (by omega) (by omega)
  unfold wp_X12_rowOf
  exact lp (rwN ρ s a) 0 bigN (by omega) (by unfold bigN; omega)
/-- what the reference knows of a part -/
def ptR (ρ : St) (R : RsT) (τ : St) (p : Int) (i j : Nat) : Prop := p < 12 → hT ρ p i j → τ 23 (i * 8 + j - 1) = (if R.1 (spA (LL ρ) i j) then 1 else 0) ∧ mR (τ 22 (it p i j).toNat) ∧ (R.1 (spA (LL ρ) i j) = false → τ 22 (it p i j).toNat = R.2 (itN ρ p i j))
theorem r_failsPart {ρ τ : St} {R : RsT} {p : Int} (hp : isPart p) {i j : Nat} (hi : i < j ∧ j ≤ 8) (hk : ptR ρ R τ p i j) (ht : hT ρ p i j) {Q : Int → St → Prop} (hno : ¬ (p < 100 ∧ R.1 (spA (LL ρ) i j) = true) → Q 0 τ) (hyes : (p < 100 ∧ R.1 (spA (LL ρ) i j) = true) → Q 1 τ) : wp_X12_failsPart p (i : Int) (j : Int) τ Q := by
  unfold isPart at hp
  unfold wp_X12_failsPart wp_X12_failsPart_b23 wp_X12_span
  refine ⟨fun w => hno (fun z => by omega), fun w => ?_⟩
  have e := (hk (by omega) ht).1
  rw [w32_of (x := (i : Int) * 8) (by omega) (by omega), w32_of (x := (i : Int) * 8 + (j : Int)) (by omega) (by omega), w32_of (by omega) (by omega)]
  show (0 ≤ (i : Int) * 8 + (j : Int) - 1 ∧ (i : Int) * 8 + (j : Int) - 1 < 64) ∧ ((τ 23 ((i : Int) * 8 + (j : Int) - 1).toNat = 0) → Q 0 τ) ∧ (¬ (τ 23 ((i : Int) * 8 + (j : Int) - 1).toNat = 0) → Q 1 τ)
  rw [show ((i : Int) * 8 + (j : Int) - 1).toNat = i * 8 + j - 1 by omega, e]
  refine ⟨by omega, fun z => hno (fun y => ?_), fun z => hyes ⟨by omega, ?_⟩⟩
  · rw [y.2, if_pos rfl] at z; exact absurd z (by decide)
  · cases y : R.1 (spA (LL ρ) i j) with
    | true => rfl
    | false => rw [y] at z; exact absurd rfl z
theorem r_sumPart {ρ τ : St} {R : RsT} {p : Int} (hp : isPart p) {i j : Nat} (hi : i < j ∧ j ≤ 8) (hk : ptR ρ R τ p i j) (ht : hT ρ p i j) {Q : Int → St → Prop} (hq : ∀ v, mR v → (¬ (p < 100 ∧ R.1 (spA (LL ρ) i j) = true) → pv ρ p i j ≠ -2 → v = ptS R (pv ρ p i j)) → Q v τ) : wp_X12_sumPart p (i : Int) (j : Int) τ Q := by
  unfold isPart at hp
  unfold wp_X12_sumPart
  refine ⟨fun w => r_item (by omega) (by omega) ⟨it_r (by omega) (by omega), ?_⟩, fun w => hq 1 (by unfold mR; omega) (fun _ n2 => ?_)⟩
  · obtain ⟨-, k2, k3⟩ := hk (by omega) ht
    refine hq _ k2 (fun hb _ => ?_)
    have e := pv_itN (ρ := ρ) (p := p) (i := i) (j := j) (by omega)
    unfold ptS
    rw [e, if_neg (by omega), Int.toNat_natCast]
    cases y : R.1 (spA (LL ρ) i j) with
    | true => exact absurd ⟨w, y⟩ hb
    | false => exact k3 y
  · unfold ptS
    by_cases hcc : j = i + 1 ∧ ρ 11 i = p - 100
    · rw [pv_yes (by omega) hcc, if_pos (by decide)]
    · exact absurd (pv_no (by omega) hcc) n2
theorem bad_pv {ρ : St} {R : RsT} {p : Int} (hp : isPart p) {i j : Nat} : (0 ≤ pv ρ p i j ∧ R.1 ((pv ρ p i j).toNat / 12) = true) ↔ (p < 100 ∧ R.1 (spA (LL ρ) i j) = true) := by
  unfold isPart at hp
  by_cases hl : p < 100
  · have e : (pv ρ p i j).toNat / 12 = spA (LL ρ) i j := by rw [pv_lab hl]; omega
    rw [e]
    exact ⟨fun z => ⟨hl, z.2⟩, fun z => ⟨by rw [pv_lab hl]; omega, z.2⟩⟩
  · refine ⟨fun z => ?_, fun z => absurd z.1 hl⟩
    exfalso
    by_cases hcc : j = i + 1 ∧ ρ 11 i = p - 100
    · rw [pv_yes (by omega) hcc] at z; omega
    · rw [pv_no (by omega) hcc] at z; omega
/-- a row of the reference's matrix, before the remainder is taken -/
def rowB (τ : St) (i : Nat) (B : Int) : Prop := ∀ j, j < 13 → 0 ≤ τ 24 (13 * i + j) ∧ τ 24 (13 * i + j) ≤ B
def rowE (ρ : St) (s : Nat) (R : RsT) (τ : St) (i a : Nat) (l : List Cs) : Prop := ∀ j, j < 13 → τ 24 (13 * i + j) % 9973 = ent ρ s R a j l
theorem rowB.put {τ : St} {i j : Nat} {B v : Int} (h : rowB τ i B) (hv : 0 ≤ v ∧ v ≤ B) : rowB (upS τ 24 (13 * i + j) v) i B := by
  intro x hx
  by_cases e : 13 * i + x = 13 * i + j
  · rw [e, upS_s]; exact hv
  · rw [upS_j e]; exact h x hx
theorem rowE.put {ρ : St} {s : Nat} {R : RsT} {τ : St} {i a : Nat} {l l2 : List Cs} (h : rowE ρ s R τ i a l) {j : Nat} {v : Int} (hv : v % 9973 = ent ρ s R a j l2) (ho : ∀ x, x < 13 → x ≠ j → ent ρ s R a x l2 = ent ρ s R a x l) : rowE ρ s R (upS τ 24 (13 * i + j) v) i a l2 := by
  intro x hx
  by_cases e : x = j
  · rw [e, upS_s]; exact hv
  · rw [upS_j (by omega), h x hx, ho x hx e]
theorem r_br125 {ρ : St} (hg : Wg ρ) (hL : LL ρ < 9) (h80 : 0 ≤ ρ 0 8) {R : RsT} {s a : Nat} {τ0 : St} (hA : LA ρ τ0) {r : Nat} (hr : (r : Int) < ρ 0 4) (h5 : ρ 5 r ≠ -1) {i j w : Nat} (hi : i < j ∧ j ≤ LL ρ) (hw : w < 12) (hP : ∀ m : Nat, i < m → m < j → ptR ρ R τ0 (ρ 4 r) i m ∧ ptR ρ R τ0 (ρ 5 r) m j) {B : Int} (hB : 0 ≤ B ∧ B ≤ 4000000) {l : List Cs} {Q : Int → St → Prop} (hno : ∀ τ1, (∃ k ∈ cC ρ i j r, fullC ρ k ∧ ¬ goC k ∧ badK R k) → (∀ k, k ≠ 24 → τ1 k = τ0 k) → (∀ k, k / 13 ≠ w → τ1 24 k = τ0 24 k) → rowB τ1 w (B + 80000) → Q 0 τ1) (hyes : ∀ τ1, (∀ k ∈ cC ρ i j r, fullC ρ k → ¬ goC k → ¬ badK R k) → (∀ k, k ≠ 24 → τ1 k = τ0 k) → (∀ k, k / 13 ≠ w → τ1 24 k = τ0 24 k) → rowB τ1 w (B + 80000) → (rowE ρ s R τ0 w a l → rowE ρ s R τ1 w a (l ++ cC ρ i j r)) → Q 1 τ1) : ∀ (e t : Nat) (x5 : Int) (τ : St) (n : Nat), i + 1 + t + e = j → e < n → (∀ k, k ≠ 24 → τ k = τ0 k) → (∀ k, k / 13 ≠ w → τ 24 k = τ0 24 k) → rowB τ w (B + 10000 * (t : Int)) → ((x5 = 1 ∧ (∀ k ∈ cB ρ r i j t, fullC ρ k → ¬ goC k → ¬ badK R k) ∧ (rowE ρ s R τ0 w a l → rowE ρ s R τ w a (l ++ cB ρ r i j t))) ∨ (x5 = 0 ∧ ∃ k ∈ cB ρ r i j t, fullC ρ k ∧ ¬ goC k ∧ badK R k)) → wp_X12_brings_l125 Q n (r : Int) (i : Int) (j : Int) ((13 * w : Nat) : Int) x5 ((i + 1 + t : Nat) : Int) τ := by
  have h40 := hg.2.1
  have eL : ((LL ρ : Nat) : Int) = ρ 0 8 := by unfold LL; omega
  have hs8 : ρ 0 8 ≤ 8 := by unfold LL at hL; omega
  obtain ⟨hh, hp1, hp2, hpr, -⟩ := hg.2.2 r hr
  have hp2 : isPart (ρ 5 r) := hp2.resolve_left h5
  have eC : cC ρ i j r = cB ρ r i j (j - i - 1) := by unfold cC; rw [if_neg h5]
  intro e
  induction e with
  | zero =>
    intro t x5 τ n ht hn hE hO hRB hx
    obtain ⟨n, rfl⟩ := suc_n hn
    unfold wp_X12_brings_l125
    have et : t = j - i - 1 := by omega
    rw [et, ← eC] at hx
    have hRB2 : rowB τ w (B + 80000) := fun y hy => by have := hRB y hy; omega
    refine ⟨fun _ => ?_, fun z => absurd (by omega) z⟩
    rcases hx with ⟨x1, x2, x3⟩ | ⟨x1, x2⟩
    · rw [x1]; exact ⟨Or.inr rfl, hyes τ x2 hE hO hRB2 x3⟩
    · rw [x1]; exact ⟨Or.inl rfl, hno τ x2 hE hO hRB2⟩
  | succ e ih =>
    intro t x5 τ n ht hn hE hO hRB hx
    obtain ⟨n, rfl⟩ := suc_n hn
    have hA1 : LA ρ τ := by
      unfold LA RG at *
      rw [hE 0 (by decide), hE 1 (by decide), hE 2 (by decide), hE 3 (by decide), hE 4 (by decide), hE 14 (by decide)]
      refine ⟨hA.1, fun a k l h1 h2 h3 h4 h5 => ?_⟩
      have := hA.2 a k l h1 h2 h3 h4 h5
      unfold rl at *
      rw [hE 15 (by decide)]; exact this
    obtain ⟨k1, k2, k3, k4⟩ := hA1.1.2.2.2.1 r hr
    have hPm := hP (i + 1 + t) (by omega) (by omega)
    have P1 : ptR ρ R τ (ρ 4 r) i (i + 1 + t) := by unfold ptR; rw [hE 22 (by decide), hE 23 (by decide)]; exact hPm.1
    have P2 : ptR ρ R τ (ρ 5 r) (i + 1 + t) j := by unfold ptR; rw [hE 22 (by decide), hE 23 (by decide)]; exact hPm.2
    have cBs : cB ρ r i j (t + 1) = cB ρ r i j t ++ cOne r ((i + 1 + t : Nat) : Int) (pv ρ (ρ 4 r) i (i + 1 + t)) (pv ρ (ρ 5 r) (i + 1 + t) j) := rfl
    have e1 := hPt_pv hg hL hp1 (i := i) (j := i + 1 + t) (by omega)
    have e2 := hPt_pv hg hL hp2 (i := i + 1 + t) (j := j) (by omega)
    have nx : ∀ y τ2, (∀ k, k ≠ 24 → τ2 k = τ0 k) → (∀ k, k / 13 ≠ w → τ2 24 k = τ0 24 k) → rowB τ2 w (B + 10000 * ((t + 1 : Nat) : Int)) → ((y = 1 ∧ (∀ k ∈ cB ρ r i j (t + 1), fullC ρ k → ¬ goC k → ¬ badK R k) ∧ (rowE ρ s R τ0 w a l → rowE ρ s R τ2 w a (l ++ cB ρ r i j (t + 1)))) ∨ (y = 0 ∧ ∃ k ∈ cB ρ r i j (t + 1), fullC ρ k ∧ ¬ goC k ∧ badK R k)) → wp_X12_brings_b266 Q (wp_X12_brings_l125 Q n) (r : Int) (i : Int) (j : Int) ((13 * w : Nat) : Int) y ((i + 1 + t : Nat) : Int) τ2 := by
      intro y τ2 g1 g2 g3 g4
      unfold wp_X12_brings_b266
      intro v ev
      rw [ev, w32_of (by omega) (by omega), show ((i + 1 + t : Nat) : Int) + 1 = ((i + 1 + (t + 1) : Nat) : Int) by omega]
      exact ih (t + 1) y τ2 n (by omega) (by omega) g1 g2 g3 g4
    have skip : ¬ (hT ρ (ρ 4 r) i ((i + 1 + t : Nat) : Int) ∧ hT ρ (ρ 5 r) ((i + 1 + t : Nat) : Int) j) → wp_X12_brings_b266 Q (wp_X12_brings_l125 Q n) (r : Int) (i : Int) (j : Int) ((13 * w : Nat) : Int) x5 ((i + 1 + t : Nat) : Int) τ := by
      intro h
      have nf : ∀ k ∈ cOne r ((i + 1 + t : Nat) : Int) (pv ρ (ρ 4 r) i (i + 1 + t)) (pv ρ (ρ 5 r) (i + 1 + t) j), ¬ fullC ρ k := by
        intro k hk hf
        obtain ⟨n1, n2, rfl⟩ := mem_cOne.1 hk
        exact h ⟨e1.1 ⟨n1, hf.1⟩, e2.1 ⟨n2, hf.2⟩⟩
      refine nx x5 τ hE hO (fun y hy => by have := hRB y hy; push_cast; omega) ?_
      rw [cBs]
      rcases hx with ⟨x1, x2, x3⟩ | ⟨x1, k, x2, x3⟩
      · refine Or.inl ⟨x1, fun k hk hf => ?_, fun hE0 => ?_⟩
        · rcases List.mem_append.1 hk with z | z
          · exact x2 k z hf
          · exact absurd hf (nf k z)
        · intro y hy
          rw [x3 hE0 y hy, ← List.append_assoc]
          unfold cOne at nf ⊢
          by_cases z : pv ρ (ρ 4 r) i (i + 1 + t) = -2 ∨ pv ρ (ρ 5 r) (i + 1 + t) j = -2
          · rw [if_pos z, List.append_nil]
          · rw [if_neg z] at nf ⊢
            have nf1 := nf _ (List.mem_singleton.2 rfl)
            exact (ent_same (by unfold fE; rw [ix_n (fun w => nf1 w.1), Int.zero_mul]) (by unfold gE; rw [ix_n (fun w => nf1 w.1), Int.zero_mul])).symm
      · exact Or.inr ⟨x1, k, List.mem_append_left _ x2, x3⟩
    unfold wp_X12_brings_l125
    rw [Int.toNat_natCast, k2]
    refine ⟨fun z => absurd z (by omega), fun _ => ⟨by omega, r_fits2 hg hA1 hs8 hp1 (by omega) (fun h => ⟨fun _ => skip (fun z => h z.1), fun z => absurd rfl z⟩) (fun y1 => ⟨fun z => absurd z (by decide), fun _ => ⟨by omega, ?_⟩⟩)⟩⟩
    rw [k3]
    refine r_fits2 hg hA1 hs8 hp2 (by omega) (fun h => ⟨fun z => absurd rfl z, fun _ => skip (fun z => h z.2)⟩) (fun y2 => ⟨fun _ => ?_, fun z => absurd (by decide) z⟩)
    have f1 := e1.2 y1
    have f2 := e2.2 y2
    have full : fullC ρ ((r : Int), ((i + 1 + t : Nat) : Int), pv ρ (ρ 4 r) i (i + 1 + t), pv ρ (ρ 5 r) (i + 1 + t) j) := ⟨f1.2, f2.2⟩
    have ngo : ¬ goC ((r : Int), ((i + 1 + t : Nat) : Int), pv ρ (ρ 4 r) i (i + 1 + t), pv ρ (ρ 5 r) (i + 1 + t) j) := fun z => by have : ((i + 1 + t : Nat) : Int) = -1 := z.1; omega
    have badI : badK R ((r : Int), ((i + 1 + t : Nat) : Int), pv ρ (ρ 4 r) i (i + 1 + t), pv ρ (ρ 5 r) (i + 1 + t) j) ↔ ((ρ 4 r < 100 ∧ R.1 (spA (LL ρ) i (i + 1 + t)) = true) ∨ (ρ 5 r < 100 ∧ R.1 (spA (LL ρ) (i + 1 + t) j) = true)) := by
      unfold badK
      exact ⟨fun z => by rcases z with z | z; exact Or.inl ((bad_pv hp1).1 z); exact Or.inr ((bad_pv hp2).1 z), fun z => by rcases z with z | z; exact Or.inl ((bad_pv hp1).2 z); exact Or.inr ((bad_pv hp2).2 z)⟩
    have oneE : cOne r ((i + 1 + t : Nat) : Int) (pv ρ (ρ 4 r) i (i + 1 + t)) (pv ρ (ρ 5 r) (i + 1 + t) j) = [((r : Int), ((i + 1 + t : Nat) : Int), pv ρ (ρ 4 r) i (i + 1 + t), pv ρ (ρ 5 r) (i + 1 + t) j)] := by
      unfold cOne; rw [if_neg (fun z => by rcases z with z | z; exact f1.1 z; exact f2.1 z)]
    rw [oneE] at cBs
    have b208 : ∀ y, ((y = 1 ∧ x5 ≠ 0 ∧ ¬ badK R ((r : Int), ((i + 1 + t : Nat) : Int), pv ρ (ρ 4 r) i (i + 1 + t), pv ρ (ρ 5 r) (i + 1 + t) j)) ∨ (y = 0 ∧ (x5 = 0 ∨ badK R ((r : Int), ((i + 1 + t : Nat) : Int), pv ρ (ρ 4 r) i (i + 1 + t), pv ρ (ρ 5 r) (i + 1 + t) j)))) → wp_X12_brings_b208 Q (wp_X12_brings_l125 Q n) (r : Int) (i : Int) (j : Int) ((13 * w : Nat) : Int) ((i + 1 + t : Nat) : Int) y τ := by
      intro y hy
      unfold wp_X12_brings_b208
      have ie : w32 (((13 * w : Nat) : Int) + 12) = ((13 * w + 12 : Nat) : Int) := by rw [w32_of (by omega) (by omega)]; omega
      rw [ie, Int.toNat_natCast, Int.toNat_natCast, k2, k4]
      have hc := hRB 12 (by decide)
      refine ⟨by omega, by omega, by omega, r_sumPart hp1 (by omega) P1 y1 (fun v1 m1 c1 => ⟨by omega, ?_⟩)⟩
      rw [k3]
      refine r_sumPart hp2 (by omega) P2 y2 (fun v2 m2 c2 => ⟨by omega, fun τ2 g2 => ?_⟩)
      have q1 := mR_mul (show mR (ρ 6 r) by unfold mR; omega) m1
      rw [w64_of (x := ρ 6 r * v1) (by omega) (by omega), l_rem_eq q1.1 (by omega) (by decide) (by decide)] at g2
      have q2 := mR_mul (mR_mod (ρ 6 r * v1)) m2
      rw [w64_of (x := ρ 6 r * v1 % 9973 * v2) (by omega) (by omega), l_rem_eq q2.1 (by omega) (by decide) (by decide)] at g2
      have q3 := mR_mod (ρ 6 r * v1 % 9973 * v2)
      unfold mR at q3
      rw [w64_of (by omega) (by omega)] at g2
      rw [g2]
      refine nx y _ (fun k hk => by rw [upS_k hk]; exact hE k hk) (fun k hk => by rw [upS_j (by omega)]; exact hO k hk) (rowB.put (fun x hx => by have := hRB x hx; push_cast; omega) (by push_cast; omega)) ?_
      rcases hy with ⟨y1', y2', y3'⟩ | ⟨y1', y2'⟩
      · rcases hx with ⟨x1, x2, x3⟩ | ⟨x1, -⟩
        · refine Or.inl ⟨y1', fun k hk => ?_, fun hE0 => ?_⟩
          · rw [cBs] at hk
            rcases List.mem_append.1 hk with z | z
            · exact x2 k z
            · rw [List.mem_singleton] at z; subst z; exact fun _ _ => y3'
          · have nb1 : ¬ (ρ 4 r < 100 ∧ R.1 (spA (LL ρ) i (i + 1 + t)) = true) := fun z => y3' (badI.2 (Or.inl z))
            have nb2 : ¬ (ρ 5 r < 100 ∧ R.1 (spA (LL ρ) (i + 1 + t) j) = true) := fun z => y3' (badI.2 (Or.inr z))
            have ev1 := c1 nb1 f1.1
            have ev2 := c2 nb2 f2.1
            rw [cBs, ← List.append_assoc]
            have h0 := x3 hE0
            refine h0.put ?_ (fun x hx hne => ?_)
            · have h12 := h0 12 (by decide)
              rw [ent_app, if_neg (by decide), show gE ρ R ((r : Int), ((i + 1 + t : Nat) : Int), pv ρ (ρ 4 r) i (i + 1 + t), pv ρ (ρ 5 r) (i + 1 + t) j) = ρ 6 r * v1 % 9973 * v2 % 9973 by
                unfold gE prdS
                rw [ix_y ⟨full, ngo⟩, Int.one_mul]
                show ρ 6 ((r : Int)).toNat * ptS R (pv ρ (ρ 4 r) i (i + 1 + t)) % 9973 * ptS R (pv ρ (ρ 5 r) (i + 1 + t) j) % 9973 = _
                rw [Int.toNat_natCast, ev1, ev2]]
              unfold ent at h12
              rw [if_neg (by decide)] at h12
              omega
            · rw [ent_app, if_pos (by omega), show fE ρ s x ((r : Int), ((i + 1 + t : Nat) : Int), pv ρ (ρ 4 r) i (i + 1 + t), pv ρ (ρ 5 r) (i + 1 + t) j) = 0 by unfold fE; rw [ix_n (fun z => ngo z.2.1), Int.zero_mul], Int.sub_zero]
              unfold ent
              rw [if_pos (by omega)]
        · exact absurd x1 y2'
      · refine Or.inr ⟨y1', ?_⟩
        rw [cBs]
        by_cases hb : badK R ((r : Int), ((i + 1 + t : Nat) : Int), pv ρ (ρ 4 r) i (i + 1 + t), pv ρ (ρ 5 r) (i + 1 + t) j)
        · exact ⟨_, List.mem_append_right _ (List.mem_singleton.2 rfl), full, ngo, hb⟩
        · rcases hx with ⟨x1, -⟩ | ⟨-, k, x2, x3⟩
          · rcases y2' with z | z
            · omega
            · exact absurd z hb
          · exact ⟨k, List.mem_append_left _ x2, x3⟩
    unfold wp_X12_brings_b207
    refine ⟨fun z => b208 0 (Or.inr ⟨rfl, Or.inl z⟩), fun z => ⟨by omega, ?_⟩⟩
    rw [k2]
    refine r_failsPart hp1 (by omega) P1 y1 (fun n1 => ⟨fun w => absurd rfl w, fun _ => ⟨by omega, ?_⟩⟩) (fun n1 => ⟨fun _ => b208 0 (Or.inr ⟨rfl, Or.inr (badI.2 (Or.inl n1))⟩), fun w => absurd (by decide) w⟩)
    rw [k3]
    exact r_failsPart hp2 (by omega) P2 y2 (fun n2 => ⟨fun w => absurd rfl w, fun _ => b208 1 (Or.inl ⟨rfl, z, fun w => by rcases badI.1 w with w | w; exact n1 w; exact n2 w⟩)⟩) (fun n2 => ⟨fun _ => b208 0 (Or.inr ⟨rfl, Or.inr (badI.2 (Or.inr n2))⟩), fun w => absurd (by decide) w⟩)
