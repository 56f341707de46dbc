/-! sums: what a rule brings, all of it -/
theorem r_brings {ρ : St} (hg : Wg ρ) (hL : LL ρ < 9) (h80 : 0 ≤ ρ 0 8) {R : RsT} {s a : Nat} {τ0 : St} (hA : LA ρ τ0) {r : Nat} (hr : (r : Int) < ρ 0 4) (h3 : ρ 3 r = (a : Int)) {i j : Nat} (hi : i < j ∧ j ≤ LL ρ) (hs : spA (LL ρ) i j = s) (ha : a < 12) (hh : hsB ρ s a = true) (hU : UnK ρ τ0 s) (hP : ρ 5 r ≠ -1 → ∀ m : Nat, i < m → m < j → ptR ρ R τ0 (ρ 4 r) i m ∧ ptR ρ R τ0 (ρ 5 r) m j) {B : Int} (hB : 0 ≤ B ∧ B ≤ 4000000) (hRB : rowB τ0 (rwN ρ s a) B) {l : List Cs} {Q : Int → St → Prop} (hno : ∀ τ1, (∃ k ∈ cC ρ i j r, fullC ρ k ∧ ¬ goC k ∧ badK R k) → (∀ k, k ≠ 24 → τ1 k = τ0 k) → (∀ k, k / 13 ≠ rwN ρ s a → τ1 24 k = τ0 24 k) → rowB τ1 (rwN ρ s a) (B + 80000) → Q 0 τ1) (hyes : ∀ τ1, (∀ k ∈ cC ρ i j r, fullC ρ k → ¬ goC k → ¬ badK R k) → (∀ k, k ≠ 24 → τ1 k = τ0 k) → (∀ k, k / 13 ≠ rwN ρ s a → τ1 24 k = τ0 24 k) → rowB τ1 (rwN ρ s a) (B + 80000) → (rowE ρ s R τ0 (rwN ρ s a) a l → rowE ρ s R τ1 (rwN ρ s a) a (l ++ cC ρ i j r)) → Q 1 τ1) : wp_X12_brings (r : Int) (i : Int) (j : Int) τ0 Q := by
  have h40 := hg.2.1
  have eL : ((LL ρ : Nat) : Int) = ρ 0 8 := by unfold LL; omega
  have hs8 : ρ 0 8 ≤ 8 := by unfold LL at hL; omega
  have q := sp_a (L := LL ρ) hL hi
  rw [hs] at q
  obtain ⟨hh3, hp1, hp2, hpr, -⟩ := hg.2.2 r hr
  obtain ⟨k1, k2, k3, k4⟩ := hA.1.2.2.2.1 r hr
  have rw12 := rw_12 (ρ := ρ) (s := s) (a := a)
  unfold wp_X12_brings
  rw [Int.toNat_natCast, k1, h3]
  refine ⟨by omega, r_rowOf hU ha hh (fun v3 e3 => ⟨by omega, ?_⟩)⟩
  rw [k3, k2]
  rw [w32_of (by omega) (by omega), show 13 * ((rwN ρ s a : Nat) : Int) = ((13 * rwN ρ s a : Nat) : Int) by omega] at e3
  rw [e3]
  refine ⟨fun h5 v4 e4 => ?_, fun h5 => ⟨by omega, ?_⟩⟩
  · rw [e4, w32_of (by omega) (by omega), show (i : Int) + 1 = ((i + 1 + 0 : Nat) : Int) by omega]
    exact r_br125 hg hL h80 hA hr h5 hi (by omega) (hP h5) hB (l := l) hno hyes (j - (i + 1)) 0 1 τ0 bigN (by omega) (by unfold bigN; omega) (fun _ _ => rfl) (fun _ _ => rfl) (fun y hy => by have := hRB y hy; omega) (Or.inl ⟨rfl, fun k hk => (by cases hk), fun z => by show rowE ρ s R τ0 _ a (l ++ []); rw [List.append_nil]; exact z⟩)
  · have h5 : ρ 5 r = -1 := Classical.byContradiction h5
    have eC : cC ρ i j r = cOne r (-1) (pv ρ (ρ 4 r) i j) (-1) := by unfold cC; rw [if_pos h5]
    have e1 := hPt_pv hg hL hp1 hi
    refine r_fits2 hg hA hs8 hp1 (by omega) (fun h => ⟨fun z => absurd rfl z, fun _ => ?_⟩) (fun h => ⟨fun _ => ?_, fun z => absurd (by decide) z⟩)
    · have nf : ∀ k ∈ cC ρ i j r, ¬ fullC ρ k := by
        intro k hk hf
        rw [eC] at hk
        obtain ⟨n1, -, rfl⟩ := mem_cOne.1 hk
        exact h (e1.1 ⟨n1, hf.1⟩)
      refine hyes τ0 (fun k hk hf => absurd hf (nf k hk)) (fun _ _ => rfl) (fun _ _ => rfl) (fun y hy => by have := hRB y hy; omega) (fun z y hy => ?_)
      rw [z y hy]
      rw [eC] at nf ⊢
      unfold cOne at nf ⊢
      by_cases zz : pv ρ (ρ 4 r) i j = -2 ∨ (-1 : Int) = -2
      · rw [if_pos zz, List.append_nil]
      · rw [if_neg zz] at nf ⊢
        have nf1 := nf _ (List.mem_singleton.2 rfl)
        exact (ent_same (by unfold fE; rw [ix_n (fun w => nf1 w.1), Int.zero_mul]) (by unfold gE; rw [ix_n (fun w => nf1 w.1), Int.zero_mul])).symm
    · have f1 := e1.2 h
      have oneE : cC ρ i j r = [((r : Int), -1, pv ρ (ρ 4 r) i j, -1)] := by
        rw [eC]; unfold cOne; rw [if_neg (fun z => by rcases z with z | z; exact f1.1 z; exact absurd z (by decide))]
      have full : fullC ρ ((r : Int), -1, pv ρ (ρ 4 r) i j, -1) := ⟨f1.2, Or.inl (by show (-1 : Int) < 0; decide)⟩
      have fin : ∀ (col : Nat) (v : Int), col < 13 → 0 ≤ v → v ≤ 9973 → (∀ k ∈ cC ρ i j r, fullC ρ k → ¬ goC k → ¬ badK R k) → (rowE ρ s R τ0 (rwN ρ s a) a l → rowE ρ s R (upS τ0 24 (13 * rwN ρ s a + col) (τ0 24 (13 * rwN ρ s a + col) + v)) (rwN ρ s a) a (l ++ cC ρ i j r)) → wp_X12_brings_b113 Q v (τ0 24 (13 * rwN ρ s a + col)) ((13 * rwN ρ s a + col : Nat) : Int) τ0 := by
        intro col v hc hv0 hv1 hb hE
        have hc2 := hRB col hc
        unfold wp_X12_brings_b113
        rw [Int.toNat_natCast, w64_of (by omega) (by omega)]
        refine ⟨by omega, fun τ1 e1 => ?_⟩
        rw [e1]
        exact hyes _ hb (fun k hk => upS_k hk) (fun k hk => upS_j (by omega)) (rowB.put (fun x hx => by have := hRB x hx; omega) (by omega)) hE
      rw [k2]
      refine ⟨by omega, fun hl => ⟨by omega, ?_⟩, fun hl => ?_⟩
      · unfold isPart at hp1
        obtain ⟨b, hb⟩ : ∃ b : Nat, ρ 4 r = (b : Int) := ⟨(ρ 4 r).toNat, by omega⟩
        have hb12 : b < 12 := by omega
        have epv : pv ρ (ρ 4 r) i j = ((12 * s + b : Nat) : Int) := by rw [pv_lab hl, hs]; omega
        have hhb : hsB ρ s b = true := hsB_iff.2 (by rw [← epv]; exact f1.2)
        have rwb := rw_12 (ρ := ρ) (s := s) (a := b)
        rw [hb]
        refine r_rowOf hU hb12 hhb ?_
        unfold wp_X12_brings_b68
        have ie : w32 (((13 * rwN ρ s a : Nat) : Int) + ((rwN ρ s b : Nat) : Int)) = ((13 * rwN ρ s a + rwN ρ s b : Nat) : Int) := by rw [w32_of (by omega) (by omega)]; omega
        rw [ie, Int.toNat_natCast, Int.toNat_natCast, k2, k4, w32_of (x := 9973 - ρ 6 r) (by omega) (by omega)]
        refine ⟨by omega, by omega, fun _ => ⟨by omega, ?_⟩, fun z => absurd hl z⟩
        have go : goC ((r : Int), -1, pv ρ (ρ 4 r) i j, -1) := ⟨rfl, by show 0 ≤ pv ρ (ρ 4 r) i j; omega⟩
        have g0 : gE ρ R ((r : Int), -1, pv ρ (ρ 4 r) i j, -1) = 0 := by unfold gE; rw [ix_n (fun z => z.2 go), Int.zero_mul]
        have lb : (pv ρ (ρ 4 r) i j).toNat % 12 = b := by rw [epv]; omega
        refine fin (rwN ρ s b) _ (by omega) (by omega) (by omega) (fun k hk => ?_) (fun hE => ?_)
        · rw [oneE, List.mem_singleton] at hk; subst hk; exact fun _ z => absurd go z
        · rw [oneE]
          refine hE.put ?_ (fun x hx hne => ent_same ?_ g0)
          · have h0 := hE (rwN ρ s b) (by omega)
            rw [ent_app, if_pos (by omega), show fE ρ s (rwN ρ s b) ((r : Int), -1, pv ρ (ρ 4 r) i j, -1) = ρ 6 r by
              unfold fE
              show ix (fullC ρ _ ∧ goC _ ∧ rwN ρ s ((pv ρ (ρ 4 r) i j).toNat % 12) = rwN ρ s b) * ρ 6 ((r : Int)).toNat = _
              rw [lb, ix_y ⟨full, go, rfl⟩, Int.one_mul, Int.toNat_natCast]]
            unfold ent at h0
            rw [if_pos (by omega)] at h0
            omega
          · unfold fE
            show ix (fullC ρ _ ∧ goC _ ∧ rwN ρ s ((pv ρ (ρ 4 r) i j).toNat % 12) = x) * _ = 0
            rw [lb, ix_n (fun z => hne z.2.2.symm), Int.zero_mul]
      · have epv : pv ρ (ρ 4 r) i j = -1 := by
          by_cases hcc : j = i + 1 ∧ ρ 11 i = ρ 4 r - 100
          · exact pv_yes (by omega) hcc
          · exact absurd (pv_no (by omega) hcc) f1.1
        have ngo : ¬ goC ((r : Int), -1, pv ρ (ρ 4 r) i j, -1) := fun z => by have : 0 ≤ pv ρ (ρ 4 r) i j := z.2; omega
        have nb : ¬ badK R ((r : Int), -1, pv ρ (ρ 4 r) i j, -1) := by
          rintro (z | z)
          · have : 0 ≤ pv ρ (ρ 4 r) i j := z.1; omega
          · have : (0 : Int) ≤ -1 := z.1; omega
        unfold wp_X12_brings_b68
        have ie : w32 (((13 * rwN ρ s a : Nat) : Int) + 12) = ((13 * rwN ρ s a + 12 : Nat) : Int) := by rw [w32_of (by omega) (by omega)]; omega
        rw [ie, Int.toNat_natCast, Int.toNat_natCast, k2, k4]
        refine ⟨by omega, by omega, fun z => absurd z hl, fun _ => ⟨by omega, ?_⟩⟩
        refine fin 12 _ (by omega) (by omega) (by omega) (fun k hk => ?_) (fun hE => ?_)
        · rw [oneE, List.mem_singleton] at hk; subst hk; exact fun _ _ => nb
        · rw [oneE]
          refine hE.put ?_ (fun x hx hne => ?_)
          · have h0 := hE 12 (by decide)
            rw [ent_app, if_neg (by decide), show gE ρ R ((r : Int), -1, pv ρ (ρ 4 r) i j, -1) = ρ 6 r by
              unfold gE prdS ptS
              show ix _ * (ρ 6 ((r : Int)).toNat * (if pv ρ (ρ 4 r) i j < 0 then 1 else _) % 9973 * (if (-1 : Int) < 0 then 1 else _) % 9973) = _
              rw [ix_y ⟨full, ngo⟩, if_pos (by omega), if_pos (by decide), Int.toNat_natCast]; omega]
            unfold ent at h0
            rw [if_neg (by decide)] at h0
            omega
          · rw [ent_app, if_pos (by omega), show fE ρ s x ((r : Int), -1, pv ρ (ρ 4 r) i j, -1) = 0 by unfold fE; rw [ix_n (fun z => ngo z.2.1), Int.zero_mul], Int.sub_zero]
            unfold ent
            rw [if_pos (by omega)]
