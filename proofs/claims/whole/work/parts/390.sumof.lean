/-! sums: all spans; the class's -/
theorem cI_in {ρ : St} (hg : Wg ρ) (hL : LL ρ < 9) {s a : Nat} (hs : s < spN (LL ρ)) (ha : a < 12) {k : Cs} (hk : k ∈ cI ρ (12 * s + a)) (hgo : ¬ goC k) : (0 ≤ k.2.2.1 → k.2.2.1.toNat / 12 < s) ∧ (0 ≤ k.2.2.2 → k.2.2.2.toNat / 12 < s) := by
  have sp := sp_s hL hs
  have part : ∀ (p : Int) (i j : Nat), isPart p → spB (LL ρ) s ≤ i → i < j → j ≤ spF (LL ρ) s → j - i < spF (LL ρ) s - spB (LL ρ) s → 0 ≤ pv ρ p i j → (pv ρ p i j).toNat / 12 < s := by
    intro p i j hp h1 h2 h3 h4 h0
    unfold isPart at hp
    have hl : p < 100 := by
      refine Classical.byContradiction (fun z => ?_)
      by_cases hcc : j = i + 1 ∧ ρ 11 i = p - 100
      · rw [pv_yes (by omega) hcc] at h0; omega
      · rw [pv_no (by omega) hcc] at h0; omega
    have e : (pv ρ p i j).toNat / 12 = spA (LL ρ) i j := by rw [pv_lab hl]; omega
    have := sp_lt hL (i := i) (j := j) (k := spB (LL ρ) s) (l := spF (LL ρ) s) (by omega) (by omega) (Or.inl h4)
    rw [e]; rw [sp.2.2] at this; exact this
  obtain ⟨r, r1, r2, r3, r4, rr⟩ := cI_info ha hk
  have hp1 := (hg.2.2 r r1).2.1
  have hp2 := (hg.2.2 r r1).2.2.1
  rcases rr with ⟨h5, h6, h6b, h7, h8⟩ | ⟨h5, mm, m1, m2, h6, h7, -, h8, h9⟩
  · exact ⟨fun z => absurd ⟨h6b, z⟩ hgo, fun z => by rw [h8] at z; exact absurd z (by decide)⟩
  · rw [h8, h9]
    exact ⟨part _ _ _ hp1 (by omega) (by omega) (by omega) (by omega), part _ _ _ (hp2.resolve_left h5) (by omega) (by omega) (by omega) (by omega)⟩
theorem hs_of {ρ : St} {x : Int} (h0 : 0 ≤ x) (h : hPt ρ x) : hsB ρ (x.toNat / 12) (x.toNat % 12) = true := by
  rw [hsB_iff, show ((12 * (x.toNat / 12) + x.toNat % 12 : Nat) : Int) = x by omega]; exact h
theorem SuK.pt {ρ σ : St} {n : Nat} (h : SuK ρ σ n) (hn : n ≤ 36) {x : Int} (hx : 0 ≤ x → x.toNat / 12 < n) (hh : hPt ρ x) : ptK (RS ρ n) σ x := by
  intro h0
  have t := hx h0
  obtain ⟨a1, a2⟩ := h _ t
  refine ⟨by omega, a1, fun w => ?_⟩
  have := a2 w (x.toNat % 12) (Nat.mod_lt _ (by decide)) (hs_of h0 hh)
  rw [show 12 * (x.toNat / 12) + x.toNat % 12 = x.toNat by omega] at this
  exact this
theorem SuK.next {ρ σ σ1 : St} {s : Nat} (h : SuK ρ σ s) (h47 : ∀ j, j ≠ s → σ1 47 j = σ 47 j) (h46 : ∀ j, j / 12 ≠ s → σ1 46 j = σ 46 j) (hr : (flP ρ s (RS ρ s) ∧ σ1 47 s = 1) ∨ (¬ flP ρ s (RS ρ s) ∧ σ1 47 s = 0 ∧ ∀ b, b < 12 → hsB ρ s b = true → σ1 46 (12 * s + b) = (elS ρ s (RS ρ s)).2 (13 * rwN ρ s b + 12))) : SuK ρ σ1 (s + 1) := by
  intro t ht
  by_cases e : t = s
  · subst e
    rcases hr with ⟨r1, r2⟩ | ⟨r1, r2, r3⟩
    · have := RS_f.2 r1
      rw [this]
      exact ⟨by rw [r2]; rfl, fun w => (by cases w)⟩
    · have : (RS ρ (t + 1)).1 t = false := by
        cases w : (RS ρ (t + 1)).1 t with
        | false => rfl
        | true => exact absurd (RS_f.1 w) r1
      rw [this]
      refine ⟨by rw [r2]; rfl, fun _ a ha hh => ⟨by rw [r3 a ha hh, RS_v ha], ?_⟩⟩
      rw [RS_v ha]
      have hu : rwN ρ t 12 ≤ 12 := rw_12
      have := rw_12 (ρ := ρ) (s := t) (a := a)
      exact elF_ok hu _ 0 _ (by omega) (eqMt_ok 12) _ (by omega)
  · obtain ⟨a1, a2⟩ := h t (by omega)
    rw [RS_o e, h47 t e]
    refine ⟨a1, fun w a ha hh => ?_⟩
    rw [h46 _ (by omega), RS_w (by omega)]
    exact a2 w a ha hh
theorem c_solveSpan {ρ σ : St} (hg : Wg ρ) (hL : LL ρ < 9) {s : Nat} (hs : s < spN (LL ρ)) (hB : BL ρ σ) (hS : SuK ρ σ s) {Q : Int → St → Prop} (hq : ∀ σ1, BL ρ σ1 → SuK ρ σ1 (s + 1) → σ1 45 = σ 45 → Q 0 σ1) : wp_X7_solveSpan (s : Int) σ Q := by
  have h3 := sp_3 _ hL
  have l10 : ∀ (d a : Nat) (σ1 : St) (n : Nat), a + d = 12 → d < n → (∀ k, k ≠ 49 → σ1 k = σ k) → (∀ b, b < a → σ1 49 b = ((rwN ρ s b : Nat) : Int)) → wp_X7_solveSpan_l10 Q n (s : Int) ((12 * s : Nat) : Int) ((rwN ρ s a : Nat) : Int) (a : Int) σ1 := by
    intro d
    induction d with
    | zero =>
      intro a σ1 n hd hn hE h49
      obtain ⟨n, rfl⟩ := suc_n hn
      rw [show a = 12 by omega] at h49 ⊢
      unfold wp_X7_solveSpan_l10
      refine ⟨fun _ => c_J7_fill_53178_C_c48 (fun σ2 f1 f2 => ?_), fun w => absurd (by decide) w⟩
      have E2 : ∀ k, k ≠ 48 → k ≠ 49 → σ2 k = σ k := fun k h1 h2 => by rw [f2 k h1]; exact hE k h2
      refine c_so62 hg hL hs (R := RS ρ s) (σ0 := σ2) (hB.low (fun k hk => E2 k (by omega) (by omega))) (by rw [f2 49 (by decide)]; exact h49) (fun a ha k hk hf hgo => ?_) (fun σ3 g1 g2 g3 g4 => ?_) 12 0 1 (fun _ => 0) σ2 bigN (by omega) (by unfold bigN; omega) (fun _ _ => rfl) (fun _ _ => by show mR 0; unfold mR; omega) (fun k hk => f1 k hk) (fun _ _ _ _ _ => rfl) (Or.inl ⟨rfl, fun ⟨b, hb, _⟩ => by omega, rfl⟩)
      · have ci := cI_in hg hL hs ha hk hgo
        have S2 : SuK ρ σ2 s := by unfold SuK; rw [E2 46 (by decide) (by decide), E2 47 (by decide) (by decide)]; exact hS
        exact ⟨S2.pt (by omega) ci.1 hf.1, S2.pt (by omega) ci.2 hf.2⟩
      · refine hq σ3 (hB.low (fun k hk => by rw [g1 k (by omega) (by omega) (by omega)]; exact E2 k (by omega) (by omega))) (hS.next (fun j hj => by rw [g2 j hj, E2 47 (by decide) (by decide)]) (fun j hj => by rw [g3 j hj, E2 46 (by decide) (by decide)]) g4) (by rw [g1 45 (by decide) (by decide) (by decide), E2 45 (by decide) (by decide)])
    | succ d ih =>
      intro a σ1 n hd hn hE h49
      obtain ⟨n, rfl⟩ := suc_n hn
      have ha : a < 12 := by omega
      have hr := rw_12 (ρ := ρ) (s := s) (a := a)
      unfold wp_X7_solveSpan_l10
      refine ⟨fun w => absurd w (by omega), fun _ => ⟨by omega, fun σ4 e4 => ?_⟩⟩
      rw [Int.toNat_natCast] at e4
      have E4 : ∀ k, k ≠ 49 → σ4 k = σ k := fun k hk => by rw [e4, upS_k hk]; exact hE k hk
      have nx : ∀ y, y = ((rwN ρ s (a + 1) : Nat) : Int) → wp_X7_solveSpan_b42 Q (wp_X7_solveSpan_l10 Q n) (s : Int) ((12 * s : Nat) : Int) y (a : Int) σ4 := by
        intro y ey
        unfold wp_X7_solveSpan_b42
        intro v ev
        rw [ev, w32_of (by omega) (by omega), ey]
        refine ih (a + 1) σ4 n (by omega) (by omega) E4 (fun b hb => ?_)
        by_cases e : b = a
        · rw [e4, e, upS_s]
        · rw [e4, upS_j e]; exact h49 b (by omega)
      have st : rwN ρ s (a + 1) = rwN ρ s a + (if hsB ρ s a then 1 else 0) := rfl
      rw [w32_of (x := ((12 * s : Nat) : Int) + (a : Int)) (by omega) (by omega)]
      refine c_hasS hg hL (show Lw ρ σ4 by unfold Lw; rw [E4 37 (by decide)]; exact hB.2.2) hs ha (by omega) (fun hh => ⟨fun _ => nx _ ?_, fun w => absurd rfl w⟩) (fun hh => ⟨fun w => absurd w (by decide), fun _ v ev => nx v ?_⟩)
      · rw [st, if_neg hh]; rfl
      · rw [ev, w32_of (by omega) (by omega), st, if_pos hh]; omega
  unfold wp_X7_solveSpan
  intro v ev
  rw [ev, w32_of (by omega) (by omega), show (s : Int) * 12 = ((12 * s : Nat) : Int) by omega]
  exact l10 12 0 σ bigN (by omega) (by unfold bigN; omega) (fun _ _ => rfl) (fun b hb => by omega)
/-- the answer of sum for an item -/
noncomputable def sV (ρ : St) (q : Nat) : Int := @ite Int (hPt ρ (q : Int)) (Classical.propDecidable _) (if (RS ρ (spN (LL ρ))).1 (q / 12) then -1 else (RS ρ (spN (LL ρ))).2 q) 0
theorem c_sumOf {ρ σ : St} (hW : WW ρ) (hk : KL ρ σ) (hs : σ 45 7 = 0 ∨ (σ 45 7 = 1 ∧ SuK ρ σ (spN (LL ρ)))) {q : Nat} (hq12 : q < 12 * spN (LL ρ)) {Q : Int → St → Prop} (hq : ∀ σ1, BL ρ σ1 → σ1 45 7 = 1 → SuK ρ σ1 (spN (LL ρ)) → Q (sV ρ q) σ1) : wp_X7_sumOf (q : Int) σ Q := by
  have hg := hW.2.2.1
  have hL : LL ρ < 9 := by have := hW.2.2.2.2.2.1; unfold LL; omega
  have h3 := sp_3 _ hL
  have b43 : ∀ σ1, BL ρ σ1 → σ1 45 7 = 1 → SuK ρ σ1 (spN (LL ρ)) → wp_X7_sumOf_b43 Q (q : Int) σ1 := by
    intro σ1 a1 a2 a3
    have fin := hq σ1 a1 a2 a3
    unfold sV at fin
    unfold wp_X7_sumOf_b43
    refine c_hasI hg hL a1.2.2 (by omega) (fun h => ⟨fun w => absurd rfl w, fun _ => ?_⟩) (fun h => ⟨fun _ => ?_, fun w => absurd (by decide) w⟩)
    · rw [if_neg h] at fin; exact fin
    · rw [if_pos h] at fin
      obtain ⟨c1, c2⟩ := a3 (q / 12) (by omega)
      rw [show b_div (q : Int) 12 = ((q / 12 : Nat) : Int) by rw [b_div_eq (by omega) (by omega) (by decide) (by decide)]; omega, Int.toNat_natCast, Int.toNat_natCast, c1]
      refine ⟨by omega, fun w => ⟨by omega, ?_⟩, fun w => ?_⟩
      · cases z : (RS ρ (spN (LL ρ))).1 (q / 12) with
        | true => rw [z] at w; exact absurd w (by decide)
        | false =>
          have := (c2 z (q % 12) (Nat.mod_lt _ (by decide)) (hs_of (x := (q : Int)) (by omega) h)).1
          rw [show 12 * (q / 12) + q % 12 = q by omega] at this
          rw [this]
          rw [z] at fin; exact fin
      · cases z : (RS ρ (spN (LL ρ))).1 (q / 12) with
        | true => rw [z] at fin; exact fin
        | false => rw [z] at w; exact absurd rfl w
  unfold wp_X7_sumOf
  refine mf_X1_prepare (σ0 := σ) (Q := fun _ σ1 => Bt ρ σ1 ∧ σ1 36 7 = 1 ∧ Lw ρ σ1) (fun _ σ2 h2 f => ?_) Fr.rf (c_prepare hW hk.1 hk.2.1 hk.2.2.1 hk.2.2.2 (fun σ1 a b c => ⟨a, b, c⟩))
  have e7 : σ2 45 7 = σ 45 7 := f.at rfl
  have e46 : σ2 46 = σ 46 := funext (fun j => f.at rfl)
  have e47 : σ2 47 = σ 47 := funext (fun j => f.at rfl)
  have hB2 : BL ρ σ2 := h2
  refine ⟨fun w => ?_, fun w σ3 e3 => ?_⟩
  · rcases hs with z | z
    · exact absurd (by rw [e7]; exact z) w
    · exact b43 σ2 hB2 (by rw [e7]; exact z.1) (by unfold SuK; rw [e46, e47]; exact z.2)
  · have l21 : ∀ (d s : Nat) (σ4 : St) (n : Nat), s + d = spN (LL ρ) → d < n → BL ρ σ4 → σ4 45 7 = 1 → SuK ρ σ4 s → wp_X7_sumOf_l21 Q n (q : Int) (s : Int) σ4 := by
      intro d
      induction d with
      | zero =>
        intro s σ4 n hd hn b1 b2 b3
        obtain ⟨n, rfl⟩ := suc_n hn
        unfold wp_X7_sumOf_l21
        rw [b1.1.1.2.1.2.1]
        rw [show s = spN (LL ρ) by omega] at b3 ⊢
        exact ⟨fun _ => b43 σ4 b1 b2 b3, fun w => absurd (by omega) w⟩
      | succ d ih =>
        intro s σ4 n hd hn b1 b2 b3
        obtain ⟨n, rfl⟩ := suc_n hn
        unfold wp_X7_sumOf_l21
        rw [b1.1.1.2.1.2.1]
        refine ⟨fun w => absurd w (by omega), fun _ => c_solveSpan hg hL (by omega) b1 b3 (fun σ5 c1 c2 c3 v ev => ?_)⟩
        rw [ev, w32_of (by omega) (by omega)]
        exact ih (s + 1) σ5 n (by omega) (by omega) c1 (by rw [c3]; exact b2) c2
    exact l21 (spN (LL ρ)) 0 σ3 bigN (by omega) (by unfold bigN; omega) (hB2.low (fun k hk => by rw [e3, upS_k (by omega)])) (by rw [e3, upS_s]) (fun s hs => by omega)
