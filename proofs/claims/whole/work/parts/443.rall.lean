/-! all spans of the reference; its trees are the class's -/
def BIv (ρ τ0 τ : St) (s : Nat) : Prop := ∃ (F : Fo) (N : Nat), RFo ρ τ F (dLo s) ∧ ClF ρ F (dLo s) ∧ (∀ q, dLo s q → TopP (ltE ρ F q) (CandE ρ F q) (F.1 q) (F.2 q)) ∧ (∀ q, ¬ dLo s q → F.1 q = 0) ∧ stF τ0 τ ∧ (∀ p, dLo s p → ∀ k, k < F.1 p → τ 37 (16 * iR ρ p + k) < (N : Int)) ∧ (∀ q, q < 12 * spN (LL ρ) → s ≤ q / 12 → τ 38 (iR ρ q) = 0) ∧ τ 0 55 = -1 ∧ τ 0 54 = (N : Int) ∧ N ≤ 873 * s
theorem BIv.step {ρ τ0 τ : St} (hg : Wg ρ) (hL : LL ρ < 9) (hS : RSg ρ τ0) (h28 : τ0 0 28 = osum (ρ 8) (ρ 0 4).toNat) {s : Nat} (hs : s < spN (LL ρ)) (h : BIv ρ τ0 τ s) {Q : Int → St → Prop} (hQ : ∀ τ1, BIv ρ τ0 τ1 (s + 1) → Q 0 τ1) : wp_X12_laysBestSpan (spB (LL ρ) s : Nat) (spF (LL ρ) s : Nat) τ Q := by
  obtain ⟨F, N, h1, h2, h3, h4, h5, h6, h7, h8, h9, h10⟩ := h
  have s36 := sp_3 _ hL
  refine r_bestSpan hg hL (hS.st h5) (by rw [h5.2 28 (by decide) (by decide) (by decide)]; exact h28) hs h2 h3 h1 (fun b hb => h4 _ (by unfold dLo; omega)) h7 h8 h9 (by omega) h6 (fun τ1 F1 q1 q2 q3 q4 q5 q6 q7 q8 q9 q10 => hQ τ1 ?_)
  rw [dLo_s] at q1 q2 q6
  refine ⟨F1, (τ1 0 54).toNat, q1, q2, fun q hq => ?_, fun q hq => ?_, h5.tr q5, fun p hp k hk => ?_, fun q hq hsq => q7 q hq (by omega), q8, by omega, by omega⟩
  · by_cases e : q / 12 = s
    · have := q4 (q % 12) (by omega)
      rw [show 12 * s + q % 12 = q by omega] at this
      exact this
    · have hq' : dLo s q := by unfold dLo at hq ⊢; omega
      exact q3.top h2 (fun p hp => by unfold dLo at hp; omega) hq' (h3 q hq')
  · rw [(q3 q (by unfold dLo at hq; omega)).1]
    exact h4 q (by unfold dLo at hq ⊢; omega)
  · have := q6 p hp k hk; omega
def RAll (ρ τ : St) (G : Fo) : Prop := RFo ρ τ G (dLo (spN (LL ρ))) ∧ ClF ρ G (dLo (spN (LL ρ))) ∧ (∀ q, dLo (spN (LL ρ)) q → TopP (ltE ρ G q) (CandE ρ G q) (G.1 q) (G.2 q)) ∧ RSg ρ τ
theorem r_laysBest {ρ τ : St} (hW : WW ρ) (hV : VR τ ρ) {Q : Int → St → Prop} (hQ : ∀ τ1 G, RAll ρ τ1 G → Q 0 τ1) : wp_X12_laysBest τ Q := by
  have hg := hW.2.2.1
  have h80 := hW.2.2.2.2.1
  have hs8 := hW.2.2.2.2.2.1
  have hL : LL ρ < 9 := by unfold LL; omega
  have eL : ((LL ρ : Nat) : Int) = ρ 0 8 := by unfold LL; omega
  unfold wp_X12_laysBest
  refine r_looks hW hV (fun τa hA σ3 e3 σ4 e4 => ?_)
  obtain ⟨⟨v1, v28, v27, v3, v4⟩, -⟩ := hA
  have hS : RSg ρ τa := ⟨v1, v3, fun i hi => v4 i (by omega)⟩
  have c27 : ∀ τ', stF τa τ' → τ' 0 27 = ρ 0 8 := fun τ' h => by rw [h.2 27 (by decide) (by decide) (by decide)]; exact v27
  have fin : ∀ τ1, BIv ρ τa τ1 (spN (LL ρ)) → Q 0 τ1 := by
    rintro τ1 ⟨F, N, h1, h2, h3, -, h5, -⟩
    exact hQ τ1 F ⟨h1, h2, h3, hS.st h5⟩
  have l48 : ∀ (K : Int → St → Prop) (len : Nat), 1 ≤ len → len ≤ LL ρ → (∀ τ1, BIv ρ τa τ1 (spO (LL ρ) (len + 1)) → K ((len + 1 : Nat) : Int) τ1) → ∀ (d a : Nat) (τ1 : St) (n : Nat), a + len + d = LL ρ + 1 → d < n → BIv ρ τa τ1 (spO (LL ρ) len + a) → wp_X12_laysBest_l48 Q K n (len : Int) (a : Int) τ1 := by
    intro K len hl1 hl2 hK d
    induction d with
    | zero =>
      intro a τ1 n hd hn hB
      obtain ⟨n, rfl⟩ := suc_n hn
      have st : stF τa τ1 := by obtain ⟨F, N, -, -, -, -, h5, -⟩ := hB; exact h5
      unfold wp_X12_laysBest_l48
      rw [c27 τ1 st, w32_of (x := (a : Int) + (len : Int)) (by omega) (by omega)]
      refine ⟨fun _ v ev => ?_, fun w => absurd (by omega) w⟩
      rw [ev, w32_of (by omega) (by omega)]
      refine hK τ1 ?_
      rw [sp_4 _ hL len (by omega) hl1 hl2, show LL ρ + 1 - len = a by omega]; exact hB
    | succ d ih =>
      intro a τ1 n hd hn hB
      obtain ⟨n, rfl⟩ := suc_n hn
      have st : stF τa τ1 := by obtain ⟨F, N, -, -, -, -, h5, -⟩ := hB; exact h5
      unfold wp_X12_laysBest_l48
      rw [c27 τ1 st, w32_of (x := (a : Int) + (len : Int)) (by omega) (by omega)]
      refine ⟨fun w => absurd w (by omega), fun _ => ?_⟩
      have qa := sp_a (L := LL ρ) hL (i := a) (j := a + len) (by omega)
      have es : spA (LL ρ) a (a + len) = spO (LL ρ) len + a := sp_next _ hL len (by omega) hl1 hl2 a (by omega) (by omega)
      rw [es] at qa
      have := BIv.step hg hL hS v28 (s := spO (LL ρ) len + a) qa.1 hB (Q := fun _ σ9 => ∀ v10 : Int, v10 = w32 ((a : Int) + 1) → (wp_X12_laysBest_l48 Q K n) (len : Int) v10 σ9) (fun τ2 b1 v ev => by
        rw [ev, w32_of (by omega) (by omega), show (a : Int) + 1 = ((a + 1 : Nat) : Int) by omega]
        exact ih (a + 1) τ2 n (by omega) (by omega) b1)
      rw [qa.2.1, qa.2.2, show ((a + len : Nat) : Int) = (a : Int) + (len : Int) by omega] at this
      exact this
  have l38 : ∀ (d len : Nat) (τ1 : St) (n : Nat), len + d = LL ρ + 1 → 1 ≤ len → d < n → BIv ρ τa τ1 (spO (LL ρ) len) → wp_X12_laysBest_l38 Q n (len : Int) τ1 := by
    intro d
    induction d with
    | zero =>
      intro len τ1 n hd h1 hn hB
      obtain ⟨n, rfl⟩ := suc_n hn
      have st : stF τa τ1 := by obtain ⟨F, N, -, -, -, -, h5, -⟩ := hB; exact h5
      unfold wp_X12_laysBest_l38
      rw [c27 τ1 st]
      refine ⟨fun _ => fin τ1 ?_, fun w => absurd (by omega) w⟩
      unfold spN
      rw [show LL ρ + 1 = len by omega]; exact hB
    | succ d ih =>
      intro len τ1 n hd h1 hn hB
      obtain ⟨n, rfl⟩ := suc_n hn
      have st : stF τa τ1 := by obtain ⟨F, N, -, -, -, -, h5, -⟩ := hB; exact h5
      unfold wp_X12_laysBest_l38
      rw [c27 τ1 st]
      refine ⟨fun w => absurd w (by omega), fun _ => ?_⟩
      exact l48 (wp_X12_laysBest_l38 Q n) len h1 (by omega) (fun τ2 b1 => ih (len + 1) τ2 n (by omega) (by omega) (by omega) b1) (LL ρ + 1 - len) 0 τ1 bigN (by omega) (by unfold bigN; omega) hB
  have l16 : ∀ (d x : Nat) (τ1 : St) (n : Nat), x + d = 768 → d < n → stF τa τ1 → τ1 0 54 = 0 → τ1 0 55 = -1 → (∀ j, j < x → τ1 38 j = 0) → wp_X12_laysBest_l16 Q n (x : Int) τ1 := by
    intro d
    induction d with
    | zero =>
      intro x τ1 n hd hn a1 a2 a3 a4
      obtain ⟨n, rfl⟩ := suc_n hn
      unfold wp_X12_laysBest_l16
      refine ⟨fun _ => ?_, fun w => absurd (by omega) w⟩
      refine l38 (LL ρ) 1 τ1 bigN (by omega) (by omega) (by unfold bigN; omega) ?_
      rw [sp_5 _ hL]
      have no : ∀ q, ¬ dLo 0 q := fun q hq => by unfold dLo at hq; omega
      exact ⟨(fun _ => 0, fun _ _ => (0, 0, 0, 0)), 0, fun q hq => absurd hq (no q), fun q hq => absurd hq (no q), fun q hq => absurd hq (no q), fun q _ => rfl, a1, fun q hq => absurd hq (no q), fun q hq _ => a4 _ (by have := (iR_it hL hq).1; omega), a3, by rw [a2]; rfl, by omega⟩
    | succ d ih =>
      intro x τ1 n hd hn a1 a2 a3 a4
      obtain ⟨n, rfl⟩ := suc_n hn
      unfold wp_X12_laysBest_l16
      rw [Int.toNat_natCast]
      refine ⟨fun w => absurd w (by omega), fun _ => ⟨by omega, fun σ5 e5 v6 e6 => ?_⟩⟩
      rw [w32_of (by omega) (by omega), show (x : Int) + 1 = ((x + 1 : Nat) : Int) by omega] at e6
      rw [e6]
      refine ih (x + 1) σ5 n (by omega) (by omega) (a1.tr ⟨fun k hk => by rw [e5, upS_k (by omega)], fun j _ _ _ => by rw [e5, upS_k (by decide)]⟩) (by rw [e5, upS_k (by decide)]; exact a2) (by rw [e5, upS_k (by decide)]; exact a3) (fun j hj => ?_)
      rw [e5]
      by_cases e : j = x
      · rw [e, upS_s]
      · rw [upS_j e]; exact a4 j (by omega)
  refine l16 768 0 σ4 bigN (by omega) (by unfold bigN; omega) ⟨fun k hk => by rw [e4, upS_k (by omega), e3, upS_k (by omega)], fun j j1 j2 _ => by rw [e4, upS_j j2, e3, upS_j j1]⟩ (by rw [e4, upS_j (by decide), e3, upS_s]) (by rw [e4, upS_s]) (fun j hj => by omega)
theorem part_le {ρ : St} (hg : Wg ρ) (hL : LL ρ < 9) {q t : Nat} (hq : q < 12 * spN (LL ρ)) (ht : t < (cI ρ q).length) : (0 ≤ cf ρ q t → (cf ρ q t).toNat / 12 ≤ q / 12) ∧ (0 ≤ cg ρ q t → (cg ρ q t).toNat / 12 ≤ q / 12) := by
  have hs : q / 12 < spN (LL ρ) := by omega
  have bi := base_ins hg hL (a := q % 12) (s := q / 12) (t := t) (by omega) hs (by rw [show 12 * (q / 12) + q % 12 = q by omega]; exact ht)
  rw [show 12 * (q / 12) + q % 12 = q by omega] at bi
  refine ⟨fun h0 => ?_, fun h0 => ?_⟩
  · obtain ⟨i1, i2⟩ := bi.2.1 h0
    by_cases e : (cf ρ q t).toNat / 12 = q / 12
    · omega
    · have := ins_lt hL (by omega) hs i2 e; omega
  · obtain ⟨i1, i2⟩ := bi.2.2 h0
    by_cases e : (cg ρ q t).toNat / 12 = q / 12
    · omega
    · have := ins_lt hL (by omega) hs i2 e; omega
theorem fo_same {ρ : St} (hg : Wg ρ) (hL : LL ρ < 9) {F G : Fo} {D : Nat → Prop} (hF : ClF ρ F D) (hG : ClF ρ G D) (hD : ∀ q, D q → q < 12 * spN (LL ρ)) (tF : ∀ q, D q → TopP (ltE ρ F q) (CandE ρ F q) (F.1 q) (F.2 q)) (tG : ∀ q, D q → TopP (ltE ρ G q) (CandE ρ G q) (G.1 q) (G.2 q)) : ∀ q, D q → F.1 q = G.1 q ∧ ∀ k, k < F.1 q → G.2 q k = F.2 q k := by
  have cl : ∀ {H : Fo} (s : Nat), ClF ρ H D → ClF ρ H (fun q => D q ∧ q / 12 < s + 1) := by
    rintro H s hH q ⟨hq, hqs⟩
    obtain ⟨g1, g2, g3⟩ := hH q hq
    refine ⟨g1, g2, fun t ht => ?_⟩
    have h := part_le hg hL (hD q hq) ht
    exact ⟨fun h0 => ⟨(g3 t ht).1 h0, by have := h.1 h0; omega⟩, fun h0 => ⟨(g3 t ht).2.1 h0, by have := h.2 h0; omega⟩, (g3 t ht).2.2⟩
  have key : ∀ s, ∀ q, D q → q / 12 < s → F.1 q = G.1 q ∧ ∀ k, k < F.1 q → G.2 q k = F.2 q k := by
    intro s
    induction s with
    | zero => intro q _ h; omega
    | succ s ih =>
      intro q hq hqs
      exact fo_uniq (s := s) (cl s hF) (cl s hG) (fun p hp hne => ih p hp.1 (by have := hp.2; omega)) (fun p hp _ => tF p hp.1) (fun p hp _ => tG p hp.1) q ⟨hq, hqs⟩
  intro q hq
  exact key (q / 12 + 1) q hq (by omega)
theorem r_same {ρ τ : St} (hg : Wg ρ) (hL : LL ρ < 9) {F G : Fo} {D : Nat → Prop} (hF : ClF ρ F D) (hD : ∀ q, D q → q < 12 * spN (LL ρ)) (tF : ∀ q, D q → TopP (ltE ρ F q) (CandE ρ F q) (F.1 q) (F.2 q)) (hA : RAll ρ τ G) : RFo ρ τ F D := by
  have dl : ∀ q, D q → dLo (spN (LL ρ)) q := fun q hq => by have := hD q hq; unfold dLo; omega
  have hG : ClF ρ G D := fun q hq => ⟨(hA.2.1 q (dl q hq)).1, (hA.2.1 q (dl q hq)).2.1, (hF q hq).2.2⟩
  have sm := fo_same hg hL hF hG hD tF (fun q hq => hA.2.2.1 q (dl q hq))
  have ex : ExD D G F := fun q hq => ⟨by rw [(sm q hq).1]; exact Nat.le_refl _, fun k hk => ((sm q hq).2 k (by rw [(sm q hq).1]; exact hk)).symm⟩
  intro q hq
  obtain ⟨r1, r2, r3, r4⟩ := hA.1 q (dl q hq)
  have s1 := sm q hq
  refine ⟨r1, by omega, by rw [s1.1]; exact r3, fun k hk => ?_⟩
  have hk' : k < G.1 q := by omega
  have cG := ((hG q hq).1 k hk').1
  rw [← s1.2 k hk]
  exact (r4 k hk').ex hG ex ((hG q hq).2.2 _ cG.1) cG
/-- the reference's tree -/
theorem r_treeOf {ρ τ : St} (hW : WW ρ) {F : Fo} {D : Nat → Prop} (hR : RFo ρ τ F D) {x1 x2 x3 : Int} (h : isItm ρ x1 x2 x3) (hq : D (itN ρ x1 x2 x3)) {x4 : Int} (hx : 0 ≤ x4 ∧ x4 < 16) {Q : Int → St → Prop} (h1 : x4.toNat < F.1 (itN ρ x1 x2 x3) → Q (τ 37 (16 * iR ρ (itN ρ x1 x2 x3) + x4.toNat)) τ) (h2 : F.1 (itN ρ x1 x2 x3) ≤ x4.toNat → Q (-1) τ) : wp_X12_treeOf x1 x2 x3 x4 τ Q := by
  have hs8 := hW.2.2.2.2.2.1
  have h80 := hW.2.2.2.2.1
  have hL : LL ρ < 9 := by unfold LL; omega
  obtain ⟨i1, i2, i3, i4⟩ := id h
  have hij : x2.toNat < x3.toNat ∧ x3.toNat ≤ LL ρ := ⟨by omega, by unfold LL; omega⟩
  obtain ⟨-, e2, e3⟩ := iR_pv (ρ := ρ) hL i1 hij
  have e2 : it x1 x2 x3 = (iR ρ (itN ρ x1 x2 x3) : Int) := by
    rw [show ((x2.toNat : Nat) : Int) = x2 by omega, show ((x3.toNat : Nat) : Int) = x3 by omega] at e2
    exact e2
  have e3 : iR ρ (itN ρ x1 x2 x3) < 768 := e3
  obtain ⟨r1, r2, r3, r4⟩ := hR _ hq
  unfold wp_X12_treeOf
  refine r_item i1 ⟨i2, i3, by omega⟩ ?_
  rw [e2]
  rw [Int.toNat_natCast, r3, w32_of (x := (iR ρ (itN ρ x1 x2 x3) : Int) * 16) (by omega) (by omega), w32_of (x := (iR ρ (itN ρ x1 x2 x3) : Int) * 16 + x4) (by omega) (by omega), show (iR ρ (itN ρ x1 x2 x3) : Int) * 16 + x4 = ((16 * iR ρ (itN ρ x1 x2 x3) + x4.toNat : Nat) : Int) by omega, Int.toNat_natCast]
  exact ⟨by omega, fun g => h2 (by omega), fun g => ⟨by omega, h1 (by omega)⟩⟩
