/-! the reference lays the cases of two parts of a rule -/
theorem BPh.cg {ρ τ : St} {F : Fo} {D : Nat → Prop} {s N0 : Nat} {P P2 : Nat → En → Prop} {n : Nat → Nat} {L : Nat → Nat → En} (h : BPh ρ τ F D s N0 P n L) (e : ∀ b, b < 12 → ∀ w, P b w ↔ P2 b w) : BPh ρ τ F D s N0 P2 n L := by
  obtain ⟨b1, b2, b3, b4, b5, b6⟩ := h
  exact ⟨b1, b2, fun b hb => ⟨(b3 b hb).1.cg (e b hb) (fun _ _ => rfl), (b3 b hb).2⟩, b4, b5, b6⟩
def IBf (ρ τ0 τ : St) (F : Fo) (D : Nat → Prop) (s N0 r m x y : Nat) : Prop := (∃ n L, BPh ρ τ F D s N0 (PBf ρ F s r m x y) n L) ∧ stF τ0 τ
theorem IBf.cg {ρ τ0 τ : St} {F : Fo} {D : Nat → Prop} {s N0 r m x y r2 m2 x2 y2 : Nat} (h : IBf ρ τ0 τ F D s N0 r m x y) (e : ∀ b, b < 12 → ∀ w, PBf ρ F s r m x y b w ↔ PBf ρ F s r2 m2 x2 y2 b w) : IBf ρ τ0 τ F D s N0 r2 m2 x2 y2 := by
  obtain ⟨⟨n, L, h⟩, g⟩ := h
  exact ⟨⟨n, L, h.cg e⟩, g⟩
/-- what the reference's cells say of the grammar and the sentence -/
def RSg (ρ τ : St) : Prop := τ 0 1 = ρ 0 4 ∧ (∀ r : Nat, (r : Int) < ρ 0 4 → τ 1 r = ρ 3 r ∧ τ 2 r = ρ 4 r ∧ τ 3 r = ρ 5 r ∧ τ 4 r = ρ 6 r) ∧ (∀ i : Nat, i < LL ρ → τ 14 i = ρ 11 i)
theorem RSg.st {ρ τ τ1 : St} (h : RSg ρ τ) (f : stF τ τ1) : RSg ρ τ1 := by
  obtain ⟨h1, h2, h3⟩ := h
  refine ⟨by rw [f.2 1 (by decide) (by decide) (by decide)]; exact h1, fun r hr => ?_, fun i hi => by rw [f.1 14 (by decide)]; exact h3 i hi⟩
  rw [f.1 1 (by decide), f.1 2 (by decide), f.1 3 (by decide), f.1 4 (by decide)]
  exact h2 r hr
theorem r_two {ρ τ0 : St} (hg : Wg ρ) (hL : LL ρ < 9) (hS : RSg ρ τ0) {F : Fo} {D : Nat → Prop} (hF : ClF ρ F D) (hT : ∀ q, D q → SgF ρ F q) {s N0 : Nat} (hs : s < spN (LL ρ)) (hD : ∀ q, D q → q / 12 ≠ s) (hN : N0 ≤ 39000) (hP0 : ∀ a, a < 12 → ∀ t, t < (cI ρ (12 * s + a)).length → ¬ (cm ρ (12 * s + a) t = -1 ∧ 0 ≤ cf ρ (12 * s + a) t) → PDf ρ D (12 * s + a) t) (hPd : ∀ (p : Int) (i j : Nat), isPart p → spB (LL ρ) s ≤ i → i < j → j ≤ spF (LL ρ) s → ¬ (i = spB (LL ρ) s ∧ j = spF (LL ρ) s) → 0 ≤ pv ρ p i j → D (pv ρ p i j).toNat) {r : Nat} (hr : (r : Int) < ρ 0 4) (h8 : ρ 8 r = 0) (h5 : ρ 5 r ≠ -1) {Q : Int → St → Prop} (hQ : ∀ τ, IBf ρ τ0 τ F D s N0 (r + 1) 0 0 0 → Q 0 τ) {τ : St} (hI : IBf ρ τ0 τ F D s N0 r 0 0 0) : wp_X12_laysTwoBest (r : Int) (spB (LL ρ) s : Nat) (spF (LL ρ) s : Nat) τ Q := by
  have qs := sp_s hL hs
  have hp1 := (hg.2.2 r hr).2.1
  have hp2 := (hg.2.2 r hr).2.2.1.resolve_left h5
  have hh := w_head hg hr
  have h40 := hg.2.1
  have mn16 : ∀ (τ : St), RFo ρ τ F D → ∀ (p : Int) (i j : Nat), (0 ≤ pv ρ p i j → D (pv ρ p i j).toNat) → mnP ρ F p i j ≤ 16 := by
    intro τ hR p i j hd
    unfold mnP
    split
    · omega
    · by_cases h0 : pv ρ p i j < 0
      · rw [hsF_neg h0]; omega
      · rw [hsF_pos (by omega)]; exact (hR _ (hd (by omega))).2.1
  have bP : ∀ m x y b, b < 12 → ∀ w, PBf ρ F s r m x y b w → CandE ρ F (12 * s + b) w ∧ PDf ρ D (12 * s + b) w.2.1 := fun m x y b hb w hw => ⟨hw.1, hP0 b hb _ hw.1.1 (fun e => hw.2.1 e.1)⟩
  -- the case at m, x, y
  have l54 : ∀ (m : Nat), spB (LL ρ) s < m → m < spF (LL ρ) s → ∀ (x : Nat), x < mnP ρ F (ρ 4 r) (spB (LL ρ) s) m → ∀ (K5 : Int → Int → Int → Int → St → Prop) (K44 : Int → Int → Int → Int → Int → Int → Int → St → Prop), (∀ τ, IBf ρ τ0 τ F D s N0 r m (x + 1) 0 → K44 (r : Int) (spB (LL ρ) s : Nat) (spF (LL ρ) s : Nat) (m : Int) (mnP ρ F (ρ 4 r) (spB (LL ρ) s) m : Nat) (mnP ρ F (ρ 5 r) m (spF (LL ρ) s) : Nat) ((x + 1 : Nat) : Int) τ) → ∀ (d y : Nat) (τ : St) (n : Nat), y + d = mnP ρ F (ρ 5 r) m (spF (LL ρ) s) → d < n → IBf ρ τ0 τ F D s N0 r m x y → wp_X12_laysTwoBest_l54 Q K5 K44 n (r : Int) (spB (LL ρ) s : Nat) (spF (LL ρ) s : Nat) (m : Int) (mnP ρ F (ρ 4 r) (spB (LL ρ) s) m : Nat) (mnP ρ F (ρ 5 r) m (spF (LL ρ) s) : Nat) (x : Int) (y : Int) τ := by
    intro m m1 m2 x hx K5 K44 hK d
    have n1 : pv ρ (ρ 4 r) (spB (LL ρ) s) m ≠ -2 := fun e => by unfold mnP at hx; rw [if_pos e] at hx; omega
    have d1 := hPd (ρ 4 r) (spB (LL ρ) s) m hp1 (by omega) m1 (by omega) (by omega)
    have d2 := hPd (ρ 5 r) m (spF (LL ρ) s) hp2 (by omega) m2 (by omega) (by omega)
    induction d with
    | zero =>
      intro y τ n hy hn hI
      obtain ⟨n, rfl⟩ := suc_n hn
      have x16 : mnP ρ F (ρ 4 r) (spB (LL ρ) s) m ≤ 16 := by
        obtain ⟨⟨_, _, hB⟩, -⟩ := hI
        exact mn16 τ hB.1 _ _ _ d1
      unfold wp_X12_laysTwoBest_l54
      refine ⟨fun _ v7 e7 => ?_, fun w => absurd (by omega) w⟩
      rw [w32_of (by omega) (by omega)] at e7
      rw [e7]
      refine hK τ (hI.cg (fun b hb w => ?_))
      unfold PBf
      refine and_congr_right (fun hw => and_congr_right (fun hc => or_congr_right (and_congr_right (fun e1 => or_congr_right (and_congr_right (fun e2 => ?_))))))
      have := (two_of hg hL hb hs hw e1 e2).2.2.2.2.2.2.2.2.2.2.2
      omega
    | succ d ih =>
      intro y τ n hy hn hI
      obtain ⟨n, rfl⟩ := suc_n hn
      obtain ⟨⟨nn, LL2, hB⟩, hst⟩ := hI
      have hS1 := hS.st hst
      obtain ⟨g1, g2, g3, g4⟩ := hS1.2.1 r hr
      have n2 : pv ρ (ρ 5 r) m (spF (LL ρ) s) ≠ -2 := fun e => by unfold mnP at hy; rw [if_pos e] at hy; omega
      have x16 := mn16 τ hB.1 _ _ _ d1
      have y16 := mn16 τ hB.1 _ _ _ d2
      obtain ⟨t, ht, et⟩ := two_ex hg hL hs hr h8 h5 ⟨m1, m2⟩ n1 n2
      have ef : cf ρ (12 * s + (ρ 3 r).toNat) t = pv ρ (ρ 4 r) (spB (LL ρ) s) m := by unfold cf; rw [et]
      have eg : cg ρ (12 * s + (ρ 3 r).toNat) t = pv ρ (ρ 5 r) m (spF (LL ρ) s) := by unfold cg; rw [et]
      have em : cm ρ (12 * s + (ρ 3 r).toNat) t = (m : Int) := by unfold cm; rw [et]
      have er : (cq ρ (12 * s + (ρ 3 r).toNat) t).1 = (r : Int) := by rw [et]
      have ha : (ρ 3 r).toNat < 12 := by omega
      obtain ⟨z, ez⟩ : ∃ z : En, z = (cp ρ (12 * s + (ρ 3 r).toNat) t + scF F (cf ρ (12 * s + (ρ 3 r).toNat) t) x + scF F (cg ρ (12 * s + (ρ 3 r).toNat) t) y, t, x, y) := ⟨_, rfl⟩
      have hz : CandE ρ F (12 * s + (ρ 3 r).toNat) z := by
        rw [ez]
        refine ⟨ht, ?_, ?_, rfl⟩
        · show x < hsF F (cf ρ (12 * s + (ρ 3 r).toNat) t)
          rw [ef]; unfold mnP at hx; rw [if_neg n1] at hx; exact hx
        · show y < hsF F (cg ρ (12 * s + (ρ 3 r).toNat) t)
          rw [eg]; have : y < mnP ρ F (ρ 5 r) m (spF (LL ρ) s) := by omega
          unfold mnP at this; rw [if_neg n2] at this; exact this
      have z1 : z.2.1 = t := by rw [ez]
      have z2 : z.2.2.1 = x := by rw [ez]
      have z3 : z.2.2.2 = y := by rw [ez]
      have hp := hP0 _ ha t ht (fun e => by rw [em] at e; omega)
      unfold wp_X12_laysTwoBest_l54
      rw [Int.toNat_natCast, g2]
      refine ⟨fun w => absurd w (by omega), fun _ => ⟨by omega, r_nodeOf hL hp1 ⟨m1, by omega⟩ (by omega) (fun _ => ⟨by omega, ?_⟩) n1⟩⟩
      rw [g3]
      refine r_nodeOf hL hp2 ⟨m2, qs.2.1⟩ (by omega) (fun _ => ?_) n2
      refine r_base1 hg hL (fun r hr => ⟨(hS1.2.1 r hr).1, (hS1.2.1 r hr).2.2.2⟩) hF hT hs hD hN (bP m x y) hB ha (z := z) (by rw [z1]; exact hp) hz ?_ (by rw [z1]; exact er) hr rfl (by rw [z1]; exact em.symm) rfl (by rw [z1, z2, ef]) (by rw [z1, z3, eg]) (fun τ2 n2' L2' hB2 hst2 v16 e16 => ?_)
      · rintro ⟨-, -, h | ⟨-, h | ⟨-, h | ⟨-, h⟩⟩⟩⟩
        · rw [z1, er] at h; omega
        · rw [z1, em] at h; omega
        · omega
        · omega
      · rw [w32_of (by omega) (by omega)] at e16
        rw [e16]
        refine ih (y + 1) τ2 n (by omega) (by omega) ⟨⟨n2', L2', hB2.cg (fun b hb w => ?_)⟩, hst.tr hst2⟩
        constructor
        · rintro (h | ⟨rfl, rfl⟩)
          · obtain ⟨u1, u2, u3⟩ := h
            refine ⟨u1, u2, u3.imp id (fun h => ⟨h.1, h.2.imp id (fun h => ⟨h.1, h.2.imp id (fun h => ⟨h.1, by omega⟩)⟩)⟩)⟩
          · exact ⟨hz, by rw [z1, em]; omega, Or.inr ⟨by rw [z1]; exact er, Or.inr ⟨by rw [z1]; exact em, Or.inr ⟨z2, by omega⟩⟩⟩⟩
        · rintro ⟨u1, u2, h | ⟨h1, h | ⟨h2, h | ⟨h3, h⟩⟩⟩⟩
          · exact Or.inl ⟨u1, u2, Or.inl h⟩
          · exact Or.inl ⟨u1, u2, Or.inr ⟨h1, Or.inl h⟩⟩
          · exact Or.inl ⟨u1, u2, Or.inr ⟨h1, Or.inr ⟨h2, Or.inl h⟩⟩⟩
          · by_cases hy2 : w.2.2.2 = y
            · have tw := two_of hg hL hb hs u1 h1 h2
              have eb : b = (ρ 3 r).toNat := by have := tw.2.2.1; omega
              subst eb
              refine Or.inr ⟨rfl, ?_⟩
              have e1 : w.2.1 = t := cq_inj u1.1 ht (by rw [h1, er]) (by rw [h2, em])
              rw [ez]
              refine Prod.ext ?_ (Prod.ext e1 (Prod.ext h3 hy2))
              rw [u1.2.2.2, e1, h3, hy2]
            · exact Or.inl ⟨u1, u2, Or.inr ⟨h1, Or.inr ⟨h2, Or.inr ⟨h3, by omega⟩⟩⟩⟩
  have l44 : ∀ (m : Nat), spB (LL ρ) s < m → m < spF (LL ρ) s → ∀ (K5 : Int → Int → Int → Int → St → Prop), (∀ τ, IBf ρ τ0 τ F D s N0 r (m + 1) 0 0 → K5 (r : Int) (spB (LL ρ) s : Nat) (spF (LL ρ) s : Nat) ((m + 1 : Nat) : Int) τ) → ∀ (d x : Nat) (τ : St) (n : Nat), x + d = mnP ρ F (ρ 4 r) (spB (LL ρ) s) m → d < n → IBf ρ τ0 τ F D s N0 r m x 0 → wp_X12_laysTwoBest_l44 Q K5 n (r : Int) (spB (LL ρ) s : Nat) (spF (LL ρ) s : Nat) (m : Int) (mnP ρ F (ρ 4 r) (spB (LL ρ) s) m : Nat) (mnP ρ F (ρ 5 r) m (spF (LL ρ) s) : Nat) (x : Int) τ := by
    intro m m1 m2 K5 hK d
    induction d with
    | zero =>
      intro x τ n hx hn hI
      obtain ⟨n, rfl⟩ := suc_n hn
      unfold wp_X12_laysTwoBest_l44
      refine ⟨fun _ v6 e6 => ?_, fun w => absurd (by omega) w⟩
      rw [w32_of (by omega) (by omega)] at e6
      rw [e6]
      refine hK τ (hI.cg (fun b hb w => ?_))
      unfold PBf
      refine and_congr_right (fun hw => and_congr_right (fun hc => or_congr_right (and_congr_right (fun e1 => ?_))))
      by_cases e2 : cm ρ (12 * s + b) w.2.1 = (m : Int)
      · have := (two_of hg hL hb hs hw e1 e2).2.2.2.2.2.2.2.2.2.2.1
        omega
      · omega
    | succ d ih =>
      intro x τ n hx hn hI
      obtain ⟨n, rfl⟩ := suc_n hn
      unfold wp_X12_laysTwoBest_l44
      refine ⟨fun w => absurd w (by omega), fun _ => ?_⟩
      have y16 : mnP ρ F (ρ 5 r) m (spF (LL ρ) s) ≤ 16 := by
        obtain ⟨⟨_, _, hB⟩, -⟩ := hI
        exact mn16 τ hB.1 _ _ _ (hPd (ρ 5 r) m (spF (LL ρ) s) hp2 (by omega) m2 (by omega) (by omega))
      exact l54 m m1 m2 x (by omega) K5 _ (fun τ' hI' => ih (x + 1) τ' n (by omega) (by omega) hI') _ 0 τ bigN (Nat.zero_add _) (by unfold bigN; omega) hI
  have l5 : ∀ (d m : Nat) (τ : St) (n : Nat), m + d = spF (LL ρ) s → d < n → spB (LL ρ) s < m → IBf ρ τ0 τ F D s N0 r m 0 0 → wp_X12_laysTwoBest_l5 Q n (r : Int) (spB (LL ρ) s : Nat) (spF (LL ρ) s : Nat) (m : Int) τ := by
    intro d
    induction d with
    | zero =>
      intro m τ n hm hn hm1 hI
      obtain ⟨n, rfl⟩ := suc_n hn
      unfold wp_X12_laysTwoBest_l5
      refine ⟨fun _ => hQ τ (hI.cg (fun b hb w => ?_)), fun w => absurd (by omega) w⟩
      unfold PBf
      refine and_congr_right (fun hw => and_congr_right (fun hc => ?_))
      obtain ⟨r', -, -, -, hc', -, -, -, -, kind⟩ := cs_kind hg hL hb hs hw.1
      rcases kind with ⟨-, -, e2, -⟩ | ⟨-, m', k1, k2, e2, -⟩
      · exact absurd e2 hc
      · clear hI
        by_cases e1 : (cq ρ (12 * s + b) w.2.1).1 = (r : Int)
        · omega
        · omega
    | succ d ih =>
      intro m τ n hm hn hm1 hI
      obtain ⟨n, rfl⟩ := suc_n hn
      obtain ⟨⟨nn, L2, hB⟩, hst⟩ := id hI
      have hS1 := hS.st hst
      obtain ⟨g1, g2, g3, g4⟩ := hS1.2.1 r hr
      unfold wp_X12_laysTwoBest_l5
      rw [Int.toNat_natCast, g2]
      refine ⟨fun w => absurd w (by omega), fun _ => ⟨by omega, r_manyOf hL hS1.2.2 hB.1 hp1 ⟨hm1, by omega⟩ (hPd _ _ _ hp1 (by omega) hm1 (by omega) (by omega)) ⟨by omega, ?_⟩⟩⟩
      rw [g3]
      refine r_manyOf hL hS1.2.2 hB.1 hp2 ⟨by omega, qs.2.1⟩ (hPd _ _ _ hp2 (by omega) (by omega) (by omega) (by omega)) ?_
      have x16 := mn16 τ hB.1 _ _ _ (hPd (ρ 4 r) (spB (LL ρ) s) m hp1 (by omega) hm1 (by omega) (by omega))
      exact l44 m hm1 (by omega) _ (fun τ' hI' => ih (m + 1) τ' n (by omega) (by omega) (by omega) hI') _ 0 τ bigN (Nat.zero_add _) (by unfold bigN; omega) hI
  unfold wp_X12_laysTwoBest
  intro v1 e1
  rw [w32_of (by omega) (by omega), show ((spB (LL ρ) s : Nat) : Int) + 1 = ((spB (LL ρ) s + 1 : Nat) : Int) by omega] at e1
  rw [e1]
  refine l5 (spF (LL ρ) s - (spB (LL ρ) s + 1)) (spB (LL ρ) s + 1) τ bigN (by omega) (by unfold bigN; omega) (by omega) (hI.cg (fun b hb w => ?_))
  unfold PBf
  refine and_congr_right (fun hw => and_congr_right (fun hc => or_congr_right (and_congr_right (fun e1 => ?_))))
  obtain ⟨r', -, -, -, hc', -, -, -, -, kind⟩ := cs_kind hg hL hb hs hw.1
  rcases kind with ⟨-, -, e2, -⟩ | ⟨-, m', k1, k2, e2, -⟩
  · exact absurd e2 hc
  · omega
