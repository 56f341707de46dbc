/-! a whole span -/
def dSp (D0 : Nat → Prop) (s q : Nat) : Prop := D0 q ∨ q / 12 = s
theorem fo_ready {ρ σ : St} (hg : Wg ρ) (hL : LL ρ < 9) {Fs F : Fo} {D0 : Nat → Prop} {s : Nat} (hs : s < spN (LL ρ)) (hD0 : ∀ q, D0 q → q < 12 * spN (LL ρ) ∧ q / 12 ≠ s) (hFs : ClF ρ Fs D0) (hP0 : ∀ a, a < 12 → ∀ t, t < (cI ρ (12 * s + a)).length → ¬ (cm ρ (12 * s + a) t = -1 ∧ 0 ≤ cf ρ (12 * s + a) t) → PDf ρ D0 (12 * s + a) t) (h : LIs ρ σ Fs F D0 s 12) : GRW ρ σ F F (dSp D0 s) s 0 := by
  obtain ⟨hG, hF, hlow, hz0, hSg, hT, hBw, hUC, h67⟩ := h
  have hDs : ∀ q, dSp D0 s q → D0 q ∨ ∃ b, b < 12 ∧ q = 12 * s + b := by
    rintro q (h | h)
    · exact Or.inl h
    · exact Or.inr ⟨q % 12, by omega, by omega⟩
  have old : ∀ q, (D0 q ∨ ∃ b, b < 12 ∧ ¬ Wgo ρ b ∧ q = 12 * s + b) → dSp D0 s q := by
    rintro q (h | ⟨b, hb, -, h⟩)
    · exact Or.inl h
    · exact Or.inr (by omega)
  have zg : ∀ b, b < 12 → Wgo ρ b → F.1 (12 * s + b) = 0 := fun b hb hw => hz0 b hb (Or.inl hw)
  have three : ∀ q, dSp D0 s q → (D0 q ∨ ∃ b, b < 12 ∧ ¬ Wgo ρ b ∧ q = 12 * s + b) ∨ ∃ b, b < 12 ∧ Wgo ρ b ∧ q = 12 * s + b := by
    intro q hq
    rcases hDs q hq with h | ⟨b, hb, h⟩
    · exact Or.inl (Or.inl h)
    · by_cases hw : Wgo ρ b
      · exact Or.inr ⟨b, hb, hw, h⟩
      · exact Or.inl (Or.inr ⟨b, hb, hw, h⟩)
  have hF2 : ClF ρ F (dSp D0 s) := by
    intro q hq
    rcases three q hq with h | ⟨b, hb, hw, rfl⟩
    · obtain ⟨g1, g2, g3⟩ := hF q h
      exact ⟨g1, g2, fun t ht => ⟨fun h0 => old _ ((g3 t ht).1 h0), fun h0 => old _ ((g3 t ht).2.1 h0), (g3 t ht).2.2⟩⟩
    · have z := zg b hb hw
      refine ⟨fun k hk => by omega, fun k l _ hl => by omega, fun t ht => ?_⟩
      by_cases hu : cm ρ (12 * s + b) t = -1 ∧ 0 ≤ cf ρ (12 * s + b) t
      · obtain ⟨r, hr, h8, h3, hc, hcp, hpr, -, -, kind⟩ := cs_kind hg hL hb hs ht
        rcases kind with ⟨h5, e1, e2, -, -, ⟨-, e3⟩ | ⟨b2, b1, b2', e3⟩⟩ | ⟨-, m, m1, m2, e1, -⟩
        · omega
        · refine ⟨fun _ => Or.inr (by rw [e3]; omega), fun h0 => absurd h0 (by omega), by omega⟩
        · omega
      · have := hP0 b hb t ht hu
        exact ⟨fun h0 => Or.inl (this.1 h0), fun h0 => Or.inl (this.2.1 h0), this.2.2⟩
  have hSg2 : ∀ q, dSp D0 s q → SgF ρ F q := by
    intro q hq
    rcases three q hq with (h | ⟨b, hb, hn, rfl⟩) | ⟨b, hb, hw, rfl⟩
    · exact hSg q h
    · exact (hT b hb hn).sg
    · have z := zg b hb hw
      exact ⟨by omega, fun w _ => Or.inr (fun k hk => by omega)⟩
  have exS : ExD D0 Fs F := fun q hq => by
    have := hlow q (hD0 q hq).2
    exact ⟨by omega, fun k _ => this.2 k⟩
  have bC : ∀ b, b < 12 → ∀ z, BaseC ρ F (12 * s + b) z ↔ BaseC ρ Fs (12 * s + b) z := by
    intro b hb z
    constructor
    · rintro ⟨h1, h2⟩
      have bl := base_low hg hL hb hs h1.1 h2
      exact ⟨(hlow.cand (fun h => by have := bl.1 h; omega) (fun h => by have := bl.2 h; omega)).1 h1, h2⟩
    · rintro ⟨h1, h2⟩
      have bl := base_low hg hL hb hs h1.1 h2
      exact ⟨(hlow.cand (fun h => by have := bl.1 h; omega) (fun h => by have := bl.2 h; omega)).2 h1, h2⟩
  have bL : ∀ b, b < 12 → ∀ z w, BaseC ρ Fs (12 * s + b) z → BaseC ρ Fs (12 * s + b) w → (ltE ρ Fs (12 * s + b) z w ↔ ltE ρ F (12 * s + b) z w) := fun b hb z w hz hw => exS.ltp hFs (hP0 b hb _ hz.1.1 hz.2) hz.1 hw.1
  have hDb : ∀ q, dSp D0 s q → q < 12 * spN (LL ρ) := by
    rintro q (h | h)
    · exact (hD0 q h).1
    · omega
  refine ⟨?_, ⟨hF2, fun a ha => Or.inr (by omega), fun a ha => (hSg2 _ (Or.inr (by omega))).1, fun a ha z hz => (hSg2 _ (Or.inr (by omega))).2 z hz, fun a ha hw k hk => ?_, fun a ha hw _ z hz _ => ?_, fun a ha hn hlt z hz => ?_, fun a ha hn t ht => ?_⟩, hDb, hSg2, hF2, fun q _ => ⟨Nat.le_refl _, fun _ _ => rfl⟩, LowEq.rf, hUC, fun u hu => ?_, fun a ha hw => ?_⟩
  · obtain ⟨g1, g2, g3⟩ := hG
    refine ⟨g1, fun q hq => ?_, fun q hq k hk => ?_⟩
    · rcases three q hq with h | ⟨b, hb, hw, rfl⟩
      · exact g2 q h
      · have z := zg b hb hw
        exact ⟨by omega, by omega, by rw [(hBw b hb hw).1, z]; rfl, fun k hk => by omega⟩
    · rcases three q hq with h | ⟨b, hb, hw, rfl⟩
      · exact g3 q h k hk
      · have z := zg b hb hw; omega
  · have z := zg a ha hw; omega
  · have := (hF2.sub (Or.inr (by omega)) hz).1; omega
  · rcases (hT a ha hn).2.2.2 z hz with h | ⟨h, -⟩
    · exact h
    · omega
  · have bl := base_low hg hL ha hs ht (nw_base hg hL ha hs ht hn)
    exact ⟨fun h => by have := bl.1 h; omega, fun h => by have := bl.2 h; omega⟩
  · have ui := uy_info hg (List.getElem_mem hu)
    refine ⟨0, by rw [h67 u hu]; rfl, Nat.zero_le _, fun t ht x hx => ⟨?_, fun h => absurd h (by omega)⟩⟩
    rintro ⟨k, hk, -⟩
    have z := zg (ρ 3 (uyL ρ 12)[u]).toNat (by omega) ⟨_, List.getElem_mem hu, by omega⟩
    omega
  · obtain ⟨g1, n, L, g2, g3, g4, g5⟩ := hBw a ha hw
    have z := zg a ha hw
    refine ⟨n, L, 0, (g2.cg (fun w => (bC a ha w).symm) (fun _ _ => rfl)).lt2 (fun z w hz hw' => bL a ha z w ((bC a ha z).1 hz) ((bC a ha w).1 hw')), g3, g4, by rw [g5]; rfl, Nat.zero_le _, fun i hi => ⟨?_, fun h => absurd h (by omega)⟩⟩
    rintro ⟨k, hk, -⟩
    omega
theorem c_growSpan {ρ σ : St} (hg : Wg ρ) (hL : LL ρ < 9) {F : Fo} {D0 : Nat → Prop} {s : Nat} (hs : s < spN (LL ρ)) (hD0 : ∀ q, D0 q → q < 12 * spN (LL ρ) ∧ q / 12 ≠ s) (hF : ClF ρ F D0) (hSg : ∀ q, D0 q → SgF ρ F q) (hG : GSt ρ σ F D0) (hz0 : ∀ b, b < 12 → F.1 (12 * s + b) = 0) (hP0 : ∀ a, a < 12 → ∀ t, t < (cI ρ (12 * s + a)).length → ¬ (cm ρ (12 * s + a) t = -1 ∧ 0 ≤ cf ρ (12 * s + a) t) → PDf ρ D0 (12 * s + a) t) {Q : Int → St → Prop} (hQ : ∀ σ1 F1, GSt ρ σ1 F1 (dSp D0 s) → ClF ρ F1 (dSp D0 s) → LowEq F F1 s → (∀ q, dSp D0 s q → SgF ρ F1 q) → (∀ a, a < 12 → TopP (ltE ρ F1 (12 * s + a)) (CandE ρ F1 (12 * s + a)) (F1.1 (12 * s + a)) (F1.2 (12 * s + a))) → (∀ k, (k < 54 ∨ k = 60 ∨ 67 < k) → σ1 k = σ k) → Q 0 σ1) : wp_X3_growSpan (s : Int) σ Q := by
  have q3 := sp_3 _ hL
  have hul : (uyL ρ 12).length ≤ 40 := Nat.le_trans (uyL_le 12) (liL_40 hg)
  have eD : D0 = (fun q => D0 q ∨ ∃ b, b < 0 ∧ ¬ Wgo ρ b ∧ q = 12 * s + b) := by
    funext q
    refine propext ⟨Or.inl, fun h => ?_⟩
    rcases h with h | ⟨b, hb, -⟩
    · exact h
    · omega
  have fin : ∀ (σ' : St) (x3 : Int), P32 x3 → (∀ a, a < 12 → (tb x3 a = true ↔ Wgo ρ a)) → (∀ k, k ≠ 66 → k ≠ 67 → σ' k = σ k) → UCs ρ σ' s → (∀ u, u < (uyL ρ 12).length → σ' 67 u = 0) → wp_X3_growSpan_l91 Q bigN ((12 * s : Nat) : Int) x3 0 σ' := by
    intro σ' x3 h3 hgo hk hUC h67
    have hG' : GSt ρ σ' F D0 := hG.ext (fun k h => hk k (by unfold okG at h; omega) (by unfold okG at h; omega))
    refine c_labels hg hL (Fs := F) (D0 := D0) hs hD0 hF hP0 h3 hgo (σ0 := σ') (fun σ1 F1 hI k1 => ?_) 12 0 σ' F bigN (by omega) (by unfold bigN; omega) ⟨by rw [← eD]; exact hG', by rw [← eD]; exact hF, LowEq.rf, fun b hb _ => hz0 b hb, hSg, fun b hb => by omega, fun b hb => by omega, hUC, h67⟩ (fun _ _ => rfl)
    have hW := fo_ready hg hL hs hD0 hF hP0 hI
    unfold wp_X3_growSpan_b168
    refine c_turnsF hg hL hs (F0 := F1) (D := dSp D0 s) (fun q hq hne t ht => ?_) h3 hgo (σ0 := σ1) (fun σ2 F2 g1 g2 g3 g4 g5 g6 => ?_) 192 0 _ σ1 F1 0 bigN (by omega) (by unfold bigN; omega) hW (Nat.zero_le _) (fun _ _ => rfl) (fun h4 b hb hWb => ?_)
    · rcases hq with h | h
      · have := (hF q h).2.2 t ht
        exact ⟨fun h0 => (hD0 _ (this.1 h0)).2, fun h0 => (hD0 _ (this.2.1 h0)).2⟩
      · exact absurd h hne
    · refine hQ σ2 F2 g1 g2 (fun q hq => ?_) g4 g5 (fun k h => ?_)
      · have l1 := hI.2.2.1 q hq
        have l2 := g3 q hq
        exact ⟨l2.1.trans l1.1, fun k => (l2.2 k).trans (l1.2 k)⟩
      · rw [g6 k h, k1 k h, hk k (by omega) (by omega)]
    · have x0 : x3 = 0 := by
        by_cases e : x3 = 0
        · exact e
        · rw [if_neg e] at h4; exact absurd h4 (by decide)
      have := (hgo b hb).2 hWb
      rw [x0, tb_0] at this
      exact absurd this (by decide)
  have lp : ∀ (d u : Nat) (x3 : Int) (σ' : St) (m : Nat), u + d = (uyL ρ 12).length → d < m → P32 x3 → (∀ a, a < 12 → (tb x3 a = true ↔ ∃ v, ∃ h : v < (uyL ρ 12).length, v < u ∧ ρ 3 (uyL ρ 12)[v] = (a : Int))) → (∀ k, k ≠ 66 → k ≠ 67 → σ' k = σ k) → (∀ v, ∀ h : v < (uyL ρ 12).length, v < u → σ' 67 v = 0 ∧ ∃ t, uTc ρ s (uyL ρ 12)[v] t ∧ σ' 66 v = (((PL ρ (12 * s + (ρ 3 (uyL ρ 12)[v]).toNat)).length + t : Nat) : Int)) → wp_X3_growSpan_l10 Q m ((12 * s : Nat) : Int) x3 (u : Int) σ' := by
    intro d
    induction d with
    | zero =>
      intro u x3 σ' m hd hm h3 hb hk hv
      obtain ⟨m, rfl⟩ := suc_n hm
      unfold wp_X3_growSpan_l10
      rw [hk 24 (by decide) (by decide), hG.1.1.1.2.2.1.2.2.2.1]
      refine ⟨fun _ => fin σ' x3 h3 (fun a ha => ?_) hk (fun v hv' => (hv v hv' (by omega)).2) (fun v hv' => (hv v hv' (by omega)).1), fun h => absurd (by omega) h⟩
      rw [hb a ha]
      constructor
      · rintro ⟨v, h, -, e⟩
        exact ⟨_, List.getElem_mem h, e⟩
      · rintro ⟨r, hr, e⟩
        obtain ⟨v, h, rfl⟩ := List.getElem_of_mem hr
        exact ⟨v, h, by omega, e⟩
    | succ d ih =>
      intro u x3 σ' m hd hm h3 hb hk hv
      obtain ⟨m, rfl⟩ := suc_n hm
      have hu : u < (uyL ρ 12).length := by omega
      have e33 : σ 33 u = (((uyL ρ 12)[u] : Nat) : Int) := hG.1.1.1.2.2.1.2.2.2.2 u hu
      obtain ⟨u1, u2, u3, u4, u5, u6⟩ := uy_info hg (List.getElem_mem hu)
      obtain ⟨k1, k2, k3, k4, k5, k6⟩ := hG.1.1.1.2.2.1.1.2 (uyL ρ 12)[u] u1
      obtain ⟨t, ht⟩ := uTc_ex hg hL hs (List.getElem_mem hu)
      have hg1 := hg.2.1
      unfold wp_X3_growSpan_l10
      rw [hk 24 (by decide) (by decide), hG.1.1.1.2.2.1.2.2.2.1, Int.toNat_natCast, hk 33 (by decide) (by decide), e33, w32_of (x := (u : Int) + 1) (by omega) (by omega), show (u : Int) + 1 = ((u + 1 : Nat) : Int) by omega]
      refine ⟨fun h => absurd h (by omega), fun _ => ⟨by omega, fun v2 e2 => ⟨by omega, fun σ3 e3 => ?_⟩⟩⟩
      subst e2
      have k3' : ∀ k, k ≠ 66 → k ≠ 67 → σ3 k = σ k := fun k h1 h2 => by rw [e3, upS_k h2]; exact hk k h1 h2
      have hB3 : Bt ρ σ3 := (hG.ext (σ1 := σ3) (fun k h => k3' k (by unfold okG at h; omega) (by unfold okG at h; omega))).1.1
      rw [Int.toNat_natCast, k3' 15 (by decide) (by decide), k1, w32_of (by omega) (by omega), show ((12 * s : Nat) : Int) + ρ 3 (uyL ρ 12)[u] = ((12 * s + (ρ 3 (uyL ρ 12)[u]).toNat : Nat) : Int) by omega]
      refine ⟨by omega, c_caseOfRule hg hL hB3 hs (List.getElem_mem hu) ht ⟨by omega, fun σ6 e6 => ⟨by omega, fun v7 e7 v8 e8 => ?_⟩⟩⟩
      have k6' : ∀ k, k ≠ 66 → k ≠ 67 → σ6 k = σ k := fun k h1 h2 => by rw [e6, upS_k h1]; exact k3' k h1 h2
      rw [k6' 15 (by decide) (by decide), k1, show ρ 3 (uyL ρ 12)[u] = (((ρ 3 (uyL ρ 12)[u]).toNat : Nat) : Int) by omega, b_shl_1 _ (by omega)] at e7
      rw [e8, e7]
      refine ih (u + 1) _ σ6 m (by omega) (by omega) (b_or_p h3 (pow31 (by omega))) (fun a ha => ?_) k6' (fun v h hvu => ?_)
      · rw [tb_or h3 (pow31 (by omega)), tb_pow, Bool.or_eq_true, hb a ha, decide_eq_true_iff]
        constructor
        · rintro (⟨v, h, hvu, e⟩ | e)
          · exact ⟨v, h, by omega, e⟩
          · exact ⟨u, hu, by omega, by omega⟩
        · rintro ⟨v, h, hvu, e⟩
          by_cases ev : v = u
          · subst ev; right; omega
          · exact Or.inl ⟨v, h, by omega, e⟩
      · by_cases ev : v = u
        · subst ev
          refine ⟨by rw [e6, upS_k (by decide), e3, upS_s], t, ht, by rw [e6, upS_s]⟩
        · obtain ⟨g1, g2, g3, g4⟩ := hv v h (by omega)
          exact ⟨by rw [e6, upS_k (by decide), e3, upS_j ev]; exact g1, g2, g3, by rw [e6, upS_j ev, e3, upS_k (by decide)]; exact g4⟩
  unfold wp_X3_growSpan
  intro v1 e1
  rw [w32_of (by omega) (by omega), show (s : Int) * 12 = ((12 * s : Nat) : Int) by push_cast; omega] at e1
  rw [e1]
  exact lp (uyL ρ 12).length 0 0 σ bigN (by omega) (by unfold bigN; omega) ⟨by decide, by decide⟩ (fun a ha => by rw [tb_0]; exact ⟨fun h => absurd h (by decide), fun ⟨v, h, hv, _⟩ => absurd hv (by omega)⟩) (fun _ _ _ => rfl) (fun v h hv => absurd hv (by omega))
