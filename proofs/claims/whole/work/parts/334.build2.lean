theorem liL_same {ρ : St} {a : Nat} (ha : a ≤ 12) (h : (liL ρ 12).length ≤ (liL ρ a).length) : liL ρ a = liL ρ 12 := by
  have h2 := liL_mono (ρ := ρ) ha
  have := liL_take (ρ := ρ) ha (x := (liL ρ 12).length) (by omega)
  rw [List.take_length] at this
  exact this.symm
theorem c_as72 {ρ : St} (hL : LL ρ < 9) {s : Nat} (hs : s < spN (LL ρ)) {Q : Int → St → Prop} (hq : ∀ σ1, Bs ρ σ1 → CA σ1 (PL ρ (12 * (s + 1))) → FC ρ σ1 (12 * (s + 1)) → Q 0 σ1) : ∀ (e a : Nat) (σ : St) (n : Nat), a + e = 12 → e < n → Bs ρ σ → CA σ (PL ρ (12 * s) ++ cS ρ s (liL ρ 12)) → FC ρ σ (12 * s + a) → (liL ρ 12).length ≤ (liL ρ a).length → wp_X0_addSpan_l72 Q n (s : Int) (a : Int) σ := by
  intro e
  have q3 := sp_3 _ hL
  induction e with
  | zero =>
    intro a σ n he hn hB hC hF hl
    obtain ⟨n, rfl⟩ := suc_n hn
    have : a = 12 := by omega
    subst this
    unfold wp_X0_addSpan_l72
    refine ⟨fun _ => hq σ hB ?_ ?_, fun hc => absurd hc (by omega)⟩
    · rw [show 12 * (s + 1) = 12 * s + 12 by omega, PL_add 12 (by omega)]; exact hC
    · rw [show 12 * (s + 1) = 12 * s + 12 by omega]; exact hF
  | succ e ih =>
    intro a σ n he hn hB hC hF hl
    obtain ⟨n, rfl⟩ := suc_n hn
    unfold wp_X0_addSpan_l72
    have ei : w32 (w32 ((s : Int) * 12) + a) = ((12 * s + a : Nat) : Int) := by rw [w32_of (x := (s : Int) * 12) (by omega) (by omega), w32_of (by omega) (by omega)]; push_cast; omega
    rw [ei, Int.toNat_natCast]
    refine ⟨fun hc => absurd hc (by omega), fun _ => ⟨by omega, fun σ7 e7 v ev => ?_⟩⟩
    rw [ev, w32_of (by omega) (by omega), show (a : Int) + 1 = ((a + 1 : Nat) : Int) by omega]
    have hpl : PL ρ (12 * s) ++ cS ρ s (liL ρ 12) = PL ρ (12 * s + a) := by rw [PL_add a (by omega), liL_same (by omega) hl]
    rw [hC.1, hpl] at e7
    refine ih (a + 1) σ7 n (by omega) (by omega) (by rw [e7]; exact hB) (by rw [e7]; exact hC) (hF.put e7) ?_
    have := liL_mono (ρ := ρ) (b := a) (c := a + 1) (by omega); omega
theorem cS_one {ρ : St} {s r : Nat} : cS ρ s [r] = cC ρ (spB (LL ρ) s) (spF (LL ρ) s) r := by unfold cS; simp
theorem c_as4 {ρ : St} (hg : Wg ρ) (hL : LL ρ < 9) (h8 : 0 ≤ ρ 0 8) {s : Nat} (hs : s < spN (LL ρ)) {Q : Int → St → Prop} (hq : ∀ σ1, Bs ρ σ1 → CA σ1 (PL ρ (12 * (s + 1))) → FC ρ σ1 (12 * (s + 1)) → Q 0 σ1) : ∀ (e x a : Nat) (σ : St) (n : Nat), x + e = (liL ρ 12).length → a ≤ 12 → e < n → Bs ρ σ → CA σ (PL ρ (12 * s) ++ cS ρ s ((liL ρ 12).take x)) → FC ρ σ (12 * s + a) → x ≤ (liL ρ a).length → wp_X0_addSpan_l4 Q n (s : Int) (a : Int) (x : Int) σ := by
  intro e
  have h40 := liL_40 hg
  have hn4 := hg.2.1
  have hn0 := hg.1
  induction e with
  | zero =>
    intro x a σ n he ha hn hB hC hF hx
    obtain ⟨n, rfl⟩ := suc_n hn
    unfold wp_X0_addSpan_l4
    rw [hB.2.2.1.2.1]
    refine ⟨fun _ => c_as72 hL hs hq (12 - a) a σ bigN (by omega) (by unfold bigN; omega) hB ?_ hF (by omega), fun hc => absurd hc (by omega)⟩
    rw [show x = (liL ρ 12).length by omega, List.take_length] at hC; exact hC
  | succ e ih =>
    intro x a σ n he ha hn hB hC hF hx
    obtain ⟨n, rfl⟩ := suc_n hn
    have hxl : x < (liL ρ 12).length := by omega
    obtain ⟨h, h12, h3, h80, hb1, hb2, hrn⟩ := liL_at 12 hxl
    have hr : (((liL ρ 12)[x] : Nat) : Int) < ρ 0 4 := by omega
    have e34 : σ 34 x = (((liL ρ 12)[x] : Nat) : Int) := hB.2.2.1.2.2.1 x hxl
    obtain ⟨k1, -⟩ := hB.2.2.1.1.2 _ hr
    unfold wp_X0_addSpan_l4
    rw [hB.2.2.1.2.1, Int.toNat_natCast, e34, Int.toNat_natCast, k1, h3]
    refine ⟨fun hc => absurd hc (by omega), fun _ => ⟨by omega, by omega, fun v ev => ?_⟩⟩
    rw [ev]
    refine c_as28 hL hs (by omega) h12 (fun b hb hxb => ?_) (h + 1) a σ bigN (by omega) ha (by unfold bigN; omega) hB hC hF hx (fun σ1 a1 b1 b2 b3 b4 b5 b6 => ?_)
    · have := liL_mono (ρ := ρ) hb; omega
    · rw [show σ1 34 x = (((liL ρ 12)[x] : Nat) : Int) from b4.2.2.1.2.2.1 x hxl]
      refine c_addCases hg hL h8 hr hs b4 b6 b5 (room hg hL hs hxl) (fun σ2 d1 d2 d3 w ew => ?_)
      rw [ew, w32_of (by omega) (by omega), show (x : Int) + 1 = ((x + 1 : Nat) : Int) by omega]
      refine ih (x + 1) a1 σ2 n (by omega) b1 (by omega) d1 ?_ d2 ?_
      · rw [List.take_succ_eq_append_getElem hxl, cS_app, cS_one, ← List.append_assoc]; exact d3
      · have := liL_mono (ρ := ρ) (b := h + 1) (c := a1) (by omega); omega
theorem c_addSpan {ρ σ : St} (hg : Wg ρ) (hL : LL ρ < 9) (h8 : 0 ≤ ρ 0 8) {s : Nat} (hs : s < spN (LL ρ)) (hB : Bs ρ σ) (hC : CA σ (PL ρ (12 * s))) (hF : FC ρ σ (12 * s)) {Q : Int → St → Prop} (hq : ∀ σ1, Bs ρ σ1 → CA σ1 (PL ρ (12 * (s + 1))) → FC ρ σ1 (12 * (s + 1)) → Q 0 σ1) : wp_X0_addSpan (s : Int) σ Q := by
  unfold wp_X0_addSpan
  have h40 := liL_40 hg
  exact c_as4 hg hL h8 hs hq (liL ρ 12).length 0 0 σ bigN (by omega) (by omega) (by unfold bigN; omega) hB (by rw [List.take_zero]; show CA σ (PL ρ (12 * s) ++ []); rw [List.append_nil]; exact hC) hF (by omega)
/-- the chart is built of ρ -/
def Bt (ρ σ : St) : Prop := Bs ρ σ ∧ CA σ (PL ρ (12 * spN (LL ρ))) ∧ FC ρ σ (12 * spN (LL ρ) + 1)
theorem c_b28 {ρ : St} (hg : Wg ρ) (hL : LL ρ < 9) (h8 : 0 ≤ ρ 0 8) {Q : Int → St → Prop} (hq : ∀ σ1, Bt ρ σ1 → Q 0 σ1) : ∀ (e s : Nat) (σ : St) (n : Nat), s + e = spN (LL ρ) → e < n → Bs ρ σ → CA σ (PL ρ (12 * s)) → FC ρ σ (12 * s) → wp_X0_build_l28 Q n (s : Int) σ := by
  intro e
  have q3 := sp_3 _ hL
  induction e with
  | zero =>
    intro s σ n he hn hB hC hF
    obtain ⟨n, rfl⟩ := suc_n hn
    have : s = spN (LL ρ) := by omega
    subst this
    unfold wp_X0_build_l28
    have e3 := hB.2.1.2.1
    have ei : w32 (((spN (LL ρ) : Nat) : Int) * 12) = ((12 * spN (LL ρ) : Nat) : Int) := by rw [w32_of (by omega) (by omega)]; push_cast; omega
    rw [e3, ei, Int.toNat_natCast]
    refine ⟨fun _ => ⟨by omega, fun σ7 e7 => ?_⟩, fun hc => absurd hc (by omega)⟩
    rw [hC.1] at e7
    exact hq σ7 ⟨by rw [e7]; exact hB, by rw [e7]; exact hC, hF.put e7⟩
  | succ e ih =>
    intro s σ n he hn hB hC hF
    obtain ⟨n, rfl⟩ := suc_n hn
    unfold wp_X0_build_l28
    rw [hB.2.1.2.1]
    refine ⟨fun hc => absurd hc (by omega), fun _ => c_addSpan hg hL h8 (by omega) hB hC hF (fun σ1 b1 b2 b3 v ev => ?_)⟩
    rw [ev, w32_of (by omega) (by omega), show (s : Int) + 1 = ((s + 1 : Nat) : Int) by omega]
    exact ih (s + 1) σ1 n (by omega) (by omega) b1 b2 b3
theorem SpL.fr {S : Nat → Nat → Bool} {σ σ1 : St} {L c : Nat} (f : Fr S σ σ1) (h2 : S 24 2 = false) (h3 : S 24 3 = false) (h26 : ∀ j, S 26 j = false) (h27 : ∀ j, S 27 j = false) (h28 : ∀ j, S 28 j = false) (h : SpL σ L c) : SpL σ1 L c := by
  obtain ⟨a, b, c1, d⟩ := h
  exact ⟨by rw [f.at h2]; exact a, by rw [f.at h3]; exact b, fun s hs => by rw [f.at (h26 s), f.at (h27 s)]; exact c1 s hs, fun i j hi hj hl => by rw [f.at (h28 _)]; exact d i j hi hj hl⟩
theorem c_build {ρ σ : St} (hW : WW ρ) (vg : VCg σ ρ) (vs : VCs σ ρ) (hb : σ 24 17 = 0 ∨ Bt ρ σ) {Q : Int → St → Prop} (hq : ∀ σ1, Bt ρ σ1 → Q 0 σ1) : wp_X0_build σ Q := by
  obtain ⟨wt, wo, wg, wb, ws0, ws1, ws2⟩ := hW
  have hL : LL ρ < 9 := by unfold LL; omega
  unfold wp_X0_build
  refine ⟨fun h0 σ1 e1 => ?_, fun h0 => ?_⟩
  · have vg1 : VCg σ1 ρ := by rw [e1]; exact vg
    have vs1 : VCs σ1 ρ := by rw [e1]; exact vs
    refine mf_X0_layOutSpans (σ0 := σ1) (Q := fun _ σ2 => SpL σ2 (LL ρ) (spN (LL ρ))) (fun r2 σ3 h3 f3 => ?_) Fr.rf (c_layOutSpans hL (by rw [vs1.1]; unfold LL; omega) (fun _ h => h))
    have vg3 : VCg σ3 ρ := vg1.fr f3 ⟨rfl, fun _ => rfl, fun _ => rfl, fun _ => rfl, fun _ => rfl, fun _ => rfl, fun _ => rfl⟩
    have vs3 : VCs σ3 ρ := vs1.fr f3 ⟨rfl, fun _ => rfl⟩
    refine mf_X0_gatherLive (σ0 := σ3) (Q := fun _ σ2 => GL2 ρ σ2 (liL ρ 12) (uyL ρ 12)) (fun r4 σ5 h5 f5 σ6 e6 => ?_) Fr.rf (c_gatherLive wg vg3 (fun _ h => h))
    have hB : Bs ρ σ5 := ⟨vs3.fr f5 ⟨rfl, fun _ => rfl⟩, h3.fr f5 rfl rfl (fun _ => rfl) (fun _ => rfl) (fun _ => rfl), h5, by rw [f5.at rfl, f3.at rfl, e1, upS_s]⟩
    have q3 := sp_3 _ hL
    exact c_b28 wg hL ws0 (fun σ7 h7 => hq σ7 h7) (spN (LL ρ)) 0 σ6 bigN (by omega) (by unfold bigN; omega) (by rw [e6]; exact hB) ⟨by rw [e6, upS_s]; rfl, fun t ht => absurd ht (by simp [PL])⟩ (fun k hk => by omega)
  · rcases hb with hb | hb
    · exact absurd hb h0
    · exact hq σ hb
