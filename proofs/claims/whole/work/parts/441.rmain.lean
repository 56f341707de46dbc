/-! a span of the reference grows: the main loop -/
theorem NdC.put {ρ τ τ1 : St} (hL : LL ρ < 9) {F F1 : Fo} {D : Nat → Prop} {qa : Nat} (hF : ClF ρ F D) (hx : ExD D F F1) (hR : RFo ρ τ F D) (hqa : D qa) (h16 : F.1 qa < 16) (e : ∀ k, 28 ≤ k → k ≤ 36 → τ1 k = τ k) (e37 : ∀ j, j ≠ 16 * iR ρ qa + F.1 qa → τ1 37 j = τ 37 j) {q : Nat} {z : En} {v : Int} (hp : PDf ρ D q z.2.1) (hz : CandE ρ F q z) (h : NdC ρ τ F q z v) : NdC ρ τ1 F1 q z v := by
  have part : ∀ (c : Int) (x : Nat), (0 ≤ c → D c.toNat) → x < hsF F c → chN ρ τ1 c x = chN ρ τ c x := by
    intro c x hc hx
    unfold chN
    by_cases h0 : c < 0
    · rw [if_pos h0, if_pos h0]
    · rw [if_neg h0, if_neg h0]
      rw [hsF_pos (by omega)] at hx
      have hd := hc (by omega)
      obtain ⟨d1, d2, -⟩ := hR _ hd
      have d3 := (hR _ hqa).1
      refine e37 _ (fun g => ?_)
      by_cases eq : c.toNat = qa
      · rw [eq] at g hx; omega
      · have : iR ρ c.toNat ≠ iR ρ qa := fun e => eq (iR_inj hL d1 d3 e)
        omega
  obtain ⟨n0, n1, n2, n3, n4, n5, n6, n7, n8, n9, n10⟩ := h.ex hF hx hp hz
  unfold NdC
  rw [part _ _ hp.1 hz.2.1, part _ _ hp.2.1 hz.2.2.1, e 28 (by decide) (by decide), e 29 (by decide) (by decide), e 30 (by decide) (by decide), e 31 (by decide) (by decide), e 32 (by decide) (by decide), e 33 (by decide) (by decide), e 34 (by decide) (by decide), e 35 (by decide) (by decide), e 36 (by decide) (by decide)]
  exact ⟨n0, n1, n2, n3, n4, n5, n6, n7, n8, n9, n10⟩
theorem r_main {ρ τ0 : St} (hg : Wg ρ) (hL : LL ρ < 9) (hS : RSg ρ τ0) (h28 : τ0 0 28 = osum (ρ 8) (ρ 0 4).toNat) {Fs : Fo} {D : Nat → Prop} {s : Nat} (hs : s < spN (LL ρ)) (hFs : ClF ρ Fs D) (hD : ∀ q, D q → q / 12 ≠ s) (hTs : ∀ q, D q → TopP (ltE ρ Fs q) (CandE ρ Fs q) (Fs.1 q) (Fs.2 q)) {T1 : Int} {c1 : Nat} (hc1 : c1 ≤ 232) (hT1 : 0 ≤ T1 ∧ T1 ≤ 39001) {Q : Int → St → Prop} (hQ : ∀ τ F1, RFo ρ τ F1 (dSp D s) → ClF ρ F1 (dSp D s) → LowEq Fs F1 s → (∀ a, a < 12 → TopP (ltE ρ F1 (12 * s + a)) (CandE ρ F1 (12 * s + a)) (F1.1 (12 * s + a)) (F1.2 (12 * s + a))) → stF τ0 τ → (∀ p, dSp D s p → ∀ k, k < F1.1 p → τ 37 (16 * iR ρ p + k) < τ 0 54) → (∀ q, q < 12 * spN (LL ρ) → s < q / 12 → τ 38 (iR ρ q) = 0) → τ 0 55 = -1 → T1 ≤ τ 0 54 → τ 0 54 ≤ T1 + 872 → Q 0 τ) : ∀ (d : Nat) (τ : St) (F : Fo) (M : Int) (c : Nat) (E : Nat → Nat × En) (n : Nat), smF F s + d = 192 → d < n → MIv ρ τ0 τ Fs F D s c E T1 M → MCm ρ F s c E (fun _ _ => False) → c = c1 + sumG (gUn ρ F s) (ρ 0 4).toNat → wp_X12_firstPending τ (fun r10 σ11 => wp_X12_laysBestSpan_l205 Q n (spB (LL ρ) s : Nat) (spF (LL ρ) s : Nat) r10 σ11) := by
  have h0 := hg.1
  have h40 := hg.2.1
  have qs := sp_s hL hs
  intro d
  induction d using Nat.strongRecOn with
  | ind d ih =>
    intro τ F M c E n hd hn hI hC hN
    obtain ⟨hR, hGr, hLow, hM, h54, hst, hlow, h38z⟩ := id hI
    have hS1 := hS.st hst
    have hF := hGr.1
    have hD' := hGr.2.1
    have hF16 := hGr.2.2.1
    have hT' := hI.sg hFs hD hTs
    have gR : sumG (gUn ρ F s) (ρ 0 4).toNat ≤ 16 * (ρ 0 4).toNat := sumG_le _ (fun i hi => by
      unfold gUn
      split
      · next h => exact hF16 _ (by omega)
      · omega)
    obtain ⟨n, rfl⟩ := suc_n hn
    refine r_firstP hg hL hS1 hF hT' hR hs hD' hM (by omega) (fun hno => ?_) (fun k hk hlv hbt => ?_)
    · unfold wp_X12_laysBestSpan_l205
      refine ⟨fun _ => hQ τ F hR hF hLow (fun a ha => gr_end hGr (fun b hb _ h16 w hw => ?_) ha) hst hlow h38z hM.2.1 (by omega) (by omega), fun w => absurd rfl w⟩
      exact Classical.byContradiction (fun ni => by
        obtain ⟨p, hp, hl, -⟩ := mp_live hF hD' hM hC hb h16 hw ni
        exact hno p hp hl)
    · obtain ⟨r, hr, r40, v0, v1, i28, i1, i29, i31, i34, nk, nik, hcr⟩ := pend_info hg hL hS1 hs hM hk hlv.1
      obtain ⟨ha, cz, -⟩ := hM.2.2.1 k hk
      have hlt := hlv.2
      have v54 : τ 39 k < τ 0 54 := by
        rcases (hM.2.2.1 k hk).2.2 with ⟨g, -⟩ | ⟨-, g, -⟩
        · exact absurd g hlv.1
        · exact g
      obtain ⟨a, ea⟩ : ∃ a, a = (E k).1 := ⟨_, rfl⟩
      obtain ⟨z, ez⟩ : ∃ z, z = (E k).2 := ⟨_, rfl⟩
      obtain ⟨v, ev⟩ : ∃ v, v = τ 39 k := ⟨_, rfl⟩
      rw [← ea] at ha cz hlt i1 nk nik
      rw [← ez] at cz nk nik
      rw [← ev] at v0 v1 i28 i29 i31 i34 nk v54
      have hqa : 12 * s + a < 12 * spN (LL ρ) := by omega
      obtain ⟨iRl, iRe⟩ := iR_it hL hqa
      rw [show (12 * s + a) % 12 = a by omega, show (12 * s + a) / 12 = s by omega] at iRe
      have h38 := (hR _ (hD' a ha)).2.2.1
      unfold wp_X12_laysBestSpan_l205
      rw [Int.toNat_natCast, ← ev]
      refine ⟨fun w => absurd w (by omega), fun _ => ⟨by omega, fun v27 e27 => ⟨by omega, fun σ28 e28 => ?_⟩⟩⟩
      rw [e27]
      have k28 : ∀ i, i ≠ 39 → σ28 i = τ i := fun i hi => by rw [e28, upS_k hi]
      rw [k28 28 (by decide), i28, Int.toNat_natCast, k28 1 (by decide), i1]
      refine ⟨⟨v0, v1⟩, by omega, fun v29 e29 => ?_⟩
      rw [e29]
      refine r_item (by omega) (by omega) ?_
      rw [iRe]
      rw [Int.toNat_natCast, k28 38 (by decide), h38, w32_of (x := (iR ρ (12 * s + a) : Int) * 16) (by omega) (by omega), w32_of (x := (iR ρ (12 * s + a) : Int) * 16 + ((F.1 (12 * s + a) : Nat) : Int)) (by omega) (by omega), show (iR ρ (12 * s + a) : Int) * 16 + ((F.1 (12 * s + a) : Nat) : Int) = ((16 * iR ρ (12 * s + a) + F.1 (12 * s + a) : Nat) : Int) by omega, Int.toNat_natCast]
      refine ⟨by omega, by omega, fun σ32 e32 => ⟨by omega, by omega, fun σ33 e33 => ?_⟩⟩
      have c38 : σ32 38 (iR ρ (12 * s + a)) = ((F.1 (12 * s + a) : Nat) : Int) := by rw [e32, upS_k (by decide), k28 38 (by decide)]; exact h38
      rw [c38, w32_of (by omega) (by omega)] at e33
      have k33 : ∀ i, i ≠ 37 → i ≠ 38 → i ≠ 39 → σ33 i = τ i := fun i i1 i2 i3 => by rw [e33, upS_k i2, e32, upS_k i1, k28 i i3]
      have e37 : ∀ j, j ≠ 16 * iR ρ (12 * s + a) + F.1 (12 * s + a) → σ33 37 j = τ 37 j := fun j hj => by rw [e33, upS_k (by decide), e32, upS_j hj, k28 37 (by decide)]
      have e37v : σ33 37 (16 * iR ρ (12 * s + a) + F.1 (12 * s + a)) = v := by rw [e33, upS_k (by decide), e32, upS_s]
      have e38 : ∀ j, j ≠ iR ρ (12 * s + a) → σ33 38 j = τ 38 j := fun j hj => by rw [e33, upS_j hj, e32, upS_k (by decide), k28 38 (by decide)]
      have e38v : σ33 38 (iR ρ (12 * s + a)) = ((F.1 (12 * s + a) : Nat) : Int) + 1 := by rw [e33, upS_s]
      have e39 : ∀ j, j ≠ k → σ33 39 j = τ 39 j := fun j hj => by rw [e33, upS_k (by decide), e32, upS_k (by decide), e28, upS_j hj]
      have e39k : σ33 39 k = -1 := by rw [e33, upS_k (by decide), e32, upS_k (by decide), e28, upS_s]
      have kk0 : σ33 0 = τ 0 := k33 0 (by decide) (by decide) (by decide)
      clear e28 e32 e33 c38 k28 e27 e29
      obtain ⟨F1, eF1⟩ : ∃ F1, F1 = addF F (12 * s + a) z := ⟨_, rfl⟩
      have hx : ExD (dSp D s) F F1 := by rw [eF1]; exact addF_ex
      have f1a : F1.1 (12 * s + a) = F.1 (12 * s + a) + 1 := by rw [eF1, addF_h, if_pos rfl]
      have f1o : ∀ p, p ≠ 12 * s + a → F1.1 p = F.1 p := fun p hp => by rw [eF1, addF_h, if_neg hp]
      have f2a : F1.2 (12 * s + a) (F.1 (12 * s + a)) = z := by rw [eF1, addF_e, if_pos ⟨rfl, rfl⟩]
      have f2o : ∀ p j, ¬ (p = 12 * s + a ∧ j = F.1 (12 * s + a)) → F1.2 p j = F.2 p j := fun p j h => by rw [eF1, addF_e, if_neg h]
      have put : ∀ {q : Nat} {w : En} {u : Int}, dSp D s q → CandE ρ F q w → NdC ρ τ F q w u → NdC ρ σ33 F1 q w u := fun hq hw hn => NdC.put hL hF hx hR (hD' a ha) hlt (fun i i1 i2 => k33 i (by omega) (by omega) (by omega)) e37 ((hF _ hq).2.2 _ hw.1) hw hn
      have GR : GrI ρ F1 (dSp D s) s (fun _ => True) z.1 := by
        rw [eF1]
        refine gr_step hGr ha trivial hlt cz nik (fun b hb _ h16 w hw hn => ?_) (fun w hw hn hne => ?_)
        · obtain ⟨p, hp, hl, e1, e2⟩ := mp_live hF hD' hM hC hb h16 hw hn
          have bt := (hbt p hp hl).1
          rw [← ez] at bt
          rcases e2 with e2 | e2
          · rw [e2] at bt; exact bt
          · exact Int.le_trans bt e2.le
        · obtain ⟨p, hp, hl, e1, e2⟩ := mp_live hF hD' hM hC ha hlt hw hn
          by_cases epk : p = k
          · rw [epk, ← ez] at e2
            rcases e2 with e2 | e2
            · exact absurd e2.symm hne
            · exact e2
          · have bt := (hbt p hp hl).2 (by rw [e1, ea]) epk
            rw [← ez, ← ea] at bt
            rcases e2 with e2 | e2
            · rw [e2] at bt; exact bt
            · exact bt.tr e2
      have RF : RFo ρ σ33 F1 (dSp D s) := by
        intro p hp
        obtain ⟨r1, r2, r3, r4⟩ := hR p hp
        by_cases ep : p = 12 * s + a
        · subst ep
          refine ⟨r1, by omega, by rw [e38v, f1a]; push_cast; rfl, fun j hj => ?_⟩
          by_cases ej : j = F.1 (12 * s + a)
          · rw [ej, e37v, f2a]; exact put hp cz nk
          · have hj2 : j < F.1 (12 * s + a) := by omega
            rw [e37 _ (by omega), f2o _ _ (fun g => ej g.2)]
            exact put hp ((hF _ hp).1 j hj2).1 (r4 j hj2)
        · have hne : iR ρ p ≠ iR ρ (12 * s + a) := fun e => ep (iR_inj hL r1 hqa e)
          rw [f1o p ep]
          refine ⟨r1, r2, by rw [e38 _ hne]; exact r3, fun j hj => ?_⟩
          rw [e37 _ (by omega), f2o _ _ (fun g => ep g.1)]
          exact put hp ((hF _ hp).1 j hj).1 (r4 j hj)
      have sm : smF F1 s = smF F s + 1 := by rw [eF1]; exact smF_add ha
      have sl : smF F1 s ≤ 192 := sumG_le 12 (fun b hb => GR.2.2.1 b hb)
      have MP : MPd ρ σ33 F1 s c E := by
        refine ⟨by rw [kk0]; exact hM.1, by rw [kk0]; exact hM.2.1, fun p hp => ?_, hM.2.2.2⟩
        obtain ⟨l1, l2, l3⟩ := hM.2.2.1 p hp
        have dq := hD' _ l1
        refine ⟨l1, hx.cand hF dq l2, ?_⟩
        by_cases ep : p = k
        · left
          rw [ep, ← ea, ← ez]
          exact ⟨e39k, F.1 (12 * s + a), by omega, f2a⟩
        · rw [e39 p ep, kk0]
          rcases l3 with ⟨l3, l4⟩ | ⟨l3, l4, l5⟩
          · exact Or.inl ⟨l3, by rw [eF1, inF_add]; exact Or.inl l4⟩
          · refine Or.inr ⟨put dq l2 l3, l4, ?_⟩
            rw [eF1, inF_add]
            rintro (g | ⟨g1, g2⟩)
            · exact l5 g
            · exact ep (hM.2.2.2 p k hp hk (Prod.ext (by omega) (by rw [g2, ez])))
      have MC : MCm ρ F1 s c E (XN ρ F s a 0) := by
        intro b w hb hw hnX
        have cw : CandE ρ F (12 * s + b) w := add_cand hg hL hb hs (by rw [← eF1]; exact hw) (fun g => hnX ⟨g.1, g.2, by
          obtain ⟨r', e1, -⟩ := xn_rule hg hL hb hs ha hw.1 g.1
          rw [e1]; omega⟩)
        rcases hC b w hb cw (fun h => h) with h | ⟨L, l1, l2, l3⟩
        · exact Or.inl h
        · have cL : ∀ i, i < 16 → CandE ρ F (12 * s + b) (L i) := fun i hi => by
            obtain ⟨p, hp, e⟩ := l1 i hi
            have := (hM.2.2.1 p hp).2.1
            rw [e] at this
            exact this
          exact Or.inr ⟨L, l1, fun i j hij hj => (hx.lt hF (hD' b hb) (cL i (by omega)) (cL j hj)).1 (l2 i j hij hj), fun i hi => (hx.lt hF (hD' b hb) (cL i hi) cw).1 (l3 i hi)⟩
      refine r_news hg hL hS h28 hs hFs hD hTs ha eF1 (M := z.1) hc1 hT1 hF16 (fun b hb j hj => ((hF _ (hD' b hb)).1 j hj).1) cz (fun τ' c' E' x1 x2 x3 => ih (d - 1) (by omega) τ' F1 z.1 c' E' n (by omega) (by omega) x1 x2 x3) (ρ 0 4).toNat 0 σ33 bigN c E (Nat.zero_add _) (by unfold bigN; omega) ⟨RF, GR, by rw [eF1]; exact hLow.add (by omega), MP, by rw [kk0]; exact h54, hst.tr ⟨fun i hi => k33 i (by omega) (by omega) (by omega), fun j _ _ _ => by rw [kk0]⟩, fun p hp j hj => ?_, fun q hq hsq => ?_⟩ MC (fun p hp g => ?_) (by rw [hN]; rfl) e37v
      · rw [kk0]
        by_cases ep : p = 12 * s + a ∧ j = F.1 (12 * s + a)
        · rw [ep.1, ep.2, e37v]; exact v54
        · have r1 := (hR p hp).1
          have r2 := (hR p hp).2.1
          have hjF : j < F.1 p := by
            by_cases e2 : p = 12 * s + a
            · rw [e2, f1a] at hj
              have : j ≠ F.1 (12 * s + a) := fun g => ep ⟨e2, g⟩
              rw [e2]; omega
            · rw [f1o p e2] at hj; exact hj
          have : 16 * iR ρ p + j ≠ 16 * iR ρ (12 * s + a) + F.1 (12 * s + a) := by
            intro g
            by_cases e2 : p = 12 * s + a
            · exact ep ⟨e2, by rw [e2] at g; omega⟩
            · have : iR ρ p ≠ iR ρ (12 * s + a) := fun e => e2 (iR_inj hL r1 hqa e)
              omega
          rw [e37 _ this]
          exact hlow p hp j hjF
      · rw [e38 _ (fun e => by have := iR_inj hL hq hqa e; omega)]
        exact h38z q hq hsq
      · have c2 := (hM.2.2.1 p hp).2.1.2.1
        rw [g.1, g.2.1, hsF_pos (by omega), Int.toNat_natCast] at c2
        omega
