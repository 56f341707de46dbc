/-! a span of the reference grows: what a new tree brings -/
theorem pig16 {ρ : St} {F : Fo} {D : Nat → Prop} (hF : ClF ρ F D) {q : Nat} (hq : D q) {L : Nat → En} (hs : ∀ i j, i < j → j < 16 → ltE ρ F q (L i) (L j)) (hi : ∀ i, i < 16 → inF F q (L i)) : 16 ≤ F.1 q := by
  have key : ∀ i, i < 16 → ∀ k, k < F.1 q → F.2 q k = L i → i ≤ k := by
    intro i
    induction i with
    | zero => intro _ k _ _; omega
    | succ i ih =>
      intro h k hk e
      obtain ⟨k', hk', e'⟩ := hi i (by omega)
      have := ih (by omega) k' hk' e'
      have lt := hs i (i + 1) (by omega) h
      rw [← e, ← e'] at lt
      rcases Nat.lt_trichotomy k k' with g | g | g
      · exact (ltE.irr (((hF q hq).2.1 k k' g hk').tr lt)).elim
      · rw [g] at lt; exact (ltE.irr lt).elim
      · omega
  obtain ⟨k, hk, e⟩ := hi 15 (by omega)
  have := key 15 (by omega) k hk e
  omega
/-- each case waits, or was cut off behind sixteen that wait -/
def MCm (ρ : St) (F : Fo) (s c : Nat) (E : Nat → Nat × En) (X : Nat → En → Prop) : Prop := ∀ b w, b < 12 → CandE ρ F (12 * s + b) w → ¬ X b w → (∃ p, p < c ∧ E p = (b, w)) ∨ ∃ L : Nat → En, (∀ i, i < 16 → ∃ p, p < c ∧ E p = (b, L i)) ∧ (∀ i j, i < j → j < 16 → ltE ρ F (12 * s + b) (L i) (L j)) ∧ ∀ i, i < 16 → ltE ρ F (12 * s + b) (L i) w
theorem mp_live {ρ τ : St} {F : Fo} {D : Nat → Prop} (hF : ClF ρ F D) {s : Nat} (hD : ∀ a, a < 12 → D (12 * s + a)) {c : Nat} {E : Nat → Nat × En} (hM : MPd ρ τ F s c E) (hC : MCm ρ F s c E (fun _ _ => False)) {b : Nat} (hb : b < 12) (h16 : F.1 (12 * s + b) < 16) {w : En} (hw : CandE ρ F (12 * s + b) w) (hn : ¬ inF F (12 * s + b) w) : ∃ p, p < c ∧ LvP τ F s E p ∧ (E p).1 = b ∧ ((E p).2 = w ∨ ltE ρ F (12 * s + b) (E p).2 w) := by
  have lv : ∀ p z, p < c → E p = (b, z) → ¬ inF F (12 * s + b) z → LvP τ F s E p := by
    intro p z hp e ni
    obtain ⟨-, -, h⟩ := hM.2.2.1 p hp
    unfold LvP
    rw [e] at h ⊢
    refine ⟨fun h39 => ?_, h16⟩
    rcases h with ⟨-, g⟩ | ⟨g, -⟩
    · exact ni g
    · have := g.1; omega
  rcases hC b w hb hw (fun h => h) with ⟨p, hp, e⟩ | ⟨L, l1, l2, l3⟩
  · exact ⟨p, hp, lv p w hp e hn, by rw [e], Or.inl (by rw [e])⟩
  · have : ∃ i, i < 16 ∧ ¬ inF F (12 * s + b) (L i) := Classical.byContradiction (fun g => by
      have := pig16 hF (hD b hb) l2 (fun i hi => Classical.byContradiction (fun h => g ⟨i, hi, h⟩))
      omega)
    obtain ⟨i, hi, ni⟩ := this
    obtain ⟨p, hp, e⟩ := l1 i hi
    exact ⟨p, hp, lv p _ hp e ni, by rw [e], Or.inr (by rw [e]; exact l3 i hi)⟩
theorem add_cand {ρ : St} (hg : Wg ρ) (hL : LL ρ < 9) {F : Fo} {s a b : Nat} (hb : b < 12) (hs : s < spN (LL ρ)) {z w : En} (hw : CandE ρ (addF F (12 * s + a) z) (12 * s + b) w) (h : ¬ (cf ρ (12 * s + b) w.2.1 = ((12 * s + a : Nat) : Int) ∧ w.2.2.1 = F.1 (12 * s + a))) : CandE ρ F (12 * s + b) w := by
  by_cases hu : cm ρ (12 * s + b) w.2.1 = -1 ∧ 0 ≤ cf ρ (12 * s + b) w.2.1
  · obtain ⟨r, hr, h3, ⟨ht, et⟩, hc⟩ := uTc_of hg hL hb hs hw.1 hu
    have ui := uy_info hg hr
    have eb : (ρ 3 r).toNat = b := by omega
    rw [eb] at et
    have ef : cf ρ (12 * s + b) w.2.1 = ((12 * s + (ρ 4 r).toNat : Nat) : Int) := by unfold cf; rw [et]
    have eg : cg ρ (12 * s + b) w.2.1 = -1 := by unfold cg; rw [et]
    by_cases e : (ρ 4 r).toNat = a
    · obtain ⟨k1, k2, k3, k4⟩ := hw
      rw [ef, e] at k2 k4 h
      rw [eg] at k3 k4
      have hx : w.2.2.1 ≠ F.1 (12 * s + a) := fun g => h ⟨rfl, g⟩
      rw [hsF_pos (by omega), Int.toNat_natCast, addF_h, if_pos rfl] at k2
      rw [scF_pos (p := ((12 * s + a : Nat) : Int)) (by omega), Int.toNat_natCast, addF_e, if_neg (fun g => hx g.2), scF_neg (by decide)] at k4
      rw [hsF_neg (by decide)] at k3
      refine ⟨k1, ?_, ?_, ?_⟩
      · rw [ef, e, hsF_pos (by omega), Int.toNat_natCast]; omega
      · rw [eg, hsF_neg (by decide)]; exact k3
      · rw [ef, e, eg, scF_pos (p := ((12 * s + a : Nat) : Int)) (by omega), Int.toNat_natCast, scF_neg (by decide)]; exact k4
    · exact addF_old (fun _ g => by rw [ef] at g; omega) (fun g => by omega) hw
  · have bl := base_low hg hL hb hs hw.1 hu
    exact addF_old (fun h0 g => by have := bl.1 h0; omega) (fun h0 g => by have := bl.2 h0; omega) hw
theorem xn_rule {ρ : St} (hg : Wg ρ) (hL : LL ρ < 9) {s a b t : Nat} (hb : b < 12) (hs : s < spN (LL ρ)) (ha : a < 12) (ht : t < (cI ρ (12 * s + b)).length) (h : cf ρ (12 * s + b) t = ((12 * s + a : Nat) : Int)) : ∃ r : Nat, (cq ρ (12 * s + b) t).1 = (r : Int) ∧ (r : Int) < ρ 0 4 ∧ ρ 8 r = 0 ∧ ρ 5 r = -1 ∧ ρ 4 r = (a : Int) ∧ ρ 3 r = (b : Int) ∧ cm ρ (12 * s + b) t = -1 ∧ cg ρ (12 * s + b) t = -1 := by
  obtain ⟨r, hr, h8, h3, hc, -, -, -, -, kind⟩ := cs_kind hg hL hb hs ht
  rcases kind with ⟨h5, e1, e2, -, -, ⟨-, e3⟩ | ⟨b2, b1, b2', e3⟩⟩ | ⟨-, m, m1, m2, e1, -, -, -, -, e2, -⟩
  · omega
  · exact ⟨r, hc, hr, h8, h5, by omega, h3, e2, e1⟩
  · obtain ⟨b2, b1, -, b3⟩ := e2 (by omega)
    have il := inside_lt hL hs m1 m2
    omega
def gUn (ρ : St) (F : Fo) (s r : Nat) : Nat := if ρ 8 r = 0 ∧ ρ 5 r = -1 ∧ ρ 4 r < 12 then F.1 (12 * s + (ρ 4 r).toNat) else 0
theorem sumG_s {f : Nat → Nat} {n : Nat} : sumG f (n + 1) = sumG f n + f n := rfl
def XN (ρ : St) (F : Fo) (s a r b : Nat) (w : En) : Prop := cf ρ (12 * s + b) w.2.1 = ((12 * s + a : Nat) : Int) ∧ w.2.2.1 = F.1 (12 * s + a) ∧ (r : Int) ≤ (cq ρ (12 * s + b) w.2.1).1
/-- what holds while a span grows -/
def MIv (ρ τ0 τ : St) (Fs F : Fo) (D : Nat → Prop) (s c : Nat) (E : Nat → Nat × En) (T1 M : Int) : Prop := RFo ρ τ F (dSp D s) ∧ GrI ρ F (dSp D s) s (fun _ => True) M ∧ LowEq Fs F s ∧ MPd ρ τ F s c E ∧ τ 0 54 = T1 + (c : Int) ∧ stF τ0 τ ∧ (∀ p, dSp D s p → ∀ k, k < F.1 p → τ 37 (16 * iR ρ p + k) < τ 0 54) ∧ ∀ q, q < 12 * spN (LL ρ) → s < q / 12 → τ 38 (iR ρ q) = 0
theorem MIv.sg {ρ τ0 τ : St} {Fs F : Fo} {D : Nat → Prop} {s c : Nat} {E : Nat → Nat × En} {T1 M : Int} (h : MIv ρ τ0 τ Fs F D s c E T1 M) (hFs : ClF ρ Fs D) (hD : ∀ q, D q → q / 12 ≠ s) (hTs : ∀ q, D q → TopP (ltE ρ Fs q) (CandE ρ Fs q) (Fs.1 q) (Fs.2 q)) : ∀ q, dSp D s q → SgF ρ F q := by
  rintro q (g | g)
  · exact (h.2.2.1.top hFs hD g (hTs q g)).sg
  · have a := h.2.1.2.2.1 (q % 12) (by omega)
    have b := h.2.1.2.2.2.1 (q % 12) (by omega)
    rw [show 12 * s + q % 12 = q by omega] at a b
    exact ⟨a, b⟩
theorem r_news {ρ τ0 : St} (hg : Wg ρ) (hL : LL ρ < 9) (hS : RSg ρ τ0) (h28 : τ0 0 28 = osum (ρ 8) (ρ 0 4).toNat) {Fs F F1 : Fo} {D : Nat → Prop} {s : Nat} (hs : s < spN (LL ρ)) (hFs : ClF ρ Fs D) (hD : ∀ q, D q → q / 12 ≠ s) (hTs : ∀ q, D q → TopP (ltE ρ Fs q) (CandE ρ Fs q) (Fs.1 q) (Fs.2 q)) {a : Nat} (ha : a < 12) {z : En} (eF1 : F1 = addF F (12 * s + a) z) {T1 M : Int} {c1 : Nat} (hc1 : c1 ≤ 232) (hT1 : 0 ≤ T1 ∧ T1 ≤ 39001) (hF16 : ∀ b, b < 12 → F.1 (12 * s + b) ≤ 16) (hFc : ∀ b, b < 12 → ∀ k, k < F.1 (12 * s + b) → CandE ρ F (12 * s + b) (F.2 (12 * s + b) k)) (hz : CandE ρ F (12 * s + a) z) {v : Int} {Q : Int → St → Prop} {K : Int → Int → Int → St → Prop} (hK : ∀ τ c E, MIv ρ τ0 τ Fs F1 D s c E T1 M → MCm ρ F1 s c E (fun _ _ => False) → c = c1 + sumG (gUn ρ F1 s) (ρ 0 4).toNat → wp_X12_firstPending τ (fun r35 σ36 => K (spB (LL ρ) s : Nat) (spF (LL ρ) s : Nat) r35 σ36)) : ∀ (d r : Nat) (τ : St) (n c : Nat) (E : Nat → Nat × En), r + d = (ρ 0 4).toNat → d < n → MIv ρ τ0 τ Fs F1 D s c E T1 M → MCm ρ F1 s c E (XN ρ F s a r) → (∀ p, p < c → ¬ XN ρ F s a r (E p).1 (E p).2) → c + sumG (gUn ρ F s) r = c1 + sumG (gUn ρ F s) (ρ 0 4).toNat + sumG (gUn ρ F1 s) r → τ 37 (16 * iR ρ (12 * s + a) + F.1 (12 * s + a)) = v → wp_X12_laysBestSpan_l282 Q K n (spB (LL ρ) s : Nat) (spF (LL ρ) s : Nat) v (a : Int) (r : Int) τ := by
  have h0 := hg.1
  have h40 := hg.2.1
  have f1a : F1.1 (12 * s + a) = F.1 (12 * s + a) + 1 := by rw [eF1, addF_h, if_pos rfl]
  have f1b : ∀ b, b ≠ a → F1.1 (12 * s + b) = F.1 (12 * s + b) := fun b hb => by rw [eF1, addF_h, if_neg (by omega)]
  have gb : ∀ m, m ≤ (ρ 0 4).toNat → sumG (gUn ρ F s) m ≤ 16 * m := fun m hm => sumG_le m (fun i hi => by
    unfold gUn
    split
    · next h => exact hF16 _ (by omega)
    · omega)
  have gs : ∀ i, gUn ρ F1 s i ≤ gUn ρ F s i + 1 := fun i => by
    unfold gUn
    split
    · next h =>
      by_cases e : (ρ 4 i).toNat = a
      · rw [e, f1a]; omega
      · rw [f1b _ e]; omega
    · omega
  have gm : ∀ m, sumG (gUn ρ F1 s) m ≤ sumG (gUn ρ F s) m + m := by
    intro m
    induction m with
    | zero => exact Nat.le_refl _
    | succ m ihm =>
      have := gs m
      rw [sumG_s, sumG_s]; omega
  have gR := gb _ (Nat.le_refl _)
  intro d
  induction d with
  | zero =>
    intro r τ n c E hr hn hI hC hX hN hv
    obtain ⟨n, rfl⟩ := suc_n hn
    have er : r = (ρ 0 4).toNat := by omega
    subst er
    unfold wp_X12_laysBestSpan_l282
    rw [(hS.st hI.2.2.2.2.2.1).1]
    refine ⟨fun _ => hK τ c E hI (fun b w hb hw _ => hC b w hb hw (fun g => ?_)) (by omega), fun w => absurd (by omega) w⟩
    obtain ⟨r', e1, e2, -⟩ := xn_rule hg hL hb hs ha hw.1 g.1
    have := g.2.2
    omega
  | succ d ih =>
    intro r τ n c E hr hn hI hC hX hN hv
    obtain ⟨n, rfl⟩ := suc_n hn
    obtain ⟨hR, hGr, hLow, hM, h54, hst, hlow, h38z⟩ := id hI
    have hS1 := hS.st hst
    have hr4 : (r : Int) < ρ 0 4 := by omega
    obtain ⟨g1, g2, g3, g4⟩ := hS1.2.1 r hr4
    have hF1 := hGr.1
    have hD' := hGr.2.1
    have hT1' := hI.sg hFs hD hTs
    have nx : ∀ τ' c' E', MIv ρ τ0 τ' Fs F1 D s c' E' T1 M → MCm ρ F1 s c' E' (XN ρ F s a (r + 1)) → (∀ p, p < c' → ¬ XN ρ F s a (r + 1) (E' p).1 (E' p).2) → c' + sumG (gUn ρ F s) (r + 1) = c1 + sumG (gUn ρ F s) (ρ 0 4).toNat + sumG (gUn ρ F1 s) (r + 1) → τ' 37 (16 * iR ρ (12 * s + a) + F.1 (12 * s + a)) = v → wp_X12_laysBestSpan_b346 Q K (wp_X12_laysBestSpan_l282 Q K n) (spB (LL ρ) s : Nat) (spF (LL ρ) s : Nat) v (a : Int) (r : Int) τ' := by
      intro τ' c' E' x1 x2 x3 x4 x5
      unfold wp_X12_laysBestSpan_b346
      intro v9 e9
      rw [w32_of (by omega) (by omega), show (r : Int) + 1 = ((r + 1 : Nat) : Int) by omega] at e9
      rw [e9]
      exact ih (r + 1) τ' n c' E' (by omega) (by omega) x1 x2 x3 x4 x5
    have mono : ∀ b w, XN ρ F s a (r + 1) b w → XN ρ F s a r b w := fun b w h => ⟨h.1, h.2.1, by have := h.2.2; omega⟩
    have skip : ¬ (ρ 8 r = 0 ∧ ρ 5 r = -1 ∧ ρ 4 r = (a : Int)) → wp_X12_laysBestSpan_b346 Q K (wp_X12_laysBestSpan_l282 Q K n) (spB (LL ρ) s : Nat) (spF (LL ρ) s : Nat) v (a : Int) (r : Int) τ := by
      intro h
      refine nx τ c E hI (fun b w hb hw hnX => hC b w hb hw (fun g => ?_)) (fun p hp g => hX p hp (mono _ _ g)) ?_ hv
      · obtain ⟨r', e1, e2, e3, e4, e5, -⟩ := xn_rule hg hL hb hs ha hw.1 g.1
        have l1 := g.2.2
        have : ¬ ((r + 1 : Nat) : Int) ≤ (cq ρ (12 * s + b) w.2.1).1 := fun l => hnX ⟨g.1, g.2.1, l⟩
        have err : r' = r := by omega
        subst err
        exact h ⟨e3, e4, e5⟩
      · have : gUn ρ F1 s r = gUn ρ F s r := by
          unfold gUn
          split
          · next g => rw [f1b _ (fun e => h ⟨g.1, g.2.1, by have hp1 := (hg.2.2 r hr4).2.1; unfold isPart at hp1; omega⟩)]
          · rfl
        rw [sumG_s, sumG_s]; omega
    unfold wp_X12_laysBestSpan_l282
    rw [hS1.1]
    refine ⟨fun w => absurd w (by omega), fun _ => r_isIn hg (by rw [hst.2 28 (by decide) (by decide) (by decide)]; exact h28) hr4 ?_⟩
    rw [Int.toNat_natCast, g3, g2]
    by_cases h8 : ρ 8 r = 0
    · rw [if_pos h8]
      refine ⟨fun w => absurd w (by decide), fun _ => ⟨by omega, fun h5 => skip (fun g => h5 g.2.1), fun h5 => ⟨by omega, fun h4 => ?_, fun h4 => skip (fun g => h4 g.2.2)⟩⟩⟩
      have h5' : ρ 5 r = -1 := Classical.byContradiction h5
      have hh := w_head hg hr4
      obtain ⟨t, ht, et⟩ := uTc_ex hg hL hs (uy_mem hg hr4 h8 h5' (by omega))
      obtain ⟨b, eb⟩ : ∃ b, b = (ρ 3 r).toNat := ⟨_, rfl⟩
      obtain ⟨x, exx⟩ : ∃ x, x = F.1 (12 * s + a) := ⟨_, rfl⟩
      rw [← eb] at ht et
      have hb : b < 12 := by omega
      have ef : cf ρ (12 * s + b) t = ((12 * s + a : Nat) : Int) := by unfold cf; rw [et, show (ρ 4 r).toNat = a by omega]
      have eg : cg ρ (12 * s + b) t = -1 := by unfold cg; rw [et]
      have em : cm ρ (12 * s + b) t = -1 := by unfold cm; rw [et]
      have er : (cq ρ (12 * s + b) t).1 = (r : Int) := by rw [et]
      obtain ⟨y, ey⟩ : ∃ y : En, y = (cp ρ (12 * s + b) t + scF F1 (cf ρ (12 * s + b) t) x + scF F1 (cg ρ (12 * s + b) t) 0, t, x, 0) := ⟨_, rfl⟩
      have y1 : y.2.1 = t := by rw [ey]
      have y2 : y.2.2.1 = x := by rw [ey]
      have y3 : y.2.2.2 = 0 := by rw [ey]
      have hy : CandE ρ F1 (12 * s + b) y := by
        rw [ey]
        refine ⟨ht, ?_, ?_, rfl⟩
        · show x < hsF F1 (cf ρ (12 * s + b) t)
          rw [ef, hsF_pos (by omega), Int.toNat_natCast, f1a]; omega
        · show 0 < hsF F1 (cg ρ (12 * s + b) t)
          rw [eg, hsF_neg (by decide)]; decide
      have noC : ∀ w, CandE ρ F (12 * s + b) w → w ≠ y := by
        intro w hw e
        have := hw.2.1
        rw [e, y1, y2, ef, hsF_pos (by omega), Int.toNat_natCast] at this
        omega
      have ninf : ¬ inF F1 (12 * s + b) y := by
        rintro ⟨k, hk, e⟩
        rw [eF1, addF_h] at hk
        rw [eF1, addF_e] at e
        by_cases ec : 12 * s + b = 12 * s + a ∧ k = F.1 (12 * s + a)
        · rw [if_pos ec] at e
          have : b = a := by omega
          subst this
          exact noC z hz e
        · rw [if_neg ec] at e
          refine noC _ (hFc b hb k ?_) e
          by_cases e2 : 12 * s + b = 12 * s + a
          · rw [if_pos e2] at hk
            have : k ≠ F.1 (12 * s + a) := fun g => ec ⟨e2, g⟩
            rw [e2]; omega
          · rw [if_neg e2] at hk; exact hk
      have hpy : PDf ρ (dSp D s) (12 * s + b) y.2.1 := by rw [y1]; exact (hF1 _ (hD' b hb)).2.2 t ht
      have hXy : XN ρ F s a r b y := ⟨by rw [y1]; exact ef, by omega, by rw [y1, er]; exact Int.le_refl _⟩
      have fresh : ∀ p, p < c → E p ≠ (b, y) := fun p hp e => hX p hp (by rw [e]; exact hXy)
      have eqs : (12 * s + b) / 12 = s := by omega
      have mr := gm r
      have hc1000 : c < 1000 := by omega
      have c54 : 0 ≤ τ 0 54 ∧ τ 0 54 < 40000 := by omega
      have ca : v = chN ρ τ (cf ρ (12 * s + b) y.2.1) y.2.2.1 := by
        rw [y1, y2, ef]; unfold chN; rw [if_neg (by omega), Int.toNat_natCast, exx]; exact hv.symm
      have cb : (-1 : Int) = chN ρ τ (cg ρ (12 * s + b) y.2.1) y.2.2.2 := by
        rw [y1, eg]; unfold chN; rw [if_pos (by decide)]
      refine r_wait1 hg hL hF1 hT1' hR (q := 12 * s + b) (z := y) hpy hy (by rw [y1]; exact er) hr4 g4 hM.2.1 c54 hM.1 hc1000 hlow (by rw [eqs]) (by rw [y1]; exact em.symm) (by rw [eqs]) ca cb (fun τ3 a1 a2 a3 a4 a5 a6 a7 a8 a9 a10 a11 => ?_)
      refine nx τ3 (c + 1) (fun p => if p = c then (b, y) else E p) ⟨a9, hGr, hLow, ⟨a6, a5, fun p hp => ?_, fun p p' hp hp' e => ?_⟩, by rw [a4, h54]; push_cast; omega, hst.tr a1, fun p hp k hk => ?_, by rw [a3]; exact h38z⟩ (fun b' w hb' hw hnX => ?_) (fun p hp g => ?_) ?_ (by rw [a2]; exact hv)
      · by_cases ep : p = c
        · simp only [if_pos ep]
          refine ⟨hb, hy, Or.inr ⟨?_, ?_, ninf⟩⟩
          · rw [ep, a8]; exact a10
          · rw [ep, a8, a4]; omega
        · simp only [if_neg ep]
          obtain ⟨l1, l2, l3⟩ := hM.2.2.1 p (by omega)
          refine ⟨l1, l2, ?_⟩
          rw [a7 p ep]
          rcases l3 with l3 | ⟨l3, l4, l5⟩
          · exact Or.inl l3
          · exact Or.inr ⟨a11 _ _ _ (by omega) l3, by omega, l5⟩
      · by_cases ep : p = c
        · by_cases ep' : p' = c
          · omega
          · simp only [if_pos ep, if_neg ep'] at e
            exact absurd e.symm (fresh p' (by omega))
        · by_cases ep' : p' = c
          · simp only [if_neg ep, if_pos ep'] at e
            exact absurd e (fresh p (by omega))
          · simp only [if_neg ep, if_neg ep'] at e
            exact hM.2.2.2 p p' (by omega) (by omega) e
      · rw [a2, a4]; have := hlow p hp k hk; omega
      · by_cases hXr : XN ρ F s a r b' w
        · obtain ⟨r', e1, e2, e3, e4, e5, e6, e7, e8⟩ := xn_rule hg hL hb' hs ha hw.1 hXr.1
          have l1 := hXr.2.2
          have : ¬ ((r + 1 : Nat) : Int) ≤ (cq ρ (12 * s + b') w.2.1).1 := fun l => hnX ⟨hXr.1, hXr.2.1, l⟩
          have err : r' = r := by omega
          subst err
          have ebb : b' = b := by omega
          subst ebb
          have et2 : w.2.1 = t := cq_inj hw.1 ht (by rw [e1, er]) (by rw [e7, em])
          have w3 := hw.2.2.1
          rw [e8, hsF_neg (by decide)] at w3
          have ewy : w = y := by
            rw [ey]
            refine Prod.ext ?_ (Prod.ext et2 (Prod.ext (by show w.2.2.1 = x; rw [exx]; exact hXr.2.1) (by show w.2.2.2 = 0; omega)))
            rw [hw.2.2.2, et2, hXr.2.1, ← exx, show w.2.2.2 = 0 by omega]
          exact Or.inl ⟨c, by omega, by simp only [if_true]; rw [ewy]⟩
        · rcases hC b' w hb' hw hXr with ⟨p, hp, e⟩ | ⟨L, l1, l2⟩
          · exact Or.inl ⟨p, by omega, by simp only [if_neg (show ¬ p = c by omega)]; exact e⟩
          · refine Or.inr ⟨L, fun i hi => ?_, l2⟩
            obtain ⟨p, hp, e⟩ := l1 i hi
            exact ⟨p, by omega, by simp only [if_neg (show ¬ p = c by omega)]; exact e⟩
      · by_cases ep : p = c
        · simp only [if_pos ep] at g
          have := g.2.2
          rw [y1, er] at this
          omega
        · simp only [if_neg ep] at g
          exact hX p (by omega) (mono _ _ g)
      · have u1 : gUn ρ F s r = F.1 (12 * s + a) := by unfold gUn; rw [if_pos ⟨h8, h5', by omega⟩, show (ρ 4 r).toNat = a by omega]
        have u2 : gUn ρ F1 s r = F.1 (12 * s + a) + 1 := by unfold gUn; rw [if_pos ⟨h8, h5', by omega⟩, show (ρ 4 r).toNat = a by omega, f1a]
        rw [sumG_s, sumG_s]; omega
    · rw [if_neg h8]
      exact ⟨fun _ => skip (fun g => h8 g.1), fun w => absurd rfl w⟩
