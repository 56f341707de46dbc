/-! all pairs of a case; all cases of an item -/
def BaseC (ρ : St) (F : Fo) (q : Nat) (z : En) : Prop := CandE ρ F q z ∧ ¬ (cm ρ q z.2.1 = -1 ∧ 0 ≤ cf ρ q z.2.1)
def PtC (ρ : St) (F : Fo) (q t k l : Nat) (z : En) : Prop := BaseC ρ F q z ∧ (z.2.1 < t ∨ (z.2.1 = t ∧ (z.2.2.1 < k ∨ (z.2.2.1 = k ∧ z.2.2.2 < l))))
/-- the same list spells a larger set, if what is more is behind it -/
theorem BLs.more {ρ σ : St} {F : Fo} {q a : Nat} {P P2 : En → Prop} {n : Nat} {L : Nat → En} (h : BLs ρ σ F q a P n L) (hs : ∀ w, P w → P2 w) (hc : ∀ w, P2 w → CandE ρ F q w) (hm : ∀ w, P2 w → ¬ P w → n = 16 ∧ ∀ i, i < 16 → ltE ρ F q (L i) w) : BLs ρ σ F q a P2 n L := ⟨h.1.more hs hm, h.2.1, h.2.2.1, hc⟩
theorem BLs.iff {ρ σ : St} {F : Fo} {q a : Nat} {P P2 : En → Prop} {n : Nat} {L : Nat → En} (h : BLs ρ σ F q a P n L) (hs : ∀ w, P w ↔ P2 w) : BLs ρ σ F q a P2 n L := ⟨h.1.cg hs (fun _ _ => rfl), h.2.1, h.2.2.1, fun w hw => h.2.2.2 w ((hs w).2 hw)⟩
theorem hs_16 {ρ σ : St} {F : Fo} {D : Nat → Prop} (hR : FRc ρ σ F D) {p : Int} (hp : 0 ≤ p → D p.toNat) : hsF F p ≤ 16 := by
  by_cases h0 : p < 0
  · rw [hsF_neg h0]; omega
  · rw [hsF_pos (by omega)]; exact (hR _ (hp (by omega))).2.1
/-- what an entry may cost at most -/
def ubF (F : Fo) (D : Nat → Prop) : Prop := ∀ q, D q → ∀ k, k < F.1 q → (F.2 q k).1 ≤ 100000000
theorem sc_ub {ρ : St} {F : Fo} {D : Nat → Prop} (hF : ClF ρ F D) (hU : ubF F D) {p : Int} (hp : 0 ≤ p → D p.toNat) {x : Nat} (hx : x < hsF F p) : 0 ≤ scF F p x ∧ scF F p x ≤ 100000000 := by
  refine ⟨hF.sc hp hx, ?_⟩
  by_cases h0 : p < 0
  · rw [scF_neg h0]; decide
  · rw [hsF_pos (by omega)] at hx
    rw [scF_pos (by omega)]; exact hU _ (hp (by omega)) x hx
theorem c_gatherPairs {ρ : St} (hg : Wg ρ) (hL : LL ρ < 9) {F : Fo} {D : Nat → Prop} (hF : ClF ρ F D) (hU : ubF F D) {q a t : Nat} (hq : q < 12 * spN (LL ρ)) (ha : a < 12) (ht : t < (cI ρ q).length) (hb : ¬ (cm ρ q t = -1 ∧ 0 ≤ cf ρ q t)) (hp : ∀ t, t < (cI ρ q).length → ¬ (cm ρ q t = -1 ∧ 0 ≤ cf ρ q t) → PDf ρ D q t) (hcp : cp ρ q t ≤ 99) {σ : St} (hG : GSt ρ σ F D) {n : Nat} {L : Nat → En} (hB : BLs ρ σ F q a (PtC ρ F q t 0 0) n L) {Q : Int → St → Prop} (hq' : ∀ σ1 n1 L1, frB a σ σ1 → BLs ρ σ1 F q a (PtC ρ F q (t + 1) 0 0) n1 L1 → Q 0 σ1) : wp_X3_gatherPairs (((PL ρ q).length + t : Nat) : Int) (a : Int) σ Q := by
  have h3360 := PL_3360 hg hL
  have q3 := sp_3 _ hL
  have pt := hp t ht hb
  obtain ⟨p1, p2, p3⟩ := pt
  have c16 : hsF F (cf ρ q t) ≤ 16 := hs_16 hG.2.1 p1
  have g16 : hsF F (cg ρ q t) ≤ 16 := hs_16 hG.2.1 p2
  have bC : ∀ x y, x < hsF F (cf ρ q t) → y < hsF F (cg ρ q t) → BaseC ρ F q (cp ρ q t + scF F (cf ρ q t) x + scF F (cg ρ q t) y, t, x, y) := fun x y hx hy => ⟨⟨ht, hx, hy, rfl⟩, hb⟩
  have inv : ∀ z, BaseC ρ F q z → z.2.1 = t → z.2.2.1 < hsF F (cf ρ q t) ∧ z.2.2.2 < hsF F (cg ρ q t) ∧ z = (cp ρ q t + scF F (cf ρ q t) z.2.2.1 + scF F (cg ρ q t) z.2.2.2, t, z.2.2.1, z.2.2.2) := by
    rintro ⟨c, t', x, y⟩ hz e
    simp only at e
    subst e
    obtain ⟨h1, h2, h3, h4⟩ := hz.1
    exact ⟨h2, h3, by simp only at h4; rw [h4]⟩
  have hpp : ∀ (k l : Nat) (z : En), BaseC ρ F q z → ∀ t', t' < (cI ρ q).length → (∃ w, CandE ρ F q w ∧ w.2.1 = t' ∧ (w = z ∨ PtC ρ F q t k l w)) → PDf ρ D q t' := by
    rintro k l z hz t' ht' ⟨w, hw, e, h⟩
    refine hp t' ht' ?_
    rcases h with rfl | h
    · rw [← e]; exact hz.2
    · rw [← e]; exact h.1.2
  -- all rows from k on
  have lp77 : ∀ (d k : Nat) (σ' : St) (m n' : Nat) (L' : Nat → En), k + d = hsF F (cf ρ q t) → d < m → GSt ρ σ' F D → frB a σ σ' → BLs ρ σ' F q a (PtC ρ F q t k 0) n' L' → wp_X3_gatherPairs_l77 Q m (((PL ρ q).length + t : Nat) : Int) (a : Int) (cf ρ q t) (cg ρ q t) ((hsF F (cf ρ q t) : Nat) : Int) ((hsF F (cg ρ q t) : Nat) : Int) (cp ρ q t) (k : Int) σ' := by
    intro d
    induction d with
    | zero =>
      intro k σ' m n' L' hd hm hG' hf hB'
      obtain ⟨m, rfl⟩ := suc_n hm
      unfold wp_X3_gatherPairs_l77
      refine ⟨fun _ => hq' σ' n' L' hf (hB'.iff (fun w => ⟨fun h => ⟨h.1, by have := h.2; omega⟩, fun h => ⟨h.1, ?_⟩⟩)), fun h => absurd (by omega) h⟩
      rcases h.2 with g | ⟨g, g2⟩
      · by_cases e : w.2.1 = t
        · have := inv w h.1 e; exact Or.inr ⟨e, Or.inl (by omega)⟩
        · exact Or.inl (by omega)
      · omega
    | succ d ih =>
      intro k σ' m n' L' hd hm hG' hf hB'
      obtain ⟨m, rfl⟩ := suc_n hm
      have hk : k < hsF F (cf ρ q t) := by omega
      have uk := sc_ub hF hU p1 hk
      -- one row from l on
      have lp113 : ∀ (e l : Nat) (σ2 : St) (m2 n2 : Nat) (L2 : Nat → En), l + e = hsF F (cg ρ q t) → e < m2 → GSt ρ σ2 F D → frB a σ σ2 → BLs ρ σ2 F q a (PtC ρ F q t k l) n2 L2 → wp_X3_gatherPairs_l113 Q (wp_X3_gatherPairs_l77 Q m) m2 (((PL ρ q).length + t : Nat) : Int) (a : Int) (cf ρ q t) (cg ρ q t) ((hsF F (cf ρ q t) : Nat) : Int) ((hsF F (cg ρ q t) : Nat) : Int) (cp ρ q t) (k : Int) (cp ρ q t + scF F (cf ρ q t) k) (l : Int) σ2 := by
        intro e
        induction e with
        | zero =>
          intro l σ2 m2 n2 L2 hl hm2 hG2 hf2 hB2
          obtain ⟨m2, rfl⟩ := suc_n hm2
          unfold wp_X3_gatherPairs_l113 wp_X3_gatherPairs_b179
          refine ⟨fun _ v4 e4 => ?_, fun h => absurd (by omega) h⟩
          rw [w32_of (by omega) (by omega), show (k : Int) + 1 = ((k + 1 : Nat) : Int) by omega] at e4
          rw [e4]
          refine ih (k + 1) σ2 m n2 L2 (by omega) (by omega) hG2 hf2 (hB2.iff (fun w => ⟨fun h => ⟨h.1, by have := h.2; omega⟩, fun h => ⟨h.1, ?_⟩⟩))
          rcases h.2 with g | ⟨g, g2⟩
          · exact Or.inl g
          · have := inv w h.1 g; omega
        | succ e ihe =>
          intro l σ2 m2 n2 L2 hl hm2 hG2 hf2 hB2
          obtain ⟨m2, rfl⟩ := suc_n hm2
          have hll : l < hsF F (cg ρ q t) := by omega
          have ul := sc_ub hF hU p2 hll
          have cz := bC k l hk hll
          unfold wp_X3_gatherPairs_l113
          have b146 : wp_X3_gatherPairs_b146 Q (wp_X3_gatherPairs_l77 Q m) (wp_X3_gatherPairs_l113 Q (wp_X3_gatherPairs_l77 Q m) m2) (((PL ρ q).length + t : Nat) : Int) (a : Int) (cf ρ q t) (cg ρ q t) ((hsF F (cf ρ q t) : Nat) : Int) ((hsF F (cg ρ q t) : Nat) : Int) (cp ρ q t) (k : Int) (cp ρ q t + scF F (cf ρ q t) k) (l : Int) (cp ρ q t + scF F (cf ρ q t) k + scF F (cg ρ q t) l) σ2 := by
            unfold wp_X3_gatherPairs_b146 wp_X3_gatherPairs_b179
            have esub : w32 (w32 ((k : Int) * 16) + (l : Int)) = ((16 * k + l : Nat) : Int) := by
              rw [w32_of (x := (k : Int) * 16) (by omega) (by omega), w32_of (by omega) (by omega)]; push_cast; omega
            rw [esub]
            refine c_putInBase (z := (cp ρ q t + scF F (cf ρ q t) k + scF F (cg ρ q t) l, t, k, l)) hg hL hF hG2 hq ha hB2 (hpp k l _ cz) cz.1 (fun h => ?_) ⟨by show k < 16; omega, by show l < 16; omega⟩ (fun σ3 n3 L3 f3 hB3 => ⟨fun _ v7 e7 => ?_, fun h => absurd (by decide) h⟩) (fun hn16 hall => ⟨fun h => absurd rfl h, fun _ => ⟨fun h0 v4 e4 => ?_, fun h0 => ?_⟩⟩)
            · have := h.2
              simp only at this
              omega
            · rw [w32_of (by omega) (by omega), show (l : Int) + 1 = ((l + 1 : Nat) : Int) by omega] at e7
              rw [e7]
              refine ihe (l + 1) σ3 m2 n3 L3 (by omega) (by omega) (f3.gs hG2) (hf2.tr f3) (hB3.iff (fun w => ⟨fun h => ?_, fun h => ?_⟩))
              · rcases h with h | rfl
                · exact ⟨h.1, by have := h.2; omega⟩
                · exact ⟨cz, Or.inr ⟨rfl, Or.inr ⟨rfl, by show l < l + 1; omega⟩⟩⟩
              · by_cases hw : w.2.1 = t ∧ w.2.2.1 = k ∧ w.2.2.2 = l
                · right
                  have := (inv w h.1 hw.1).2.2
                  rw [hw.2.1, hw.2.2] at this
                  exact this
                · left
                  exact ⟨h.1, by have := h.2; omega⟩
            · rw [w32_of (by omega) (by omega), show (k : Int) + 1 = ((k + 1 : Nat) : Int) by omega] at e4
              rw [e4]
              refine ih (k + 1) σ2 m n2 L2 (by omega) (by omega) hG2 hf2 (hB2.more (fun w h => ⟨h.1, by have := h.2; omega⟩) (fun w h => h.1.1) (fun w h hn => ?_))
              have e1 : w.2.1 = t ∧ w.2.2.1 = k ∧ l ≤ w.2.2.2 := by
                have h2 := h.2
                have : ¬ (w.2.1 < t ∨ (w.2.1 = t ∧ (w.2.2.1 < k ∨ (w.2.2.1 = k ∧ w.2.2.2 < l)))) := fun g => hn ⟨h.1, g⟩
                omega
              obtain ⟨i1, i2, i3⟩ := inv w h.1 e1.1
              refine ⟨hn16, fun i hi => ?_⟩
              rw [e1.2.1] at i3
              by_cases hly : l = w.2.2.2
              · rw [i3, ← hly]; exact hall i hi
              · refine (hall i hi).tr ?_
                rw [i3]
                exact hF.up2p ⟨p1, p2, p3⟩ cz.1 (bC k _ hk i2).1 (by omega)
            · have l0 : l = 0 := by omega
              refine hq' σ2 n2 L2 hf2 (hB2.more (fun w h => ⟨h.1, by have := h.2; omega⟩) (fun w h => h.1.1) (fun w h hn => ?_))
              have e1 : w.2.1 = t ∧ k ≤ w.2.2.1 := by
                have h2 := h.2
                have : ¬ (w.2.1 < t ∨ (w.2.1 = t ∧ (w.2.2.1 < k ∨ (w.2.2.1 = k ∧ w.2.2.2 < l)))) := fun g => hn ⟨h.1, g⟩
                omega
              obtain ⟨i1, i2, i3⟩ := inv w h.1 e1.1
              refine ⟨hn16, fun i hi => ?_⟩
              have A : ltE ρ F q (L2 i) (cp ρ q t + scF F (cf ρ q t) w.2.2.1 + scF F (cg ρ q t) 0, t, w.2.2.1, 0) := by
                have h0' := hall i hi
                rw [l0] at h0' cz
                by_cases hkx : k = w.2.2.1
                · rw [← hkx]; exact h0'
                · exact h0'.tr (hF.up1p ⟨p1, p2, p3⟩ cz.1 (bC _ 0 i1 (by omega)).1 (by omega))
              rw [i3]
              by_cases hy0 : w.2.2.2 = 0
              · rw [hy0]; exact A
              · exact A.tr (hF.up2p ⟨p1, p2, p3⟩ (bC _ 0 i1 (by omega)).1 (bC _ _ i1 i2).1 (by omega))
          refine ⟨fun h => absurd h (by omega), fun _ => ⟨fun h0 => ?_, fun h0 => ?_⟩⟩
          · have r := hG2.2.1 _ (p2 h0)
            rw [hsF_pos h0] at hll
            have ei : w32 (w32 (cg ρ q t * 16) + (l : Int)) = ((16 * (cg ρ q t).toNat + l : Nat) : Int) := by
              rw [w32_of (x := cg ρ q t * 16) (by omega) (by omega), w32_of (by omega) (by omega)]; omega
            rw [ei, Int.toNat_natCast, (r.2.2.2 l hll).1]
            rw [scF_pos (p := cg ρ q t) h0] at b146 ul
            rw [w32_of (by omega) (by omega)]
            exact ⟨by omega, b146⟩
          · rw [scF_neg (p := cg ρ q t) (by omega), Int.add_zero] at b146
            exact b146
      unfold wp_X3_gatherPairs_l77 wp_X3_gatherPairs_b108
      have go := lp113 (hsF F (cg ρ q t)) 0 σ' bigN n' L' (by omega) (by unfold bigN; omega) hG' hf hB'
      refine ⟨fun h => absurd h (by omega), fun _ => ⟨fun h0 => ?_, fun h0 => ?_⟩⟩
      · have r := hG'.2.1 _ (p1 h0)
        rw [hsF_pos h0] at hk
        have ei : w32 (w32 (cf ρ q t * 16) + (k : Int)) = ((16 * (cf ρ q t).toNat + k : Nat) : Int) := by
          rw [w32_of (x := cf ρ q t * 16) (by omega) (by omega), w32_of (by omega) (by omega)]; omega
        rw [ei, Int.toNat_natCast, (r.2.2.2 k hk).1]
        rw [scF_pos (p := cf ρ q t) h0] at go uk
        rw [w32_of (by omega) (by omega)]
        exact ⟨by omega, go⟩
      · rw [scF_neg (p := cf ρ q t) (by omega), Int.add_zero] at go
        exact go
  obtain ⟨e0, e29, e30, e31, e32⟩ := hG.1.1.csq hq ht
  have haq : q % 12 < 12 := by omega
  have hsq : q / 12 < spN (LL ρ) := by omega
  have eqq : 12 * (q / 12) + q % 12 = q := by omega
  have kind := cs_kind hg hL haq hsq (t := t) (by rw [eqq]; exact ht)
  rw [eqq] at kind
  obtain ⟨r, hr, -, -, hc1, hcp2, -, -⟩ := kind
  have k18 := (hG.1.1.1.2.2.1.1.2 r hr).2.2.2.1
  have h40 := hg.2.1
  unfold wp_X3_gatherPairs wp_X3_gatherPairs_b35 wp_X3_gatherPairs_b53
  rw [Int.toNat_natCast, e31, e32, e29, hc1, Int.toNat_natCast, k18, ← hcp2]
  have go := lp77 (hsF F (cf ρ q t)) 0 σ bigN n L (by omega) (by unfold bigN; omega) hG frB.rf hB
  have fin : ∀ v1 v2 : Int, v1 = ((hsF F (cf ρ q t) : Nat) : Int) → v2 = ((hsF F (cg ρ q t) : Nat) : Int) → (0 ≤ (((PL ρ q).length + t : Nat) : Int) ∧ (((PL ρ q).length + t : Nat) : Int) < 3360) ∧ (0 ≤ (r : Int) ∧ (r : Int) < 40) ∧ ∀ v3 : Int, v3 = cp ρ q t → wp_X3_gatherPairs_l77 Q bigN (((PL ρ q).length + t : Nat) : Int) (a : Int) (cf ρ q t) (cg ρ q t) v1 v2 v3 0 σ := by
    intro v1 v2 e1 e2
    refine ⟨by omega, by omega, fun v3 e3 => ?_⟩
    rw [e1, e2, e3]; exact go
  have two : ∀ v1 : Int, v1 = ((hsF F (cf ρ q t) : Nat) : Int) → ((cg ρ q t ≥ 0) → (0 ≤ cg ρ q t ∧ cg ρ q t < 432) ∧ (0 ≤ (((PL ρ q).length + t : Nat) : Int) ∧ (((PL ρ q).length + t : Nat) : Int) < 3360) ∧ (0 ≤ (r : Int) ∧ (r : Int) < 40) ∧ ∀ v3 : Int, v3 = cp ρ q t → wp_X3_gatherPairs_l77 Q bigN (((PL ρ q).length + t : Nat) : Int) (a : Int) (cf ρ q t) (cg ρ q t) v1 (σ 59 (cg ρ q t).toNat) v3 0 σ) ∧ (¬ (cg ρ q t ≥ 0) → (0 ≤ (((PL ρ q).length + t : Nat) : Int) ∧ (((PL ρ q).length + t : Nat) : Int) < 3360) ∧ (0 ≤ (r : Int) ∧ (r : Int) < 40) ∧ ∀ v3 : Int, v3 = cp ρ q t → wp_X3_gatherPairs_l77 Q bigN (((PL ρ q).length + t : Nat) : Int) (a : Int) (cf ρ q t) (cg ρ q t) v1 1 v3 0 σ) := by
    intro v1 e1
    refine ⟨fun h0 => ?_, fun h0 => fin v1 1 e1 (by rw [hsF_neg (by omega)]; rfl)⟩
    have r2 := hG.2.1 _ (p2 h0)
    exact ⟨by omega, fin v1 _ e1 (by rw [hsF_pos h0]; exact r2.2.2.1)⟩
  refine ⟨by omega, fun v1 e1 => ⟨by omega, fun v2 e2 => ?_⟩⟩
  subst e1 e2
  refine ⟨fun h0 => ?_, fun h0 => two 1 (by rw [hsF_neg (by omega)]; rfl)⟩
  have r2 := hG.2.1 _ (p1 h0)
  exact ⟨by omega, two _ (by rw [hsF_pos h0]; exact r2.2.2.1)⟩
