/-! the same of an item whose parts are of D -/
def PDf (ρ : St) (D : Nat → Prop) (q t : Nat) : Prop := (0 ≤ cf ρ q t → D (cf ρ q t).toNat) ∧ (0 ≤ cg ρ q t → D (cg ρ q t).toNat) ∧ 1 ≤ cp ρ q t
theorem ClF.subp {ρ : St} {F : Fo} {D : Nat → Prop} (h : ClF ρ F D) {q : Nat} {z : En} (hp : PDf ρ D q z.2.1) (hz : CandE ρ F q z) : 1 ≤ z.1 ∧ scF F (cf ρ q z.2.1) z.2.2.1 < z.1 ∧ scF F (cg ρ q z.2.1) z.2.2.2 < z.1 := by
  obtain ⟨h1, h2, h3, h4⟩ := hz
  obtain ⟨a1, a2, a3⟩ := hp
  have b1 := h.sc a1 h2
  have b2 := h.sc a2 h3
  omega
theorem ClF.up1p {ρ : St} {F : Fo} {D : Nat → Prop} (h : ClF ρ F D) {q : Nat} {c c2 : Int} {t x x2 y : Nat} (hp : PDf ρ D q t) (hz : CandE ρ F q (c, t, x, y)) (hw : CandE ρ F q (c2, t, x2, y)) (hx : x < x2) : ltE ρ F q (c, t, x, y) (c2, t, x2, y) := by
  obtain ⟨z1, z2, z3, z4⟩ := hz
  obtain ⟨w1, w2, w3, w4⟩ := hw
  simp only at z1 z2 z3 z4 w1 w2 w3 w4
  obtain ⟨a1, a2, a3⟩ := hp
  have m := h.smono a1 (Nat.le_of_lt hx) w2
  by_cases e : c = c2
  · refine Or.inr ⟨e, Or.inr ⟨rfl, Or.inl ⟨by show x ≠ x2; omega, ?_⟩⟩⟩
    show FL ρ F (cf ρ q t).toNat x x2
    by_cases h0 : cf ρ q t < 0
    · rw [hsF_neg h0] at w2; omega
    · rw [hsF_pos (by omega)] at w2
      rw [scF_pos (by omega)] at z4 w4 m
      rw [scF_pos (by omega)] at m
      exact h.same (a1 (by omega)) hx w2 (by omega)
  · exact Or.inl (by show c < c2; omega)
theorem ClF.up2p {ρ : St} {F : Fo} {D : Nat → Prop} (h : ClF ρ F D) {q : Nat} {c c2 : Int} {t x y y2 : Nat} (hp : PDf ρ D q t) (hz : CandE ρ F q (c, t, x, y)) (hw : CandE ρ F q (c2, t, x, y2)) (hy : y < y2) : ltE ρ F q (c, t, x, y) (c2, t, x, y2) := by
  obtain ⟨z1, z2, z3, z4⟩ := hz
  obtain ⟨w1, w2, w3, w4⟩ := hw
  simp only at z1 z2 z3 z4 w1 w2 w3 w4
  obtain ⟨a1, a2, a3⟩ := hp
  have m := h.smono a2 (Nat.le_of_lt hy) w3
  by_cases e : c = c2
  · refine Or.inr ⟨e, Or.inr ⟨rfl, Or.inr ⟨rfl, by show y ≠ y2; omega, ?_⟩⟩⟩
    show FL ρ F (cg ρ q t).toNat y y2
    by_cases h0 : cg ρ q t < 0
    · rw [hsF_neg h0] at w3; omega
    · rw [hsF_pos (by omega)] at w3
      rw [scF_pos (by omega)] at m
      rw [scF_pos (p := cg ρ q t) (by omega)] at m
      rw [scF_pos (p := cg ρ q t) (by omega)] at z4 w4
      exact h.same (a2 (by omega)) hy w3 (by omega)
  · exact Or.inl (by show c < c2; omega)
theorem ClF.shTp {ρ : St} {F : Fo} {D : Nat → Prop} (h : ClF ρ F D) {q : Nat} {z w : En} (hp : PDf ρ D q z.2.1) (hz : CandE ρ F q z) (hw : CandE ρ F q w) (hne : z ≠ w) : SHp ρ F q z w ∨ SHp ρ F q w z := by
  obtain ⟨k1, k2, k3, k4⟩ := hz
  obtain ⟨l1, l2, l3, l4⟩ := hw
  obtain ⟨a1, a2, a3⟩ := hp
  rcases Nat.lt_trichotomy z.2.1 w.2.1 with g | g | g
  · exact Or.inl (Or.inl g)
  · rw [← g] at l2 l3 l4
    by_cases hx : z.2.2.1 = w.2.2.1
    · by_cases hy : z.2.2.2 = w.2.2.2
      · exfalso
        apply hne
        have e1 : z.1 = w.1 := by rw [k4, l4, hx, hy]
        exact Prod.ext e1 (Prod.ext g (Prod.ext hx hy))
      · by_cases h0 : cg ρ q z.2.1 < 0
        · rw [hsF_neg h0] at k3 l3; omega
        · rw [hsF_pos (by omega)] at k3 l3
          rcases h.tot _ _ _ _ (a2 (by omega)) k3 l3 hy (Nat.lt_succ_self _) with r | r
          · exact Or.inl (Or.inr ⟨g, Or.inr ⟨hx, hy, r⟩⟩)
          · refine Or.inr (Or.inr ⟨g.symm, Or.inr ⟨hx.symm, fun e => hy e.symm, ?_⟩⟩)
            rw [← g]; exact r
    · by_cases h0 : cf ρ q z.2.1 < 0
      · rw [hsF_neg h0] at k2 l2; omega
      · rw [hsF_pos (by omega)] at k2 l2
        rcases h.tot _ _ _ _ (a1 (by omega)) k2 l2 hx (Nat.lt_succ_self _) with r | r
        · exact Or.inl (Or.inr ⟨g, Or.inl ⟨hx, r⟩⟩)
        · refine Or.inr (Or.inr ⟨g.symm, Or.inl ⟨fun e => hx e.symm, ?_⟩⟩)
          rw [← g]; exact r
  · exact Or.inr (Or.inl g)
theorem ExD.candp {ρ : St} {F F1 : Fo} {D : Nat → Prop} (h : ClF ρ F D) (hx : ExD D F F1) {q : Nat} {z : En} (hp : PDf ρ D q z.2.1) (hz : CandE ρ F q z) : CandE ρ F1 q z := by
  obtain ⟨k1, k2, k3, k4⟩ := hz
  obtain ⟨a1, a2, a3⟩ := hp
  have b1 := hx.sc a1 k2
  have b2 := hx.sc a2 k3
  exact ⟨k1, b1.1, b2.1, by rw [b1.2, b2.2]; exact k4⟩
theorem ExD.shp {ρ : St} {F F1 : Fo} {D : Nat → Prop} (h : ClF ρ F D) (hx : ExD D F F1) {q : Nat} {z w : En} (hp : PDf ρ D q z.2.1) (hz : CandE ρ F q z) (hw : CandE ρ F q w) : SHp ρ F q z w ↔ SHp ρ F1 q z w := by
  obtain ⟨k1, k2, k3, k4⟩ := hz
  obtain ⟨l1, l2, l3, l4⟩ := hw
  obtain ⟨a1, a2, a3⟩ := hp
  have sx : z.2.1 = w.2.1 → z.2.2.1 ≠ w.2.2.1 → (FL ρ F (cf ρ q z.2.1).toNat z.2.2.1 w.2.2.1 ↔ FL ρ F1 (cf ρ q z.2.1).toNat z.2.2.1 w.2.2.1) := by
    intro g hne
    rw [← g] at l2
    by_cases h0 : cf ρ q z.2.1 < 0
    · rw [hsF_neg h0] at k2 l2; omega
    · rw [hsF_pos (by omega)] at k2 l2
      exact hx.fl h (a1 (by omega)) k2 l2
  have sy : z.2.1 = w.2.1 → z.2.2.2 ≠ w.2.2.2 → (FL ρ F (cg ρ q z.2.1).toNat z.2.2.2 w.2.2.2 ↔ FL ρ F1 (cg ρ q z.2.1).toNat z.2.2.2 w.2.2.2) := by
    intro g hne
    rw [← g] at l3
    by_cases h0 : cg ρ q z.2.1 < 0
    · rw [hsF_neg h0] at k3 l3; omega
    · rw [hsF_pos (by omega)] at k3 l3
      exact hx.fl h (a2 (by omega)) k3 l3
  constructor
  · rintro (g | ⟨g, ⟨g1, g2⟩ | ⟨g1, g2, g3⟩⟩)
    · exact Or.inl g
    · exact Or.inr ⟨g, Or.inl ⟨g1, (sx g g1).1 g2⟩⟩
    · exact Or.inr ⟨g, Or.inr ⟨g1, g2, (sy g g2).1 g3⟩⟩
  · rintro (g | ⟨g, ⟨g1, g2⟩ | ⟨g1, g2, g3⟩⟩)
    · exact Or.inl g
    · exact Or.inr ⟨g, Or.inl ⟨g1, (sx g g1).2 g2⟩⟩
    · exact Or.inr ⟨g, Or.inr ⟨g1, g2, (sy g g2).2 g3⟩⟩
theorem ClF.ltTp {ρ : St} {F : Fo} {D : Nat → Prop} (h : ClF ρ F D) {q : Nat} {z w : En} (hp : PDf ρ D q z.2.1) (hz : CandE ρ F q z) (hw : CandE ρ F q w) (hne : z ≠ w) : ltE ρ F q z w ∨ ltE ρ F q w z := by
  rcases Int.lt_trichotomy z.1 w.1 with g | g | g
  · exact Or.inl (Or.inl g)
  · rcases h.shTp hp hz hw hne with r | r
    · exact Or.inl (Or.inr ⟨g, r⟩)
    · exact Or.inr (Or.inr ⟨g.symm, r⟩)
  · exact Or.inr (Or.inl g)
theorem ExD.ltp {ρ : St} {F F1 : Fo} {D : Nat → Prop} (h : ClF ρ F D) (hx : ExD D F F1) {q : Nat} {z w : En} (hp : PDf ρ D q z.2.1) (hz : CandE ρ F q z) (hw : CandE ρ F q w) : ltE ρ F q z w ↔ ltE ρ F1 q z w := by
  unfold ltE
  rw [hx.shp h hp hz hw]
/-! the class's forest: rows, and ranks by form -/
def FRc (ρ σ : St) (F : Fo) (D : Nat → Prop) : Prop := ∀ q, D q → q < 12 * spN (LL ρ) ∧ F.1 q ≤ 16 ∧ σ 59 q = (F.1 q : Nat) ∧ ∀ k, k < F.1 q → σ 55 (16 * q + k) = (F.2 q k).1 ∧ σ 56 (16 * q + k) = (((PL ρ q).length + (F.2 q k).2.1 : Nat) : Int) ∧ σ 57 (16 * q + k) = ((16 * (F.2 q k).2.2.1 + (F.2 q k).2.2.2 : Nat) : Int) ∧ (F.2 q k).2.2.1 < 16 ∧ (F.2 q k).2.2.2 < 16
noncomputable def flB (ρ : St) (F : Fo) (q k : Nat) : Nat → Bool := fun l => @decide (FL ρ F q l k) (Classical.propDecidable _)
noncomputable def rkN (ρ : St) (F : Fo) (q k : Nat) : Nat := cntB (flB ρ F q k) (F.1 q)
theorem flB_t {ρ : St} {F : Fo} {q k l : Nat} : flB ρ F q k l = true ↔ FL ρ F q l k := ⟨fun h => @of_decide_eq_true _ (Classical.propDecidable _) h, fun h => @decide_eq_true _ (Classical.propDecidable _) h⟩
theorem flB_f {ρ : St} {F : Fo} {q k l : Nat} : flB ρ F q k l = false ↔ ¬ FL ρ F q l k := ⟨fun h => @of_decide_eq_false _ (Classical.propDecidable _) h, fun h => @decide_eq_false _ (Classical.propDecidable _) h⟩
theorem rk_lt {ρ : St} {F : Fo} {D : Nat → Prop} (h : ClF ρ F D) {q k l : Nat} (hq : D q) (hk : k < F.1 q) (hl : l < F.1 q) : rkN ρ F q k < rkN ρ F q l ↔ FL ρ F q k l := by
  have fw : ∀ k l, k < F.1 q → FL ρ F q k l → rkN ρ F q k < rkN ρ F q l := fun k l hk g => cntB_lt _ (fun x _ hx => flB_t.2 ((flB_t.1 hx).tr g)) ⟨k, hk, flB_t.2 g, flB_f.2 FL.irr⟩
  refine ⟨fun g => ?_, fw k l hk⟩
  by_cases e : k = l
  · rw [e] at g; omega
  · rcases h.tot _ q k l hq hk hl e (Nat.lt_succ_self _) with r | r
    · exact r
    · have := fw l k hl r; omega
def RKc (ρ σ : St) (F : Fo) (D : Nat → Prop) : Prop := ∀ q, D q → ∀ k, k < F.1 q → σ 58 (16 * q + k) = (rkN ρ F q k : Nat)
theorem rk_16 {ρ : St} {F : Fo} {q k : Nat} (h : F.1 q ≤ 16) : rkN ρ F q k ≤ 16 := Nat.le_trans (cntB_le _ _) h
theorem Bt.csq {ρ σ : St} (h : Bt ρ σ) {q t : Nat} (hq : q < 12 * spN (LL ρ)) (ht : t < (cI ρ q).length) : (PL ρ q).length + t < (PL ρ (12 * spN (LL ρ))).length ∧ σ 29 ((PL ρ q).length + t) = (cq ρ q t).1 ∧ σ 30 ((PL ρ q).length + t) = cm ρ q t ∧ σ 31 ((PL ρ q).length + t) = cf ρ q t ∧ σ 32 ((PL ρ q).length + t) = cg ρ q t := by
  have := h.seg hq ht
  unfold cm cf cg
  rw [cq_get ht]
  exact this
theorem c_isSmaller {ρ σ : St} (hg : Wg ρ) (hL : LL ρ < 9) (hB : Bt ρ σ) {F : Fo} {D : Nat → Prop} (hF : ClF ρ F D) (hR : FRc ρ σ F D) (hK : RKc ρ σ F D) {q : Nat} (hq : q < 12 * spN (LL ρ)) {z w : En} (hp : PDf ρ D q z.2.1) (hz : CandE ρ F q z) (hw : CandE ρ F q w) (hz16 : z.2.2.1 < 16 ∧ z.2.2.2 < 16) (hw16 : w.2.2.1 < 16 ∧ w.2.2.2 < 16) {Q : Int → St → Prop} (hyes : SHp ρ F q z w → Q 1 σ) (hno : ¬ SHp ρ F q z w → Q 0 σ) : wp_X3_isSmaller (((PL ρ q).length + z.2.1 : Nat) : Int) ((16 * z.2.2.1 + z.2.2.2 : Nat) : Int) (((PL ρ q).length + w.2.1 : Nat) : Int) ((16 * w.2.2.1 + w.2.2.2 : Nat) : Int) σ Q := by
  have h3360 := PL_3360 hg hL
  have q3 := sp_3 _ hL
  obtain ⟨z1, z2, z3, z4⟩ := hz
  obtain ⟨w1, w2, w3, w4⟩ := hw
  obtain ⟨e0, e29, e30, e31, e32⟩ := hB.csq hq z1
  have dz : b_div ((16 * z.2.2.1 + z.2.2.2 : Nat) : Int) 16 = (z.2.2.1 : Int) := by rw [b_div_eq (by omega) (by omega) (by omega) (by omega)]; omega
  have dw : b_div ((16 * w.2.2.1 + w.2.2.2 : Nat) : Int) 16 = (w.2.2.1 : Int) := by rw [b_div_eq (by omega) (by omega) (by omega) (by omega)]; omega
  have rz : b_rem ((16 * z.2.2.1 + z.2.2.2 : Nat) : Int) 16 = (z.2.2.2 : Int) := by rw [b_rem_eq (by omega) (by omega) (by omega) (by omega)]; omega
  have rw' : b_rem ((16 * w.2.2.1 + w.2.2.2 : Nat) : Int) 16 = (w.2.2.2 : Int) := by rw [b_rem_eq (by omega) (by omega) (by omega) (by omega)]; omega
  unfold wp_X3_isSmaller wp_X3_isSmaller_b95 wp_X3_isSmaller_b138
  rw [dz, dw, rz, rw', Int.toNat_natCast, e31, e32]
  have rank : ∀ (p : Int), (0 ≤ p → D p.toNat) → 0 ≤ p → ∀ x, x < hsF F p → x < 16 → w32 (w32 (p * 16) + (x : Int)) = ((16 * p.toNat + x : Nat) : Int) ∧ 16 * p.toNat + x < 6912 ∧ σ 58 (16 * p.toNat + x) = (rkN ρ F p.toNat x : Nat) := by
    intro p hp h0 x hx hx16
    have r := hR _ (hp h0)
    have hk := hK _ (hp h0)
    rw [hsF_pos h0] at hx
    refine ⟨?_, by omega, hk x hx⟩
    rw [w32_of (x := p * 16) (by omega) (by omega), w32_of (by omega) (by omega)]; omega
  have second : z.2.1 = w.2.1 → z.2.2.1 = w.2.2.1 → ((cg ρ q z.2.1 < 0) → Q 0 σ) ∧ (¬ (cg ρ q z.2.1 < 0) → (0 ≤ w32 ((w32 ((cg ρ q z.2.1) * 16)) + (z.2.2.2 : Int)) ∧ w32 ((w32 ((cg ρ q z.2.1) * 16)) + (z.2.2.2 : Int)) < 6912) ∧ (0 ≤ w32 ((w32 ((cg ρ q z.2.1) * 16)) + (w.2.2.2 : Int)) ∧ w32 ((w32 ((cg ρ q z.2.1) * 16)) + (w.2.2.2 : Int)) < 6912) ∧ ((σ 58 ((w32 ((w32 ((cg ρ q z.2.1) * 16)) + (z.2.2.2 : Int))).toNat) ≥ σ 58 ((w32 ((w32 ((cg ρ q z.2.1) * 16)) + (w.2.2.2 : Int))).toNat)) → Q 0 σ) ∧ (¬ (σ 58 ((w32 ((w32 ((cg ρ q z.2.1) * 16)) + (z.2.2.2 : Int))).toNat) ≥ σ 58 ((w32 ((w32 ((cg ρ q z.2.1) * 16)) + (w.2.2.2 : Int))).toNat)) → Q 1 σ)) := by
    intro et ex
    rw [← et] at w3
    refine ⟨fun h0 => hno ?_, fun h0 => ?_⟩
    · rw [hsF_neg h0] at z3 w3
      rintro (g | ⟨-, ⟨g, -⟩ | ⟨-, g, -⟩⟩)
      · omega
      · exact g ex
      · omega
    · have A := rank _ hp.2.1 (by omega) _ z3 hz16.2
      have B := rank _ hp.2.1 (by omega) _ w3 hw16.2
      rw [hsF_pos (by omega)] at z3 w3
      have L := rk_lt hF (hp.2.1 (by omega)) z3 w3
      rw [A.1, B.1, Int.toNat_natCast, Int.toNat_natCast, A.2.2, B.2.2]
      refine ⟨by omega, by omega, fun g => hno ?_, fun g => hyes ?_⟩
      · rintro (g2 | ⟨-, ⟨g2, -⟩ | ⟨-, g2, g3⟩⟩)
        · omega
        · exact g2 ex
        · have := L.2 g3; omega
      · have g3 := L.1 (by omega)
        refine Or.inr ⟨et, Or.inr ⟨ex, fun e => ?_, g3⟩⟩
        rw [e] at g3; exact FL.irr g3
  refine ⟨fun he => ?_, fun he => ⟨fun g => hno ?_, fun g => hyes (Or.inl (by omega))⟩⟩
  · have et : z.2.1 = w.2.1 := by omega
    refine ⟨by omega, fun v1 e1 => ⟨by omega, fun v2 e2 => ?_⟩⟩
    subst e1 e2
    have w2' := w2
    rw [← et] at w2'
    refine ⟨fun h0 => second et ?_, fun h0 => ⟨fun ex => second et (by omega), fun ex => ?_⟩⟩
    · rw [hsF_neg h0] at z2 w2'; omega
    · have A := rank _ hp.1 (by omega) _ z2 hz16.1
      have B := rank _ hp.1 (by omega) _ w2' hw16.1
      rw [hsF_pos (by omega)] at z2 w2'
      have L := rk_lt hF (hp.1 (by omega)) z2 w2'
      rw [A.1, B.1, Int.toNat_natCast, Int.toNat_natCast, A.2.2, B.2.2]
      refine ⟨by omega, by omega, fun g => hno ?_, fun g => hyes ?_⟩
      · rintro (g2 | ⟨-, ⟨g2, g3⟩ | ⟨g2, -⟩⟩)
        · omega
        · have := L.2 g3; omega
        · omega
      · exact Or.inr ⟨et, Or.inl ⟨by omega, L.1 (by omega)⟩⟩
  · rintro (g2 | ⟨g2, -⟩)
    · omega
    · omega
