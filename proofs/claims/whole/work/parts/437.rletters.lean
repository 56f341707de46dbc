/-! rules of one letter wait -/
def gLt (ρ : St) (s r : Nat) : Nat := if ρ 8 r = 0 ∧ ρ 5 r = -1 ∧ pv ρ (ρ 4 r) (spB (LL ρ) s) (spF (LL ρ) s) = -1 then 1 else 0
def SLt (ρ : St) (F : Fo) (s : Nat) (B : Nat → En → Prop) (r b : Nat) (w : En) : Prop := B b w ∨ (CandE ρ F (12 * s + b) w ∧ cm ρ (12 * s + b) w.2.1 = -1 ∧ cf ρ (12 * s + b) w.2.1 < 0 ∧ (cq ρ (12 * s + b) w.2.1).1 < (r : Int))
theorem one_of {ρ : St} (hg : Wg ρ) (hL : LL ρ < 9) {F : Fo} {s b r : Nat} (hb : b < 12) (hs : s < spN (LL ρ)) {w : En} (hw : CandE ρ F (12 * s + b) w) (h1 : (cq ρ (12 * s + b) w.2.1).1 = (r : Int)) (h2 : cm ρ (12 * s + b) w.2.1 = -1) (h3 : cf ρ (12 * s + b) w.2.1 < 0) : ρ 8 r = 0 ∧ ρ 5 r = -1 ∧ 100 ≤ ρ 4 r ∧ pv ρ (ρ 4 r) (spB (LL ρ) s) (spF (LL ρ) s) = -1 ∧ ρ 3 r = (b : Int) ∧ w.2.2.1 = 0 ∧ w.2.2.2 = 0 := by
  obtain ⟨r', hr, h8, h3', hc, -, -, f1, -, kind⟩ := cs_kind hg hL hb hs hw.1
  have er : r' = r := by omega
  subst er
  have c2 := hw.2.1
  have c3 := hw.2.2.1
  rcases kind with ⟨h5, e1, e2, n1, e3, e4⟩ | ⟨-, m', k1, k2, e2, -⟩
  · rw [hsF_neg h3] at c2
    rw [e1, hsF_neg (by decide)] at c3
    refine ⟨h8, h5, ?_, by rw [← e3]; omega, h3', by omega, by omega⟩
    rcases e4 with ⟨g, -⟩ | ⟨b', b1, b2, b3⟩
    · exact g
    · omega
  · omega
theorem sl_skip {ρ : St} (hg : Wg ρ) (hL : LL ρ < 9) {F : Fo} {s r b : Nat} (hs : s < spN (LL ρ)) (hb : b < 12) {B : Nat → En → Prop} (h : ¬ (ρ 8 r = 0 ∧ ρ 5 r = -1 ∧ pv ρ (ρ 4 r) (spB (LL ρ) s) (spF (LL ρ) s) = -1)) (w : En) : SLt ρ F s B r b w ↔ SLt ρ F s B (r + 1) b w := by
  unfold SLt
  refine or_congr_right (and_congr_right (fun hw => and_congr_right (fun h2 => and_congr_right (fun h3 => ?_))))
  have : (cq ρ (12 * s + b) w.2.1).1 ≠ (r : Int) := fun e => by
    have o := one_of hg hL hb hs hw e h2 h3
    exact h ⟨o.1, o.2.1, o.2.2.2.1⟩
  omega
theorem one_ex {ρ : St} (hg : Wg ρ) {s r : Nat} (hr : (r : Int) < ρ 0 4) (h8 : ρ 8 r = 0) (h5 : ρ 5 r = -1) (n1 : pv ρ (ρ 4 r) (spB (LL ρ) s) (spF (LL ρ) s) = -1) : ∃ t, t < (cI ρ (12 * s + (ρ 3 r).toNat)).length ∧ cq ρ (12 * s + (ρ 3 r).toNat) t = ((r : Int), -1, -1, -1) := by
  have hh := w_head hg hr
  have hm2 : ((r : Int), (-1 : Int), (-1 : Int), (-1 : Int)) ∈ cI ρ (12 * s + (ρ 3 r).toNat) := by
    rw [mem_cI (by omega)]
    refine ⟨r, by omega, ?_, ?_⟩
    · unfold inA
      rw [decide_eq_true (by omega : ρ 3 r = (((ρ 3 r).toNat : Nat) : Int)), decide_eq_true h8]; rfl
    · rw [mem_cC]
      exact Or.inl ⟨h5, by omega, by rw [n1]⟩
  obtain ⟨t, ht, e⟩ := List.getElem_of_mem hm2
  exact ⟨t, ht, by rw [cq_get ht]; exact e⟩
theorem r_fitsL {ρ τ : St} (hL : LL ρ < 9) (h14 : ∀ i : Nat, i < LL ρ → τ 14 i = ρ 11 i) {p : Int} (hp : 100 ≤ p ∧ p < 126) {i j : Nat} (hij : i < j ∧ j ≤ LL ρ) {Q : Int → St → Prop} (hyes : pv ρ p i j = -1 → Q 1 τ) (hno : pv ρ p i j ≠ -1 → Q 0 τ) : wp_X12_fits p (i : Int) (j : Int) τ Q := by
  unfold wp_X12_fits wp_X12_fits_b30
  rw [w32_of (x := (i : Int) + 1) (by omega) (by omega), w32_of (x := p - 100) (by omega) (by omega), Int.toNat_natCast, h14 i (by omega)]
  refine ⟨fun h2 => absurd h2 (by omega), fun _ => ⟨fun h2 => hno ?_, fun h2 => ⟨by omega, fun h3 => hno ?_, fun h3 => hyes ?_⟩⟩⟩
  · rw [pv_no hp.1 (fun g => h2 (by omega))]; decide
  · rw [pv_no hp.1 (fun g => h3 g.2)]; decide
  · exact pv_yes hp.1 ⟨by omega, Classical.byContradiction h3⟩
