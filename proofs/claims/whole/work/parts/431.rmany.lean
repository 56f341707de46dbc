/-! how many a part has, its node; cases of two parts in the reference's order -/
def mnP (ρ : St) (F : Fo) (p : Int) (i j : Nat) : Nat := if pv ρ p i j = -2 then 0 else hsF F (pv ρ p i j)
theorem iR_pv {ρ : St} (hL : LL ρ < 9) {p : Int} (hp : 0 ≤ p ∧ p < 12) {i j : Nat} (hij : i < j ∧ j ≤ LL ρ) : pv ρ p i j = ((12 * spA (LL ρ) i j + p.toNat : Nat) : Int) ∧ it p (i : Int) (j : Int) = (iR ρ (12 * spA (LL ρ) i j + p.toNat) : Int) ∧ iR ρ (12 * spA (LL ρ) i j + p.toNat) < 768 := by
  have q := sp_a hL hij
  refine ⟨by rw [pv_lab (by omega)]; omega, ?_, ?_⟩
  · unfold it iR
    rw [show (12 * spA (LL ρ) i j + p.toNat) / 12 = spA (LL ρ) i j by omega, show (12 * spA (LL ρ) i j + p.toNat) % 12 = p.toNat by omega, q.2.1, q.2.2]
    omega
  · unfold iR
    rw [show (12 * spA (LL ρ) i j + p.toNat) / 12 = spA (LL ρ) i j by omega, show (12 * spA (LL ρ) i j + p.toNat) % 12 = p.toNat by omega, q.2.1, q.2.2]
    omega
theorem r_manyOf {ρ τ : St} (hL : LL ρ < 9) (h14 : ∀ i : Nat, i < LL ρ → τ 14 i = ρ 11 i) {F : Fo} {D : Nat → Prop} (hR : RFo ρ τ F D) {p : Int} (hp : isPart p) {i j : Nat} (hij : i < j ∧ j ≤ LL ρ) (hd : 0 ≤ pv ρ p i j → D (pv ρ p i j).toNat) {Q : Int → St → Prop} (hQ : Q (mnP ρ F p i j : Nat) τ) : wp_X12_manyOf p (i : Int) (j : Int) τ Q := by
  unfold isPart at hp
  unfold wp_X12_manyOf
  refine ⟨fun h => ?_, fun h => ?_⟩
  · obtain ⟨e1, e2, e3⟩ := iR_pv (ρ := ρ) hL (p := p) (by omega) hij
    refine r_item (by omega) (by omega) ?_
    have dq := hd (by omega)
    rw [e1, Int.toNat_natCast] at dq
    rw [e2, Int.toNat_natCast, (hR _ dq).2.2.1]
    refine ⟨by omega, ?_⟩
    have : mnP ρ F p i j = F.1 (12 * spA (LL ρ) i j + p.toNat) := by
      unfold mnP
      rw [if_neg (by omega), e1, hsF_pos (by omega), Int.toNat_natCast]
    rw [← this]; exact hQ
  · unfold wp_X12_fits wp_X12_fits_b30
    rw [w32_of (x := (i : Int) + 1) (by omega) (by omega), w32_of (x := p - 100) (by omega) (by omega), Int.toNat_natCast, h14 i (by omega)]
    refine ⟨fun h2 => absurd h2 h, fun _ => ⟨fun h2 => ?_, fun h2 => ⟨by omega, fun h3 => ?_, fun h3 => ?_⟩⟩⟩
    · have : mnP ρ F p i j = 0 := by unfold mnP; rw [if_pos (pv_no (by omega) (fun g => h2 (by omega)))]
      rw [this] at hQ
      exact ⟨fun _ => hQ, fun g => absurd rfl g⟩
    · have : mnP ρ F p i j = 0 := by unfold mnP; rw [if_pos (pv_no (by omega) (fun g => h3 g.2))]
      rw [this] at hQ
      exact ⟨fun _ => hQ, fun g => absurd rfl g⟩
    · have e : pv ρ p i j = -1 := pv_yes (by omega) ⟨by omega, Classical.byContradiction h3⟩
      have : mnP ρ F p i j = 1 := by unfold mnP; rw [e, if_neg (by decide), hsF_neg (by decide)]
      rw [this] at hQ
      exact ⟨fun g => absurd g (by decide), fun _ => hQ⟩
theorem r_nodeOf {ρ τ : St} (hL : LL ρ < 9) {p : Int} (hp : isPart p) {i j x : Nat} (hij : i < j ∧ j ≤ LL ρ) (hx : x < 16) {Q : Int → St → Prop} (hQ : pv ρ p i j ≠ -2 → Q (chN ρ τ (pv ρ p i j) x) τ) (hn : pv ρ p i j ≠ -2) : wp_X12_nodeOf p (i : Int) (j : Int) (x : Int) τ Q := by
  unfold isPart at hp
  unfold wp_X12_nodeOf
  refine ⟨fun h => ?_, fun h => ?_⟩
  · obtain ⟨e1, e2, e3⟩ := iR_pv (ρ := ρ) hL (p := p) (by omega) hij
    refine r_item (by omega) (by omega) ?_
    rw [e2, w32_of (x := (iR ρ (12 * spA (LL ρ) i j + p.toNat) : Int) * 16) (by omega) (by omega), w32_of (by omega) (by omega), show (iR ρ (12 * spA (LL ρ) i j + p.toNat) : Int) * 16 + (x : Int) = ((16 * iR ρ (12 * spA (LL ρ) i j + p.toNat) + x : Nat) : Int) by omega, Int.toNat_natCast]
    refine ⟨by omega, ?_⟩
    have := hQ hn
    unfold chN at this
    rw [if_neg (by omega), e1, Int.toNat_natCast] at this
    exact this
  · have e : pv ρ p i j = -1 := by
      by_cases g : j = i + 1 ∧ ρ 11 i = p - 100
      · exact pv_yes (by omega) g
      · exact absurd (pv_no (by omega) g) hn
    have := hQ hn
    unfold chN at this
    rw [if_pos (by omega)] at this
    exact this
/-- the case of a rule of two parts at m -/
theorem two_ex {ρ : St} (hg : Wg ρ) (hL : LL ρ < 9) {s r m : Nat} (hs : s < spN (LL ρ)) (hr : (r : Int) < ρ 0 4) (h8 : ρ 8 r = 0) (h5 : ρ 5 r ≠ -1) (hm : spB (LL ρ) s < m ∧ m < spF (LL ρ) s) (n1 : pv ρ (ρ 4 r) (spB (LL ρ) s) m ≠ -2) (n2 : pv ρ (ρ 5 r) m (spF (LL ρ) s) ≠ -2) : ∃ t, t < (cI ρ (12 * s + (ρ 3 r).toNat)).length ∧ cq ρ (12 * s + (ρ 3 r).toNat) t = ((r : Int), (m : Int), pv ρ (ρ 4 r) (spB (LL ρ) s) m, pv ρ (ρ 5 r) m (spF (LL ρ) s)) := by
  have hh := w_head hg hr
  have hm2 : ((r : Int), (m : Int), pv ρ (ρ 4 r) (spB (LL ρ) s) m, pv ρ (ρ 5 r) m (spF (LL ρ) s)) ∈ cI ρ (12 * s + (ρ 3 r).toNat) := by
    rw [mem_cI (by omega)]
    refine ⟨r, by omega, ?_, ?_⟩
    · unfold inA
      rw [decide_eq_true (by omega : ρ 3 r = (((ρ 3 r).toNat : Nat) : Int)), decide_eq_true h8]; rfl
    · rw [mem_cC]
      exact Or.inr ⟨h5, m, hm.1, hm.2, n1, n2, rfl⟩
  obtain ⟨t, ht, e⟩ := List.getElem_of_mem hm2
  exact ⟨t, ht, by rw [cq_get ht]; exact e⟩
/-- cases of two parts before a place -/
def PBf (ρ : St) (F : Fo) (s : Nat) (r m x y : Nat) (b : Nat) (w : En) : Prop := CandE ρ F (12 * s + b) w ∧ cm ρ (12 * s + b) w.2.1 ≠ -1 ∧ ((cq ρ (12 * s + b) w.2.1).1 < (r : Int) ∨ ((cq ρ (12 * s + b) w.2.1).1 = (r : Int) ∧ (cm ρ (12 * s + b) w.2.1 < (m : Int) ∨ (cm ρ (12 * s + b) w.2.1 = (m : Int) ∧ (w.2.2.1 < x ∨ (w.2.2.1 = x ∧ w.2.2.2 < y))))))
/-- a case of that rule at that place -/
theorem two_of {ρ : St} (hg : Wg ρ) (hL : LL ρ < 9) {F : Fo} {s b r m : Nat} (hb : b < 12) (hs : s < spN (LL ρ)) {w : En} (hw : CandE ρ F (12 * s + b) w) (h1 : (cq ρ (12 * s + b) w.2.1).1 = (r : Int)) (h2 : cm ρ (12 * s + b) w.2.1 = (m : Int)) : (r : Int) < ρ 0 4 ∧ ρ 8 r = 0 ∧ ρ 3 r = (b : Int) ∧ ρ 5 r ≠ -1 ∧ spB (LL ρ) s < m ∧ m < spF (LL ρ) s ∧ pv ρ (ρ 4 r) (spB (LL ρ) s) m ≠ -2 ∧ pv ρ (ρ 5 r) m (spF (LL ρ) s) ≠ -2 ∧ cf ρ (12 * s + b) w.2.1 = pv ρ (ρ 4 r) (spB (LL ρ) s) m ∧ cg ρ (12 * s + b) w.2.1 = pv ρ (ρ 5 r) m (spF (LL ρ) s) ∧ w.2.2.1 < mnP ρ F (ρ 4 r) (spB (LL ρ) s) m ∧ w.2.2.2 < mnP ρ F (ρ 5 r) m (spF (LL ρ) s) := by
  obtain ⟨r', hr, h8, h3, hc, -, -, -, -, kind⟩ := cs_kind hg hL hb hs hw.1
  have er : r' = r := by omega
  subst er
  rcases kind with ⟨-, -, e2, -⟩ | ⟨h5, m', m1, m2, e1, n1, n2, e2, e3, -⟩
  · omega
  · have em : m' = m := by omega
    subst em
    refine ⟨hr, h8, h3, h5, m1, m2, n1, n2, e2, e3, ?_, ?_⟩
    · unfold mnP; rw [if_neg n1, ← e2]; exact hw.2.1
    · unfold mnP; rw [if_neg n2, ← e3]; exact hw.2.2.1
