/-! drops, prices, elements -/
theorem upS_self {σ : St} {k j : Nat} {v : Int} (h : σ k j = v) : upS σ k j v = σ := by
  funext a b
  unfold upS
  split
  · next e => rw [e.1, e.2, h]
  · rfl
theorem l_clr {x : Int} (hx : P64 x) {r : Nat} (hr : r < 63) : P64 (l_and x (l_xor (l_shl 1 (r : Int)) (-1))) ∧ ∀ k, tb (l_and x (l_xor (l_shl 1 (r : Int)) (-1))) k = (tb x k && decide (r ≠ k)) := by
  have e : l_and x (l_xor (l_shl 1 (r : Int)) (-1)) = ((x.toNat &&& (2 ^ r ^^^ (2 ^ 64 - 1)) : Nat) : Int) := by
    unfold l_and l_xor
    rw [Int64.ofInt_toInt]
    refine of64 ?_ ?_
    · rw [Int64.toBitVec_and, BitVec.toNat_and, Int64.toBitVec_xor, BitVec.toNat_xor, nat64 hx.1 hx.2, l_shl_1 r hr, nat64 (pow63 hr).1 (pow63 hr).2, Int.toNat_natCast, show (Int64.ofInt (-1)).toBitVec.toNat = 2 ^ 64 - 1 by decide]
    · have := Nat.and_le_left (n := x.toNat) (m := (2 ^ r ^^^ (2 ^ 64 - 1)))
      unfold P64 at hx; omega
  rw [e]
  have hle := Nat.and_le_left (n := x.toNat) (m := (2 ^ r ^^^ (2 ^ 64 - 1)))
  refine ⟨?_, fun k => ?_⟩
  · unfold P64 at *
    generalize (x.toNat &&& (2 ^ r ^^^ (2 ^ 64 - 1))) = t at *
    omega
  · unfold tb
    rw [Int.toNat_natCast, Nat.testBit_and, Nat.testBit_xor, Nat.testBit_two_pow, Nat.testBit_two_pow_sub_one]
    by_cases hk : k < 64
    · by_cases hrk : r = k
      · simp [hrk, hk]
      · simp [hrk, hk]
    · have : x.toNat.testBit k = false := by
        refine Nat.testBit_lt_two_pow ?_
        have h1 : 2 ^ 64 ≤ 2 ^ k := Nat.pow_le_pow_right (by decide) (by omega)
        unfold P64 at hx
        omega
      rw [this]; simp
theorem Wg.up8 {ρ : St} (h : Wg ρ) {r : Nat} {v : Int} (hv : v = 0 ∨ v = 1) : Wg (upS ρ 8 r v) := by
  refine ⟨h.1, h.2.1, fun q hq => ?_⟩
  obtain ⟨a1, a2, a3, a4, a5, a6⟩ := h.2.2 q hq
  refine ⟨a1, a2, a3, a4, a5, ?_⟩
  by_cases hr : q = r
  · subst hr; rw [upS_s]; exact hv
  · rw [upS_j hr]; exact a6
theorem osum_up {ρ : St} (h : Wg ρ) {r : Nat} (hr : (r : Int) < ρ 0 4) {v : Int} (hv : v = 0 ∨ v = 1) (k : Nat) : tb (osum (upS ρ 8 r v 8) (ρ 0 4).toNat) k = if k = r then decide (v = 1) else tb (osum (ρ 8) (ρ 0 4).toNat) k := by
  have h1 : ∀ k, k < (ρ 0 4).toNat → upS ρ 8 r v 8 k = 0 ∨ upS ρ 8 r v 8 k = 1 := w_bit (h.up8 (r := r) hv)
  rw [osum_tb _ h1, osum_tb _ (w_bit h)]
  by_cases hk : k = r
  · rw [if_pos hk, hk, upS_s]
    have : r < (ρ 0 4).toNat := by omega
    simp [this]
  · rw [if_neg hk, upS_j hk]
theorem r_drops {ρ τ : St} (hW : WW ρ) (hV : VR τ ρ) {x1 x2 : Int} {Q : Int → St → Prop} (hno : ¬ ((0 ≤ x1 ∧ x1 < ρ 0 4) ∧ 0 ≤ x2 ∧ x2 ≤ 1) → Q (-2) τ) (hyes : (0 ≤ x1 ∧ x1 < ρ 0 4) ∧ 0 ≤ x2 ∧ x2 ≤ 1 → ∀ τ1, VR τ1 (upS ρ 8 x1.toNat x2) → Q (if ρ 8 x1.toNat = x2 then 0 else 1) τ1) : wp_X12_drops x1 x2 τ Q := by
  obtain ⟨g1, g2, g3⟩ := hV.2.2.2.1
  have hg := hW.2.2.1
  unfold wp_X12_drops
  refine r_isRule g1 ⟨hg.1, hg.2.1⟩ ?_
  by_cases hx : 0 ≤ x1 ∧ x1 < ρ 0 4
  rotate_left
  · rw [if_neg hx]
    exact ⟨fun _ => hno (fun q => hx q.1), fun q => absurd rfl q⟩
  rw [if_pos hx]
  refine ⟨fun q => absurd q (by decide), fun _ => r_in ?_⟩
  by_cases h2 : 0 ≤ x2 ∧ x2 ≤ 1
  rotate_left
  · rw [if_neg h2]
    exact ⟨fun q => absurd rfl q, fun _ => hno (fun q => h2 q.2)⟩
  rw [if_pos h2]
  refine ⟨fun _ v5 e5 => ?_, fun q => absurd (by decide) q⟩
  have hy := hyes ⟨hx, h2⟩
  have hr : ((x1.toNat : Nat) : Int) < ρ 0 4 := by omega
  have hv : x2 = 0 ∨ x2 = 1 := by omega
  have r40 := hg.2.1
  have key : ∀ s : Int, s = osum (upS ρ 8 x1.toNat x2 8) (ρ 0 4).toNat → wp_X12_drops_b55 Q v5 s τ := by
    intro s es
    unfold wp_X12_drops_b55
    intro τ1 e1
    have h1 : τ1 0 2 = s := by rw [e1, upS_s]
    have h2 : VR τ1 (upS ρ 8 x1.toNat x2) := by
      obtain ⟨ut, uo, uf, ug, ub, us⟩ := hV
      rw [e1]
      exact ⟨ut, uo, uf, ⟨g1, by rw [upS_s]; exact es, g3⟩, ub, us⟩
    have hz := hy τ1 h2
    have iff : (v5 = s) ↔ ρ 8 x1.toNat = x2 := by
      rw [e5, g2, es]
      constructor
      · intro q
        have t := osum_up hg hr hv x1.toNat
        rw [if_pos rfl, ← q, w_outb hg hr] at t
        have hb := w_bit hg x1.toNat (by omega)
        rcases hb with b | b <;> rcases hv with w | w <;> rw [b, w] at t ⊢ <;> simp at t
      · intro q
        rw [upS_self q]
    rw [h1]
    refine ⟨fun q => ?_, fun q => ?_⟩
    · rw [if_neg (fun w => q (iff.mpr w))] at hz; exact hz
    · rw [if_pos (iff.mp (by omega))] at hz; exact hz
  have hx1 : x1 = (x1.toNat : Int) := by omega
  have P0 := w_out hg
  have P1 := w_out (hg.up8 (r := x1.toNat) hv)
  have P1' : P64 (osum (upS ρ 8 x1.toNat x2 8) (ρ 0 4).toNat) := P1
  refine ⟨fun q => key _ ?_, fun q => key _ ?_⟩
  · have hv0 : x2 = 0 := by omega
    rw [g2]
    conv => lhs; rw [hx1]
    have hc := l_clr P0 (r := x1.toNat) (by omega)
    refine tb_ext hc.1.1 P1'.1 (fun k => ?_)
    rw [hc.2, osum_up hg hr hv, hv0]
    by_cases hk : k = x1.toNat
    · simp [hk]
    · have : ¬ (x1.toNat = k) := fun q => hk q.symm
      simp [hk, this]
  · have hv1 : x2 = 1 := by omega
    rw [g2]
    conv => lhs; rw [hx1]
    rw [l_shl_1 _ (by omega)]
    have hp := pow63 (k := x1.toNat) (by omega)
    refine tb_ext (l_or_p P0 hp).1 P1'.1 (fun k => ?_)
    rw [tb_lor P0 hp, tb_pow, osum_up hg hr hv, hv1]
    by_cases hk : k = x1.toNat
    · simp [hk]
    · have : ¬ (x1.toNat = k) := fun q => hk q.symm
      simp [hk, this]
theorem c_drops {ρ σ : St} (hW : WW ρ) (hV : VC σ ρ) {x1 x2 : Int} {Q : Int → St → Prop} (hno : ¬ ((0 ≤ x1 ∧ x1 < ρ 0 4) ∧ 0 ≤ x2 ∧ x2 ≤ 1) → Q (-2) σ) (hsame : (0 ≤ x1 ∧ x1 < ρ 0 4) ∧ 0 ≤ x2 ∧ x2 ≤ 1 → ρ 8 x1.toNat = x2 → Q 0 σ) (hyes : (0 ≤ x1 ∧ x1 < ρ 0 4) ∧ 0 ≤ x2 ∧ x2 ≤ 1 → ρ 8 x1.toNat ≠ x2 → ∀ σ1, FgA σ1 → VC σ1 (upS ρ 8 x1.toNat x2) → Q 1 σ1) : wp_X11_drops x1 x2 σ Q := by
  obtain ⟨f1, f2⟩ := hV.2.2.2.1
  have hg := hW.2.2.1
  unfold wp_X11_drops
  refine c_knows ?_
  rw [f1]
  by_cases hx : 0 ≤ x1 ∧ x1 < ρ 0 4
  rotate_left
  · rw [if_neg hx]
    exact ⟨fun _ => hno (fun q => hx q.1), fun q => absurd rfl q⟩
  rw [if_pos hx]
  have r40 := hg.2.1
  have e20 := (f2 x1.toNat (by omega)).2.2.2.2.2
  have key : 0 ≤ x2 ∧ x2 ≤ 1 → wp_X11_drops_b33 Q x1 x2 σ := by
    intro h2
    unfold wp_X11_drops_b33
    rw [e20]
    refine ⟨by omega, fun q => ⟨by omega, fun σ3 e3 => c_forgetCases (fun σ4 hf f => hyes ⟨hx, h2⟩ q σ4 hf (VC.frB f (by decide) ?_))⟩, fun q => hsame ⟨hx, h2⟩ (by omega)⟩
    obtain ⟨vt, vo, vf, vg, vb, vs⟩ := hV
    rw [show b_and x2 1 = x2 by rcases (show x2 = 0 ∨ x2 = 1 by omega) with w | w <;> rw [w] <;> decide] at e3
    rw [e3]
    refine ⟨vt, vo, vf, ⟨f1, fun r hr => ?_⟩, vb, vs⟩
    obtain ⟨a1, a2, a3, a4, a5, a6⟩ := f2 r hr
    refine ⟨a1, a2, a3, a4, a5, ?_⟩
    by_cases hrx : r = x1.toNat
    · rw [hrx, upS_s, upS_s]
    · rw [upS_j hrx, upS_j hrx]; exact a6
  refine ⟨fun q => absurd q (by decide), fun _ => ⟨fun q => hno (by omega), fun q => ⟨fun q2 => ⟨fun q3 => ?_, fun q3 => ?_⟩, fun q2 => hno (by omega)⟩⟩⟩
  · have h0 : x2 = 0 := by omega
    rw [h0] at key
    exact key (by decide)
  · have h0 : x2 = 1 := by omega
    rw [h0] at key
    exact key (by decide)
theorem Wg.up6 {ρ : St} (h : Wg ρ) {r : Nat} {v : Int} (hv : 1 ≤ v ∧ v ≤ 99) : Wg (upS ρ 6 r v) := by
  refine ⟨h.1, h.2.1, fun q hq => ?_⟩
  obtain ⟨a1, a2, a3, a4, a5, a6⟩ := h.2.2 q hq
  refine ⟨a1, a2, a3, ?_, a5, a6⟩
  by_cases hr : q = r
  · subst hr; rw [upS_s]; exact hv
  · rw [upS_j hr]; exact a4
theorem Wg.up7 {ρ : St} (h : Wg ρ) {r : Nat} {v : Int} (hv : 0 ≤ v ∧ v < ρ 0 5) : Wg (upS ρ 7 r v) := by
  refine ⟨h.1, h.2.1, fun q hq => ?_⟩
  obtain ⟨a1, a2, a3, a4, a5, a6⟩ := h.2.2 q hq
  refine ⟨a1, a2, a3, a4, ?_, a6⟩
  by_cases hr : q = r
  · subst hr; rw [upS_s]; exact hv
  · rw [upS_j hr]; exact a5
theorem r_prices {ρ τ : St} (hW : WW ρ) (hV : VR τ ρ) {x1 x2 : Int} {Q : Int → St → Prop} (hno : ¬ ((0 ≤ x1 ∧ x1 < ρ 0 4) ∧ 1 ≤ x2 ∧ x2 ≤ 99) → Q (-2) τ) (hyes : (0 ≤ x1 ∧ x1 < ρ 0 4) ∧ 1 ≤ x2 ∧ x2 ≤ 99 → ∀ τ1, VR τ1 (upS ρ 6 x1.toNat x2) → Q (ρ 6 x1.toNat) τ1) : wp_X12_prices x1 x2 τ Q := by
  obtain ⟨g1, g2, g3⟩ := hV.2.2.2.1
  have hg := hW.2.2.1
  have r40 := hg.2.1
  unfold wp_X12_prices
  refine r_isRule g1 ⟨hg.1, hg.2.1⟩ ?_
  by_cases hx : 0 ≤ x1 ∧ x1 < ρ 0 4
  rotate_left
  · rw [if_neg hx]
    exact ⟨fun _ => hno (fun q => hx q.1), fun q => absurd rfl q⟩
  rw [if_pos hx]
  refine ⟨fun q => absurd q (by decide), fun _ => r_in ?_⟩
  by_cases h2 : 1 ≤ x2 ∧ x2 ≤ 99
  rotate_left
  · rw [if_neg h2]
    exact ⟨fun q => absurd rfl q, fun _ => hno (fun q => h2 q.2)⟩
  rw [if_pos h2]
  refine ⟨fun _ => ⟨by omega, fun v5 e5 => ⟨by omega, fun τ1 e1 => ?_⟩⟩, fun q => absurd (by decide) q⟩
  rw [e5, (g3 x1.toNat (by omega)).2.2.2.1]
  refine hyes ⟨hx, h2⟩ τ1 ?_
  obtain ⟨ut, uo, uf, ug, ub, us⟩ := hV
  rw [e1]
  refine ⟨ut, uo, uf, ⟨g1, g2, fun r hr => ?_⟩, ub, us⟩
  obtain ⟨a1, a2, a3, a4, a5⟩ := g3 r hr
  refine ⟨a1, a2, a3, ?_, a5⟩
  by_cases hrx : r = x1.toNat
  · rw [hrx, upS_s, upS_s]
  · rw [upS_j hrx, upS_j hrx]; exact a4
theorem c_prices {ρ σ : St} (hW : WW ρ) (hV : VC σ ρ) {x1 x2 : Int} {Q : Int → St → Prop} (hno : ¬ ((0 ≤ x1 ∧ x1 < ρ 0 4) ∧ 1 ≤ x2 ∧ x2 ≤ 99) → Q (-2) σ) (hsame : (0 ≤ x1 ∧ x1 < ρ 0 4) ∧ 1 ≤ x2 ∧ x2 ≤ 99 → ρ 6 x1.toNat = x2 → Q (ρ 6 x1.toNat) σ) (hyes : (0 ≤ x1 ∧ x1 < ρ 0 4) ∧ 1 ≤ x2 ∧ x2 ≤ 99 → ρ 6 x1.toNat ≠ x2 → ∀ σ1, FgK σ1 → VC σ1 (upS ρ 6 x1.toNat x2) → Q (ρ 6 x1.toNat) σ1) : wp_X11_prices x1 x2 σ Q := by
  obtain ⟨f1, f2⟩ := hV.2.2.2.1
  have hg := hW.2.2.1
  unfold wp_X11_prices
  refine c_knows ?_
  rw [f1]
  by_cases hx : 0 ≤ x1 ∧ x1 < ρ 0 4
  rotate_left
  · rw [if_neg hx]
    exact ⟨fun _ => hno (fun q => hx q.1), fun q => absurd rfl q⟩
  rw [if_pos hx]
  have r40 := hg.2.1
  have e18 := (f2 x1.toNat (by omega)).2.2.2.1
  refine ⟨fun q => absurd q (by decide), fun _ => ⟨fun q => hno (by omega), fun q => ⟨fun q2 => ⟨by omega, fun v3 e3 => ?_⟩, fun q2 => hno (by omega)⟩⟩⟩
  rw [e18] at e3
  rw [e3]
  refine ⟨fun w => hsame ⟨hx, by omega⟩ w, fun w => ⟨by omega, fun σ4 e4 => c_forgetCosts (fun σ5 hf f => hyes ⟨hx, by omega⟩ w σ5 hf (VC.frB f (by decide) ?_))⟩⟩
  obtain ⟨vt, vo, vf, vg, vb, vs⟩ := hV
  rw [e4]
  refine ⟨vt, vo, vf, ⟨f1, fun r hr => ?_⟩, vb, vs⟩
  obtain ⟨a1, a2, a3, a4, a5, a6⟩ := f2 r hr
  refine ⟨a1, a2, a3, ?_, a5, a6⟩
  by_cases hrx : r = x1.toNat
  · rw [hrx, upS_s, upS_s]
  · rw [upS_j hrx, upS_j hrx]; exact a4
theorem r_elements {ρ τ : St} (hW : WW ρ) (hV : VR τ ρ) {x1 x2 : Int} {Q : Int → St → Prop} (hno : ¬ ((0 ≤ x1 ∧ x1 < ρ 0 4) ∧ 0 ≤ x2 ∧ x2 < ρ 0 5) → Q (-2) τ) (hyes : (0 ≤ x1 ∧ x1 < ρ 0 4) ∧ 0 ≤ x2 ∧ x2 < ρ 0 5 → ∀ τ1, VR τ1 (upS ρ 7 x1.toNat x2) → Q (ρ 7 x1.toNat) τ1) : wp_X12_elements x1 x2 τ Q := by
  obtain ⟨g1, g2, g3⟩ := hV.2.2.2.1
  have hg := hW.2.2.1
  have r40 := hg.2.1
  have hb := hW.2.2.2.1
  unfold wp_X12_elements
  refine r_isRule g1 ⟨hg.1, hg.2.1⟩ ?_
  by_cases hx : 0 ≤ x1 ∧ x1 < ρ 0 4
  rotate_left
  · rw [if_neg hx]
    exact ⟨fun _ => hno (fun q => hx q.1), fun q => absurd rfl q⟩
  rw [if_pos hx]
  refine ⟨fun q => absurd q (by decide), fun _ => r_isElement hV.2.2.2.2.1.1 ⟨hb.1, hb.2.1⟩ ?_⟩
  by_cases h2 : 0 ≤ x2 ∧ x2 < ρ 0 5
  rotate_left
  · rw [if_neg h2]
    exact ⟨fun q => absurd rfl q, fun _ => hno (fun q => h2 q.2)⟩
  rw [if_pos h2]
  refine ⟨fun _ => ⟨by omega, fun v5 e5 => ⟨by omega, fun τ1 e1 => ?_⟩⟩, fun q => absurd (by decide) q⟩
  rw [e5, (g3 x1.toNat (by omega)).2.2.2.2]
  refine hyes ⟨hx, h2⟩ τ1 ?_
  obtain ⟨ut, uo, uf, ug, ub, us⟩ := hV
  rw [e1]
  refine ⟨ut, uo, uf, ⟨g1, g2, fun r hr => ?_⟩, ub, us⟩
  obtain ⟨a1, a2, a3, a4, a5⟩ := g3 r hr
  refine ⟨a1, a2, a3, a4, ?_⟩
  by_cases hrx : r = x1.toNat
  · rw [hrx, upS_s, upS_s]
  · rw [upS_j hrx, upS_j hrx]; exact a5
theorem c_elements {ρ σ : St} (hW : WW ρ) (hV : VC σ ρ) {x1 x2 : Int} {Q : Int → St → Prop} (hno : ¬ ((0 ≤ x1 ∧ x1 < ρ 0 4) ∧ 0 ≤ x2 ∧ x2 < ρ 0 5) → Q (-2) σ) (hsame : (0 ≤ x1 ∧ x1 < ρ 0 4) ∧ 0 ≤ x2 ∧ x2 < ρ 0 5 → ρ 7 x1.toNat = x2 → Q (ρ 7 x1.toNat) σ) (hyes : (0 ≤ x1 ∧ x1 < ρ 0 4) ∧ 0 ≤ x2 ∧ x2 < ρ 0 5 → ρ 7 x1.toNat ≠ x2 → ∀ σ1, σ1 50 6 = 0 → Fr (mkS [19] [(50, 6)]) σ σ1 → VC σ1 (upS ρ 7 x1.toNat x2) → Q (ρ 7 x1.toNat) σ1) : wp_X11_elements x1 x2 σ Q := by
  obtain ⟨f1, f2⟩ := hV.2.2.2.1
  have hg := hW.2.2.1
  unfold wp_X11_elements
  refine c_knows ?_
  rw [f1]
  by_cases hx : 0 ≤ x1 ∧ x1 < ρ 0 4
  rotate_left
  · rw [if_neg hx]
    exact ⟨fun _ => hno (fun q => hx q.1), fun q => absurd rfl q⟩
  rw [if_pos hx]
  have r40 := hg.2.1
  have e19 := (f2 x1.toNat (by omega)).2.2.2.2.1
  refine ⟨fun q => absurd q (by decide), fun _ => c_isElement ?_⟩
  rw [hV.2.2.2.2.1.1]
  by_cases h2 : 0 ≤ x2 ∧ x2 < ρ 0 5
  rotate_left
  · rw [if_neg h2]
    exact ⟨fun q => absurd rfl q, fun _ => hno (fun q => h2 q.2)⟩
  rw [if_pos h2]
  refine ⟨fun _ => ⟨by omega, fun v5 e5 => ?_⟩, fun q => absurd (by decide) q⟩
  rw [e19] at e5
  rw [e5]
  refine ⟨fun w => hsame ⟨hx, h2⟩ w, fun w => ⟨by omega, fun σ6 e6 => ?_⟩⟩
  unfold wp_X9_forget
  intro σ7 e7
  refine hyes ⟨hx, h2⟩ w σ7 (by rw [e7, upS_s]) (by rw [e7, e6]; exact (Fr.rf.up rfl).up rfl) ?_
  obtain ⟨vt, vo, vf, vg, vb, vs⟩ := hV
  rw [e7, e6]
  refine ⟨vt, vo, vf, ⟨f1, fun r hr => ?_⟩, vb, vs⟩
  obtain ⟨a1, a2, a3, a4, a5, a6⟩ := f2 r hr
  refine ⟨a1, a2, a3, a4, ?_, a6⟩
  by_cases hrx : r = x1.toNat
  · rw [hrx, upS_s]; exact upS_s
  · rw [upS_j hrx]; show upS σ 19 x1.toNat x2 19 r = _; rw [upS_j hrx]; exact a5
/-- what is asked of the kept findings: all forgotten; costs forgotten and a cost changed; values forgotten and an element changed -/
def CcF (Cc : Bool → St → St → Prop) : Prop := ∀ b σ ρ, FgA σ → Cc b σ ρ
def CcP (Cc : Bool → St → St → Prop) : Prop := ∀ b σ σ1 ρ r v, WW ρ → Cc b σ ρ → (1 ≤ v ∧ v ≤ 99) → FgK σ1 → Fr S_X11_prices σ σ1 → Cc b σ1 (upS ρ 6 r v)
def CcE (Cc : Bool → St → St → Prop) : Prop := ∀ b σ σ1 ρ r v, WW ρ → Cc b σ ρ → σ1 50 6 = 0 → Fr S_X11_elements σ σ1 → Cc b σ1 (upS ρ 7 r v)
section OPS
variable {Cc : Bool → St → St → Prop}
theorem s_drops (hC : CcF Cc) : Step_drops (Inv Cc) := by
  rintro b σ τ ⟨ρ, hW, hVC, hVR, hc⟩ x1 x2 c1 c2
  have hI : Inv Cc b σ τ := ⟨ρ, hW, hVC, hVR, hc⟩
  have up : (0 ≤ x1 ∧ x1 < ρ 0 4) ∧ 0 ≤ x2 ∧ x2 ≤ 1 → WW (upS ρ 8 x1.toNat x2) := fun h => ⟨hW.1, hW.2.1, hW.2.2.1.up8 (by omega), hW.2.2.2.1, hW.2.2.2.2⟩
  refine c_drops hW hVC (fun h => ?_) (fun h e => ?_) (fun h e σ1 hf v => ?_)
  · exact r_drops hW hVR (fun _ => ⟨rfl, hI⟩) (fun q => absurd q h)
  · refine r_drops hW hVR (fun q => absurd h q) (fun _ τ1 v1 => ?_)
    rw [if_pos e]
    rw [upS_self e] at v1
    exact ⟨rfl, ρ, hW, hVC, v1, hc⟩
  · refine r_drops hW hVR (fun q => absurd h q) (fun _ τ1 v1 => ?_)
    rw [if_neg e]
    exact ⟨rfl, _, up h, v, v1, hC _ _ _ hf⟩
theorem s_prices (hC : CcP Cc) : Step_prices (Inv Cc) := by
  rintro b σ τ ⟨ρ, hW, hVC, hVR, hc⟩ x1 x2 c1 c2
  have hI : Inv Cc b σ τ := ⟨ρ, hW, hVC, hVR, hc⟩
  have up : (0 ≤ x1 ∧ x1 < ρ 0 4) ∧ 1 ≤ x2 ∧ x2 ≤ 99 → WW (upS ρ 6 x1.toNat x2) := fun h => ⟨hW.1, hW.2.1, hW.2.2.1.up6 h.2, hW.2.2.2.1, hW.2.2.2.2⟩
  refine mf_X11_prices (Q := fun r σ1 => (¬ ((0 ≤ x1 ∧ x1 < ρ 0 4) ∧ 1 ≤ x2 ∧ x2 ≤ 99) ∧ r = -2 ∧ σ1 = σ) ∨ (((0 ≤ x1 ∧ x1 < ρ 0 4) ∧ 1 ≤ x2 ∧ x2 ≤ 99) ∧ r = ρ 6 x1.toNat ∧ ((ρ 6 x1.toNat = x2 ∧ σ1 = σ) ∨ (FgK σ1 ∧ VC σ1 (upS ρ 6 x1.toNat x2))))) (fun r σ1 h f => ?_) Fr.rf (c_prices hW hVC (fun h => Or.inl ⟨h, rfl, rfl⟩) (fun h e => Or.inr ⟨h, rfl, Or.inl ⟨e, rfl⟩⟩) (fun h e σ1 hf v => Or.inr ⟨h, rfl, Or.inr ⟨hf, v⟩⟩))
  rcases h with ⟨h, rfl, rfl⟩ | ⟨h, rfl, ⟨e, rfl⟩ | ⟨hf, v⟩⟩
  · exact r_prices hW hVR (fun _ => ⟨rfl, hI⟩) (fun q => absurd q h)
  · refine r_prices hW hVR (fun q => absurd h q) (fun _ τ1 v1 => ?_)
    rw [upS_self e] at v1
    exact ⟨rfl, ρ, hW, hVC, v1, hc⟩
  · exact r_prices hW hVR (fun q => absurd h q) (fun _ τ1 v1 => ⟨rfl, _, up h, v, v1, hC _ _ _ _ _ _ hW hc h.2 hf f⟩)
theorem s_elements (hC : CcE Cc) : Step_elements (Inv Cc) := by
  rintro b σ τ ⟨ρ, hW, hVC, hVR, hc⟩ x1 x2 c1 c2
  have hI : Inv Cc b σ τ := ⟨ρ, hW, hVC, hVR, hc⟩
  have up : (0 ≤ x1 ∧ x1 < ρ 0 4) ∧ 0 ≤ x2 ∧ x2 < ρ 0 5 → WW (upS ρ 7 x1.toNat x2) := fun h => ⟨hW.1, hW.2.1, hW.2.2.1.up7 h.2, hW.2.2.2.1, hW.2.2.2.2⟩
  refine c_elements hW hVC (fun h => ?_) (fun h e => ?_) (fun h e σ1 h6 f v => ?_)
  · exact r_elements hW hVR (fun _ => ⟨rfl, hI⟩) (fun q => absurd q h)
  · refine r_elements hW hVR (fun q => absurd h q) (fun _ τ1 v1 => ?_)
    rw [upS_self e] at v1
    exact ⟨rfl, ρ, hW, hVC, v1, hc⟩
  · exact r_elements hW hVR (fun q => absurd h q) (fun _ τ1 v1 => ⟨rfl, _, up h, v, v1, hC _ _ _ _ _ _ hW hc h6 f⟩)
end OPS
