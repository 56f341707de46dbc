/-! count -/
theorem bsum_osum {f : Nat → Int} {n : Nat} (hn : n ≤ 40) (hf : ∀ k, k < n → f k = 0 ∨ f k = 1) : bsum (osum f n).toNat 40 = sumN f n := by
  have bit : ∀ k, ((((osum f n).toNat / 2 ^ k % 2 : Nat)) : Int) = if k < n then f k else 0 := by
    intro k
    have h := osum_tb n hf k
    unfold tb at h
    rw [Nat.testBit_eq_decide_div_mod_eq] at h
    have hm := Nat.mod_lt ((osum f n).toNat / 2 ^ k) (show 2 > 0 by decide)
    by_cases hk : k < n
    · rw [if_pos hk]
      rcases hf k hk with e | e
      · rw [e] at h ⊢
        simp [hk] at h; omega
      · rw [e] at h ⊢
        simp [hk] at h; omega
    · rw [if_neg hk]
      simp [hk] at h; omega
  unfold bsum
  rw [sumN_congr (g := fun k => if k < n then f k else 0) 40 (fun k _ => bit k), show 40 = n + (40 - n) by omega, sumN_app, sumN_congr (g := f) n (fun k hk => if_pos hk), sumN_none (f := fun a => if n + a < n then f (n + a) else 0) (fun k _ => if_neg (by omega))]
  omega
theorem c_rulesIn {ρ σ : St} (hg : Wg ρ) (vg : VCg σ ρ) {Q : Int → St → Prop} (hq : Q (ρ 0 4 - sumN (ρ 8) (ρ 0 4).toNat) σ) : wp_X4_rulesIn σ Q := by
  have hb := hg.2.1
  have h0 := hg.1
  have lp : ∀ (d r : Nat) (n : Nat), (r : Int) + d = ρ 0 4 → d < n → 0 ≤ sumN (ρ 8) r ∧ sumN (ρ 8) r ≤ r → wp_X4_rulesIn_l4 Q n (r - sumN (ρ 8) r) (r : Int) σ := by
    intro d
    induction d with
    | zero =>
      intro r n hd hn hr
      obtain ⟨n, rfl⟩ := suc_n hn
      unfold wp_X4_rulesIn_l4
      rw [vg.1]
      refine ⟨fun _ => ?_, fun w => absurd (by omega) w⟩
      rw [show (r : Int) = ρ 0 4 by omega, show r = (ρ 0 4).toNat by omega]; exact hq
    | succ d ih =>
      intro r n hd hn hr
      obtain ⟨n, rfl⟩ := suc_n hn
      have hr4 : (r : Int) < ρ 0 4 := by push_cast at hd; omega
      have e20 := (vg.2 r hr4).2.2.2.2.2
      have h8 := w_bit hg r (by omega)
      have st : sumN (ρ 8) (r + 1) = sumN (ρ 8) r + ρ 8 r := rfl
      have := ih (r + 1) n (by push_cast at hd ⊢; omega) (by omega) (by rw [st]; push_cast; omega)
      unfold wp_X4_rulesIn_l4 wp_X4_rulesIn_b24
      rw [vg.1, Int.toNat_natCast, e20]
      refine ⟨fun w => absurd w (by omega), fun _ => ⟨by omega, fun h v ev => ?_, fun h v ev v2 ev2 => ?_⟩⟩
      · rw [ev, w32_of (by omega) (by omega), show (r : Int) + 1 = ((r + 1 : Nat) : Int) by omega]
        rw [show ((r + 1 : Nat) : Int) - sumN (ρ 8) (r + 1) = r - sumN (ρ 8) r by rw [st]; omega] at this
        exact this
      · rw [ev2, ev, w32_of (x := (r : Int) - sumN (ρ 8) r + 1) (by omega) (by omega), w32_of (by omega) (by omega), show (r : Int) + 1 = ((r + 1 : Nat) : Int) by omega]
        rw [show ((r + 1 : Nat) : Int) - sumN (ρ 8) (r + 1) = r - sumN (ρ 8) r + 1 by rw [st]; omega] at this
        exact this
  unfold wp_X4_rulesIn
  exact lp (ρ 0 4).toNat 0 bigN (by omega) (by unfold bigN; omega) ⟨by show (0 : Int) ≤ 0; decide, by show (0 : Int) ≤ 0; decide⟩
section OPS
variable {Cc : Bool → St → St → Prop}
theorem s_count (hC : CcL Cc) : Step_count (Inv Cc) := by
  rintro b σ τ ⟨ρ, hW, hVC, hVR, hc⟩ x1 c1
  have hI : Inv Cc b σ τ := ⟨ρ, hW, hVC, hVR, hc⟩
  have hk := hC.kl hVC hc
  have hg := hW.2.2.1
  obtain ⟨vt, vo, vf, vg, vb, vs⟩ := hVC
  have hV := hVR
  obtain ⟨ut, uo, uf, ug, ub, us⟩ := hVR
  have h04 := hg.1
  have hvc : VC σ ρ := ⟨vt, vo, vf, vg, vb, vs⟩
  refine mf_X11_count (Q := fun r σ1 => (x1 ≠ 6 ∧ σ1 = σ ∧ (x1 = 0 → r = ρ 0 4) ∧ (x1 = 1 → r = ρ 0 8) ∧ (x1 = 2 → r = if ρ 0 4 = 0 then -1 else ρ 3 0) ∧ (x1 = 3 → r = ρ 0 5) ∧ (x1 = 4 → r = ρ 0 6) ∧ (x1 = 5 → r = ρ 0 7) ∧ (x1 = 7 → r = ρ 0 0) ∧ (x1 = 8 → r = ρ 0 1) ∧ (x1 = 9 → r = ρ 0 4 - sumN (ρ 8) (ρ 0 4).toNat) ∧ (¬ (0 ≤ x1 ∧ x1 ≤ 9) → r = -1)) ∨ (x1 = 6 ∧ r = nI2 ρ (LL ρ) ∧ Bt ρ σ1 ∧ σ1 36 7 = 1 ∧ Lw ρ σ1)) (fun r σ1 h f => ?_) Fr.rf ?_
  · rcases h with ⟨h6, rfl, g0, g1, g2, g3, g4, g5, g7, g8, g9, gn⟩ | ⟨h6, g0, g1, g2, g3⟩
    · unfold wp_X12_count
      refine ⟨fun e => ⟨by rw [g0 e, ug.1], hI⟩, fun e => ⟨by rw [g1 e, us.1], hI⟩, fun e => ?_, fun e => ⟨by rw [g3 e]; exact ub.1.symm, hI⟩, fun e => ⟨by rw [g4 e]; exact ub.2.1.symm, hI⟩, fun e => ⟨by rw [g5 e]; exact ub.2.2.1.symm, hI⟩, fun e => absurd e h6, fun e => ⟨by rw [g7 e, ut.1], hI⟩, fun e => ⟨by rw [g8 e, uo.1], hI⟩, fun e => ?_, fun e => ⟨gn (by omega), hI⟩⟩
      · refine r_start ug.1 (fun q => (ug.2.2 0 (by show (0 : Int) < ρ 0 4; omega)).1) (fun q => ?_) (fun q => ?_) h04
        · rw [g2 e, if_pos q]; exact ⟨rfl, hI⟩
        · rw [g2 e, if_neg (by omega)]; exact ⟨rfl, hI⟩
      · rw [ug.2.1, ug.1]
        have hr := osum_r (f := ρ 8) (ρ 0 4).toNat (w_bit hg)
        have h40 := hg.2.1
        have hp : (2 : Nat) ^ (ρ 0 4).toNat ≤ 2 ^ 40 := Nat.pow_le_pow_right (by decide) (by omega)
        have h2 : (2 : Nat) ^ 40 = 1099511627776 := by decide
        refine r_bitCount (by omega) ?_
        rw [bsum_osum (by omega) (w_bit hg)]
        have u1 := sumN_nn (f := ρ 8) (ρ 0 4).toNat (fun k hk => by have := w_bit hg k hk; omega)
        have u2 := sumN_ub (f := ρ 8) (b := 1) (ρ 0 4).toNat (fun k hk => by have := w_bit hg k hk; omega)
        rw [w32_of (by omega) (by omega)]
        exact ⟨g9 e, hI⟩
    · unfold wp_X12_count
      refine ⟨fun e => absurd e (by omega), fun e => absurd e (by omega), fun e => absurd e (by omega), fun e => absurd e (by omega), fun e => absurd e (by omega), fun e => absurd e (by omega), fun e => ?_, fun e => absurd e (by omega), fun e => absurd e (by omega), fun e => absurd e (by omega), fun e => absurd h6 e.2.2.2.2.2.2.1⟩
      refine mf_X12_itemsMany (Q := fun r1 _ => r1 = nI2 ρ (LL ρ)) (fun r1 τ1 e1 f1 => ⟨by rw [g0, e1], ρ, hW, VC.frB f (by decide) hvc, VR.frB f1 (by decide) hV, hC.2 b σ σ1 ρ hc g1 ⟨g2, g3⟩ f⟩) Fr.rf (r_itemsMany hW hV (fun _ _ => rfl))
  · unfold wp_X11_count
    refine ⟨fun e => ?_, fun e => ?_, fun e => ?_, fun e => ?_, fun e => ?_, fun e => ?_, fun e => ?_, fun e => ?_, fun e => ?_, fun e => ?_, fun e => ?_⟩
    · subst e; exact Or.inl ⟨by decide, rfl, fun _ => vg.1, by omega, by omega, by omega, by omega, by omega, by omega, by omega, by omega, by omega⟩
    · subst e; exact Or.inl ⟨by decide, rfl, by omega, fun _ => vs.1, by omega, by omega, by omega, by omega, by omega, by omega, by omega, by omega⟩
    · subst e
      refine c_start vg (fun q => ?_) (fun q => ?_) h04
      · exact Or.inl ⟨by decide, rfl, by omega, by omega, fun _ => by rw [if_pos q], by omega, by omega, by omega, by omega, by omega, by omega, by omega⟩
      · exact Or.inl ⟨by decide, rfl, by omega, by omega, fun _ => by rw [if_neg (by omega)], by omega, by omega, by omega, by omega, by omega, by omega, by omega⟩
    · subst e; exact Or.inl ⟨by decide, rfl, by omega, by omega, by omega, fun _ => vb.1, by omega, by omega, by omega, by omega, by omega, by omega⟩
    · subst e; exact Or.inl ⟨by decide, rfl, by omega, by omega, by omega, by omega, fun _ => vb.2.1, by omega, by omega, by omega, by omega, by omega⟩
    · subst e; exact Or.inl ⟨by decide, rfl, by omega, by omega, by omega, by omega, by omega, fun _ => vb.2.2.1, by omega, by omega, by omega, by omega⟩
    · exact c_itemsWithTrees hW hk (fun σ1 b1 b2 b3 => Or.inr ⟨e, rfl, b1, b2, b3⟩)
    · subst e; exact Or.inl ⟨by decide, rfl, by omega, by omega, by omega, by omega, by omega, by omega, fun _ => vt.1, by omega, by omega, by omega⟩
    · subst e; exact Or.inl ⟨by decide, rfl, by omega, by omega, by omega, by omega, by omega, by omega, by omega, fun _ => vo.1, by omega, by omega⟩
    · subst e
      refine c_rulesIn hg vg ?_
      exact Or.inl ⟨by decide, rfl, by omega, by omega, by omega, by omega, by omega, by omega, by omega, by omega, fun _ => rfl, by omega⟩
    · exact Or.inl ⟨by omega, rfl, by omega, by omega, by omega, by omega, by omega, by omega, by omega, by omega, by omega, fun _ => rfl⟩
end OPS
