theorem r_frR {Q : Int → St → Prop} {K : Int → Int → St → Prop} {ρ σ : St} (hg : Wg ρ) (v : VRg σ ρ) (ho : σ 0 28 = osum (ρ 8) (ρ 0 4).toNat) {x2 : Int} (h2 : 0 ≤ x2 ∧ x2 < 20) : ∀ (d r : Nat) (x : Int) (n : Nat), (r : Int) + d = ρ 0 4 → d < n → P32 x → K (frR ρ d r x) (x2 + 1) σ → wp_X12_alive_l29 Q K n x x2 (r : Int) σ := by
  intro d
  induction d with
  | zero =>
    intro r x n hd hn hx hk
    obtain ⟨n, rfl⟩ := suc_n hn
    unfold wp_X12_alive_l29
    rw [v.1]
    refine ⟨fun _ w ew => ?_, fun h => absurd h (by omega)⟩
    rw [ew, w32_of (by omega) (by omega)]; exact hk
  | succ d ih =>
    intro r x n hd hn hx hk
    obtain ⟨n, rfl⟩ := suc_n hn
    have hr : (r : Int) < ρ 0 4 := by omega
    have hb := hg.2.1
    obtain ⟨k1, k2, k3, k4, k5⟩ := v.2.2 r hr
    unfold wp_X12_alive_l29 wp_X12_alive_b82
    have nx : ∀ x' : Int, x' = (if okr ρ x r then b_or x (b_shl 1 (ρ 3 r)) else x) → ∀ w : Int, w = w32 ((r : Int) + 1) → wp_X12_alive_l29 Q K n x' x2 w σ := by
      intro x' ex w ew
      rw [ew, w32_of (by omega) (by omega), show (r : Int) + 1 = ((r + 1 : Nat) : Int) by omega, ex]
      exact ih (r + 1) _ n (by push_cast at hd ⊢; omega) (by omega) (frS_p hg hr hx) hk
    rw [v.1]
    refine ⟨fun h => absurd h (by omega), fun _ => r_isIn hg ho hr ?_⟩
    by_cases h8 : ρ 8 r = 0
    · rw [if_pos h8, Int.toNat_natCast, k2]
      refine ⟨fun h => absurd h (by decide), fun _ => ⟨by omega, r_isOf (w_p1 hg hr) hx ?_⟩⟩
      cases e : okp x (ρ 4 r) with
      | true =>
        rw [if_pos rfl, k3]
        refine ⟨fun h => absurd h (by decide), fun _ => ⟨by omega, r_isOf (w_p2 hg hr) hx ?_⟩⟩
        cases e2 : okp x (ρ 5 r) with
        | true =>
          rw [if_pos rfl, k1]
          refine ⟨fun h => absurd h (by decide), fun _ => ⟨by omega, fun w ew => nx w ?_⟩⟩
          rw [ew, if_pos]; unfold okr; simp [h8, e, e2]
        | false =>
          rw [if_neg (by decide)]
          exact ⟨fun _ => nx x (by unfold okr; simp [e2]), fun h => absurd rfl h⟩
      | false =>
        rw [if_neg (by decide)]
        exact ⟨fun _ => nx x (by unfold okr; simp [e]), fun h => absurd rfl h⟩
    · rw [if_neg h8]
      exact ⟨fun _ => nx x (by unfold okr; simp [h8]), fun h => absurd rfl h⟩
theorem r_alR {Q : Int → St → Prop} {K : Int → Int → Int → Int → St → Prop} {ρ σ : St} (hg : Wg ρ) (v : VRg σ ρ) (ho : σ 0 28 = osum (ρ 8) (ρ 0 4).toNat) {f x5 : Int} (hf : P32 f) (h5 : 0 ≤ x5 ∧ x5 < 20) : ∀ (d r : Nat) (y z : Int) (n : Nat), (r : Int) + d = ρ 0 4 → d < n → P32 y → P64 z → K f (alR ρ f d r y z).1 (alR ρ f d r y z).2 (x5 + 1) σ → wp_X12_alive_l118 Q K n f y z x5 (r : Int) σ := by
  intro d
  induction d with
  | zero =>
    intro r y z n hd hn hy hz hk
    obtain ⟨n, rfl⟩ := suc_n hn
    unfold wp_X12_alive_l118
    rw [v.1]
    refine ⟨fun _ w ew => ?_, fun h => absurd h (by omega)⟩
    rw [ew, w32_of (by omega) (by omega)]; exact hk
  | succ d ih =>
    intro r y z n hd hn hy hz hk
    obtain ⟨n, rfl⟩ := suc_n hn
    have hr : (r : Int) < ρ 0 4 := by omega
    have hb := hg.2.1
    have hh := w_head hg hr
    obtain ⟨k1, k2, k3, k4, k5⟩ := v.2.2 r hr
    have hd1 : ((r + 1 : Nat) : Int) + d = ρ 0 4 := by push_cast at hd ⊢; omega
    have hp1 := w_p1 hg hr
    have hp2 := w_p2 hg hr
    unfold alR at hk
    unfold wp_X12_alive_l118 wp_X12_alive_b255
    have no : ¬ (okr ρ f r && tb y (ρ 3 r).toNat) = true → ∀ w : Int, w = w32 ((r : Int) + 1) → wp_X12_alive_l118 Q K n f y z x5 w σ := by
      intro hno w ew
      rw [ew, w32_of (by omega) (by omega), show (r : Int) + 1 = ((r + 1 : Nat) : Int) by omega]
      rw [if_neg hno] at hk
      exact ih (r + 1) _ _ n hd1 (by omega) hy hz hk
    rw [v.1]
    refine ⟨fun h => absurd h (by omega), fun _ => r_isIn hg ho hr ?_⟩
    by_cases h8 : ρ 8 r = 0
    · rw [if_pos h8, Int.toNat_natCast, k1]
      refine ⟨fun h => absurd h (by decide), fun _ => ⟨by omega, r_isOf (Or.inr (Or.inl hh)) hy ?_⟩⟩
      have eh : okp y (ρ 3 r) = tb y (ρ 3 r).toNat := by
        unfold okp
        have a1 : ¬ ρ 3 r < 0 := by omega
        have a2 : ¬ 100 ≤ ρ 3 r := by omega
        simp [a1, a2]
      rw [eh]
      cases et : tb y (ρ 3 r).toNat with
      | true =>
        rw [if_pos rfl, k2]
        refine ⟨fun h => absurd h (by decide), fun _ => ⟨by omega, r_isOf hp1 hf ?_⟩⟩
        cases e : okp f (ρ 4 r) with
        | true =>
          rw [if_pos rfl, k3]
          refine ⟨fun h => absurd h (by decide), fun _ => ⟨by omega, r_isOf hp2 hf ?_⟩⟩
          cases e2 : okp f (ρ 5 r) with
          | true =>
            rw [if_pos rfl, k2]
            rw [if_pos (by unfold okr; simp [h8, e, e2, et])] at hk
            have go : ∀ w : Int, w = l_or z (l_shl 1 (r : Int)) → ∀ w3 : Int, w3 = w32 ((r : Int) + 1) → ∀ y1 : Int, y1 = b_or (b_or y (pbit (ρ 4 r))) (pbit (ρ 5 r)) → wp_X12_alive_l118 Q K n f y1 w x5 w3 σ := by
              intro w ew w3 e3 y1 ey
              rw [e3, w32_of (by omega) (by omega), show (r : Int) + 1 = ((r + 1 : Nat) : Int) by omega, ew, ey]
              refine ih (r + 1) _ _ n hd1 (by omega) (b_or_p (b_or_p hy (pbit_p hp1)) (pbit_p hp2)) (l_or_p hz ?_) hk
              rw [l_shl_1 r (by omega)]; exact pow63 (by omega)
            have sec : ∀ w : Int, w = l_or z (l_shl 1 (r : Int)) → ∀ s0 : Int, s0 = pbit (ρ 4 r) → wp_X12_alive_b214 Q K (wp_X12_alive_l118 Q K n) f w x5 (r : Int) s0 y σ := by
              intro w ew s0 es
              unfold wp_X12_alive_b214 wp_X12_alive_b252 wp_X12_alive_b253 wp_X12_alive_b255
              intro v25 e25
              rw [Int.toNat_natCast, k3]
              unfold isP isPart at hp2
              refine ⟨by omega, fun hq => fun v26 e26 w3 e3 => go w ew w3 e3 v26 ?_, fun hq => ⟨by omega, fun hq2 => fun v26 e26 w3 e3 => go w ew w3 e3 v26 ?_, fun hq2 => ⟨by omega, fun v26 e26 w3 e3 => go w ew w3 e3 v26 ?_⟩⟩⟩
              · rw [e26, e25, es]; congr 1; unfold pbit; rw [if_pos (by omega)]
              · rw [e26, e25, es]; congr 1; unfold pbit; rw [if_pos (by omega)]
              · rw [e26, e25, es]; congr 1; unfold pbit; rw [if_neg (by omega)]
            refine ⟨fun _ w ew => ⟨by omega, fun hq => sec w ew 0 ?_, fun hq => ⟨by omega, sec w ew _ ?_⟩⟩, fun h => absurd (by decide) h⟩
            · unfold pbit; rw [if_pos (by omega)]
            · have : ρ 4 r ≠ -1 := by have := (hg.2.2 r hr).2.1; unfold isPart at this; omega
              unfold isP isPart at hp1
              unfold pbit; rw [if_neg (by omega)]
          | false =>
            rw [if_neg (by decide)]
            exact ⟨fun h => absurd rfl h, fun _ => no (by unfold okr; simp [e2])⟩
        | false =>
          rw [if_neg (by decide)]
          exact ⟨fun _ => no (by unfold okr; simp [e]), fun h => absurd rfl h⟩
      | false =>
        rw [if_neg (by decide)]
        exact ⟨fun _ => no (by simp [et]), fun h => absurd rfl h⟩
    · rw [if_neg h8]
      exact ⟨fun _ => no (by unfold okr; simp [h8]), fun h => absurd rfl h⟩
theorem r_alI {Q : Int → St → Prop} {ρ σ : St} (hg : Wg ρ) (v : VRg σ ρ) (ho : σ 0 28 = osum (ρ 8) (ρ 0 4).toNat) {f y : Int} (hf : P32 f) (hy : P32 y) (hq : Q (alI ρ f y 13).2 σ) : ∀ (d k n : Nat), k + d = 13 → d < n → wp_X12_alive_l108 Q n f (alI ρ f y k).1 (alI ρ f y k).2 (k : Int) σ := by
  intro d
  induction d with
  | zero =>
    intro k n hk hn
    obtain ⟨n, rfl⟩ := suc_n hn
    have : k = 13 := by omega
    subst this
    unfold wp_X12_alive_l108
    exact ⟨fun _ => hq, fun h => absurd h (by omega)⟩
  | succ d ih =>
    intro k n hk hn
    obtain ⟨n, rfl⟩ := suc_n hn
    unfold wp_X12_alive_l108
    refine ⟨fun h => absurd h (by omega), fun _ => r_alR hg v ho hf (by omega) (ρ 0 4).toNat 0 _ _ bigN (wg_n hg) (by have := hg.2.1; unfold bigN; omega) (alI_p hg hy k).1 (alI_p hg hy k).2 ?_⟩
    rw [show (k : Int) + 1 = ((k + 1 : Nat) : Int) by omega]
    exact ih (k + 1) n (by omega) (by omega)
theorem r_frI {Q : Int → St → Prop} {ρ σ : St} (hg : Wg ρ) (v : VRg σ ρ) (ho : σ 0 28 = osum (ρ 8) (ρ 0 4).toNat) (h0 : 0 < ρ 0 4) (hq : Q (alI ρ (frI ρ 13) (b_and (frI ρ 13) (b_shl 1 (ρ 3 0))) 13).2 σ) : ∀ (d k n : Nat), k + d = 13 → d < n → wp_X12_alive_l21 Q n (frI ρ k) (k : Int) σ := by
  intro d
  induction d with
  | zero =>
    intro k n hk hn
    obtain ⟨n, rfl⟩ := suc_n hn
    have : k = 13 := by omega
    subst this
    unfold wp_X12_alive_l21 wp_X12_start
    rw [v.1]
    refine ⟨fun _ => ⟨fun _ w ew => ?_, fun h => absurd (by omega) h⟩, fun h => absurd h (by omega)⟩
    rw [ew, show σ 1 (Int.toNat 0) = ρ 3 0 from (v.2.2 0 h0).1]
    exact r_alI hg v ho (frI_p hg 13) (b_and_p (frI_p hg 13) (pshl_p (w_head hg h0))) hq 13 0 bigN rfl (by unfold bigN; omega)
  | succ d ih =>
    intro k n hk hn
    obtain ⟨n, rfl⟩ := suc_n hn
    unfold wp_X12_alive_l21
    refine ⟨fun h => absurd h (by omega), fun _ => r_frR hg v ho (by omega) (ρ 0 4).toNat 0 (frI ρ k) bigN (wg_n hg) (by have := hg.2.1; unfold bigN; omega) (frI_p hg k) ?_⟩
    rw [show (k : Int) + 1 = ((k + 1 : Nat) : Int) by omega]
    exact ih (k + 1) n (by omega) (by omega)
/-- no rule passes: nothing changes -/
theorem alR_no {ρ : St} {f y : Int} (hn : ∀ r : Nat, (r : Int) < ρ 0 4 → ¬ (okr ρ f r && tb y (ρ 3 r).toNat) = true) : ∀ (d r : Nat) (z : Int), (r : Int) + d = ρ 0 4 → alR ρ f d r y z = (y, z)
  | 0, _, _, _ => rfl
  | d + 1, r, z, hd => by
    unfold alR
    rw [if_neg (hn r (by omega))]
    exact alR_no hn d (r + 1) z (by push_cast at hd ⊢; omega)
theorem alI_no {ρ : St} {f y : Int} (hg : Wg ρ) (hn : ∀ r : Nat, (r : Int) < ρ 0 4 → ¬ (okr ρ f r && tb y (ρ 3 r).toNat) = true) : ∀ k, alI ρ f y k = (y, 0)
  | 0 => rfl
  | k + 1 => by
    unfold alI
    rw [alI_no hg hn k]
    exact alR_no hn _ 0 0 (wg_n hg)
theorem al_eq {ρ : St} (hg : Wg ρ) (h0 : 0 < ρ 0 4) : (alI ρ (frI ρ 13) (b_and (frI ρ 13) (b_shl 1 (ρ 3 0))) 13).2 = (alI ρ (frI ρ 13) (b_shl 1 (ρ 3 0)) 13).2 := by
  have hh := w_head hg (r := 0) h0
  have e : b_and (frI ρ 13) (b_shl 1 (ρ 3 0)) = if tb (frI ρ 13) (ρ 3 0).toNat then b_shl 1 (ρ 3 0) else 0 := by
    have := b_and_1shl (frI_p hg 13) (k := (ρ 3 0).toNat) (by omega)
    rw [show (((ρ 3 0).toNat : Nat) : Int) = ρ 3 0 by omega] at this
    rw [this, pshl hh]
  rw [e]
  cases et : tb (frI ρ 13) (ρ 3 0).toNat with
  | true => rw [if_pos rfl]
  | false =>
    rw [if_neg (by decide), alI_no hg (fun r hr => by rw [tb_0]; simp), alI_no hg (fun r hr h => ?_)]
    rw [Bool.and_eq_true, pshl hh, tb_pow, decide_eq_true_iff] at h
    have := frI_c hg r (Nat.zero_le r) hr h.1
    rw [← h.2, et] at this
    exact absurd this (by decide)
section OPS
variable {Cc : Bool → St → St → Prop}
theorem s_alive : Step_alive (Inv Cc) := by
  rintro b σ τ ⟨ρ, hW, hVC, hVR, hc⟩
  have hg := hW.2.2.1
  have vg := hVC.2.2.2.1
  obtain ⟨ut, uo, uf, ug, ub, us⟩ := hVR
  have hC1 : wp_X11_alive σ (fun r σ1 => r = (if ρ 0 4 = 0 then 0 else (alI ρ (frI ρ 13) (b_shl 1 (ρ 3 0)) 13).2) ∧ σ1 = σ) := by
    unfold wp_X11_alive wp_X4_rulesAlive
    rw [vg.1]
    refine ⟨fun h => ?_, fun h => ⟨by rw [if_pos (by omega)], rfl⟩⟩
    have h0 : 0 < ρ 0 4 := by have := hg.1; omega
    unfold wp_X4_fruitfulLabels
    refine c_frI hg vg ?_ 13 0 bigN rfl (by unfold bigN; omega)
    unfold wp_X4_start
    rw [vg.1, show σ 15 (Int.toNat 0) = ρ 3 0 from (vg.2 0 h0).1]
    refine ⟨fun _ w ew => ?_, fun h1 => absurd h h1⟩
    rw [ew]
    refine c_alI hg vg (frI_p hg 13) (pshl_p (w_head hg h0)) ⟨?_, rfl⟩ 13 0 bigN rfl (by unfold bigN; omega)
    rw [if_neg h]
  have hR1 : wp_X12_alive τ (fun r _ => r = (if ρ 0 4 = 0 then 0 else (alI ρ (frI ρ 13) (b_shl 1 (ρ 3 0)) 13).2)) := by
    unfold wp_X12_alive
    rw [ug.1]
    refine ⟨fun h τ1 e1 => ?_, fun h => by rw [if_pos (by omega)]⟩
    have h0 : 0 < ρ 0 4 := by have := hg.1; omega
    refine r_frI hg (by rw [e1]; exact ug) (by rw [e1, upS_s]; exact ug.2.1) h0 ?_ 13 0 bigN rfl (by unfold bigN; omega)
    rw [if_neg h, al_eq hg h0]
  refine mf_X11_alive (fun r σ1 h f => ?_) Fr.rf hC1
  refine mf_X12_alive (fun r1 τ1 h1 f1 => ?_) Fr.rf hR1
  refine ⟨by rw [h.1, h1], ρ, hW, by rw [h.2]; exact hVC, ?_, by rw [h.2]; exact hc⟩
  exact ⟨ut.fr f1 ⟨rfl, fun _ => rfl⟩, uo.fr f1 ⟨rfl, fun _ => rfl⟩, uf.fr f1 ⟨rfl, rfl⟩, ug.fr f1 ⟨rfl, rfl, fun _ => rfl, fun _ => rfl, fun _ => rfl, fun _ => rfl, fun _ => rfl⟩, ub.fr f1 ⟨rfl, rfl, rfl, fun _ => rfl, fun _ => rfl⟩, us.fr f1 ⟨rfl, fun _ => rfl⟩⟩
end OPS
