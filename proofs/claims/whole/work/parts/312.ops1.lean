/-! small helpers of both sides -/
theorem r_in {x a b : Int} {σ : St} {Q : Int → St → Prop} (h : Q (if a ≤ x ∧ x ≤ b then 1 else 0) σ) : wp_X12_in x a b σ Q := by
  unfold wp_X12_in wp_X12_in_b17
  refine ⟨fun h1 => ?_, fun h1 => ⟨fun h2 => ?_, fun h2 => ?_⟩⟩
  · rw [if_neg (by omega)] at h; exact h
  · rw [if_neg (by omega)] at h; exact h
  · rw [if_pos (by omega)] at h; exact h
theorem c_knows {x : Int} {σ : St} {Q : Int → St → Prop} (h : Q (if 0 ≤ x ∧ x < σ 14 0 then 1 else 0) σ) : wp_X4_knows x σ Q := by
  unfold wp_X4_knows wp_X4_knows_b16
  refine ⟨fun h1 => ?_, fun h1 => ⟨fun h2 => ?_, fun h2 => ?_⟩⟩
  · rw [if_neg (by omega)] at h; exact h
  · rw [if_neg (by omega)] at h; exact h
  · rw [if_pos (by omega)] at h; exact h
theorem c_isElement {x : Int} {σ : St} {Q : Int → St → Prop} (h : Q (if 0 ≤ x ∧ x < σ 14 7 then 1 else 0) σ) : wp_X4_isElement x σ Q := by
  unfold wp_X4_isElement wp_X4_isElement_b16
  refine ⟨fun h1 => ?_, fun h1 => ⟨fun h2 => ?_, fun h2 => ?_⟩⟩
  · rw [if_neg (by omega)] at h; exact h
  · rw [if_neg (by omega)] at h; exact h
  · rw [if_pos (by omega)] at h; exact h
theorem r_isRule {x n : Int} {σ : St} {Q : Int → St → Prop} (hn : σ 0 1 = n) (h0 : 0 ≤ n ∧ n ≤ 40) (h : Q (if 0 ≤ x ∧ x < n then 1 else 0) σ) : wp_X12_isRule x σ Q := by
  unfold wp_X12_isRule
  rw [hn, w32_of (by omega) (by omega)]
  refine r_in ?_
  by_cases hx : 0 ≤ x ∧ x < n
  · rw [if_pos (by omega)]; rw [if_pos hx] at h; exact ⟨Or.inr rfl, h⟩
  · rw [if_neg (by omega)]; rw [if_neg hx] at h; exact ⟨Or.inl rfl, h⟩
theorem r_isElement {x n : Int} {σ : St} {Q : Int → St → Prop} (hn : σ 6 0 = n) (h0 : 2 ≤ n ∧ n ≤ 5) (h : Q (if 0 ≤ x ∧ x < n then 1 else 0) σ) : wp_X12_isElement x σ Q := by
  unfold wp_X12_isElement
  rw [show σ 6 (Int.toNat 0) = n from hn, w32_of (by omega) (by omega)]
  refine r_in ?_
  by_cases hx : 0 ≤ x ∧ x < n
  · rw [if_pos (by omega)]; rw [if_pos hx] at h; exact ⟨Or.inr rfl, h⟩
  · rw [if_neg (by omega)]; rw [if_neg hx] at h; exact ⟨Or.inl rfl, h⟩
section OPS
variable {Cc : Bool → St → St → Prop}
theorem s_end (hC : CcI Cc) : Step_end (Inv Cc) := by
  rintro b σ τ ⟨ρ, hW, hVC, hVR, hc⟩ x1 c1
  obtain ⟨⟨w1, w2, w3⟩, wo, wg, wb, ws⟩ := hW
  obtain ⟨⟨t1, t2⟩, vo, vf, vg, vb, vs⟩ := hVC
  obtain ⟨⟨u1, u2⟩, uo, uf, ug, ub, us⟩ := hVR
  unfold wp_X11_end wp_X12_end
  have fin : ¬ (0 ≤ x1 ∧ x1 ≤ ρ 0 0) → wp_X12_in x1 0 (τ 0 17) τ (fun r1 σ2 => ((r1 ≠ 0) → ∀ σ3 : St, σ3 = upS σ2 0 17 x1 → -1 = x1 ∧ Inv Cc b σ σ3) ∧ (¬ (r1 ≠ 0) → -1 = (-1 : Int) ∧ Inv Cc b σ σ2)) := by
    intro hn
    refine r_in ?_
    rw [u1, if_neg hn]
    exact ⟨fun h => absurd rfl h, fun _ => ⟨rfl, ρ, ⟨⟨w1, w2, w3⟩, wo, wg, wb, ws⟩, ⟨⟨t1, t2⟩, vo, vf, vg, vb, vs⟩, ⟨⟨u1, u2⟩, uo, uf, ug, ub, us⟩, hc⟩⟩
  refine ⟨fun h => fin (by omega), fun h => ⟨fun h2 σ1 e1 => ?_, fun h2 => fin (by rw [← t1]; omega)⟩⟩
  refine r_in ?_
  rw [u1, if_pos (by rw [← t1]; omega)]
  refine ⟨fun _ τ1 e2 => ⟨rfl, upS ρ 0 0 x1, ?_, ?_, ?_, ?_⟩, fun h => absurd (by decide) h⟩
  · exact ⟨⟨by rw [upS_s]; omega, by rw [upS_s]; omega, fun j hj => by rw [upS_s] at hj; exact w3 j (by omega)⟩, wo, wg, wb, ws⟩
  · rw [e1]
    exact ⟨⟨by rw [upS_s, upS_s], fun j hj => by rw [upS_s] at hj; exact t2 j (by omega)⟩, vo, vf, vg, vb, vs⟩
  · rw [e2]
    exact ⟨⟨by rw [upS_s, upS_s], fun j hj => by rw [upS_s] at hj; exact u2 j (by omega)⟩, uo, uf, ug, ub, us⟩
  · refine hC b σ σ1 ρ _ hc (fun k j hk => ?_) (fun k j hk => ?_)
    · rw [e1, upS_k (by rintro rfl; cases hk)]
    · by_cases hk0 : k = 0
      · subst hk0; rw [upS_j (by rintro rfl; cases hk)]
      · rw [upS_k hk0]
theorem s_fault : Step_fault (Inv Cc) := by
  rintro b σ τ ⟨ρ, hW, hVC, hVR, hc⟩ x1 c1
  have hI : Inv Cc b σ τ := ⟨ρ, hW, hVC, hVR, hc⟩
  obtain ⟨f1, f2⟩ := hVC.2.2.1
  obtain ⟨g1, g2⟩ := hVR.2.2.1
  unfold wp_X11_fault wp_X12_fault
  refine ⟨fun h => ⟨fun h2 => absurd h h2, fun _ => ⟨by rw [f1, g1], hI⟩⟩, fun h => ⟨fun _ => ⟨fun h3 => absurd h h3, fun _ => ⟨by rw [f2, g2], hI⟩⟩, fun h2 => by omega⟩, fun h => ⟨fun _ => ⟨fun _ => ⟨rfl, hI⟩, fun h3 => by omega⟩, fun h2 => by omega⟩⟩
theorem s_octet : Step_octet (Inv Cc) := by
  rintro b σ τ ⟨ρ, hW, hVC, hVR, hc⟩ x1 c1
  have hI : Inv Cc b σ τ := ⟨ρ, hW, hVC, hVR, hc⟩
  obtain ⟨f1, f2⟩ := hVC.2.1
  obtain ⟨g1, g2⟩ := hVR.2.1
  obtain ⟨o1, o2⟩ := hW.2.1
  unfold wp_X11_octet wp_X12_octet wp_X11_octet_b12
  have fin : ∀ r : Int, r = (if 0 ≤ x1 ∧ x1 < ρ 0 1 then ρ 2 x1.toNat else -1) → wp_X12_in x1 0 (w32 ((τ 0 61) - 1)) τ (fun r1 σ2 => ((r1 = 0) → r = -1 ∧ Inv Cc b σ σ2) ∧ (¬ (r1 = 0) → (0 ≤ x1 ∧ x1 < 20000) ∧ r = σ2 40 (x1.toNat) ∧ Inv Cc b σ σ2)) := by
    intro r hr
    rw [g1, w32_of (by omega) (by omega)]
    refine r_in ?_
    by_cases hx : 0 ≤ x1 ∧ x1 < ρ 0 1
    · rw [if_pos (by omega)]
      rw [if_pos hx] at hr
      exact ⟨fun h => absurd h (by decide), fun _ => ⟨by omega, by rw [hr, g2 _ (by omega)], hI⟩⟩
    · rw [if_neg (by omega)]
      rw [if_neg hx] at hr
      exact ⟨fun _ => ⟨hr, hI⟩, fun h => absurd rfl h⟩
  refine ⟨fun h => fin _ (by rw [if_neg (by omega)]), fun h => ⟨fun h2 => ⟨by omega, fin _ ?_⟩, fun h2 => fin _ (by rw [if_neg (by omega)])⟩⟩
  rw [if_pos (by omega), f2 _ (by omega)]
end OPS
