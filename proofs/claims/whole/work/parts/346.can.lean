/-! can -/
theorem Te.pos {g : St} {J : Int → Int → Int} (hJ : Jok J) (hg : Wg g) {p i j c : Int} (hp : p < 100) (h : Te g J p i j c) : 1 ≤ c := by
  obtain ⟨k, hk⟩ := h
  obtain ⟨r, hr, h8, h3, hh, -⟩ := Te.cases_on k hk hp
  have hpr := (hg.2.2 r hr).2.2.2.1
  rcases hh with ⟨h5, c1, hc1, e⟩ | ⟨h5, m, c1, c2, hi, hj, hc1, hc2, e⟩
  · have := TP.nn hJ hg _ hc1
    have := hJ.2.1 (g 6 r) c1 this
    omega
  · have n1 := TP.nn hJ hg _ hc1
    have n2 := TP.nn hJ hg _ hc2
    have n3 := hJ.1 c1 c2 n1
    have := hJ.2.1 (g 6 r) (J c1 c2) (by omega)
    omega
theorem can_eq {ρ σ τ : St} (hg : Wg ρ) (hL : LL ρ < 9) (h8 : 0 ≤ ρ 0 8) (hw : Lw ρ σ) (ha : LA ρ τ) {x1 x2 x3 : Int} (h : isItm ρ x1 x2 x3) : (if σ 37 (itN ρ x1 x2 x3) ≤ 0 then (0 : Int) else 1) = (if rl τ x1 x2 x3 < 1000000000 then 1 else 0) := by
  rw [low_eq hL h8 hw ha h]
  obtain ⟨h1, h2, h3, h4⟩ := h
  by_cases hf : rl τ x1 x2 x3 < 1000000000
  · have ht := (ha.2 x1 x2 x3 h1.1 h1.2 h2 h3 h4).te hf
    have := Te.pos jokA hg (by omega) ht
    rw [if_pos hf, if_pos hf, if_neg (by omega)]
  · rw [if_neg hf, if_neg hf, if_pos (by decide)]
theorem c_itemCan {ρ σ : St} (hW : WW ρ) (vg : VCg σ ρ) (vs : VCs σ ρ) (hb : σ 24 17 = 0 ∨ Bt ρ σ) (hl : σ 36 7 = 0 ∨ (σ 36 7 = 1 ∧ Lw ρ σ)) {x1 x2 x3 : Int} {Q : Int → St → Prop} (hno : ¬ isItm ρ x1 x2 x3 → Q (-2) σ) (hyes : isItm ρ x1 x2 x3 → ∀ σ1, Bt ρ σ1 → σ1 36 7 = 1 → Lw ρ σ1 → Q (if σ1 37 (itN ρ x1 x2 x3) ≤ 0 then 0 else 1) σ1) : wp_X11_can x1 x2 x3 σ Q := by
  have hL : LL ρ < 9 := by have := hW.2.2.2.2.2.1; unfold LL; omega
  unfold wp_X11_can
  refine c_itemOf hW vg vs hb (fun h => ⟨fun q => absurd q (by decide), fun _ => hno h⟩) (fun h σ1 hB f => ⟨fun _ => ?_, fun q => absurd (by omega) q⟩)
  have e7 : σ1 36 7 = σ 36 7 := f.at rfl
  have e37 : σ1 37 = σ 37 := funext (fun j => f.at rfl)
  refine c_lowestOf hW (vg.fr f ⟨rfl, fun _ => rfl, fun _ => rfl, fun _ => rfl, fun _ => rfl, fun _ => rfl, fun _ => rfl⟩) (vs.fr f ⟨rfl, fun _ => rfl⟩) (Or.inr hB) ?_ (itN_r hL h).2 (fun σ2 a1 a2 a3 => ?_)
  · rw [e7]; unfold Lw; rw [e37]; exact hl
  · have hy := hyes h σ2 a1 a2 a3
    refine ⟨fun q => ?_, fun q => ?_⟩
    · rw [if_pos q] at hy; exact hy
    · rw [if_neg q] at hy; exact hy
theorem r_can {ρ τ : St} (hW : WW ρ) (hV : VR τ ρ) {x1 x2 x3 : Int} {Q : Int → St → Prop} (hno : ¬ isItm ρ x1 x2 x3 → Q (-2) τ) (hyes : isItm ρ x1 x2 x3 → ∀ τ1, LA ρ τ1 → Q (if rl τ1 x1 x2 x3 < 1000000000 then 1 else 0) τ1) : wp_X12_can x1 x2 x3 τ Q := by
  unfold wp_X12_can
  have h8 := hW.2.2.2.2.2.1
  refine r_isItem hV.2.2.2.2.2.1 (fun h => ⟨fun q => absurd rfl q, fun _ => hno h⟩) (fun h => ⟨fun _ => r_looks hW hV (fun τ1 hA => ?_), fun q => absurd (by decide) q⟩)
  have hy := hyes h τ1 hA
  obtain ⟨h1, h2, h3, h4⟩ := h
  unfold wp_X12_has
  refine r_item h1 (by omega) ⟨it_r h1 (by omega), fun hf => ?_, fun hf => ?_⟩
  · rw [if_neg (by unfold rl; omega)] at hy
    exact ⟨fun _ => hy, fun q => absurd rfl q⟩
  · rw [if_pos (by unfold rl; omega)] at hy
    exact ⟨fun q => absurd q (by decide), fun _ => hy⟩
section OPS
variable {Cc : Bool → St → St → Prop}
theorem s_can (hC : CcL Cc) : Step_can (Inv Cc) := by
  rintro b σ τ ⟨ρ, hW, hVC, hVR, hc⟩ x1 x2 x3 c1 c2 c3
  have hI : Inv Cc b σ τ := ⟨ρ, hW, hVC, hVR, hc⟩
  have hL : LL ρ < 9 := by have := hW.2.2.2.2.2.1; unfold LL; omega
  have h80 := hW.2.2.2.2.1
  obtain ⟨vt, vo, vf, vg, vb, vs⟩ := hVC
  have hV := hVR
  obtain ⟨ut, uo, uf, ug, ub, us⟩ := hVR
  obtain ⟨hb, hl⟩ := hC.1 b σ ρ hc
  refine mf_X11_can (Q := fun r σ1 => (¬ isItm ρ x1 x2 x3 ∧ r = -2 ∧ σ1 = σ) ∨ (isItm ρ x1 x2 x3 ∧ Bt ρ σ1 ∧ σ1 36 7 = 1 ∧ Lw ρ σ1 ∧ r = (if σ1 37 (itN ρ x1 x2 x3) ≤ 0 then 0 else 1))) (fun r σ1 h f => ?_) Fr.rf (c_itemCan hW vg vs hb hl (fun h => Or.inl ⟨h, rfl, rfl⟩) (fun h σ1 a1 a2 a3 => Or.inr ⟨h, a1, a2, a3, rfl⟩))
  refine mf_X12_can (Q := fun r τ1 => (¬ isItm ρ x1 x2 x3 ∧ r = -2 ∧ τ1 = τ) ∨ (isItm ρ x1 x2 x3 ∧ LA ρ τ1 ∧ r = (if rl τ1 x1 x2 x3 < 1000000000 then 1 else 0))) (fun r1 τ1 h1 f1 => ?_) Fr.rf (r_can hW hV (fun h => Or.inl ⟨h, rfl, rfl⟩) (fun h τ1 a1 => Or.inr ⟨h, a1, rfl⟩))
  rcases h with ⟨g0, rfl, rfl⟩ | ⟨g0, g1, g2, g3, rfl⟩
  · rcases h1 with ⟨k0, rfl, rfl⟩ | ⟨k0, -⟩
    · exact ⟨rfl, hI⟩
    · exact absurd k0 g0
  · rcases h1 with ⟨k0, -⟩ | ⟨k0, k1, rfl⟩
    · exact absurd g0 k0
    refine ⟨can_eq hW.2.2.1 hL h80 g3 k1 g0, ρ, hW, ?_, ?_, hC.2 b σ σ1 ρ hc g1 ⟨g2, g3⟩ f⟩
    · exact ⟨vt.fr f ⟨rfl, fun _ => rfl⟩, vo.fr f ⟨rfl, fun _ => rfl⟩, vf.fr f ⟨rfl, rfl⟩, vg.fr f ⟨rfl, fun _ => rfl, fun _ => rfl, fun _ => rfl, fun _ => rfl, fun _ => rfl, fun _ => rfl⟩, vb.fr f ⟨rfl, rfl, rfl, fun _ => rfl, fun _ => rfl⟩, vs.fr f ⟨rfl, fun _ => rfl⟩⟩
    · exact ⟨ut.fr f1 ⟨rfl, fun _ => rfl⟩, uo.fr f1 ⟨rfl, fun _ => rfl⟩, uf.fr f1 ⟨rfl, rfl⟩, ug.fr f1 ⟨rfl, rfl, fun _ => rfl, fun _ => rfl, fun _ => rfl, fun _ => rfl, fun _ => rfl⟩, ub.fr f1 ⟨rfl, rfl, rfl, fun _ => rfl, fun _ => rfl⟩, us.fr f1 ⟨rfl, fun _ => rfl⟩⟩
end OPS
