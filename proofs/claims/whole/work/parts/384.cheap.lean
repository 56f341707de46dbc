/-! cheap -/
theorem TaM.ext {ρ σ σ1 : St} {m : Nat → Nat} (h : TaM ρ σ m) (e77 : σ1 77 = σ 77) (e78 : σ1 78 = σ 78) (e79 : σ1 79 = σ 79) (e83 : σ1 83 = σ 83) : TaM ρ σ1 m := by
  unfold TaM TaO Taq at *
  rw [e77, e78, e79, e83]; exact h
def cvN (ρ : St) (x1 x2 x3 x4 : Int) : Int := min B0 (sumN (ct ρ (itN ρ x1 x2 x3)) (x4.toNat + 1))
def CcH (Cc : Bool → St → St → Prop) : Prop := (∀ b σ ρ, Cc b σ ρ → TaM ρ σ (fun _ => 0) ∧ (b = false → ∀ j, σ 83 j = 0)) ∧ (∀ b σ σ1 ρ, Cc b σ ρ → BL ρ σ1 → TaM ρ σ1 (fun _ => 0) → Fr S_X11_cheap σ σ1 → Cc true σ1 ρ)
section OPS
variable {Cc : Bool → St → St → Prop}
theorem c_upTo2 {ρ σ : St} (hW : WW ρ) (hk : KL ρ σ) (hT : TaM ρ σ (fun _ => 0)) (b : Bool) (hb : b = false → ∀ j, σ 83 j = 0) {q mo : Nat} (hq : q < 12 * spN (LL ρ)) (hmo : mo ≤ 300) {Q : Int → St → Prop} (h : ∀ σ1, BL ρ σ1 → TaM ρ σ1 (fun _ => 0) → Fr S_X8_upTo σ σ1 → Q (min B0 (sumN (ct ρ q) (mo + 1))) σ1) : wp_X1_prepare σ (fun _ σ2 => (b = false → ∀ j, σ2 83 j = 0) ∧ wp_X8_upTo_b22 Q (q : Int) (mo : Int) σ2) := by
  have hg := hW.2.2.1
  have hL : LL ρ < 9 := by have := hW.2.2.2.2.2.1; unfold LL; omega
  refine mf_X1_prepare (σ0 := σ) (Q := fun _ σ1 => Bt ρ σ1 ∧ σ1 36 7 = 1 ∧ Lw ρ σ1) (fun _ σ2 h2 f => ?_) Fr.rf (c_prepare hW hk.1 hk.2.1 hk.2.2.1 hk.2.2.2 (fun σ1 a b c => ⟨a, b, c⟩))
  refine ⟨fun e j => by rw [f.at rfl]; exact hb e j, ?_⟩
  refine mf_X8_upTo_b22 (σ0 := σ) (Q := fun r σ1 => BL ρ σ1 ∧ TaM ρ σ1 (fun _ => 0) ∧ r = min B0 (sumN (ct ρ q) (mo + 1))) (fun r σ1 g f1 => ?_) (Fr.rf.tr f (mkS_sub (by decide) (by decide))) (c_upTo hg hL h2 (hT.ext (funext (fun j => f.at rfl)) (funext (fun j => f.at rfl)) (funext (fun j => f.at rfl)) (funext (fun j => f.at rfl))) hq hmo (fun σ1 a1 a2 => ⟨a1, a2, rfl⟩))
  obtain ⟨g1, g2, rfl⟩ := g
  exact h σ1 g1 g2 f1
theorem s_cheap (hI : CcB Cc) (hC : CcL Cc) (hH : CcH Cc) : Step_cheap (Inv Cc) := by
  intro σ τ x1 x2 x3 x4 c1 c2 c3 c4
  have ref : ∀ ρ, WW ρ → VR τ ρ → ∀ (r : Int) (b : Bool) (σ1 : St), VC σ1 ρ → Cc b σ1 ρ → ((¬ (isItm ρ x1 x2 x3 ∧ 0 ≤ x4 ∧ x4 ≤ 300) ∧ r = -2) ∨ ((isItm ρ x1 x2 x3 ∧ 0 ≤ x4 ∧ x4 ≤ 300) ∧ r = (if cvN ρ x1 x2 x3 x4 ≤ 1000000000000000 then cvN ρ x1 x2 x3 x4 else -3))) → wp_X12_cheap x1 x2 x3 x4 τ (fun r1 τ1 => r = r1 ∧ Inv Cc b σ1 τ1) := by
    intro ρ hW hVR r b σ1 hv hc hr
    refine mf_X12_cheap (Q := fun r1 _ => (¬ (isItm ρ x1 x2 x3 ∧ 0 ≤ x4 ∧ x4 ≤ 300) ∧ r1 = -2) ∨ ((isItm ρ x1 x2 x3 ∧ 0 ≤ x4 ∧ x4 ≤ 300) ∧ r1 = (if cvN ρ x1 x2 x3 x4 ≤ 1000000000000000 then cvN ρ x1 x2 x3 x4 else -3))) (fun r1 τ1 h1 f1 => ?_) Fr.rf (r_cheap2 hW hVR (fun h => Or.inl ⟨h, rfl⟩) (fun h h2 h3 τ1 v ev => Or.inr ⟨⟨h, h2, h3⟩, by rw [ev]; rfl⟩))
    refine ⟨?_, ρ, hW, hv, VR.frB f1 (by decide) hVR, hc⟩
    rcases hr with ⟨a, rfl⟩ | ⟨a, rfl⟩
    · rcases h1 with ⟨-, rfl⟩ | ⟨z, -⟩
      · rfl
      · exact absurd z a
    · rcases h1 with ⟨z, -⟩ | ⟨-, rfl⟩
      · exact absurd a z
      · rfl
  have item : ∀ ρ, WW ρ → VC σ ρ → VR τ ρ → ∀ b, Cc b σ ρ → wp_X11_itemOf x1 x2 x3 σ (fun r1 σ2 => (¬ isItm ρ x1 x2 x3 ∧ r1 = -2 ∧ VC σ2 ρ ∧ Cc b σ2 ρ) ∨ (isItm ρ x1 x2 x3 ∧ r1 = ((itN ρ x1 x2 x3 : Nat) : Int) ∧ VC σ2 ρ ∧ Cc b σ2 ρ)) := by
    intro ρ hW hVC hVR b hc
    have hk := hC.kl hVC hc
    refine c_itemOf hW hk.1 hk.2.1 hk.2.2.1 (fun h => Or.inl ⟨h, rfl, hVC, hc⟩) (fun h σ1 hB f => Or.inr ⟨h, rfl, VC.frB f (by decide) hVC, hI b σ σ1 ρ hc hB (Fr.rf.tr f (mkS_sub (by decide) (by decide)))⟩)
  have core : ∀ ρ, WW ρ → VR τ ρ → ∀ (b : Bool) (σ2 : St), VC σ2 ρ → Cc b σ2 ρ → isItm ρ x1 x2 x3 → 0 ≤ x4 → x4 ≤ 300 → wp_X1_prepare σ2 (fun _ σ3 => (b = false → ∀ j, σ3 83 j = 0) ∧ wp_X8_upTo_b22 (fun r3 σ4 => wp_X11_tellNumber r3 σ4 (fun r5 σ6 => wp_X12_cheap x1 x2 x3 x4 τ (fun r1 τ1 => r5 = r1 ∧ Inv Cc true σ6 τ1))) ((itN ρ x1 x2 x3 : Nat) : Int) x4 σ3) := by
    intro ρ hW hVR b σ2 hv hc h h0 h3
    have hL : LL ρ < 9 := by have := hW.2.2.2.2.2.1; unfold LL; omega
    have hk := hC.kl hv hc
    have hh := hH.1 b σ2 ρ hc
    have := c_upTo2 hW hk hh.1 b hh.2 (q := itN ρ x1 x2 x3) (mo := x4.toNat) (itN_r hL h).1 (by omega) (Q := fun r3 σ4 => wp_X11_tellNumber r3 σ4 (fun r5 σ6 => wp_X12_cheap x1 x2 x3 x4 τ (fun r1 τ1 => r5 = r1 ∧ Inv Cc true σ6 τ1))) (fun σ1 a1 a2 f => ?_)
    · rw [show ((x4.toNat : Nat) : Int) = x4 by omega] at this; exact this
    · have fin := fun r hr => ref ρ hW hVR r true σ1 (VC.frB f (by decide) hv) (hH.2 b σ2 σ1 ρ hc a1 a2 (Fr.rf.tr f (mkS_sub (by decide) (by decide)))) (Or.inr ⟨⟨h, h0, h3⟩, hr⟩)
      unfold wp_X11_tellNumber
      refine ⟨fun w => fin _ ?_, fun w => fin _ ?_⟩
      · unfold cvN; rw [if_pos w]
      · unfold cvN; rw [if_neg w]
  constructor
  · rintro ⟨ρ, hW, hVC, hVR, hc⟩
    unfold wp_X11_cheap
    refine mf_X11_itemOf (σ0 := σ) (fun r1 σ2 h _ => ?_) Fr.rf (item ρ hW hVC hVR true hc)
    rcases h with ⟨h, rfl, hv, hc2⟩ | ⟨h, rfl, hv, hc2⟩
    · exact ⟨fun _ => ref ρ hW hVR _ true σ2 hv hc2 (Or.inl ⟨fun z => h z.1, rfl⟩), fun w => absurd (by decide) w⟩
    · refine ⟨fun w => absurd w (by omega), fun _ => ⟨fun w => ref ρ hW hVR _ true σ2 hv hc2 (Or.inl ⟨fun z => by omega, rfl⟩), fun w => ⟨fun w2 => ?_, fun w2 => ref ρ hW hVR _ true σ2 hv hc2 (Or.inl ⟨fun z => w2 z.2.2, rfl⟩)⟩⟩⟩
      unfold wp_X8_upTo
      refine mf_X1_prepare (σ0 := σ2) (fun _ σ3 g _ => g.2) Fr.rf (core ρ hW hVR true σ2 hv hc2 h (by omega) w2)
  · rintro ⟨ρ, hW, hVC, hVR, hc⟩
    by_cases hok : isItm ρ x1 x2 x3 ∧ 0 ≤ x4 ∧ x4 ≤ 300
    · refine Or.inr ?_
      unfold wpA_cheap
      refine mf_X11_itemOf (σ0 := σ) (fun r1 σ2 h _ => ?_) Fr.rf (item ρ hW hVC hVR false hc)
      rcases h with ⟨h, rfl, hv, hc2⟩ | ⟨h, rfl, hv, hc2⟩
      · exact absurd hok.1 h
      · refine ⟨⟨by omega, by omega, hok.2.2⟩, ?_⟩
        unfold wp0_upTo
        exact mf_X1_prepare (σ0 := σ2) (fun _ σ3 g _ => ⟨g.1 rfl, g.2⟩) Fr.rf (core ρ hW hVR false σ2 hv hc2 h hok.2.1 hok.2.2)
    · refine Or.inl ?_
      unfold wpR_cheap
      refine mf_X11_itemOf (σ0 := σ) (fun r1 σ2 h _ => ?_) Fr.rf (item ρ hW hVC hVR false hc)
      rcases h with ⟨h, rfl, hv, hc2⟩ | ⟨h, rfl, hv, hc2⟩
      · exact ⟨Or.inl (by decide), ref ρ hW hVR _ false σ2 hv hc2 (Or.inl ⟨hok, rfl⟩)⟩
      · refine ⟨Or.inr ?_, ref ρ hW hVR _ false σ2 hv hc2 (Or.inl ⟨hok, rfl⟩)⟩
        by_cases z : x4 < 0
        · exact Or.inl z
        · exact Or.inr (fun z2 => hok ⟨h, by omega, z2⟩)
end OPS
