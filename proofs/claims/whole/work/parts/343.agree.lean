/-! least costs: class and reference agree -/
theorem jY1 : jY 1 = jA := by funext a b; rw [jY_1 (by decide)]; rfl
theorem gO_m {ρ : St} : gO ρ (-1) = ρ := by unfold gO; rw [if_pos (by decide)]
theorem lo_agree {g : St} {J : Int → Int → Int} {p i j v w : Int} (h : LoC g J p i j v) (h2 : Lo g J p i j w 1000000000) : v = if w < 1000000000 then w else -1 := by
  rcases h with ⟨a, b⟩ | ⟨a, a2, b, c⟩
  · rcases h2 with ⟨a3, b3⟩ | ⟨a3, b3, c3⟩
    · rw [if_neg (by omega)]; exact a
    · exact absurd b3 (b w)
  · rcases h2 with ⟨a3, b3⟩ | ⟨a3, b3, c3⟩
    · exact absurd b (b3 v)
    · rw [if_pos a3]
      have := c w b3; have := c3 v b; omega
/-- low is known and right -/
def Lw (ρ σ : St) : Prop := DR ρ ρ jA (σ 37) (spN (LL ρ))
theorem c_prepare {ρ σ : St} (hW : WW ρ) (vg : VCg σ ρ) (vs : VCs σ ρ) (hb : σ 24 17 = 0 ∨ Bt ρ σ) (hl : σ 36 7 = 0 ∨ (σ 36 7 = 1 ∧ Lw ρ σ)) {Q : Int → St → Prop} (hq : ∀ σ1, Bt ρ σ1 → σ1 36 7 = 1 → Lw ρ σ1 → Q 0 σ1) : wp_X1_prepare σ Q := by
  have hL : LL ρ < 9 := by have := hW.2.2.2.2.2.1; unfold LL; omega
  have hg := hW.2.2.1
  unfold wp_X1_prepare
  refine mf_X0_build (σ0 := σ) (Q := fun _ σ1 => Bt ρ σ1) (fun r1 σ2 hB f => ?_) Fr.rf (c_build hW vg vs hb (fun _ h => h))
  have e7 : σ2 36 7 = σ 36 7 := f.at rfl
  have e37 : σ2 37 = σ 37 := funext (fun j => f.at rfl)
  rw [e7]
  refine ⟨fun h => ?_, fun h σ3 e3 => ?_⟩
  · rcases hl with hl | ⟨hl, hlw⟩
    · exact absurd hl h
    · exact hq σ2 hB (by rw [e7]; exact hl) (by unfold Lw; rw [e37]; exact hlw)
  · refine mf_X1_fill_c37 (σ0 := σ3) (Q := fun _ σ1 => Bt ρ σ1 ∧ Lw ρ σ1) (fun r4 σ5 h5 f5 => hq σ5 h5.1 (by rw [f5.at rfl, e3, upS_s]) h5.2) Fr.rf (c_fill37 hg hL (by rw [e3]; exact hB) (fun σ1 h1 h2 => ⟨h1, ?_⟩))
    rw [jY1, gO_m] at h2; exact h2
