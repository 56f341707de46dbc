/-! what the class keeps, all together -/
def BtX (ρ σ : St) : Prop := VCs σ ρ ∧ SpL σ (LL ρ) (spN (LL ρ)) ∧ (σ 24 14 = (liL ρ 12).length ∧ ArL (σ 34) (liL ρ 12) ∧ σ 24 12 = (uyL ρ 12).length ∧ ArL (σ 33) (uyL ρ 12)) ∧ σ 24 17 = 1 ∧ CA σ (PL ρ (12 * spN (LL ρ))) ∧ FC ρ σ (12 * spN (LL ρ) + 1)
theorem BtX.bt {ρ σ : St} (v : VCg σ ρ) (h : BtX ρ σ) : Bt ρ σ := ⟨⟨h.1, h.2.1, ⟨v, h.2.2.1⟩, h.2.2.2.1⟩, h.2.2.2.2.1, h.2.2.2.2.2⟩
theorem Bt.x {ρ σ : St} (h : Bt ρ σ) : BtX ρ σ := ⟨h.1.1, h.1.2.1, h.1.2.2.1.2, h.1.2.2.2, h.2.1, h.2.2⟩
def K1 (ρ σ : St) : Prop := σ 24 17 = 0 ∨ BtX ρ σ
theorem K1.ext {ρ σ σ1 : St} (a25 : σ1 25 = σ 25) (a26 : σ1 26 = σ 26) (a27 : σ1 27 = σ 27) (a28 : σ1 28 = σ 28) (a29 : σ1 29 = σ 29) (a30 : σ1 30 = σ 30) (a31 : σ1 31 = σ 31) (a32 : σ1 32 = σ 32) (a33 : σ1 33 = σ 33) (a34 : σ1 34 = σ 34) (a35 : σ1 35 = σ 35) (f24_2 : σ1 24 2 = σ 24 2) (f24_3 : σ1 24 3 = σ 24 3) (f24_12 : σ1 24 12 = σ 24 12) (f24_14 : σ1 24 14 = σ 24 14) (f24_16 : σ1 24 16 = σ 24 16) (f24_17 : σ1 24 17 = σ 24 17) (h : K1 ρ σ) : K1 ρ σ1 := by
  unfold K1 BtX VCs SpL CA FC at h ⊢
  rw [a25, a26, a27, a28, a29, a30, a31, a32, a33, a34, a35, f24_2, f24_3, f24_12, f24_14, f24_16, f24_17]; exact h
theorem K1.fr {A : List Nat} {F : List (Nat × Nat)} {ρ σ σ1 : St} (f : Fr (mkS A F) σ σ1) (o : okL [25, 26, 27, 28, 29, 30, 31, 32, 33, 34, 35] [(24, 2), (24, 3), (24, 12), (24, 14), (24, 16), (24, 17)] A F = true) (h : K1 ρ σ) : K1 ρ σ1 := K1.ext (funext (fun j => f.at (okL_a o (by decide) j))) (funext (fun j => f.at (okL_a o (by decide) j))) (funext (fun j => f.at (okL_a o (by decide) j))) (funext (fun j => f.at (okL_a o (by decide) j))) (funext (fun j => f.at (okL_a o (by decide) j))) (funext (fun j => f.at (okL_a o (by decide) j))) (funext (fun j => f.at (okL_a o (by decide) j))) (funext (fun j => f.at (okL_a o (by decide) j))) (funext (fun j => f.at (okL_a o (by decide) j))) (funext (fun j => f.at (okL_a o (by decide) j))) (funext (fun j => f.at (okL_a o (by decide) j))) (f.at (okL_f o (by decide))) (f.at (okL_f o (by decide))) (f.at (okL_f o (by decide))) (f.at (okL_f o (by decide))) (f.at (okL_f o (by decide))) (f.at (okL_f o (by decide))) h
theorem K1.hi {ρ σ σ1 : St} (c : ∀ k j, cK k j = true → σ1 k j = σ k j) (h : K1 ρ σ) : K1 ρ σ1 := K1.ext (funext (fun j => c 25 j rfl)) (funext (fun j => c 26 j rfl)) (funext (fun j => c 27 j rfl)) (funext (fun j => c 28 j rfl)) (funext (fun j => c 29 j rfl)) (funext (fun j => c 30 j rfl)) (funext (fun j => c 31 j rfl)) (funext (fun j => c 32 j rfl)) (funext (fun j => c 33 j rfl)) (funext (fun j => c 34 j rfl)) (funext (fun j => c 35 j rfl)) (c 24 2 rfl) (c 24 3 rfl) (c 24 12 rfl) (c 24 14 rfl) (c 24 16 rfl) (c 24 17 rfl) h
theorem K1.cg {ρ ρ' σ : St} (g : ag0 ρ ρ') (h : K1 ρ σ) : K1 ρ' σ := by
  unfold K1 BtX VCs FC at h ⊢
  rw [g_LL g, g_liL g, g_uyL g, g_PL g, g.2.2.2.2.2.2, g.2.2.2.2.1]; exact h
def K2 (ρ σ : St) : Prop := σ 36 7 = 0 ∨ (σ 36 7 = 1 ∧ Lw ρ σ)
theorem K2.ext {ρ σ σ1 : St} (a37 : σ1 37 = σ 37) (f36_7 : σ1 36 7 = σ 36 7) (h : K2 ρ σ) : K2 ρ σ1 := by
  unfold K2 Lw at h ⊢
  rw [a37, f36_7]; exact h
theorem K2.fr {A : List Nat} {F : List (Nat × Nat)} {ρ σ σ1 : St} (f : Fr (mkS A F) σ σ1) (o : okL [37] [(36, 7)] A F = true) (h : K2 ρ σ) : K2 ρ σ1 := K2.ext (funext (fun j => f.at (okL_a o (by decide) j))) (f.at (okL_f o (by decide))) h
theorem K2.hi {ρ σ σ1 : St} (c : ∀ k j, cK k j = true → σ1 k j = σ k j) (h : K2 ρ σ) : K2 ρ σ1 := K2.ext (funext (fun j => c 37 j rfl)) (c 36 7 rfl) h
theorem K2.cg {ρ ρ' σ : St} (g : ag6 ρ ρ') (h : K2 ρ σ) : K2 ρ' σ := by
  unfold K2 at h ⊢
  rw [g_Lw g]; exact h
def K3 (ρ σ : St) : Prop := σ 36 8 = 0 ∨ (σ 36 8 = 1 ∧ Ml ρ σ)
theorem K3.ext {ρ σ σ1 : St} (a38 : σ1 38 = σ 38) (f36_8 : σ1 36 8 = σ 36 8) (h : K3 ρ σ) : K3 ρ σ1 := by
  unfold K3 Ml at h ⊢
  rw [a38, f36_8]; exact h
theorem K3.fr {A : List Nat} {F : List (Nat × Nat)} {ρ σ σ1 : St} (f : Fr (mkS A F) σ σ1) (o : okL [38] [(36, 8)] A F = true) (h : K3 ρ σ) : K3 ρ σ1 := K3.ext (funext (fun j => f.at (okL_a o (by decide) j))) (f.at (okL_f o (by decide))) h
theorem K3.hi {ρ σ σ1 : St} (c : ∀ k j, cK k j = true → σ1 k j = σ k j) (h : K3 ρ σ) : K3 ρ σ1 := K3.ext (funext (fun j => c 38 j rfl)) (c 36 8 rfl) h
theorem K3.cg {ρ ρ' σ : St} (g : ag6 ρ ρ') (h : K3 ρ σ) : K3 ρ' σ := by
  unfold K3 at h ⊢
  rw [g_Ml g]; exact h
def K4 (ρ σ : St) : Prop := σ 36 9 = 0 ∨ (σ 36 9 = 1 ∧ OrK ρ σ)
theorem K4.ext {ρ σ σ1 : St} (a40 : σ1 40 = σ 40) (f36_6 : σ1 36 6 = σ 36 6) (f36_9 : σ1 36 9 = σ 36 9) (h : K4 ρ σ) : K4 ρ σ1 := by
  unfold K4 OrK at h ⊢
  rw [a40, f36_6, f36_9]; exact h
theorem K4.fr {A : List Nat} {F : List (Nat × Nat)} {ρ σ σ1 : St} (f : Fr (mkS A F) σ σ1) (o : okL [40] [(36, 6), (36, 9)] A F = true) (h : K4 ρ σ) : K4 ρ σ1 := K4.ext (funext (fun j => f.at (okL_a o (by decide) j))) (f.at (okL_f o (by decide))) (f.at (okL_f o (by decide))) h
theorem K4.hi {ρ σ σ1 : St} (c : ∀ k j, cK k j = true → σ1 k j = σ k j) (h : K4 ρ σ) : K4 ρ σ1 := K4.ext (funext (fun j => c 40 j rfl)) (c 36 6 rfl) (c 36 9 rfl) h
theorem K4.cg {ρ ρ' σ : St} (g : ag6 ρ ρ') (h : K4 ρ σ) : K4 ρ' σ := by
  unfold K4 at h ⊢
  rw [g_OrK g]; exact h
def K5 (ρ σ : St) : Prop := σ 41 6 = 0 ∨ (σ 41 6 = 1 ∧ TrK ρ σ)
theorem K5.ext {ρ σ σ1 : St} (a42 : σ1 42 = σ 42) (f41_6 : σ1 41 6 = σ 41 6) (h : K5 ρ σ) : K5 ρ σ1 := by
  unfold K5 TrK at h ⊢
  rw [a42, f41_6]; exact h
theorem K5.fr {A : List Nat} {F : List (Nat × Nat)} {ρ σ σ1 : St} (f : Fr (mkS A F) σ σ1) (o : okL [42] [(41, 6)] A F = true) (h : K5 ρ σ) : K5 ρ σ1 := K5.ext (funext (fun j => f.at (okL_a o (by decide) j))) (f.at (okL_f o (by decide))) h
theorem K5.hi {ρ σ σ1 : St} (c : ∀ k j, cK k j = true → σ1 k j = σ k j) (h : K5 ρ σ) : K5 ρ σ1 := K5.ext (funext (fun j => c 42 j rfl)) (c 41 6 rfl) h
theorem K5.cg {ρ ρ' σ : St} (g : ag0 ρ ρ') (h : K5 ρ σ) : K5 ρ' σ := by
  unfold K5 at h ⊢
  rw [g_TrK g]; exact h
def K6 (ρ σ : St) : Prop := σ 41 7 = 0 ∨ (σ 41 7 = 1 ∧ SmK ρ σ)
theorem K6.ext {ρ σ σ1 : St} (a43 : σ1 43 = σ 43) (f41_7 : σ1 41 7 = σ 41 7) (h : K6 ρ σ) : K6 ρ σ1 := by
  unfold K6 SmK at h ⊢
  rw [a43, f41_7]; exact h
theorem K6.fr {A : List Nat} {F : List (Nat × Nat)} {ρ σ σ1 : St} (f : Fr (mkS A F) σ σ1) (o : okL [43] [(41, 7)] A F = true) (h : K6 ρ σ) : K6 ρ σ1 := K6.ext (funext (fun j => f.at (okL_a o (by decide) j))) (f.at (okL_f o (by decide))) h
theorem K6.hi {ρ σ σ1 : St} (c : ∀ k j, cK k j = true → σ1 k j = σ k j) (h : K6 ρ σ) : K6 ρ σ1 := K6.ext (funext (fun j => c 43 j rfl)) (c 41 7 rfl) h
theorem K6.cg {ρ ρ' σ : St} (g : ag0 ρ ρ') (h : K6 ρ σ) : K6 ρ' σ := by
  unfold K6 at h ⊢
  rw [g_SmK g]; exact h
def K7 (ρ σ : St) : Prop := σ 41 8 = 0 ∨ (σ 41 8 = 1 ∧ EcK ρ σ)
theorem K7.ext {ρ σ σ1 : St} (a44 : σ1 44 = σ 44) (f41_8 : σ1 41 8 = σ 41 8) (h : K7 ρ σ) : K7 ρ σ1 := by
  unfold K7 EcK at h ⊢
  rw [a44, f41_8]; exact h
theorem K7.fr {A : List Nat} {F : List (Nat × Nat)} {ρ σ σ1 : St} (f : Fr (mkS A F) σ σ1) (o : okL [44] [(41, 8)] A F = true) (h : K7 ρ σ) : K7 ρ σ1 := K7.ext (funext (fun j => f.at (okL_a o (by decide) j))) (f.at (okL_f o (by decide))) h
theorem K7.hi {ρ σ σ1 : St} (c : ∀ k j, cK k j = true → σ1 k j = σ k j) (h : K7 ρ σ) : K7 ρ σ1 := K7.ext (funext (fun j => c 44 j rfl)) (c 41 8 rfl) h
theorem K7.cg {ρ ρ' σ : St} (g : ag0 ρ ρ') (h : K7 ρ σ) : K7 ρ' σ := by
  unfold K7 at h ⊢
  rw [g_EcK g]; exact h
def K8 (ρ σ : St) : Prop := σ 50 6 = 0 ∨ (σ 50 6 = 1 ∧ VK ρ σ)
theorem K8.ext {ρ σ σ1 : St} (a51 : σ1 51 = σ 51) (f50_5 : σ1 50 5 = σ 50 5) (f50_6 : σ1 50 6 = σ 50 6) (h : K8 ρ σ) : K8 ρ σ1 := by
  unfold K8 VK at h ⊢
  rw [a51, f50_5, f50_6]; exact h
theorem K8.fr {A : List Nat} {F : List (Nat × Nat)} {ρ σ σ1 : St} (f : Fr (mkS A F) σ σ1) (o : okL [51] [(50, 5), (50, 6)] A F = true) (h : K8 ρ σ) : K8 ρ σ1 := K8.ext (funext (fun j => f.at (okL_a o (by decide) j))) (f.at (okL_f o (by decide))) (f.at (okL_f o (by decide))) h
theorem K8.hi {ρ σ σ1 : St} (c : ∀ k j, cK k j = true → σ1 k j = σ k j) (h : K8 ρ σ) : K8 ρ σ1 := K8.ext (funext (fun j => c 51 j rfl)) (c 50 5 rfl) (c 50 6 rfl) h
theorem K8.cg {ρ ρ' σ : St} (g : agV ρ ρ') (h : K8 ρ σ) : K8 ρ' σ := by
  unfold K8 at h ⊢
  rw [g_VK g]; exact h
def K9 (ρ σ : St) : Prop := σ 45 7 = 0 ∨ (σ 45 7 = 1 ∧ SuK ρ σ (spN (LL ρ)))
theorem K9.ext {ρ σ σ1 : St} (a46 : σ1 46 = σ 46) (a47 : σ1 47 = σ 47) (f45_7 : σ1 45 7 = σ 45 7) (h : K9 ρ σ) : K9 ρ σ1 := by
  unfold K9 SuK at h ⊢
  rw [a46, a47, f45_7]; exact h
theorem K9.fr {A : List Nat} {F : List (Nat × Nat)} {ρ σ σ1 : St} (f : Fr (mkS A F) σ σ1) (o : okL [46, 47] [(45, 7)] A F = true) (h : K9 ρ σ) : K9 ρ σ1 := K9.ext (funext (fun j => f.at (okL_a o (by decide) j))) (funext (fun j => f.at (okL_a o (by decide) j))) (f.at (okL_f o (by decide))) h
theorem K9.hi {ρ σ σ1 : St} (c : ∀ k j, cK k j = true → σ1 k j = σ k j) (h : K9 ρ σ) : K9 ρ σ1 := K9.ext (funext (fun j => c 46 j rfl)) (funext (fun j => c 47 j rfl)) (c 45 7 rfl) h
theorem K9.cg {ρ ρ' σ : St} (g : ag6 ρ ρ') (h : K9 ρ σ) : K9 ρ' σ := by
  unfold K9 at h ⊢
  rw [g_SuK g, g_LL g.1]; exact h
def K10 (ρ σ : St) : Prop := LL ρ < 9 → FoK ρ σ
theorem K10.ext {ρ σ σ1 : St} (a55 : σ1 55 = σ 55) (a56 : σ1 56 = σ 56) (a57 : σ1 57 = σ 57) (a58 : σ1 58 = σ 58) (a59 : σ1 59 = σ 59) (a60 : σ1 60 = σ 60) (h : K10 ρ σ) : K10 ρ σ1 := fun l => by
  obtain ⟨F, hF⟩ := h l
  refine ⟨F, hF.ext (fun k h1 h2 => ?_)⟩
  rcases (by omega : k = 55 ∨ k = 56 ∨ k = 57 ∨ k = 58 ∨ k = 59 ∨ k = 60) with rfl | rfl | rfl | rfl | rfl | rfl
  · exact a55
  · exact a56
  · exact a57
  · exact a58
  · exact a59
  · exact a60
theorem K10.fr {A : List Nat} {F : List (Nat × Nat)} {ρ σ σ1 : St} (f : Fr (mkS A F) σ σ1) (o : okL [55, 56, 57, 58, 59, 60] [] A F = true) (h : K10 ρ σ) : K10 ρ σ1 := K10.ext (funext (fun j => f.at (okL_a o (by decide) j))) (funext (fun j => f.at (okL_a o (by decide) j))) (funext (fun j => f.at (okL_a o (by decide) j))) (funext (fun j => f.at (okL_a o (by decide) j))) (funext (fun j => f.at (okL_a o (by decide) j))) (funext (fun j => f.at (okL_a o (by decide) j))) h
theorem K10.hi {ρ σ σ1 : St} (c : ∀ k j, cK k j = true → σ1 k j = σ k j) (h : K10 ρ σ) : K10 ρ σ1 := K10.ext (funext (fun j => c 55 j rfl)) (funext (fun j => c 56 j rfl)) (funext (fun j => c 57 j rfl)) (funext (fun j => c 58 j rfl)) (funext (fun j => c 59 j rfl)) (funext (fun j => c 60 j rfl)) h
theorem K10.cg {ρ ρ' σ : St} (g : ag6 ρ ρ') (h : K10 ρ σ) : K10 ρ' σ := by
  unfold K10 at h ⊢
  rw [g_LL g.1, g_FoK g]; exact h
def K11 (ρ σ : St) : Prop := LL ρ < 9 → (∀ q, q < 432 → σ 83 (301 * q) = 0) → ∀ t, t < spN (LL ρ) → TaO ρ σ (fun _ => 0) t
theorem K11.ext {ρ σ σ1 : St} (a77 : σ1 77 = σ 77) (a78 : σ1 78 = σ 78) (a79 : σ1 79 = σ 79) (a83 : σ1 83 = σ 83) (h : K11 ρ σ) : K11 ρ σ1 := by
  unfold K11 TaO Taq at h ⊢
  rw [a77, a78, a79, a83]; exact h
theorem K11.fr {A : List Nat} {F : List (Nat × Nat)} {ρ σ σ1 : St} (f : Fr (mkS A F) σ σ1) (o : okL [77, 78, 79, 83] [] A F = true) (h : K11 ρ σ) : K11 ρ σ1 := K11.ext (funext (fun j => f.at (okL_a o (by decide) j))) (funext (fun j => f.at (okL_a o (by decide) j))) (funext (fun j => f.at (okL_a o (by decide) j))) (funext (fun j => f.at (okL_a o (by decide) j))) h
theorem K11.hi {ρ σ σ1 : St} (c : ∀ k j, cK k j = true → σ1 k j = σ k j) (h : K11 ρ σ) : K11 ρ σ1 := K11.ext (funext (fun j => c 77 j rfl)) (funext (fun j => c 78 j rfl)) (funext (fun j => c 79 j rfl)) (funext (fun j => c 83 j rfl)) h
theorem K11.cg {ρ ρ' σ : St} (g : ag6 ρ ρ') (h : K11 ρ σ) : K11 ρ' σ := by
  unfold K11 at h ⊢
  rw [g_LL g.1, g_TaO g]; exact h
def K12 (ρ σ : St) : Prop := σ 80 9 = 0 ∨ (σ 80 9 = 1 ∧ MKm ρ σ)
theorem K12.ext {ρ σ σ1 : St} (f80_5 : σ1 80 5 = σ 80 5) (f80_6 : σ1 80 6 = σ 80 6) (f80_7 : σ1 80 7 = σ 80 7) (f80_8 : σ1 80 8 = σ 80 8) (f80_9 : σ1 80 9 = σ 80 9) (h : K12 ρ σ) : K12 ρ σ1 := by
  unfold K12 MKm CHm at h ⊢
  rw [f80_5, f80_6, f80_7, f80_8, f80_9]; exact h
theorem K12.fr {A : List Nat} {F : List (Nat × Nat)} {ρ σ σ1 : St} (f : Fr (mkS A F) σ σ1) (o : okL [] [(80, 5), (80, 6), (80, 7), (80, 8), (80, 9)] A F = true) (h : K12 ρ σ) : K12 ρ σ1 := K12.ext (f.at (okL_f o (by decide))) (f.at (okL_f o (by decide))) (f.at (okL_f o (by decide))) (f.at (okL_f o (by decide))) (f.at (okL_f o (by decide))) h
theorem K12.hi {ρ σ σ1 : St} (c : ∀ k j, cK k j = true → σ1 k j = σ k j) (h : K12 ρ σ) : K12 ρ σ1 := K12.ext (c 80 5 rfl) (c 80 6 rfl) (c 80 7 rfl) (c 80 8 rfl) (c 80 9 rfl) h
theorem K12.cg {ρ ρ' σ : St} (g : ag6 ρ ρ') (h : K12 ρ σ) : K12 ρ' σ := by
  unfold K12 at h ⊢
  rw [g_MKm g]; exact h
theorem K1.bt {ρ σ : St} (v : VCg σ ρ) (h : K1 ρ σ) : σ 24 17 = 0 ∨ Bt ρ σ := h.imp id (BtX.bt v)
theorem K1.of {ρ σ : St} (h : σ 24 17 = 0 ∨ Bt ρ σ) : K1 ρ σ := h.imp id Bt.x
def KCx (σ ρ : St) : Prop := K1 ρ σ ∧ K2 ρ σ ∧ K3 ρ σ ∧ K4 ρ σ ∧ K5 ρ σ ∧ K6 ρ σ ∧ K7 ρ σ ∧ K8 ρ σ ∧ K9 ρ σ ∧ K10 ρ σ ∧ K11 ρ σ ∧ K12 ρ σ
def Hb (b : Bool) (σ : St) : Prop := (∀ q, q < 432 → σ 83 (301 * q) = 0) ∧ (b = false → ∀ j, σ 83 j = 0)
theorem Hb.e {b : Bool} {σ σ1 : St} (e : σ1 83 = σ 83) (h : Hb b σ) : Hb b σ1 := by
  unfold Hb; rw [e]; exact h
theorem Hb.fr {A : List Nat} {F : List (Nat × Nat)} {b : Bool} {σ σ1 : St} (f : Fr (mkS A F) σ σ1) (o : okL [83] [] A F = true) (h : Hb b σ) : Hb b σ1 := h.e (funext (fun j => f.at (okL_a o (by decide) j)))
def Cc0 (_b : Bool) (σ ρ : St) : Prop := KCx σ ρ
def Cc1 (b : Bool) (σ ρ : St) : Prop := KCx σ ρ ∧ Hb b σ
def Cc2 (b : Bool) (σ ρ : St) : Prop := (VCg σ ρ ∧ LL ρ < 9) ∧ KCx σ ρ ∧ Hb b σ
theorem ag_cR {ρ ρ1 : St} (h : ∀ k j, cR k j = true → ρ1 k j = ρ k j) : ag6 ρ ρ1 ∧ agV ρ ρ1 := by
  have h0 : ag0 ρ ρ1 := ⟨funext (fun j => h 3 j rfl), funext (fun j => h 4 j rfl), funext (fun j => h 5 j rfl), funext (fun j => h 8 j rfl), funext (fun j => h 11 j rfl), h 0 4 rfl, h 0 8 rfl⟩
  exact ⟨⟨h0, funext (fun j => h 6 j rfl)⟩, h0, funext (fun j => h 7 j rfl), funext (fun j => h 9 j rfl), funext (fun j => h 10 j rfl), h 0 5 rfl, h 0 6 rfl, h 0 7 rfl⟩
theorem KCx.cg {σ ρ ρ1 : St} (h : ∀ k j, cR k j = true → ρ1 k j = ρ k j) (c : KCx σ ρ) : KCx σ ρ1 := by
  have g := ag_cR h
  obtain ⟨c1, c2, c3, c4, c5, c6, c7, c8, c9, c10, c11, c12⟩ := c
  exact ⟨c1.cg g.1.1, c2.cg g.1, c3.cg g.1, c4.cg g.1, c5.cg g.1.1, c6.cg g.1.1, c7.cg g.1.1, c8.cg g.2, c9.cg g.1, c10.cg g.1, c11.cg g.1, c12.cg g.1⟩
theorem KCx.hi {σ σ1 ρ : St} (h : ∀ k j, cK k j = true → σ1 k j = σ k j) (c : KCx σ ρ) : KCx σ1 ρ := by
  obtain ⟨c1, c2, c3, c4, c5, c6, c7, c8, c9, c10, c11, c12⟩ := c
  exact ⟨c1.hi h, c2.hi h, c3.hi h, c4.hi h, c5.hi h, c6.hi h, c7.hi h, c8.hi h, c9.hi h, c10.hi h, c11.hi h, c12.hi h⟩
theorem ta_zero {ρ σ : St} (h7 : ∀ j : Nat, j < 36 → σ 77 j = 0) (h8 : ∀ j : Nat, j < 432 → σ 78 j = 0) (h9 : ∀ j : Nat, j < 432 → σ 79 j = 0) : K11 ρ σ := by
  intro hL h3 t ht
  have q := sp_3 _ hL
  have n0 : ∀ x, nn ρ x 0 = 0 := fun x => by
    unfold nn
    rw [ct_0, if_pos (show sumN (ct ρ x) 0 < B0 by show (0 : Int) < B0; unfold B0; decide)]
    unfold B0; decide
  refine ⟨0, by omega, Nat.le_refl _, by rw [h7 t (by omega)]; rfl, fun a ha => ⟨fun c hc => ?_, ?_, ?_⟩⟩
  · rw [show c = 0 by omega, Nat.add_zero, h3 _ (by omega), n0]
  · rw [h9 _ (by omega)]
    show 0 = min B0 (0 + ct ρ (12 * t + a) 0)
    rw [ct_0]; unfold B0; decide
  · rw [h8 _ (by omega)]
    refine ⟨by decide, by decide, fun c hc hn => ?_⟩
    rw [show c = 0 by omega] at hn
    exact absurd (n0 _) hn
theorem cc_F : CcF Cc0 := by
  rintro b σ ρ ⟨f1, ⟨f2, f3, f4⟩, f5, ⟨f6, f7, f8⟩, f9, f10, f11, f12, f13, f14⟩
  exact ⟨Or.inl f1, Or.inl f6, Or.inl f7, Or.inl f8, Or.inl f2, Or.inl f3, Or.inl f4, Or.inl f5, Or.inl f9, fun hL => FoK.zero f10 hL, ta_zero f11 f12 f13, Or.inl f14⟩
theorem cc_I0 : CcI Cc0 := fun _ _ _ _ _ h h1 h2 => (h.hi h1).cg h2
theorem cc_I1 : CcI Cc1 := fun _ _ _ _ _ h h1 h2 => ⟨(h.1.hi h1).cg h2, h.2.e (funext (fun j => h1 83 j rfl))⟩
theorem cc_P : CcP Cc1 := by
  rintro b σ σ1 ρ r v hW ⟨⟨c1, c2, c3, c4, c5, c6, c7, c8, c9, c10, c11, c12⟩, hb⟩ hv ⟨⟨f6, f7, f8⟩, f9, f10, f11, f12, f13, f14⟩ f
  have g0 : ag0 ρ (upS ρ 6 r v) := ⟨upS_k (by decide), upS_k (by decide), upS_k (by decide), upS_k (by decide), upS_k (by decide), congrFun (upS_k (by decide)) 4, congrFun (upS_k (by decide)) 8⟩
  have gV : agV ρ (upS ρ 6 r v) := ⟨g0, upS_k (by decide), upS_k (by decide), upS_k (by decide), congrFun (upS_k (by decide)) 5, congrFun (upS_k (by decide)) 6, congrFun (upS_k (by decide)) 7⟩
  exact ⟨⟨(c1.fr f (by decide)).cg g0, Or.inl f6, Or.inl f7, Or.inl f8, (c5.fr f (by decide)).cg g0, (c6.fr f (by decide)).cg g0, (c7.fr f (by decide)).cg g0, (c8.fr f (by decide)).cg gV, Or.inl f9, fun hL => FoK.zero f10 hL, ta_zero f11 f12 f13, Or.inl f14⟩, hb.fr f (by decide)⟩
theorem cc_E : CcE Cc1 := by
  rintro b σ σ1 ρ r v hW ⟨⟨c1, c2, c3, c4, c5, c6, c7, c8, c9, c10, c11, c12⟩, hb⟩ h6 f
  have g0 : ag0 ρ (upS ρ 7 r v) := ⟨upS_k (by decide), upS_k (by decide), upS_k (by decide), upS_k (by decide), upS_k (by decide), congrFun (upS_k (by decide)) 4, congrFun (upS_k (by decide)) 8⟩
  have g6 : ag6 ρ (upS ρ 7 r v) := ⟨g0, upS_k (by decide)⟩
  exact ⟨⟨(c1.fr f (by decide)).cg g0, (c2.fr f (by decide)).cg g6, (c3.fr f (by decide)).cg g6, (c4.fr f (by decide)).cg g6, (c5.fr f (by decide)).cg g0, (c6.fr f (by decide)).cg g0, (c7.fr f (by decide)).cg g0, Or.inl h6, (c9.fr f (by decide)).cg g6, (c10.fr f (by decide)).cg g6, (c11.fr f (by decide)).cg g6, (c12.fr f (by decide)).cg g6⟩, hb.fr f (by decide)⟩
theorem cc_L : CcL Cc2 := by
  refine ⟨fun b σ ρ h => ⟨h.2.1.1.bt h.1.1, h.2.1.2.1⟩, fun b σ σ1 ρ hc hB h2 f => by
    obtain ⟨⟨vg, hl⟩, ⟨c1, c2, c3, c4, c5, c6, c7, c8, c9, c10, c11, c12⟩, hb⟩ := hc
    exact ⟨⟨hB.1.2.2.1.1, hl⟩, ⟨K1.of (Or.inr hB), Or.inr h2, c3.fr f (by decide), c4.fr f (by decide), c5.fr f (by decide), c6.fr f (by decide), c7.fr f (by decide), c8.fr f (by decide), c9.fr f (by decide), c10.fr f (by decide), c11.fr f (by decide), c12.fr f (by decide)⟩, hb.fr f (by decide)⟩⟩
theorem cc_B : CcB Cc2 := by
  exact fun b σ σ1 ρ hc hB f => by
    obtain ⟨⟨vg, hl⟩, ⟨c1, c2, c3, c4, c5, c6, c7, c8, c9, c10, c11, c12⟩, hb⟩ := hc
    exact ⟨⟨hB.1.2.2.1.1, hl⟩, ⟨K1.of (Or.inr hB), c2.fr f (by decide), c3.fr f (by decide), c4.fr f (by decide), c5.fr f (by decide), c6.fr f (by decide), c7.fr f (by decide), c8.fr f (by decide), c9.fr f (by decide), c10.fr f (by decide), c11.fr f (by decide), c12.fr f (by decide)⟩, hb.fr f (by decide)⟩
theorem cc_M : CcM Cc2 := by
  refine ⟨fun b σ ρ h => h.2.1.2.2.1, fun b σ σ1 ρ hc hB h3 f => by
    obtain ⟨⟨vg, hl⟩, ⟨c1, c2, c3, c4, c5, c6, c7, c8, c9, c10, c11, c12⟩, hb⟩ := hc
    exact ⟨⟨hB.1.2.2.1.1, hl⟩, ⟨K1.of (Or.inr hB), c2.fr f (by decide), Or.inr h3, c4.fr f (by decide), c5.fr f (by decide), c6.fr f (by decide), c7.fr f (by decide), c8.fr f (by decide), c9.fr f (by decide), c10.fr f (by decide), c11.fr f (by decide), c12.fr f (by decide)⟩, hb.fr f (by decide)⟩⟩
theorem cc_O : CcO Cc2 := by
  refine ⟨fun b σ ρ h => h.2.1.2.2.2.1, fun b σ σ1 ρ hc hB h2 h4 f => by
    obtain ⟨⟨vg, hl⟩, ⟨c1, c2, c3, c4, c5, c6, c7, c8, c9, c10, c11, c12⟩, hb⟩ := hc
    exact ⟨⟨hB.1.2.2.1.1, hl⟩, ⟨K1.of (Or.inr hB), Or.inr h2, c3.fr f (by decide), Or.inr h4, c5.fr f (by decide), c6.fr f (by decide), c7.fr f (by decide), c8.fr f (by decide), c9.fr f (by decide), c10.fr f (by decide), c11.fr f (by decide), c12.fr f (by decide)⟩, hb.fr f (by decide)⟩⟩
theorem cc_V : CcV Cc2 := by
  refine ⟨fun b σ ρ h => h.2.1.2.2.2.2.2.2.2.1, fun b σ σ1 ρ hc hB h8 f => by
    obtain ⟨⟨vg, hl⟩, ⟨c1, c2, c3, c4, c5, c6, c7, c8, c9, c10, c11, c12⟩, hb⟩ := hc
    exact ⟨⟨hB.1.2.2.1.1, hl⟩, ⟨K1.of (Or.inr hB), c2.fr f (by decide), c3.fr f (by decide), c4.fr f (by decide), c5.fr f (by decide), c6.fr f (by decide), c7.fr f (by decide), Or.inr h8, c9.fr f (by decide), c10.fr f (by decide), c11.fr f (by decide), c12.fr f (by decide)⟩, hb.fr f (by decide)⟩⟩
theorem cc_T : CcT Cc2 := by
  refine ⟨fun b σ ρ h => h.2.1.2.2.2.2.1, fun b σ σ1 ρ hc hB h2 h5 f => by
    obtain ⟨⟨vg, hl⟩, ⟨c1, c2, c3, c4, c5, c6, c7, c8, c9, c10, c11, c12⟩, hb⟩ := hc
    exact ⟨⟨hB.1.2.2.1.1, hl⟩, ⟨K1.of (Or.inr hB), Or.inr h2, c3.fr f (by decide), c4.fr f (by decide), Or.inr h5, c6.fr f (by decide), c7.fr f (by decide), c8.fr f (by decide), c9.fr f (by decide), c10.fr f (by decide), c11.fr f (by decide), c12.fr f (by decide)⟩, hb.fr f (by decide)⟩⟩
theorem cc_U : CcU Cc2 := by
  refine ⟨fun b σ ρ h => ⟨h.2.1.2.2.2.2.2.1, h.2.1.2.2.2.2.2.2.1⟩, fun b σ σ1 ρ hc hB h2 h6 h7 f => by
    obtain ⟨⟨vg, hl⟩, ⟨c1, c2, c3, c4, c5, c6, c7, c8, c9, c10, c11, c12⟩, hb⟩ := hc
    exact ⟨⟨hB.1.2.2.1.1, hl⟩, ⟨K1.of (Or.inr hB), Or.inr h2, c3.fr f (by decide), c4.fr f (by decide), c5.fr f (by decide), h6, h7, c8.fr f (by decide), c9.fr f (by decide), c10.fr f (by decide), c11.fr f (by decide), c12.fr f (by decide)⟩, hb.fr f (by decide)⟩⟩
theorem cc_H : CcH Cc2 := by
  refine ⟨fun b σ ρ h => ⟨⟨h.2.2.1, h.2.1.2.2.2.2.2.2.2.2.2.2.1 h.1.2 h.2.2.1⟩, h.2.2.2⟩, fun b σ σ1 ρ hc hB hT f => by
    obtain ⟨⟨vg, hl⟩, ⟨c1, c2, c3, c4, c5, c6, c7, c8, c9, c10, c11, c12⟩, hb⟩ := hc
    exact ⟨⟨hB.1.1.2.2.1.1, hl⟩, ⟨K1.of (Or.inr hB.1), Or.inr hB.2, c3.fr f (by decide), c4.fr f (by decide), c5.fr f (by decide), c6.fr f (by decide), c7.fr f (by decide), c8.fr f (by decide), c9.fr f (by decide), c10.fr f (by decide), fun _ _ => hT.2, c12.fr f (by decide)⟩, ⟨hT.1, fun e => absurd e (by decide)⟩⟩⟩
theorem cc_S : CcS Cc2 := by
  refine ⟨fun b σ ρ h => h.2.1.2.2.2.2.2.2.2.2.1, fun b σ σ1 ρ hc hB h9 f => by
    obtain ⟨⟨vg, hl⟩, ⟨c1, c2, c3, c4, c5, c6, c7, c8, c9, c10, c11, c12⟩, hb⟩ := hc
    exact ⟨⟨hB.1.1.2.2.1.1, hl⟩, ⟨K1.of (Or.inr hB.1), Or.inr hB.2, c3.fr f (by decide), c4.fr f (by decide), c5.fr f (by decide), c6.fr f (by decide), c7.fr f (by decide), c8.fr f (by decide), Or.inr h9, c10.fr f (by decide), c11.fr f (by decide), c12.fr f (by decide)⟩, hb.fr f (by decide)⟩⟩
theorem cc_N : CcN Cc2 := by
  refine ⟨fun b σ ρ h => h.2.1.2.2.2.2.2.2.2.2.2.2.2, fun b σ σ1 ρ hc hm f => by
    obtain ⟨⟨vg, hl⟩, ⟨c1, c2, c3, c4, c5, c6, c7, c8, c9, c10, c11, c12⟩, hb⟩ := hc
    exact ⟨⟨vg.fr f ⟨by decide, fun _ => rfl, fun _ => rfl, fun _ => rfl, fun _ => rfl, fun _ => rfl, fun _ => rfl⟩, hl⟩, ⟨K1.of hm.1, hm.2.1, c3.fr f (by decide), c4.fr f (by decide), c5.fr f (by decide), c6.fr f (by decide), c7.fr f (by decide), c8.fr f (by decide), c9.fr f (by decide), c10.fr f (by decide), c11.fr f (by decide), Or.inr hm.2.2⟩, hb.fr f (by decide)⟩⟩
theorem cc_K : CcK Cc2 := by
  refine ⟨fun b σ ρ h => h.2.1.2.2.2.2.2.2.2.2.2.1 h.1.2, fun A F b σ σ1 ρ o f hc hB h2 h10 => ?_⟩
  obtain ⟨⟨vg, hl⟩, ⟨c1, c2, c3, c4, c5, c6, c7, c8, c9, c10, c11, c12⟩, hb⟩ := hc
  unfold okD at o
  exact ⟨⟨hB.1.2.2.1.1, hl⟩, ⟨K1.of (Or.inr hB), h2, c3.ext (funext (fun j => f.at (okL_a o (by decide) j))) (f.at (okL_f o (by decide))), c4.ext (funext (fun j => f.at (okL_a o (by decide) j))) (f.at (okL_f o (by decide))) (f.at (okL_f o (by decide))), c5.ext (funext (fun j => f.at (okL_a o (by decide) j))) (f.at (okL_f o (by decide))), c6.ext (funext (fun j => f.at (okL_a o (by decide) j))) (f.at (okL_f o (by decide))), c7.ext (funext (fun j => f.at (okL_a o (by decide) j))) (f.at (okL_f o (by decide))), c8.ext (funext (fun j => f.at (okL_a o (by decide) j))) (f.at (okL_f o (by decide))) (f.at (okL_f o (by decide))), c9.ext (funext (fun j => f.at (okL_a o (by decide) j))) (funext (fun j => f.at (okL_a o (by decide) j))) (f.at (okL_f o (by decide))), fun _ => h10, c11.ext (funext (fun j => f.at (okL_a o (by decide) j))) (funext (fun j => f.at (okL_a o (by decide) j))) (funext (fun j => f.at (okL_a o (by decide) j))) (funext (fun j => f.at (okL_a o (by decide) j))), c12.ext (f.at (okL_f o (by decide))) (f.at (okL_f o (by decide))) (f.at (okL_f o (by decide))) (f.at (okL_f o (by decide))) (f.at (okL_f o (by decide)))⟩, hb.e (funext (fun j => f.at (okL_a o (by decide) j)))⟩
theorem cc_R : CcR Cc2 := by
  rintro b σ ρ ρ1 ⟨⟨vg, hl⟩, hc, hb⟩ h
  have g := ag_cR h
  refine ⟨⟨?_, by rw [g_LL g.1.1]; exact hl⟩, hc.cg h, hb⟩
  unfold VCg at vg ⊢
  rw [g.1.1.1, g.1.1.2.1, g.1.1.2.2.1, g.1.2, g.2.2.1, g.1.1.2.2.2.1, g.1.1.2.2.2.2.2.1]; exact vg
theorem inv_21 : Inv Cc2 = Inv Cc1 := by
  funext b σ τ
  exact propext ⟨fun ⟨ρ, hW, hv, hr, h⟩ => ⟨ρ, hW, hv, hr, h.2⟩, fun ⟨ρ, hW, hv, hr, h⟩ => ⟨ρ, hW, hv, hr, ⟨hv.2.2.2.1, wL hW⟩, h⟩⟩
theorem inv_10 {b : Bool} {σ τ : St} (h : Inv Cc1 b σ τ) : Inv Cc0 b σ τ ∧ Hb b σ := by
  obtain ⟨ρ, hW, hv, hr, h⟩ := h
  exact ⟨⟨ρ, hW, hv, hr, h.1⟩, h.2⟩
theorem inv_01 {b : Bool} {σ τ : St} (h : Inv Cc0 b σ τ) (hb : Hb b σ) : Inv Cc1 b σ τ := by
  obtain ⟨ρ, hW, hv, hr, h⟩ := h
  exact ⟨ρ, hW, hv, hr, h, hb⟩
theorem s1_drops : Step_drops (Inv Cc1) := by
  intro b σ τ hI x1 x2 c1 c2
  obtain ⟨h0, hb⟩ := inv_10 hI
  refine mf_X11_drops (σ0 := σ) (fun r σ1 h f => mf_X12_drops (σ0 := τ) (fun r1 τ1 h1 _ => ⟨h1.1, inv_01 h1.2 (hb.fr f (by decide))⟩) Fr.rf h) Fr.rf (s_drops cc_F b σ τ h0 x1 x2 c1 c2)
theorem s1_say : Step_say (Inv Cc1) := by
  intro b σ τ hI  
  obtain ⟨h0, hb⟩ := inv_10 hI
  refine mf_X11_say (σ0 := σ) (fun r σ1 h f => mf_X12_say (σ0 := τ) (fun r1 τ1 h1 _ => ⟨h1.1, inv_01 h1.2 (hb.fr f (by decide))⟩) Fr.rf h) Fr.rf (s_say cc_I0 cc_F b σ τ h0  )
theorem s1_grammar : Step_grammar (Inv Cc1) := by
  intro b σ τ hI  
  obtain ⟨h0, hb⟩ := inv_10 hI
  refine mf_X11_grammar (σ0 := σ) (fun r σ1 h f => mf_X12_grammar (σ0 := τ) (fun r1 τ1 h1 _ => ⟨h1.1, inv_01 h1.2 (hb.fr f (by decide))⟩) Fr.rf h) Fr.rf (s_grammar cc_I0 cc_F b σ τ h0  )
theorem steps : StepAll (Inv Cc1) := ⟨s_feed cc_I1, s_end cc_I1, s1_grammar, s_fault, s1_say, inv_21 ▸ s_count cc_L, s_rule, s_table, s1_drops, s_prices cc_P, s_elements cc_E, inv_21 ▸ s_can cc_L, inv_21 ▸ s_least cc_L, inv_21 ▸ s_ways cc_L cc_T, inv_21 ▸ s_dearest cc_L cc_M, inv_21 ▸ s_used cc_L cc_B cc_U, inv_21 ▸ s_sum cc_L cc_S, inv_21 ▸ s_value cc_L cc_V cc_B, inv_21 ▸ s_rounds cc_L cc_V, inv_21 ▸ s_laws cc_L cc_V, inv_21 ▸ s_cases cc_L cc_B, inv_21 ▸ s_settled cc_L cc_O, inv_21 ▸ s_best cc_L cc_K, inv_21 ▸ s_size cc_L cc_K, inv_21 ▸ s_step cc_L cc_K, inv_21 ▸ s_bounds cc_L cc_K, inv_21 ▸ s_tell cc_L cc_K cc_R, s_octet, inv_21 ▸ s_cheap cc_B cc_L cc_H, inv_21 ▸ s_alike cc_L cc_K, inv_21 ▸ s_without cc_L cc_B, inv_21 ▸ s_heads cc_L, inv_21 ▸ s_mends cc_L cc_N, inv_21 ▸ s_mend cc_L cc_N, s_rings cc_I1, s_alive⟩
