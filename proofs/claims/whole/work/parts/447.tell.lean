/-! tell -/
def tlS (ρ : St) (O : List Int) : St := fun k j => if k = 2 then O.getD j 0 else if k = 0 ∧ j = 1 then (O.length : Int) else ρ k j
theorem tl_k {ρ : St} {O : List Int} {k : Nat} (h2 : k ≠ 2) (h0 : k ≠ 0) : tlS ρ O k = ρ k := by
  funext j
  unfold tlS
  rw [if_neg h2, if_neg (fun g => h0 g.1)]
theorem tl_0 {ρ : St} {O : List Int} {j : Nat} (h : j ≠ 1) : tlS ρ O 0 j = ρ 0 j := by
  unfold tlS
  rw [if_neg (by decide), if_neg (fun g => h g.2)]
theorem tl_01 {ρ : St} {O : List Int} : tlS ρ O 0 1 = (O.length : Int) := by
  unfold tlS
  rw [if_neg (by decide), if_pos ⟨rfl, rfl⟩]
theorem tl_2 {ρ : St} {O : List Int} {j : Nat} (h : j < O.length) : tlS ρ O 2 j = O[j] := by
  unfold tlS
  rw [if_pos rfl, List.getD_eq_getElem?_getD, List.getElem?_eq_getElem h]; rfl
theorem tl_cR {ρ : St} {O : List Int} : ∀ k j, cR k j = true → tlS ρ O k j = ρ k j := by
  intro k j h
  unfold cR at h
  simp only [Bool.or_eq_true, Nat.ble_eq, Bool.and_eq_true, beq_iff_eq] at h
  rcases h with h | ⟨rfl, h⟩
  · rw [tl_k (by omega) (by omega)]
  · rw [tl_0 (by omega)]
theorem tl_W {ρ : St} {O : List Int} (hW : WW ρ) (h : O.length ≤ 2048) : WW (tlS ρ O) := by
  obtain ⟨h1, h2, h3, h4, h5⟩ := hW
  unfold WW Wt Wo Wg Wb Ws at *
  simp only [tl_01, tl_0 (ρ := ρ) (O := O) (j := 0) (by decide), tl_0 (ρ := ρ) (O := O) (j := 4) (by decide), tl_0 (ρ := ρ) (O := O) (j := 5) (by decide), tl_0 (ρ := ρ) (O := O) (j := 6) (by decide), tl_0 (ρ := ρ) (O := O) (j := 7) (by decide), tl_0 (ρ := ρ) (O := O) (j := 8) (by decide), tl_k (ρ := ρ) (O := O) (k := 1) (by decide) (by decide), tl_k (ρ := ρ) (O := O) (k := 3) (by decide) (by decide), tl_k (ρ := ρ) (O := O) (k := 4) (by decide) (by decide), tl_k (ρ := ρ) (O := O) (k := 5) (by decide) (by decide), tl_k (ρ := ρ) (O := O) (k := 6) (by decide) (by decide), tl_k (ρ := ρ) (O := O) (k := 7) (by decide) (by decide), tl_k (ρ := ρ) (O := O) (k := 8) (by decide) (by decide), tl_k (ρ := ρ) (O := O) (k := 9) (by decide) (by decide), tl_k (ρ := ρ) (O := O) (k := 10) (by decide) (by decide), tl_k (ρ := ρ) (O := O) (k := 11) (by decide) (by decide)]
  exact ⟨h1, ⟨by omega, by omega⟩, h3, h4, h5⟩
theorem tl_VC {ρ σ σ1 : St} {O : List Int} (v : VC σ ρ) (f : Fr S_X11_tell σ σ1) (h3 : σ1 0 3 = (O.length : Int)) (h2 : ∀ i (h : i < O.length), σ1 2 i = O[i]) : VC σ1 (tlS ρ O) := by
  obtain ⟨⟨t1, t2⟩, -, ⟨f1, f2⟩, ⟨g1, g2⟩, ⟨b1, b2, b3, b4⟩, ⟨s1, s2⟩⟩ := v
  refine ⟨⟨?_, fun j hj => ?_⟩, ⟨?_, fun j hj => ?_⟩, ⟨?_, ?_⟩, ⟨?_, fun r hr => ?_⟩, ⟨?_, ?_, ?_, fun j hj => ?_⟩, ⟨?_, fun j hj => ?_⟩⟩
  · rw [f.at rfl, tl_0 (by decide)]; exact t1
  · rw [tl_0 (by decide)] at hj
    rw [f.at rfl, tl_k (by decide) (by decide)]; exact t2 j hj
  · rw [h3, tl_01]
  · rw [tl_01] at hj
    have hj' : j < O.length := by omega
    rw [h2 j hj', tl_2 hj']
  · rw [f.at rfl, tl_0 (by decide)]; exact f1
  · rw [f.at rfl, tl_0 (by decide)]; exact f2
  · rw [f.at rfl, tl_0 (by decide)]; exact g1
  · rw [tl_0 (by decide)] at hr
    rw [f.at (k := 15) rfl, f.at (k := 16) rfl, f.at (k := 17) rfl, f.at (k := 18) rfl, f.at (k := 19) rfl, f.at (k := 20) rfl, tl_k (k := 3) (by decide) (by decide), tl_k (k := 4) (by decide) (by decide), tl_k (k := 5) (by decide) (by decide), tl_k (k := 6) (by decide) (by decide), tl_k (k := 7) (by decide) (by decide), tl_k (k := 8) (by decide) (by decide)]
    exact g2 r hr
  · rw [f.at rfl, tl_0 (by decide)]; exact b1
  · rw [f.at rfl, tl_0 (by decide)]; exact b2
  · rw [f.at rfl, tl_0 (by decide)]; exact b3
  · rw [tl_0 (by decide)] at hj
    rw [f.at (k := 21) rfl, f.at (k := 22) rfl, tl_k (k := 9) (by decide) (by decide), tl_k (k := 10) (by decide) (by decide)]
    exact b4 j hj
  · rw [f.at rfl, tl_0 (by decide)]; exact s1
  · rw [tl_0 (by decide)] at hj
    rw [f.at rfl, tl_k (by decide) (by decide)]; exact s2 j hj
theorem tl_VR {ρ τ τ1 : St} {O : List Int} (v : VR τ ρ) (f : Fr S_X12_tell τ τ1) (h : OUr τ1 O) : VR τ1 (tlS ρ O) := by
  obtain ⟨⟨t1, t2⟩, -, ⟨f1, f2⟩, ⟨g1, g0, g2⟩, ⟨b1, b2, b3, b4⟩, ⟨s1, s2⟩⟩ := v
  refine ⟨⟨?_, fun j hj => ?_⟩, ⟨?_, fun j hj => ?_⟩, ⟨?_, ?_⟩, ⟨?_, ?_, fun r hr => ?_⟩, ⟨?_, ?_, ?_, fun j hj => ?_⟩, ⟨?_, fun j hj => ?_⟩⟩
  · rw [f.at rfl, tl_0 (by decide)]; exact t1
  · rw [tl_0 (by decide)] at hj
    rw [f.at rfl, tl_k (by decide) (by decide)]; exact t2 j hj
  · rw [h.1, tl_01]
  · rw [tl_01] at hj
    have hj' : j < O.length := by omega
    rw [h.2 j hj', tl_2 hj']
  · rw [f.at rfl, tl_0 (by decide)]; exact f1
  · rw [f.at rfl, tl_0 (by decide)]; exact f2
  · rw [f.at rfl, tl_0 (by decide)]; exact g1
  · rw [f.at rfl, tl_0 (by decide), tl_k (by decide) (by decide)]; exact g0
  · rw [tl_0 (by decide)] at hr
    rw [f.at (k := 1) rfl, f.at (k := 2) rfl, f.at (k := 3) rfl, f.at (k := 4) rfl, f.at (k := 5) rfl, tl_k (k := 3) (by decide) (by decide), tl_k (k := 4) (by decide) (by decide), tl_k (k := 5) (by decide) (by decide), tl_k (k := 6) (by decide) (by decide), tl_k (k := 7) (by decide) (by decide)]
    exact g2 r hr
  · rw [f.at rfl, tl_0 (by decide)]; exact b1
  · rw [f.at rfl, tl_0 (by decide)]; exact b2
  · rw [f.at rfl, tl_0 (by decide)]; exact b3
  · rw [tl_0 (by decide)] at hj
    rw [f.at (k := 9) rfl, f.at (k := 10) rfl, tl_k (k := 9) (by decide) (by decide), tl_k (k := 10) (by decide) (by decide)]
    exact b4 j hj
  · rw [f.at rfl, tl_0 (by decide)]; exact s1
  · rw [tl_0 (by decide)] at hj
    rw [f.at rfl, tl_k (by decide) (by decide)]; exact s2 j hj
theorem fr_low {A : List Nat} {F : List (Nat × Nat)} (hA : A.all (fun a => Nat.ble 24 a) = true) (hF : F.all (fun q => Nat.ble 24 q.1) = true) {σ σ1 : St} (f : Fr (mkS A F) σ σ1) : ∀ k, k < 24 → σ1 k = σ k := by
  intro k hk
  refine funext (fun j => f k j ?_)
  cases e : mkS A F k j with
  | false => rfl
  | true =>
    exfalso
    unfold mkS at e
    simp only [Bool.or_eq_true, List.contains_iff_mem] at e
    rw [List.all_eq_true] at hA hF
    rcases e with e | e
    · have h : 24 ≤ k := Nat.le_of_ble_eq_true (hA k e)
      omega
    · have h : 24 ≤ k := Nat.le_of_ble_eq_true (hF (k, j) e)
      omega
theorem c_tell {ρ σ : St} (hW : WW ρ) (hk : KL ρ σ) (hK : FoK ρ σ) {x1 x2 x3 x4 : Int} {Q : Int → St → Prop} (hno : ¬ (isItm ρ x1 x2 x3 ∧ 0 ≤ x4 ∧ x4 < 16) → ∀ σ1, KSt ρ σ σ1 → (∀ k, k < 24 → σ1 k = σ k) → Q (-2) σ1) (hnt : (isItm ρ x1 x2 x3 ∧ 0 ≤ x4 ∧ x4 < 16) → ∀ σ1 F, BL ρ σ1 → FoF ρ σ1 F → fD ρ σ1 (itN ρ x1 x2 x3) → F.1 (itN ρ x1 x2 x3) ≤ x4.toNat → (∀ k, k < 24 → σ1 k = σ k) → Q (-1) σ1) (hyes : (isItm ρ x1 x2 x3 ∧ 0 ≤ x4 ∧ x4 < 16) → ∀ σ1 F, BL ρ σ1 → FoF ρ σ1 F → fD ρ σ1 (itN ρ x1 x2 x3) → x4.toNat < F.1 (itN ρ x1 x2 x3) → σ1 0 3 = ((XT ρ F (itN ρ x1 x2 x3) x4.toNat).length : Int) → (∀ i (h : i < (XT ρ F (itN ρ x1 x2 x3) x4.toNat).length), σ1 2 i = (XT ρ F (itN ρ x1 x2 x3) x4.toNat)[i]) → Q ((XT ρ F (itN ρ x1 x2 x3) x4.toNat).length : Int) σ1) : wp_X11_tell x1 x2 x3 x4 σ Q := by
  have low : ∀ {σ1 : St}, Fr S_X0_build σ σ1 → ∀ k, k < 24 → σ1 k = σ k := fun f => fr_low (by decide) (by decide) f
  unfold wp_X11_tell
  refine c_itemOf hW hk.1 hk.2.1 hk.2.2.1 (fun h => ⟨fun _ => hno (fun g => h g.1) σ (Or.inl rfl) (fun _ _ => rfl), fun w => absurd (by decide) w⟩) (fun h σ2 hB f => ⟨fun w => absurd w (by omega), fun _ => c_isPlace (fun hp => ⟨fun w => absurd rfl w, fun _ => hno (fun g => hp g.2) σ2 (KSt.bt hk hK hB f) (low f)⟩) (fun hp => ⟨fun _ => ?_, fun w => absurd (by decide) w⟩)⟩)
  refine mf_X3_treeOf (σ0 := σ2) (Q := fun r5 σ3 => ∃ F, BL ρ σ3 ∧ FoF ρ σ3 F ∧ fD ρ σ3 (itN ρ x1 x2 x3) ∧ ((x4.toNat < F.1 (itN ρ x1 x2 x3) ∧ r5 = ((16 * itN ρ x1 x2 x3 + x4.toNat : Nat) : Int)) ∨ (F.1 (itN ρ x1 x2 x3) ≤ x4.toNat ∧ r5 = -1))) (fun r5 σ3 hg fr => ?_) Fr.rf (c_tree hW (hk.bt hB f) (hK.bt f) h hp (fun σ1 F h1 h2 h3 => ⟨fun hlt => ⟨F, h1, h2, h3, Or.inl ⟨hlt, rfl⟩⟩, fun hge => ⟨F, h1, h2, h3, Or.inr ⟨hge, rfl⟩⟩⟩))
  obtain ⟨F, h1, h2, h3, h4⟩ := hg
  have low3 : ∀ k, k < 24 → σ3 k = σ k := fun k hk => by rw [← low f k hk]; exact fr_low (by decide) (by decide) fr k hk
  rcases h4 with ⟨hlt, rfl⟩ | ⟨hge, rfl⟩
  · refine ⟨fun _ => c_write hW.2.2.1 (wL hW) h1.1 h2 h3 hlt (fun σ8 a1 a2 σ9 e9 => ?_), fun w => absurd (by omega) w⟩
    have a9 : ∀ k, k ≠ 0 → k ≠ 2 → k ≠ 68 → k ≠ 69 → k ≠ 70 → σ9 k = σ3 k := fun k k0 k1 k2 k3 k4 => by rw [e9, upS_k k0]; exact a2 k k1 k2 k3 k4
    have c03 : σ9 0 3 = ((XT ρ F (itN ρ x1 x2 x3) x4.toNat).length : Int) := by rw [e9, upS_s]
    have hBL : BL ρ σ9 := by
      refine ⟨?_, by rw [a9 36 (by decide) (by decide) (by decide) (by decide) (by decide)]; exact h1.2.1, ?_⟩
      · refine h1.1.ext ?_ (fun k k1 k2 => a9 k (by omega) (by omega) (by omega) (by omega) (by omega)) (fun k k1 k2 => a9 k (by omega) (by omega) (by omega) (by omega) (by omega)) ?_
        · rw [a9 14 (by decide) (by decide) (by decide) (by decide) (by decide)]
        · rw [a9 24 (by decide) (by decide) (by decide) (by decide) (by decide)]; exact ⟨rfl, rfl, rfl, rfl, rfl, rfl⟩
      · have := h1.2.2
        unfold Lw at *
        rw [a9 37 (by decide) (by decide) (by decide) (by decide) (by decide)]; exact this
    have hFo : FoF ρ σ9 F := h2.ext (fun k k1 k2 => a9 k (by omega) (by omega) (by omega) (by omega) (by omega))
    have hfd : fD ρ σ9 (itN ρ x1 x2 x3) := ⟨h3.1, by rw [a9 60 (by decide) (by decide) (by decide) (by decide) (by decide)]; exact h3.2⟩
    have y := hyes ⟨h, hp⟩ σ9 F hBL hFo hfd hlt c03 (fun i hi => by rw [e9, upS_k (by decide)]; exact a1 i hi)
    rw [c03]; exact y
  · exact ⟨fun w => absurd w (by decide), fun _ => hnt ⟨h, hp⟩ σ3 F h1 h2 h3 hge low3⟩
theorem r_tell {ρ τ : St} (hW : WW ρ) (hV : VR τ ρ) {F : Fo} {D : Nat → Prop} {x1 x2 x3 x4 : Int} (hh : (isItm ρ x1 x2 x3 ∧ 0 ≤ x4 ∧ x4 < 16) → FBd ρ F D ∧ D (itN ρ x1 x2 x3)) {Q : Int → St → Prop} (hno : ¬ (isItm ρ x1 x2 x3 ∧ 0 ≤ x4 ∧ x4 < 16) → Q (-2) τ) (hnt : (isItm ρ x1 x2 x3 ∧ 0 ≤ x4 ∧ x4 < 16) → F.1 (itN ρ x1 x2 x3) ≤ x4.toNat → ∀ τ1, Fr S_X12_laysBest τ τ1 → Q (-1) τ1) (hyes : (isItm ρ x1 x2 x3 ∧ 0 ≤ x4 ∧ x4 < 16) → x4.toNat < F.1 (itN ρ x1 x2 x3) → ∀ τ1, OUr τ1 (XT ρ F (itN ρ x1 x2 x3) x4.toNat) → Q ((XT ρ F (itN ρ x1 x2 x3) x4.toNat).length : Int) τ1) : wp_X12_tell x1 x2 x3 x4 τ Q := by
  unfold wp_X12_tell
  refine r_isItem hV.2.2.2.2.2.1 (fun h => ⟨fun _ => hno (fun g => h g.1), fun w => absurd rfl w⟩) (fun h => ⟨fun w => absurd w (by decide), fun _ => r_isPlace (fun hp => ⟨fun w => absurd rfl w, fun _ => hno (fun g => hp g.2)⟩) (fun hp => ⟨fun _ => mf_X12_laysBest (σ0 := τ) (Q := fun _ τ1 => ∃ G, RAll ρ τ1 G) (fun _ τ1 hA fr => ?_) Fr.rf (r_laysBest hW hV (fun τ1 G hA => ⟨G, hA⟩)), fun w => absurd (by decide) w⟩)⟩)
  obtain ⟨G, hA⟩ := hA
  obtain ⟨hB, hq⟩ := hh ⟨h, hp⟩
  have hR := r_same hW.2.2.1 (wL hW) hB.1 hB.2.1 hB.2.2 hA
  refine r_treeOf hW hR h hq hp (fun hlt => ?_) (fun hge => ⟨fun w => absurd rfl w, fun _ => hnt ⟨h, hp⟩ hge τ1 fr⟩)
  have n0 := ((hR _ hq).2.2.2 _ hlt).1
  have lx := XT_len hW.2.2.1 (wL hW) hB.1 (fun q hq => (hB.2.2 q hq).sg) hB.2.1 hq hlt
  have ln := hB.ln hW.2.2.1 (wL hW) hq hlt
  refine ⟨fun _ σ9 e9 => ?_, fun w => absurd (by omega) w⟩
  refine r_tells hW.2.2.1 (wL hW) hA.2.2.2 hB.1 hR _ _ _ hq hlt (Nat.lt_succ_self _) 400 [] σ9 _ (by omega) ⟨fun k k0 _ => by rw [e9, upS_k k0], fun j hj => by rw [e9, upS_j hj]⟩ ⟨by rw [e9, upS_s]; rfl, fun i hi => absurd hi (Nat.not_lt_zero _)⟩ (by rw [List.length_nil]; omega) (fun τ2 s2 o2 => ?_)
  rw [List.nil_append] at o2
  rw [o2.1]
  exact hyes ⟨h, hp⟩ hlt τ2 o2
section OPS
variable {Cc : Bool → St → St → Prop}
theorem s_tell (hC : CcL Cc) (hK : CcK Cc) (hR : CcR Cc) : Step_tell (Inv Cc) := by
  rintro b σ τ ⟨ρ, hW, hVC, hVR, hc⟩ x1 x2 x3 x4 c1 c2 c3 c4
  have hk := hC.kl hVC hc
  have hf := hK.1 b σ ρ hc
  have keep : ∀ {σ1 : St}, Fr S_X11_tell σ σ1 → (∀ k, k < 24 → σ1 k = σ k) → VC σ1 ρ := fun {σ1} f h => by
    have e25 : σ1 25 = σ 25 := funext (fun j => f.at rfl)
    have e24 : σ1 24 2 = σ 24 2 := f.at rfl
    have hv := hVC
    unfold VC VCt VCo VCf VCg VCb VCs at hv ⊢
    rw [h 0 (by decide), h 1 (by decide), h 2 (by decide), h 3 (by decide), h 14 (by decide), h 15 (by decide), h 16 (by decide), h 17 (by decide), h 18 (by decide), h 19 (by decide), h 20 (by decide), h 21 (by decide), h 22 (by decide), e24, e25]
    exact hv
  refine mf_X11_tell (σ0 := σ) (Q := fun r σ1 => (¬ (isItm ρ x1 x2 x3 ∧ 0 ≤ x4 ∧ x4 < 16) ∧ r = -2 ∧ KSt ρ σ σ1 ∧ (∀ k, k < 24 → σ1 k = σ k)) ∨ ((isItm ρ x1 x2 x3 ∧ 0 ≤ x4 ∧ x4 < 16) ∧ ∃ F, BL ρ σ1 ∧ FoF ρ σ1 F ∧ fD ρ σ1 (itN ρ x1 x2 x3) ∧ ((F.1 (itN ρ x1 x2 x3) ≤ x4.toNat ∧ (∀ k, k < 24 → σ1 k = σ k) ∧ r = -1) ∨ (x4.toNat < F.1 (itN ρ x1 x2 x3) ∧ σ1 0 3 = ((XT ρ F (itN ρ x1 x2 x3) x4.toNat).length : Int) ∧ (∀ i (h : i < (XT ρ F (itN ρ x1 x2 x3) x4.toNat).length), σ1 2 i = (XT ρ F (itN ρ x1 x2 x3) x4.toNat)[i]) ∧ r = ((XT ρ F (itN ρ x1 x2 x3) x4.toNat).length : Int))))) (fun r σ1 h f => ?_) Fr.rf (c_tell hW hk hf (fun h σ1 g l => Or.inl ⟨h, rfl, g, l⟩) (fun h σ1 F g1 g2 g3 g4 l => Or.inr ⟨h, F, g1, g2, g3, Or.inl ⟨g4, l, rfl⟩⟩) (fun h σ1 F g1 g2 g3 g4 g5 g6 => Or.inr ⟨h, F, g1, g2, g3, Or.inr ⟨g4, g5, g6, rfl⟩⟩))
  rcases h with ⟨no, rfl, ks, l⟩ | ⟨ok, F, g1, g2, g3, ⟨g4, l, rfl⟩ | ⟨g4, g5, g6, rfl⟩⟩
  · have hc1 := ks.cc hK (by decide) f hc
    exact mf_X12_tell (σ0 := τ) (Q := fun r1 τ1 => r1 = -2 ∧ τ1 = τ) (fun r1 τ1 h1 f1 => ⟨h1.1.symm, ρ, hW, keep f l, by rw [h1.2]; exact hVR, hc1⟩) Fr.rf (r_tell hW hVR (F := (fun _ => 0, fun _ _ => (0, 0, 0, 0))) (D := fun _ => False) (fun g => absurd g no) (fun _ => ⟨rfl, rfl⟩) (fun g => absurd g no) (fun g => absurd g no))
  · have hc1 := (KSt.bl (σ := σ) g1 ⟨F, g2⟩).cc hK (by decide) f hc
    exact mf_X12_tell (σ0 := τ) (Q := fun r1 τ1 => r1 = -1 ∧ Fr S_X12_laysBest τ τ1) (fun r1 τ1 h1 f1 => ⟨h1.1.symm, ρ, hW, keep f l, VR.frB h1.2 (by decide) hVR, hc1⟩) Fr.rf (r_tell hW hVR (fun _ => ⟨g2.bd, g3⟩) (fun g => absurd ok g) (fun _ _ τ1 fr => ⟨rfl, fr⟩) (fun _ g => absurd g4 (by omega)))
  · have hc1 := (KSt.bl (σ := σ) g1 ⟨F, g2⟩).cc hK (by decide) f hc
    have lx := XT_len hW.2.2.1 (wL hW) g2.bd.1 (fun q hq => (g2.bd.2.2 q hq).sg) g2.bd.2.1 g3 g4
    exact mf_X12_tell (σ0 := τ) (Q := fun r1 τ1 => r1 = ((XT ρ F (itN ρ x1 x2 x3) x4.toNat).length : Int) ∧ OUr τ1 (XT ρ F (itN ρ x1 x2 x3) x4.toNat)) (fun r1 τ1 h1 f1 => ⟨h1.1.symm, tlS ρ (XT ρ F (itN ρ x1 x2 x3) x4.toNat), tl_W hW (by omega), tl_VC hVC f g5 g6, tl_VR hVR f1 h1.2, hR b σ1 ρ _ hc1 tl_cR⟩) Fr.rf (r_tell hW hVR (fun _ => ⟨g2.bd, g3⟩) (fun g => absurd ok g) (fun _ g => absurd g4 (by omega)) (fun _ _ τ1 o => ⟨rfl, o⟩))
end OPS
