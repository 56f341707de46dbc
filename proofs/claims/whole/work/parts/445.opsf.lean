/-! best, size, step -/
def okD (A : List Nat) (F : List (Nat × Nat)) : Bool := okL [38, 40, 42, 43, 44, 46, 47, 51, 77, 78, 79, 83] [(36, 6), (36, 8), (36, 9), (41, 6), (41, 7), (41, 8), (45, 7), (50, 5), (50, 6), (80, 5), (80, 6), (80, 7), (80, 8), (80, 9)] A F
def CcK (Cc : Bool → St → St → Prop) : Prop := (∀ b σ ρ, Cc b σ ρ → FoK ρ σ) ∧ ∀ (A : List Nat) (F : List (Nat × Nat)) b σ σ1 ρ, okD A F = true → Fr (mkS A F) σ σ1 → Cc b σ ρ → Bt ρ σ1 → (σ1 36 7 = 0 ∨ (σ1 36 7 = 1 ∧ Lw ρ σ1)) → FoK ρ σ1 → Cc b σ1 ρ
def CcR (Cc : Bool → St → St → Prop) : Prop := ∀ b σ ρ ρ1, Cc b σ ρ → (∀ k j, cR k j = true → ρ1 k j = ρ k j) → Cc b σ ρ1
/-- nothing was changed, or what is kept is right -/
def KSt (ρ σ σ1 : St) : Prop := σ1 = σ ∨ (Bt ρ σ1 ∧ (σ1 36 7 = 0 ∨ (σ1 36 7 = 1 ∧ Lw ρ σ1)) ∧ FoK ρ σ1)
theorem KSt.cc {Cc : Bool → St → St → Prop} (hK : CcK Cc) {A : List Nat} {F : List (Nat × Nat)} {b : Bool} {ρ σ σ1 : St} (h : KSt ρ σ σ1) (hA : okD A F = true) (f : Fr (mkS A F) σ σ1) (hc : Cc b σ ρ) : Cc b σ1 ρ := by
  rcases h with rfl | ⟨h1, h2, h3⟩
  · exact hc
  · exact hK.2 A F b σ σ1 ρ hA f hc h1 h2 h3
theorem FoK.bt {ρ σ σ1 : St} (h : FoK ρ σ) (f : Fr S_X0_build σ σ1) : FoK ρ σ1 := by
  obtain ⟨F, hF⟩ := h
  refine ⟨F, hF.ext (fun k h1 h2 => ?_)⟩
  rcases (by omega : k = 55 ∨ k = 56 ∨ k = 57 ∨ k = 58 ∨ k = 59 ∨ k = 60) with rfl | rfl | rfl | rfl | rfl | rfl <;> exact funext (fun j => f.at rfl)
theorem KSt.bt {ρ σ σ1 : St} (hk : KL ρ σ) (hK : FoK ρ σ) (hB : Bt ρ σ1) (f : Fr S_X0_build σ σ1) : KSt ρ σ σ1 := Or.inr ⟨hB, (hk.bt hB f).2.2.2, hK.bt f⟩
theorem KSt.bl {ρ σ σ1 : St} (hB : BL ρ σ1) (hF : FoK ρ σ1) : KSt ρ σ σ1 := Or.inr ⟨hB.1, Or.inr hB.2, hF⟩
theorem c_isPlace {x : Int} {σ : St} {Q : Int → St → Prop} (hno : ¬ (0 ≤ x ∧ x < 16) → Q 0 σ) (hyes : 0 ≤ x ∧ x < 16 → Q 1 σ) : wp_X11_isPlace x σ Q := by
  unfold wp_X11_isPlace wp_X11_isPlace_b14
  exact ⟨fun h => hno (by omega), fun h => ⟨fun h2 => hno (by omega), fun h2 => hyes (by omega)⟩⟩
theorem r_isPlace {x : Int} {σ : St} {Q : Int → St → Prop} (hno : ¬ (0 ≤ x ∧ x < 16) → Q 0 σ) (hyes : 0 ≤ x ∧ x < 16 → Q 1 σ) : wp_X12_isPlace x σ Q := by
  unfold wp_X12_isPlace
  refine r_in ?_
  by_cases h : 0 ≤ x ∧ x ≤ 15
  · rw [if_pos h]; exact ⟨Or.inr rfl, hyes (by omega)⟩
  · rw [if_neg h]; exact ⟨Or.inl rfl, hno (by omega)⟩
/-- trees that are the first sixteen -/
def FBd (ρ : St) (F : Fo) (D : Nat → Prop) : Prop := ClF ρ F D ∧ (∀ q, D q → q < 12 * spN (LL ρ)) ∧ ∀ q, D q → TopP (ltE ρ F q) (CandE ρ F q) (F.1 q) (F.2 q)
theorem FoF.bd {ρ σ : St} {F : Fo} (h : FoF ρ σ F) : FBd ρ F (fD ρ σ) := ⟨h.2.1, fun _ h => h.1, h.2.2.2.2.1⟩
theorem FBd.ln {ρ : St} (hg : Wg ρ) (hL : LL ρ < 9) {F : Fo} {D : Nat → Prop} (h : FBd ρ F D) {q k : Nat} (hq : D q) (hk : k < F.1 q) : lnT ρ F q k ≤ 360 := sN_360 hg hL h.1 (fun q hq => (h.2.2 q hq).sg) h.2.1 hq hk
theorem wL {ρ : St} (hW : WW ρ) : LL ρ < 9 := by have := hW.2.2.2.2.2.1; unfold LL; omega
/-- the class's tree of an item, when the place is right -/
theorem c_tree {ρ σ : St} (hW : WW ρ) (hk : KL ρ σ) (hK : FoK ρ σ) {x1 x2 x3 : Int} (h : isItm ρ x1 x2 x3) {x4 : Int} (hp : 0 ≤ x4 ∧ x4 < 16) {Q : Int → St → Prop} (hQ : ∀ σ1 F, BL ρ σ1 → FoF ρ σ1 F → fD ρ σ1 (itN ρ x1 x2 x3) → (x4.toNat < F.1 (itN ρ x1 x2 x3) → Q ((16 * itN ρ x1 x2 x3 + x4.toNat : Nat) : Int) σ1) ∧ (F.1 (itN ρ x1 x2 x3) ≤ x4.toNat → Q (-1) σ1)) : wp_X3_treeOf (itN ρ x1 x2 x3 : Nat) x4 σ Q := by
  refine c_treeOf hW hk.1 hk.2.1 hk.2.2.1 hk.2.2.2 hK (itN_r (wL hW) h).1 (fun σ1 F h1 h2 h3 => ?_)
  obtain ⟨a, b⟩ := hQ σ1 F h1 h2 h3
  refine ⟨fun k e hk' => ?_, fun hn => b (hn x4.toNat (by omega))⟩
  have ek : k = x4.toNat := by omega
  rw [ek] at hk' ⊢
  exact a hk'
theorem c_best {ρ σ : St} (hW : WW ρ) (hk : KL ρ σ) (hK : FoK ρ σ) {x1 x2 x3 x4 : Int} {Q : Int → St → Prop} (hno : ¬ (isItm ρ x1 x2 x3 ∧ 0 ≤ x4 ∧ x4 < 16) → ∀ σ1, KSt ρ σ σ1 → Q (-2) σ1) (hyes : (isItm ρ x1 x2 x3 ∧ 0 ≤ x4 ∧ x4 < 16) → ∀ σ1 F, BL ρ σ1 → FoF ρ σ1 F → fD ρ σ1 (itN ρ x1 x2 x3) → Q (if x4.toNat < F.1 (itN ρ x1 x2 x3) then (F.2 (itN ρ x1 x2 x3) x4.toNat).1 else -1) σ1) : wp_X11_best x1 x2 x3 x4 σ Q := by
  unfold wp_X11_best
  refine c_itemOf hW hk.1 hk.2.1 hk.2.2.1 (fun h => ⟨fun _ => hno (fun g => h g.1) σ (Or.inl rfl), fun w => absurd (by decide) w⟩) (fun h σ2 hB f => ⟨fun w => absurd w (by omega), fun _ => c_isPlace (fun hp => ⟨fun w => absurd rfl w, fun _ => hno (fun g => hp g.2) σ2 (KSt.bt hk hK hB f)⟩) (fun hp => ⟨fun _ => ?_, fun w => absurd (by decide) w⟩)⟩)
  refine c_tree hW (hk.bt hB f) (hK.bt f) h hp (fun σ1 F h1 h2 h3 => ⟨fun hlt => ?_, fun hge => ?_⟩)
  · have q := (itN_r (wL hW) h).2
    have e := ((h2.2.2.1 _ h3).2.2.2 _ hlt).1
    have y := hyes ⟨h, hp⟩ σ1 F h1 h2 h3
    rw [if_pos hlt] at y
    rw [Int.toNat_natCast, e]
    exact ⟨fun _ => ⟨by omega, y⟩, fun w => absurd (by omega) w⟩
  · have y := hyes ⟨h, hp⟩ σ1 F h1 h2 h3
    rw [if_neg (by omega)] at y
    exact ⟨fun w => absurd w (by decide), fun _ => y⟩
theorem r_best {ρ τ : St} (hW : WW ρ) (hV : VR τ ρ) {F : Fo} {D : Nat → Prop} {x1 x2 x3 x4 : Int} (hh : (isItm ρ x1 x2 x3 ∧ 0 ≤ x4 ∧ x4 < 16) → FBd ρ F D ∧ D (itN ρ x1 x2 x3)) {Q : Int → St → Prop} (hno : ¬ (isItm ρ x1 x2 x3 ∧ 0 ≤ x4 ∧ x4 < 16) → Q (-2) τ) (hyes : (isItm ρ x1 x2 x3 ∧ 0 ≤ x4 ∧ x4 < 16) → ∀ τ1, Q (if x4.toNat < F.1 (itN ρ x1 x2 x3) then (F.2 (itN ρ x1 x2 x3) x4.toNat).1 else -1) τ1) : wp_X12_best x1 x2 x3 x4 τ Q := by
  unfold wp_X12_best
  refine r_isItem hV.2.2.2.2.2.1 (fun h => ⟨fun _ => hno (fun g => h g.1), fun w => absurd rfl w⟩) (fun h => ⟨fun w => absurd w (by decide), fun _ => r_isPlace (fun hp => ⟨fun w => absurd rfl w, fun _ => hno (fun g => hp g.2)⟩) (fun hp => ⟨fun _ => r_laysBest hW hV (fun τ1 G hA => ?_), fun w => absurd (by decide) w⟩)⟩)
  obtain ⟨hB, hq⟩ := hh ⟨h, hp⟩
  have hR := r_same hW.2.2.1 (wL hW) hB.1 hB.2.1 hB.2.2 hA
  have y := hyes ⟨h, hp⟩ τ1
  refine r_treeOf hW hR h hq hp (fun hlt => ?_) (fun hge => ?_)
  · obtain ⟨n0, n1, n2, n3, n4, n5, n6, n7, n8, -⟩ := (hR _ hq).2.2.2 _ hlt
    rw [if_pos hlt] at y
    rw [n8]
    exact ⟨fun _ => ⟨⟨n0, n1⟩, y⟩, fun w => absurd (by omega) w⟩
  · rw [if_neg (by omega)] at y
    exact ⟨fun w => absurd rfl w, fun _ => y⟩
section OPS
variable {Cc : Bool → St → St → Prop}
theorem s_best (hC : CcL Cc) (hK : CcK Cc) : Step_best (Inv Cc) := by
  rintro b σ τ ⟨ρ, hW, hVC, hVR, hc⟩ x1 x2 x3 x4 c1 c2 c3 c4
  have hk := hC.kl hVC hc
  have hf := hK.1 b σ ρ hc
  refine mf_X11_best (σ0 := σ) (Q := fun r σ1 => (¬ (isItm ρ x1 x2 x3 ∧ 0 ≤ x4 ∧ x4 < 16) ∧ r = -2 ∧ KSt ρ σ σ1) ∨ ((isItm ρ x1 x2 x3 ∧ 0 ≤ x4 ∧ x4 < 16) ∧ ∃ F, BL ρ σ1 ∧ FoF ρ σ1 F ∧ fD ρ σ1 (itN ρ x1 x2 x3) ∧ r = if x4.toNat < F.1 (itN ρ x1 x2 x3) then (F.2 (itN ρ x1 x2 x3) x4.toNat).1 else -1)) (fun r σ1 h f => ?_) Fr.rf (c_best hW hk hf (fun h σ1 g => Or.inl ⟨h, rfl, g⟩) (fun h σ1 F g1 g2 g3 => Or.inr ⟨h, F, g1, g2, g3, rfl⟩))
  have hv : VC σ1 ρ := VC.frB f (by decide) hVC
  rcases h with ⟨no, rfl, ks⟩ | ⟨ok, F, g1, g2, g3, rfl⟩
  · have hc1 := ks.cc hK (by decide) f hc
    exact mf_X12_best (σ0 := τ) (Q := fun r1 _ => r1 = -2) (fun r1 τ1 h1 f1 => ⟨h1.symm, ρ, hW, hv, VR.frB f1 (by decide) hVR, hc1⟩) Fr.rf (r_best hW hVR (F := (fun _ => 0, fun _ _ => (0, 0, 0, 0))) (D := fun _ => False) (fun g => absurd g no) (fun _ => rfl) (fun g => absurd g no))
  · have hc1 := (KSt.bl (σ := σ) g1 ⟨F, g2⟩).cc hK (by decide) f hc
    exact mf_X12_best (σ0 := τ) (Q := fun r1 _ => r1 = if x4.toNat < F.1 (itN ρ x1 x2 x3) then (F.2 (itN ρ x1 x2 x3) x4.toNat).1 else -1) (fun r1 τ1 h1 f1 => ⟨h1.symm, ρ, hW, hv, VR.frB f1 (by decide) hVR, hc1⟩) Fr.rf (r_best hW hVR (fun _ => ⟨g2.bd, g3⟩) (fun g => absurd ok g) (fun _ τ1 => rfl))
end OPS
/-! size -/
def szV (ρ : St) (F : Fo) (q k : Nat) (x : Int) : Int := if k < F.1 q then (if x = 0 then (lnT ρ F q k : Nat) else (dpT ρ F q k : Nat)) else -1
theorem BL.wk {ρ σ σ1 : St} {F : Fo} (e : ∀ k, k < 68 → σ1 k = σ k) (h : BL ρ σ) (hF : FoF ρ σ F) {q : Nat} (hq : fD ρ σ q) : BL ρ σ1 ∧ FoF ρ σ1 F ∧ fD ρ σ1 q := by
  refine ⟨h.extK (fun k hk => e k (by omega)), hF.ext (fun k h1 h2 => e k (by omega)), hq.1, ?_⟩
  rw [e 60 (by decide)]; exact hq.2
theorem c_size {ρ σ : St} (hW : WW ρ) (hk : KL ρ σ) (hK : FoK ρ σ) {x1 x2 x3 x4 x5 : Int} {Q : Int → St → Prop} (hno : ¬ ((isItm ρ x1 x2 x3 ∧ 0 ≤ x4 ∧ x4 < 16) ∧ 0 ≤ x5 ∧ x5 ≤ 1) → ∀ σ1, KSt ρ σ σ1 → Q (-2) σ1) (hyes : ((isItm ρ x1 x2 x3 ∧ 0 ≤ x4 ∧ x4 < 16) ∧ 0 ≤ x5 ∧ x5 ≤ 1) → ∀ σ1 F, BL ρ σ1 → FoF ρ σ1 F → fD ρ σ1 (itN ρ x1 x2 x3) → Q (szV ρ F (itN ρ x1 x2 x3) x4.toNat x5) σ1) : wp_X11_size x1 x2 x3 x4 x5 σ Q := by
  unfold wp_X11_size
  refine c_itemOf hW hk.1 hk.2.1 hk.2.2.1 (fun h => ⟨fun _ => hno (fun g => h g.1.1) σ (Or.inl rfl), fun w => absurd (by decide) w⟩) (fun h σ2 hB f => ⟨fun w => absurd w (by omega), fun _ => c_isPlace (fun hp => ⟨fun _ => hno (fun g => hp g.1.2) σ2 (KSt.bt hk hK hB f), fun w => absurd rfl w⟩) (fun hp => ⟨fun w => absurd w (by decide), fun _ => ⟨fun h5 => hno (fun g => by omega) σ2 (KSt.bt hk hK hB f), fun h5 => ⟨fun h6 => ?_, fun h6 => hno (fun g => h6 g.2.2) σ2 (KSt.bt hk hK hB f)⟩⟩⟩)⟩)
  have ok : (isItm ρ x1 x2 x3 ∧ 0 ≤ x4 ∧ x4 < 16) ∧ 0 ≤ x5 ∧ x5 ≤ 1 := ⟨⟨h, hp⟩, by omega, h6⟩
  refine c_tree hW (hk.bt hB f) (hK.bt f) h hp (fun σ1 F h1 h2 h3 => ⟨fun hlt => ?_, fun hge => ?_⟩)
  · refine ⟨fun _ => c_follow hW.2.2.1 (wL hW) h1.1 h2 h3 hlt (fun σ3 a1 a2 a3 a4 => ?_), fun w => absurd (by omega) w⟩
    obtain ⟨b1, b2, b3⟩ := BL.wk (fun k hk => a4 k (by omega)) h1 h2 h3
    have y := hyes ok σ3 F b1 b2 b3
    unfold szV at y
    rw [if_pos hlt] at y
    rw [a1, a2, lnT_len, dpT_mx h2.2.1 h3 hlt]
    refine ⟨fun hx => ?_, fun hx => ?_⟩
    · rw [if_neg hx] at y; exact y
    · rw [if_pos (by omega)] at y; exact y
  · have y := hyes ok σ1 F h1 h2 h3
    unfold szV at y
    rw [if_neg (by omega)] at y
    exact ⟨fun w => absurd w (by decide), fun _ => y⟩
theorem r_size {ρ τ : St} (hW : WW ρ) (hV : VR τ ρ) {F : Fo} {D : Nat → Prop} {x1 x2 x3 x4 x5 : Int} (hh : ((isItm ρ x1 x2 x3 ∧ 0 ≤ x4 ∧ x4 < 16) ∧ 0 ≤ x5 ∧ x5 ≤ 1) → FBd ρ F D ∧ D (itN ρ x1 x2 x3)) {Q : Int → St → Prop} (hno : ¬ ((isItm ρ x1 x2 x3 ∧ 0 ≤ x4 ∧ x4 < 16) ∧ 0 ≤ x5 ∧ x5 ≤ 1) → Q (-2) τ) (hyes : ((isItm ρ x1 x2 x3 ∧ 0 ≤ x4 ∧ x4 < 16) ∧ 0 ≤ x5 ∧ x5 ≤ 1) → ∀ τ1, Q (szV ρ F (itN ρ x1 x2 x3) x4.toNat x5) τ1) : wp_X12_size x1 x2 x3 x4 x5 τ Q := by
  unfold wp_X12_size
  refine r_isItem hV.2.2.2.2.2.1 (fun h => ⟨fun _ => hno (fun g => h g.1.1), fun w => absurd rfl w⟩) (fun h => ⟨fun w => absurd w (by decide), fun _ => r_isPlace (fun hp => ⟨fun _ => hno (fun g => hp g.1.2), fun w => absurd rfl w⟩) (fun hp => ⟨fun w => absurd w (by decide), fun _ => r_in ?_⟩)⟩)
  by_cases h5 : 0 ≤ x5 ∧ x5 ≤ 1
  · rw [if_pos h5]
    refine ⟨fun _ => r_laysBest hW hV (fun τ1 G hA => ?_), fun w => absurd (by decide) w⟩
    have ok : (isItm ρ x1 x2 x3 ∧ 0 ≤ x4 ∧ x4 < 16) ∧ 0 ≤ x5 ∧ x5 ≤ 1 := ⟨⟨h, hp⟩, h5⟩
    obtain ⟨hB, hq⟩ := hh ok
    have hR := r_same hW.2.2.1 (wL hW) hB.1 hB.2.1 hB.2.2 hA
    have y := hyes ok τ1
    unfold szV at y
    refine r_treeOf hW hR h hq hp (fun hlt => ?_) (fun hge => ?_)
    · obtain ⟨n0, n1, n2, n3, n4, n5, n6, n7, n8, n9, n10⟩ := (hR _ hq).2.2.2 _ hlt
      rw [if_pos hlt] at y
      rw [n9, n10, ← lnT_eq hB.1 hq hlt, ← dpT_eq hB.1 hq hlt]
      refine ⟨fun _ => ⟨fun hx => ⟨⟨n0, n1⟩, ?_⟩, fun hx => ⟨⟨n0, n1⟩, ?_⟩⟩, fun w => absurd (by omega) w⟩
      · rw [if_neg hx] at y; exact y
      · rw [if_pos (by omega)] at y; exact y
    · rw [if_neg (by omega)] at y
      exact ⟨fun w => absurd rfl w, fun _ => y⟩
  · rw [if_neg h5]
    exact ⟨fun w => absurd rfl w, fun _ => hno (fun g => h5 g.2)⟩
section OPS
variable {Cc : Bool → St → St → Prop}
theorem s_size (hC : CcL Cc) (hK : CcK Cc) : Step_size (Inv Cc) := by
  rintro b σ τ ⟨ρ, hW, hVC, hVR, hc⟩ x1 x2 x3 x4 x5 c1 c2 c3 c4 c5
  have hk := hC.kl hVC hc
  have hf := hK.1 b σ ρ hc
  refine mf_X11_size (σ0 := σ) (Q := fun r σ1 => (¬ ((isItm ρ x1 x2 x3 ∧ 0 ≤ x4 ∧ x4 < 16) ∧ 0 ≤ x5 ∧ x5 ≤ 1) ∧ r = -2 ∧ KSt ρ σ σ1) ∨ (((isItm ρ x1 x2 x3 ∧ 0 ≤ x4 ∧ x4 < 16) ∧ 0 ≤ x5 ∧ x5 ≤ 1) ∧ ∃ F, BL ρ σ1 ∧ FoF ρ σ1 F ∧ fD ρ σ1 (itN ρ x1 x2 x3) ∧ r = szV ρ F (itN ρ x1 x2 x3) x4.toNat x5)) (fun r σ1 h f => ?_) Fr.rf (c_size hW hk hf (fun h σ1 g => Or.inl ⟨h, rfl, g⟩) (fun h σ1 F g1 g2 g3 => Or.inr ⟨h, F, g1, g2, g3, rfl⟩))
  have hv : VC σ1 ρ := VC.frB f (by decide) hVC
  rcases h with ⟨no, rfl, ks⟩ | ⟨ok, F, g1, g2, g3, rfl⟩
  · have hc1 := ks.cc hK (by decide) f hc
    exact mf_X12_size (σ0 := τ) (Q := fun r1 _ => r1 = -2) (fun r1 τ1 h1 f1 => ⟨h1.symm, ρ, hW, hv, VR.frB f1 (by decide) hVR, hc1⟩) Fr.rf (r_size hW hVR (F := (fun _ => 0, fun _ _ => (0, 0, 0, 0))) (D := fun _ => False) (fun g => absurd g no) (fun _ => rfl) (fun g => absurd g no))
  · have hc1 := (KSt.bl (σ := σ) g1 ⟨F, g2⟩).cc hK (by decide) f hc
    exact mf_X12_size (σ0 := τ) (Q := fun r1 _ => r1 = szV ρ F (itN ρ x1 x2 x3) x4.toNat x5) (fun r1 τ1 h1 f1 => ⟨h1.symm, ρ, hW, hv, VR.frB f1 (by decide) hVR, hc1⟩) Fr.rf (r_size hW hVR (fun _ => ⟨g2.bd, g3⟩) (fun g => absurd ok g) (fun _ τ1 => rfl))
end OPS
/-! step -/
def seV (F : Fo) (ρ : St) (v : SpT → Int) (q k x : Nat) : Int := if k < F.1 q then ((PTr ρ F q k 1)[x]?).elim (-1) v else -1
theorem c_step {ρ σ : St} (hW : WW ρ) (hk : KL ρ σ) (hK : FoK ρ σ) {x1 x2 x3 x4 x5 : Int} {Q : Int → St → Prop} (hno : ¬ ((isItm ρ x1 x2 x3 ∧ 0 ≤ x4 ∧ x4 < 16) ∧ 0 ≤ x5) → ∀ σ1, KSt ρ σ σ1 → Q (-2) σ1) (hyes : ((isItm ρ x1 x2 x3 ∧ 0 ≤ x4 ∧ x4 < 16) ∧ 0 ≤ x5) → ∀ σ1 F, BL ρ σ1 → FoF ρ σ1 F → fD ρ σ1 (itN ρ x1 x2 x3) → Q (seV F ρ (rOf ρ F) (itN ρ x1 x2 x3) x4.toNat x5.toNat) σ1) : wp_X11_step x1 x2 x3 x4 x5 σ Q := by
  unfold wp_X11_step
  refine c_itemOf hW hk.1 hk.2.1 hk.2.2.1 (fun h => ⟨fun _ => hno (fun g => h g.1.1) σ (Or.inl rfl), fun w => absurd (by decide) w⟩) (fun h σ2 hB f => ⟨fun w => absurd w (by omega), fun _ => c_isPlace (fun hp => ⟨fun _ => hno (fun g => hp g.1.2) σ2 (KSt.bt hk hK hB f), fun w => absurd rfl w⟩) (fun hp => ⟨fun w => absurd w (by decide), fun _ => ⟨fun h5 => ?_, fun h5 => hno (fun g => h5 g.2) σ2 (KSt.bt hk hK hB f)⟩⟩)⟩)
  have ok : (isItm ρ x1 x2 x3 ∧ 0 ≤ x4 ∧ x4 < 16) ∧ 0 ≤ x5 := ⟨⟨h, hp⟩, h5⟩
  refine c_tree hW (hk.bt hB f) (hK.bt f) h hp (fun σ1 F h1 h2 h3 => ⟨fun hlt => ?_, fun hge => ?_⟩)
  · refine ⟨fun _ => c_follow hW.2.2.1 (wL hW) h1.1 h2 h3 hlt (fun σ3 a1 a2 a3 a4 => ?_), fun w => absurd (by omega) w⟩
    obtain ⟨b1, b2, b3⟩ := BL.wk (fun k hk => a4 k (by omega)) h1 h2 h3
    have y := hyes ok σ3 F b1 b2 b3
    unfold seV at y
    rw [if_pos hlt] at y
    have hW3 : WSt ρ σ3 F (PTr ρ F (itN ρ x1 x2 x3) x4.toNat 1) := ⟨a1, a3, gd_W b2 b3 hlt, by rw [lnT_len]; exact b2.bd.ln hW.2.2.1 (wL hW) b3 hlt⟩
    rw [show x5 = ((x5.toNat : Nat) : Int) by omega]
    refine c_ruleOf hW.2.2.1 (wL hW) b1.1 b2 hW3 (fun hx => ?_) (fun hx => ?_)
    · rw [List.getElem?_eq_getElem hx] at y; exact y
    · rw [List.getElem?_eq_none hx] at y; exact y
  · have y := hyes ok σ1 F h1 h2 h3
    unfold seV at y
    rw [if_neg (by omega)] at y
    exact ⟨fun w => absurd w (by decide), fun _ => y⟩
/-- the reference's step of a tree -/
theorem r_stepV {ρ τ : St} (hW : WW ρ) {F : Fo} {D : Nat → Prop} (hB : FBd ρ F D) (hR : RFo ρ τ F D) {q k : Nat} (hq : D q) (hk : k < F.1 q) {x : Nat} {Q : Int → St → Prop} (h1 : ∀ e, (PTr ρ F q k 1)[x]? = some e → D e.1 → e.2.1 < F.1 e.1 → Q (τ 37 (16 * iR ρ e.1 + e.2.1)) τ) (h2 : (PTr ρ F q k 1)[x]? = none → Q (-1) τ) : wp_X12_stepOf (τ 37 (16 * iR ρ q + k)) (x : Int) τ Q := by
  refine r_stepOf (d := 1) hB.1 hR hq hk (hB.ln hW.2.2.1 (wL hW) hq hk) (fun e he => ?_) (fun hx => h2 (List.getElem?_eq_none (by rw [lnT_len]; exact hx)))
  have g := PTr_gd hB.1 _ q k 1 hq hk e (List.mem_of_getElem? he)
  exact h1 e he g.1 g.2
theorem r_step {ρ τ : St} (hW : WW ρ) (hV : VR τ ρ) {F : Fo} {D : Nat → Prop} {x1 x2 x3 x4 x5 : Int} (hh : ((isItm ρ x1 x2 x3 ∧ 0 ≤ x4 ∧ x4 < 16) ∧ 0 ≤ x5) → FBd ρ F D ∧ D (itN ρ x1 x2 x3)) {Q : Int → St → Prop} (hno : ¬ ((isItm ρ x1 x2 x3 ∧ 0 ≤ x4 ∧ x4 < 16) ∧ 0 ≤ x5) → Q (-2) τ) (hyes : ((isItm ρ x1 x2 x3 ∧ 0 ≤ x4 ∧ x4 < 16) ∧ 0 ≤ x5) → ∀ τ1, Q (seV F ρ (rOf ρ F) (itN ρ x1 x2 x3) x4.toNat x5.toNat) τ1) : wp_X12_step x1 x2 x3 x4 x5 τ Q := by
  unfold wp_X12_step
  refine r_isItem hV.2.2.2.2.2.1 (fun h => ⟨fun _ => hno (fun g => h g.1.1), fun w => absurd rfl w⟩) (fun h => ⟨fun w => absurd w (by decide), fun _ => r_isPlace (fun hp => ⟨fun _ => hno (fun g => hp g.1.2), fun w => absurd rfl w⟩) (fun hp => ⟨fun w => absurd w (by decide), fun _ => ⟨fun h5 => r_laysBest hW hV (fun τ1 G hA => ?_), fun h5 => hno (fun g => h5 g.2)⟩⟩)⟩)
  have ok : (isItm ρ x1 x2 x3 ∧ 0 ≤ x4 ∧ x4 < 16) ∧ 0 ≤ x5 := ⟨⟨h, hp⟩, h5⟩
  obtain ⟨hB, hq⟩ := hh ok
  have hR := r_same hW.2.2.1 (wL hW) hB.1 hB.2.1 hB.2.2 hA
  have y := hyes ok τ1
  unfold seV at y
  refine r_treeOf hW hR h hq hp (fun hlt => ?_) (fun hge => ?_)
  · rw [if_pos hlt] at y
    rw [show x5 = ((x5.toNat : Nat) : Int) by omega]
    refine r_stepV hW hB hR hq hlt (fun e he d1 d2 => ?_) (fun hn => ?_)
    · obtain ⟨n0, n1, n2, -⟩ := (hR _ d1).2.2.2 _ d2
      rw [he] at y
      rw [n2]
      exact ⟨fun _ => ⟨⟨n0, n1⟩, y⟩, fun w => absurd (by omega) w⟩
    · rw [hn] at y
      exact ⟨fun w => absurd rfl w, fun _ => y⟩
  · rw [if_neg (by omega)] at y
    unfold wp_X12_stepOf
    exact ⟨fun _ => ⟨fun w => absurd rfl w, fun _ => y⟩, fun w => absurd rfl w⟩
section OPS
variable {Cc : Bool → St → St → Prop}
theorem s_step (hC : CcL Cc) (hK : CcK Cc) : Step_step (Inv Cc) := by
  rintro b σ τ ⟨ρ, hW, hVC, hVR, hc⟩ x1 x2 x3 x4 x5 c1 c2 c3 c4 c5
  have hk := hC.kl hVC hc
  have hf := hK.1 b σ ρ hc
  refine mf_X11_step (σ0 := σ) (Q := fun r σ1 => (¬ ((isItm ρ x1 x2 x3 ∧ 0 ≤ x4 ∧ x4 < 16) ∧ 0 ≤ x5) ∧ r = -2 ∧ KSt ρ σ σ1) ∨ (((isItm ρ x1 x2 x3 ∧ 0 ≤ x4 ∧ x4 < 16) ∧ 0 ≤ x5) ∧ ∃ F, BL ρ σ1 ∧ FoF ρ σ1 F ∧ fD ρ σ1 (itN ρ x1 x2 x3) ∧ r = seV F ρ (rOf ρ F) (itN ρ x1 x2 x3) x4.toNat x5.toNat)) (fun r σ1 h f => ?_) Fr.rf (c_step hW hk hf (fun h σ1 g => Or.inl ⟨h, rfl, g⟩) (fun h σ1 F g1 g2 g3 => Or.inr ⟨h, F, g1, g2, g3, rfl⟩))
  have hv : VC σ1 ρ := VC.frB f (by decide) hVC
  rcases h with ⟨no, rfl, ks⟩ | ⟨ok, F, g1, g2, g3, rfl⟩
  · have hc1 := ks.cc hK (by decide) f hc
    exact mf_X12_step (σ0 := τ) (Q := fun r1 _ => r1 = -2) (fun r1 τ1 h1 f1 => ⟨h1.symm, ρ, hW, hv, VR.frB f1 (by decide) hVR, hc1⟩) Fr.rf (r_step hW hVR (F := (fun _ => 0, fun _ _ => (0, 0, 0, 0))) (D := fun _ => False) (fun g => absurd g no) (fun _ => rfl) (fun g => absurd g no))
  · have hc1 := (KSt.bl (σ := σ) g1 ⟨F, g2⟩).cc hK (by decide) f hc
    exact mf_X12_step (σ0 := τ) (Q := fun r1 _ => r1 = seV F ρ (rOf ρ F) (itN ρ x1 x2 x3) x4.toNat x5.toNat) (fun r1 τ1 h1 f1 => ⟨h1.symm, ρ, hW, hv, VR.frB f1 (by decide) hVR, hc1⟩) Fr.rf (r_step hW hVR (fun _ => ⟨g2.bd, g3⟩) (fun g => absurd ok g) (fun _ τ1 => rfl))
end OPS
