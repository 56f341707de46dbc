/-! bounds -/
def bdV (ρ : St) (F : Fo) (x : Int) (e : SpT) : Int := if x = 0 then (spB (LL ρ) (e.1 / 12) : Nat) else if x = 1 then mOf ρ F e else (spF (LL ρ) (e.1 / 12) : Nat)
def q0N (ρ : St) : Nat := itN ρ (ρ 3 0) 0 (ρ 0 8)
theorem c_bounds {ρ σ : St} (hW : WW ρ) (hk : KL ρ σ) (hK : FoK ρ σ) {x1 x2 x3 : Int} {Q : Int → St → Prop} (hno : ¬ ((0 ≤ x1 ∧ x1 < 16) ∧ 0 ≤ x2 ∧ 0 ≤ x3 ∧ x3 ≤ 2) → Q (-2) σ) (hz : ((0 ≤ x1 ∧ x1 < 16) ∧ 0 ≤ x2 ∧ 0 ≤ x3 ∧ x3 ≤ 2) → (ρ 0 4 = 0 ∨ ρ 0 8 = 0) → Q (-1) σ) (hyes : ((0 ≤ x1 ∧ x1 < 16) ∧ 0 ≤ x2 ∧ 0 ≤ x3 ∧ x3 ≤ 2) → isItm ρ (ρ 3 0) 0 (ρ 0 8) → 0 < ρ 0 4 → ∀ σ1 F, BL ρ σ1 → FoF ρ σ1 F → fD ρ σ1 (q0N ρ) → Q (seV F ρ (bdV ρ F x3) (q0N ρ) x1.toNat x2.toNat) σ1) : wp_X11_bounds x1 x2 x3 σ Q := by
  unfold wp_X11_bounds
  refine c_isPlace (fun hp => ⟨fun _ => hno (fun g => hp g.1), fun w => absurd rfl w⟩) (fun hp => ⟨fun w => absurd w (by decide), fun _ => ⟨fun h2 => hno (by omega), fun h2 => ⟨fun h3 => hno (by omega), fun h3 => ⟨fun h4 => ?_, fun h4 => hno (by omega)⟩⟩⟩⟩)
  have ok : (0 ≤ x1 ∧ x1 < 16) ∧ 0 ≤ x2 ∧ 0 ≤ x3 ∧ x3 ≤ 2 := ⟨hp, by omega, by omega, h4⟩
  refine c_wholeItem hW hk (fun h r hr => ⟨fun w => absurd w (by omega), fun _ => ?_⟩) (fun h h0 σ2 hB f => ⟨fun _ => ?_, fun w => absurd (by omega) w⟩)
  · unfold wp_X11_bounds_b48
    exact ⟨fun w => absurd w (by decide), fun _ => hz ok h⟩
  · refine c_tree hW (hk.bt hB f) (hK.bt f) h hp (fun σ1 F h1 h2 h3 => ⟨fun hlt => ?_, fun hge => ?_⟩)
    · unfold wp_X11_bounds_b48
      refine ⟨fun _ => c_follow hW.2.2.1 (wL hW) h1.1 h2 h3 hlt (fun σ3 a1 a2 a3 a4 => ?_), fun w => absurd (by omega) w⟩
      obtain ⟨b1, b2, b3⟩ := BL.wk (fun k hk => a4 k (by omega)) h1 h2 h3
      have y := hyes ok h h0 σ3 F b1 b2 b3
      unfold seV q0N at y
      rw [if_pos hlt] at y
      have hW3 : WSt ρ σ3 F (PTr ρ F (itN ρ (ρ 3 0) 0 (ρ 0 8)) x1.toNat 1) := ⟨a1, a3, gd_W b2 b3 hlt, by rw [lnT_len]; exact b2.bd.ln hW.2.2.1 (wL hW) b3 hlt⟩
      rw [a1, show x2 = ((x2.toNat : Nat) : Int) by omega]
      refine ⟨fun hx => ?_, fun hx => ?_⟩
      · have hx' : x2.toNat < (PTr ρ F (itN ρ (ρ 3 0) 0 (ρ 0 8)) x1.toNat 1).length := by omega
        rw [List.getElem?_eq_getElem hx'] at y
        have y : Q (bdV ρ F x3 (PTr ρ F (itN ρ (ρ 3 0) 0 (ρ 0 8)) x1.toNat 1)[x2.toNat]) σ3 := y
        unfold bdV at y
        refine ⟨fun e => ?_, fun e => ?_, fun e => ?_⟩
        · rw [if_pos e] at y
          exact c_beginOf hW.2.2.1 (wL hW) b1.1 b2 hW3 hx' y
        · rw [if_neg (by omega), if_pos e] at y
          exact c_middleOf hW.2.2.1 (wL hW) b1.1 b2 hW3 hx' y
        · rw [if_neg e.1, if_neg e.2] at y
          exact c_finishOf hW.2.2.1 (wL hW) b1.1 b2 hW3 hx' y
      · rw [List.getElem?_eq_none (by omega)] at y; exact y
    · have y := hyes ok h h0 σ1 F h1 h2 h3
      unfold seV q0N at y
      rw [if_neg (by omega)] at y
      unfold wp_X11_bounds_b48
      exact ⟨fun w => absurd w (by decide), fun _ => y⟩
theorem r_bounds {ρ τ : St} (hW : WW ρ) (hV : VR τ ρ) {F : Fo} {D : Nat → Prop} {x1 x2 x3 : Int} (hh : ((0 ≤ x1 ∧ x1 < 16) ∧ 0 ≤ x2 ∧ 0 ≤ x3 ∧ x3 ≤ 2) → ¬ (ρ 0 4 = 0 ∨ ρ 0 8 = 0) → isItm ρ (ρ 3 0) 0 (ρ 0 8) ∧ FBd ρ F D ∧ D (q0N ρ)) {Q : Int → St → Prop} (hno : ¬ ((0 ≤ x1 ∧ x1 < 16) ∧ 0 ≤ x2 ∧ 0 ≤ x3 ∧ x3 ≤ 2) → Q (-2) τ) (hz : ((0 ≤ x1 ∧ x1 < 16) ∧ 0 ≤ x2 ∧ 0 ≤ x3 ∧ x3 ≤ 2) → (ρ 0 4 = 0 ∨ ρ 0 8 = 0) → Q (-1) τ) (hyes : ((0 ≤ x1 ∧ x1 < 16) ∧ 0 ≤ x2 ∧ 0 ≤ x3 ∧ x3 ≤ 2) → ¬ (ρ 0 4 = 0 ∨ ρ 0 8 = 0) → ∀ τ1, Q (seV F ρ (bdV ρ F x3) (q0N ρ) x1.toNat x2.toNat) τ1) : wp_X12_bounds x1 x2 x3 τ Q := by
  have h4 := hW.2.2.1.1
  unfold wp_X12_bounds
  refine r_isPlace (fun hp => ⟨fun _ => hno (fun g => hp g.1), fun w => absurd rfl w⟩) (fun hp => ⟨fun w => absurd w (by decide), fun _ => ⟨fun h2 => hno (by omega), fun h2 => r_in ?_⟩⟩)
  by_cases h3 : 0 ≤ x3 ∧ x3 ≤ 2
  · rw [if_pos h3]
    have ok : (0 ≤ x1 ∧ x1 < 16) ∧ 0 ≤ x2 ∧ 0 ≤ x3 ∧ x3 ≤ 2 := ⟨hp, by omega, h3⟩
    refine ⟨fun _ => ?_, fun w => absurd (by decide) w⟩
    rw [hV.2.2.2.2.2.1, hV.2.2.2.1.1]
    refine ⟨fun h8 => hz ok (Or.inr h8), fun h8 => ⟨fun h1 => ?_, fun h1 => hz ok (Or.inl (Classical.byContradiction h1))⟩⟩
    have hn : ¬ (ρ 0 4 = 0 ∨ ρ 0 8 = 0) := fun g => g.elim h1 h8
    obtain ⟨h, hB, hq⟩ := hh ok hn
    refine mf_X12_laysBest (σ0 := τ) (Q := fun _ τ1 => ∃ G, RAll ρ τ1 G) (fun _ τ1 hA fr => ?_) Fr.rf (r_laysBest hW hV (fun τ1 G hA => ⟨G, hA⟩))
    obtain ⟨G, hA⟩ := hA
    have hR := r_same hW.2.2.1 (wL hW) hB.1 hB.2.1 hB.2.2 hA
    have e15 : τ1 0 15 = ρ 0 8 := by rw [fr.at rfl]; exact hV.2.2.2.2.2.1
    have y := hyes ok hn τ1
    unfold seV at y
    refine r_start hA.2.2.2.1 (fun g => (hA.2.2.2.2.1 0 g).1) (fun g => absurd g h1) (fun g => ?_) h4
    rw [e15]
    refine r_treeOf hW hR h hq hp (fun hlt => ?_) (fun hge => ?_)
    · have hlt' : x1.toNat < F.1 (q0N ρ) := hlt
      rw [if_pos hlt'] at y
      rw [show x2 = ((x2.toNat : Nat) : Int) by omega]
      refine r_stepV hW hB hR hq hlt (fun e he d1 d2 => ?_) (fun hnn => ?_)
      · obtain ⟨n0, n1, n2, n3, n4, n5, -⟩ := (hR _ d1).2.2.2 _ d2
        have he' : (PTr ρ F (q0N ρ) x1.toNat 1)[x2.toNat]? = some e := he
        rw [he'] at y
        have y : Q (bdV ρ F x3 e) τ1 := y
        unfold bdV at y
        rw [n3, n4, n5]
        refine ⟨fun _ => ⟨fun hx => ⟨fun hx2 => ⟨⟨n0, n1⟩, ?_⟩, fun hx2 => ⟨⟨n0, n1⟩, ?_⟩⟩, fun hx => ⟨⟨n0, n1⟩, ?_⟩⟩, fun w => absurd (by omega) w⟩
        · rw [if_neg hx, if_neg hx2] at y; exact y
        · rw [if_neg hx, if_pos (Classical.byContradiction hx2)] at y; exact y
        · rw [if_pos (Classical.byContradiction hx)] at y; exact y
      · have hnn' : (PTr ρ F (q0N ρ) x1.toNat 1)[x2.toNat]? = none := hnn
        rw [hnn'] at y
        exact ⟨fun w => absurd rfl w, fun _ => y⟩
    · have hge' : F.1 (q0N ρ) ≤ x1.toNat := hge
      rw [if_neg (by omega)] at y
      unfold wp_X12_stepOf
      exact ⟨fun _ => ⟨fun w => absurd rfl w, fun _ => y⟩, fun w => absurd rfl w⟩
  · rw [if_neg h3]
    exact ⟨fun w => absurd rfl w, fun _ => hno (fun g => h3 g.2.2)⟩
section OPS
variable {Cc : Bool → St → St → Prop}
theorem s_bounds (hC : CcL Cc) (hK : CcK Cc) : Step_bounds (Inv Cc) := by
  rintro b σ τ ⟨ρ, hW, hVC, hVR, hc⟩ x1 x2 x3 c1 c2 c3
  have hk := hC.kl hVC hc
  have hf := hK.1 b σ ρ hc
  refine mf_X11_bounds (σ0 := σ) (Q := fun r σ1 => (¬ ((0 ≤ x1 ∧ x1 < 16) ∧ 0 ≤ x2 ∧ 0 ≤ x3 ∧ x3 ≤ 2) ∧ r = -2 ∧ σ1 = σ) ∨ (((0 ≤ x1 ∧ x1 < 16) ∧ 0 ≤ x2 ∧ 0 ≤ x3 ∧ x3 ≤ 2) ∧ (ρ 0 4 = 0 ∨ ρ 0 8 = 0) ∧ r = -1 ∧ σ1 = σ) ∨ (((0 ≤ x1 ∧ x1 < 16) ∧ 0 ≤ x2 ∧ 0 ≤ x3 ∧ x3 ≤ 2) ∧ isItm ρ (ρ 3 0) 0 (ρ 0 8) ∧ 0 < ρ 0 4 ∧ ∃ F, BL ρ σ1 ∧ FoF ρ σ1 F ∧ fD ρ σ1 (q0N ρ) ∧ r = seV F ρ (bdV ρ F x3) (q0N ρ) x1.toNat x2.toNat)) (fun r σ1 h f => ?_) Fr.rf (c_bounds hW hk hf (fun h => Or.inl ⟨h, rfl, rfl⟩) (fun h g => Or.inr (Or.inl ⟨h, g, rfl, rfl⟩)) (fun h g0 g4 σ1 F g1 g2 g3 => Or.inr (Or.inr ⟨h, g0, g4, F, g1, g2, g3, rfl⟩)))
  have hv : VC σ1 ρ := VC.frB f (by decide) hVC
  rcases h with ⟨no, rfl, rfl⟩ | ⟨ok, hz, rfl, rfl⟩ | ⟨ok, hi, h4, F, g1, g2, g3, rfl⟩
  · exact mf_X12_bounds (σ0 := τ) (Q := fun r1 _ => r1 = -2) (fun r1 τ1 h1 f1 => ⟨h1.symm, ρ, hW, hv, VR.frB f1 (by decide) hVR, hc⟩) Fr.rf (r_bounds hW hVR (F := (fun _ => 0, fun _ _ => (0, 0, 0, 0))) (D := fun _ => False) (fun g => absurd g no) (fun _ => rfl) (fun g => absurd g no) (fun g => absurd g no))
  · exact mf_X12_bounds (σ0 := τ) (Q := fun r1 _ => r1 = -1) (fun r1 τ1 h1 f1 => ⟨h1.symm, ρ, hW, hv, VR.frB f1 (by decide) hVR, hc⟩) Fr.rf (r_bounds hW hVR (F := (fun _ => 0, fun _ _ => (0, 0, 0, 0))) (D := fun _ => False) (fun _ g => absurd hz g) (fun g => absurd ok g) (fun _ _ => rfl) (fun _ g => absurd hz g))
  · have hc1 := (KSt.bl (σ := σ) g1 ⟨F, g2⟩).cc hK (by decide) f hc
    have nz : ¬ (ρ 0 4 = 0 ∨ ρ 0 8 = 0) := by
      rintro (g | g)
      · omega
      · have := hi.2.2.1; omega
    exact mf_X12_bounds (σ0 := τ) (Q := fun r1 _ => r1 = seV F ρ (bdV ρ F x3) (q0N ρ) x1.toNat x2.toNat) (fun r1 τ1 h1 f1 => ⟨h1.symm, ρ, hW, hv, VR.frB f1 (by decide) hVR, hc1⟩) Fr.rf (r_bounds hW hVR (fun _ _ => ⟨hi, g2.bd, g3⟩) (fun g => absurd ok g) (fun _ g => absurd g nz) (fun _ _ τ1 => rfl))
end OPS
/-! alike -/
def alV (ρ : St) (F : Fo) (q k l : Nat) : Int := if k < F.1 q ∧ l < F.1 q then (alkL ((PTr ρ F q k 1).map (kyS F)) ((PTr ρ F q l 1).map (kyS F)) : Nat) else -1
theorem FBd.both {ρ : St} (hg : Wg ρ) (hL : LL ρ < 9) {F G : Fo} {D E : Nat → Prop} (hF : FBd ρ F D) (hG : FBd ρ G E) {q : Nat} (hq : D q) (hq2 : E q) : F.1 q = G.1 q := by
  refine (fo_same hg hL (D := fun p => D p ∧ E p) ?_ ?_ (fun p hp => hF.2.1 p hp.1) (fun p hp => hF.2.2 p hp.1) (fun p hp => hG.2.2 p hp.2) q ⟨hq, hq2⟩).1
  · rintro p ⟨h1, h2⟩
    obtain ⟨a1, a2, a3⟩ := hF.1 p h1
    have b3 := (hG.1 p h2).2.2
    exact ⟨a1, a2, fun t ht => ⟨fun h0 => ⟨(a3 t ht).1 h0, (b3 t ht).1 h0⟩, fun h0 => ⟨(a3 t ht).2.1 h0, (b3 t ht).2.1 h0⟩, (a3 t ht).2.2⟩⟩
  · rintro p ⟨h1, h2⟩
    obtain ⟨a1, a2, a3⟩ := hG.1 p h2
    have b3 := (hF.1 p h1).2.2
    exact ⟨a1, a2, fun t ht => ⟨fun h0 => ⟨(b3 t ht).1 h0, (a3 t ht).1 h0⟩, fun h0 => ⟨(b3 t ht).2.1 h0, (a3 t ht).2.1 h0⟩, (a3 t ht).2.2⟩⟩
theorem c_alike {ρ σ : St} (hW : WW ρ) (hk : KL ρ σ) (hK : FoK ρ σ) {x1 x2 x3 x4 x5 : Int} {Q : Int → St → Prop} (hno : ¬ (isItm ρ x1 x2 x3 ∧ (0 ≤ x4 ∧ x4 < 16) ∧ 0 ≤ x5 ∧ x5 < 16) → ∀ σ1, KSt ρ σ σ1 → Q (-2) σ1) (hyes : (isItm ρ x1 x2 x3 ∧ (0 ≤ x4 ∧ x4 < 16) ∧ 0 ≤ x5 ∧ x5 < 16) → ∀ σ1 F, BL ρ σ1 → FoF ρ σ1 F → fD ρ σ1 (itN ρ x1 x2 x3) → Q (alV ρ F (itN ρ x1 x2 x3) x4.toNat x5.toNat) σ1) : wp_X11_alike x1 x2 x3 x4 x5 σ Q := by
  unfold wp_X11_alike
  refine c_itemOf hW hk.1 hk.2.1 hk.2.2.1 (fun h => ⟨fun _ => hno (fun g => h g.1) σ (Or.inl rfl), fun w => absurd (by decide) w⟩) (fun h σ2 hB f => ⟨fun w => absurd w (by omega), fun _ => c_isPlace (fun hp => ⟨fun _ => hno (fun g => hp g.2.1) σ2 (KSt.bt hk hK hB f), fun w => absurd rfl w⟩) (fun hp => ⟨fun w => absurd w (by decide), fun _ => c_isPlace (fun hp5 => ⟨fun w => absurd rfl w, fun _ => hno (fun g => hp5 g.2.2) σ2 (KSt.bt hk hK hB f)⟩) (fun hp5 => ⟨fun _ => ?_, fun w => absurd (by decide) w⟩)⟩)⟩)
  have ok : isItm ρ x1 x2 x3 ∧ (0 ≤ x4 ∧ x4 < 16) ∧ 0 ≤ x5 ∧ x5 < 16 := ⟨h, hp, hp5⟩
  -- the second tree, whatever the first
  have second : ∀ (σ3 : St) (F : Fo) (r7 : Int), BL ρ σ3 → FoF ρ σ3 F → fD ρ σ3 (itN ρ x1 x2 x3) → ((x4.toNat < F.1 (itN ρ x1 x2 x3) ∧ r7 = ((16 * itN ρ x1 x2 x3 + x4.toNat : Nat) : Int)) ∨ (F.1 (itN ρ x1 x2 x3) ≤ x4.toNat ∧ r7 = -1)) → wp_X3_treeOf (itN ρ x1 x2 x3 : Nat) x5 σ3 (fun r9 σ10 => ((r7 < 0) → Q ((-1)) σ10) ∧ (¬ (r7 < 0) → ((r9 ≥ 0) → wp_X10_follow r7 σ10 (fun r11 σ12 => wp_X10_follow_o r9 σ12 (fun r13 σ14 => wp_X10_alikeWith_c72 σ14 (fun r15 σ16 => Q r15 σ16)))) ∧ (¬ (r9 ≥ 0) → Q ((-1)) σ10))) := by
    intro σ3 F r7 h1 h2 h3 h7
    refine c_tree hW (KL.of h1.1 h1.2.1 h1.2.2) ⟨F, h2⟩ h hp5 (fun σ4 G k1 k2 k3 => ?_)
    have eF := FBd.both hW.2.2.1 (wL hW) h2.bd k2.bd h3 k3
    rw [eF] at h7
    have y := hyes ok σ4 G k1 k2 k3
    unfold alV at y
    refine ⟨fun hlt => ?_, fun hge => ?_⟩
    · rcases h7 with ⟨h7, rfl⟩ | ⟨h7, rfl⟩
      · refine ⟨fun w => absurd w (by omega), fun _ => ⟨fun _ => c_follow hW.2.2.1 (wL hW) k1.1 k2 k3 h7 (fun σ5 a1 a2 a3 a4 => ?_), fun w => absurd (by omega) w⟩⟩
        obtain ⟨b1, b2, b3⟩ := BL.wk (fun k hk => a4 k (by omega)) k1 k2 k3
        refine c_followo hW.2.2.1 (wL hW) b1.1 b2 b3 hlt (fun σ6 d1 d2 d3 d4 => ?_)
        obtain ⟨e1, e2, e3⟩ := BL.wk (fun k hk => d4 k (by omega)) b1 b2 b3
        have hW3 : WSt ρ σ6 G (PTr ρ G (itN ρ x1 x2 x3) x4.toNat 1) := ⟨by rw [d4 68 (by decide)]; exact a1, fun i hi => by rw [d4 71 (by decide)]; exact a3 i hi, gd_W e2 e3 h7, by rw [lnT_len]; exact e2.bd.ln hW.2.2.1 (wL hW) e3 h7⟩
        have hU3 : WSo ρ σ6 G (PTr ρ G (itN ρ x1 x2 x3) x5.toNat 1) := ⟨d1, d3, gd_W e2 e3 hlt, by rw [lnT_len]; exact e2.bd.ln hW.2.2.1 (wL hW) e3 hlt⟩
        have y := hyes ok σ6 G e1 e2 e3
        unfold alV at y
        rw [if_pos ⟨h7, hlt⟩] at y
        exact c_alikeWith hW.2.2.1 (wL hW) e1.1 e2 hW3 hU3 y
      · rw [if_neg (by omega)] at y
        exact ⟨fun _ => y, fun w => absurd (by decide) w⟩
    · rw [if_neg (by omega)] at y
      exact ⟨fun _ => y, fun _ => ⟨fun w => absurd w (by decide), fun _ => y⟩⟩
  refine c_tree hW (hk.bt hB f) (hK.bt f) h hp (fun σ1 F h1 h2 h3 => ⟨fun hlt => second σ1 F _ h1 h2 h3 (Or.inl ⟨hlt, rfl⟩), fun hge => second σ1 F _ h1 h2 h3 (Or.inr ⟨hge, rfl⟩)⟩)
theorem r_alike {ρ τ : St} (hW : WW ρ) (hV : VR τ ρ) {F : Fo} {D : Nat → Prop} {x1 x2 x3 x4 x5 : Int} (hh : (isItm ρ x1 x2 x3 ∧ (0 ≤ x4 ∧ x4 < 16) ∧ 0 ≤ x5 ∧ x5 < 16) → FBd ρ F D ∧ D (itN ρ x1 x2 x3)) {Q : Int → St → Prop} (hno : ¬ (isItm ρ x1 x2 x3 ∧ (0 ≤ x4 ∧ x4 < 16) ∧ 0 ≤ x5 ∧ x5 < 16) → Q (-2) τ) (hyes : (isItm ρ x1 x2 x3 ∧ (0 ≤ x4 ∧ x4 < 16) ∧ 0 ≤ x5 ∧ x5 < 16) → ∀ τ1, Q (alV ρ F (itN ρ x1 x2 x3) x4.toNat x5.toNat) τ1) : wp_X12_alike x1 x2 x3 x4 x5 τ Q := by
  unfold wp_X12_alike
  refine r_isItem hV.2.2.2.2.2.1 (fun h => ⟨fun _ => hno (fun g => h g.1), fun w => absurd rfl w⟩) (fun h => ⟨fun w => absurd w (by decide), fun _ => r_isPlace (fun hp => ⟨fun _ => hno (fun g => hp g.2.1), fun w => absurd rfl w⟩) (fun hp => ⟨fun w => absurd w (by decide), fun _ => r_isPlace (fun hp5 => ⟨fun w => absurd rfl w, fun _ => hno (fun g => hp5 g.2.2)⟩) (fun hp5 => ⟨fun _ => r_laysBest hW hV (fun τ1 G hA => ?_), fun w => absurd (by decide) w⟩)⟩)⟩)
  have ok : isItm ρ x1 x2 x3 ∧ (0 ≤ x4 ∧ x4 < 16) ∧ 0 ≤ x5 ∧ x5 < 16 := ⟨h, hp, hp5⟩
  obtain ⟨hB, hq⟩ := hh ok
  have hR := r_same hW.2.2.1 (wL hW) hB.1 hB.2.1 hB.2.2 hA
  have y := hyes ok τ1
  unfold alV at y
  refine r_treeOf hW hR h hq hp (fun hlt => ?_) (fun hge => ?_)
  · have n0 := ((hR _ hq).2.2.2 _ hlt).1
    refine r_treeOf hW hR h hq hp5 (fun hlt5 => ?_) (fun hge5 => ?_)
    · have m0 := ((hR _ hq).2.2.2 _ hlt5).1
      rw [if_pos ⟨hlt, hlt5⟩] at y
      exact ⟨fun w => absurd w (by omega), fun _ => ⟨fun _ => r_alikes hW.2.2.1 (wL hW) hB.1 (fun q hq => (hB.2.2 q hq).sg) hR hq hlt hlt5 y, fun w => absurd (by omega) w⟩⟩
    · rw [if_neg (by omega)] at y
      exact ⟨fun _ => y, fun _ => ⟨fun w => absurd rfl w, fun _ => y⟩⟩
  · rw [if_neg (by omega)] at y
    exact r_treeOf hW hR h hq hp5 (fun hlt5 => ⟨fun _ => y, fun w => absurd rfl w⟩) (fun hge5 => ⟨fun _ => y, fun w => absurd rfl w⟩)
section OPS
variable {Cc : Bool → St → St → Prop}
theorem s_alike (hC : CcL Cc) (hK : CcK Cc) : Step_alike (Inv Cc) := by
  rintro b σ τ ⟨ρ, hW, hVC, hVR, hc⟩ x1 x2 x3 x4 x5 c1 c2 c3 c4 c5
  have hk := hC.kl hVC hc
  have hf := hK.1 b σ ρ hc
  refine mf_X11_alike (σ0 := σ) (Q := fun r σ1 => (¬ (isItm ρ x1 x2 x3 ∧ (0 ≤ x4 ∧ x4 < 16) ∧ 0 ≤ x5 ∧ x5 < 16) ∧ r = -2 ∧ KSt ρ σ σ1) ∨ ((isItm ρ x1 x2 x3 ∧ (0 ≤ x4 ∧ x4 < 16) ∧ 0 ≤ x5 ∧ x5 < 16) ∧ ∃ F, BL ρ σ1 ∧ FoF ρ σ1 F ∧ fD ρ σ1 (itN ρ x1 x2 x3) ∧ r = alV ρ F (itN ρ x1 x2 x3) x4.toNat x5.toNat)) (fun r σ1 h f => ?_) Fr.rf (c_alike hW hk hf (fun h σ1 g => Or.inl ⟨h, rfl, g⟩) (fun h σ1 F g1 g2 g3 => Or.inr ⟨h, F, g1, g2, g3, rfl⟩))
  have hv : VC σ1 ρ := VC.frB f (by decide) hVC
  rcases h with ⟨no, rfl, ks⟩ | ⟨ok, F, g1, g2, g3, rfl⟩
  · have hc1 := ks.cc hK (by decide) f hc
    exact mf_X12_alike (σ0 := τ) (Q := fun r1 _ => r1 = -2) (fun r1 τ1 h1 f1 => ⟨h1.symm, ρ, hW, hv, VR.frB f1 (by decide) hVR, hc1⟩) Fr.rf (r_alike hW hVR (F := (fun _ => 0, fun _ _ => (0, 0, 0, 0))) (D := fun _ => False) (fun g => absurd g no) (fun _ => rfl) (fun g => absurd g no))
  · have hc1 := (KSt.bl (σ := σ) g1 ⟨F, g2⟩).cc hK (by decide) f hc
    exact mf_X12_alike (σ0 := τ) (Q := fun r1 _ => r1 = alV ρ F (itN ρ x1 x2 x3) x4.toNat x5.toNat) (fun r1 τ1 h1 f1 => ⟨h1.symm, ρ, hW, hv, VR.frB f1 (by decide) hVR, hc1⟩) Fr.rf (r_alike hW hVR (fun _ => ⟨g2.bd, g3⟩) (fun g => absurd ok g) (fun _ τ1 => rfl))
end OPS
