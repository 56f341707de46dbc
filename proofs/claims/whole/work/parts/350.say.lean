/-! say -/
def smA (ρ : St) (n : Int) : Prop := ∀ k : Nat, (k : Int) < n → 97 ≤ ρ 1 k ∧ ρ 1 k ≤ 122
def sayS (ρ : St) : St := fun a b => if a = 0 ∧ b = 0 then 0 else if a = 0 ∧ b = 8 then ρ 0 0 else if a = 11 then ρ 1 b - 97 else ρ a b
theorem c_isSmall {x : Int} {σ : St} {Q : Int → St → Prop} (h : Q (if 97 ≤ x ∧ x ≤ 122 then 1 else 0) σ) : wp_X6_isSmall x σ Q := by
  unfold wp_X6_isSmall wp_X6_isSmall_b16
  refine ⟨fun h1 => ?_, fun h1 => ⟨fun h2 => ?_, fun h2 => ?_⟩⟩
  · rw [if_neg (by omega)] at h; exact h
  · rw [if_neg (by omega)] at h; exact h
  · rw [if_pos (by omega)] at h; exact h
theorem c_lettersAlone {ρ σ : St} {n : Int} (hn : 0 ≤ n ∧ n ≤ 8) (ht : ∀ k : Nat, (k : Int) < n → σ 1 k = ρ 1 k) {Q : Int → St → Prop} (h1 : smA ρ n → Q 1 σ) (h0 : ¬ smA ρ n → Q 0 σ) : wp_X11_lettersAlone n σ Q := by
  have lp : ∀ (d x : Nat) (f : Nat), (x : Int) + d = n → d < f → (∀ k : Nat, k < x → 97 ≤ ρ 1 k ∧ ρ 1 k ≤ 122) → wp_X11_lettersAlone_l2 Q f n (x : Int) σ := by
    intro d
    induction d with
    | zero =>
      intro x f hd hf ha
      obtain ⟨f, rfl⟩ := suc_n hf
      unfold wp_X11_lettersAlone_l2
      exact ⟨fun _ => h1 (fun k hk => ha k (by omega)), fun q => absurd (by omega) q⟩
    | succ d ih =>
      intro x f hd hf ha
      obtain ⟨f, rfl⟩ := suc_n hf
      unfold wp_X11_lettersAlone_l2
      refine ⟨fun q => absurd q (by push_cast at hd; omega), fun _ => ⟨by push_cast at hd; omega, c_isSmall ?_⟩⟩
      rw [Int.toNat_natCast, ht x (by push_cast at hd; omega)]
      by_cases hs : 97 ≤ ρ 1 x ∧ ρ 1 x ≤ 122
      · rw [if_pos hs]
        refine ⟨fun _ v e => ?_, fun q => absurd (by decide) q⟩
        rw [w32_of (by omega) (by push_cast at hd; omega), show (x : Int) + 1 = ((x + 1 : Nat) : Int) by omega] at e
        rw [e]
        refine ih (x + 1) f (by push_cast at hd ⊢; omega) (by omega) (fun k hk => ?_)
        by_cases hkx : k = x
        · rw [hkx]; exact hs
        · exact ha k (by omega)
      · rw [if_neg hs]
        exact ⟨fun q => absurd rfl q, fun _ => h0 (fun q => hs (q x (by push_cast at hd; omega)))⟩
  unfold wp_X11_lettersAlone
  exact lp n.toNat 0 bigN (by omega) (by unfold bigN; omega) (fun k hk => by omega)
theorem c_hear {ρ σ : St} {n : Int} (hn : 0 ≤ n ∧ n ≤ 8) (ht : ∀ k : Nat, (k : Int) < n → σ 1 k = ρ 1 k) (hs : smA ρ n) {Q : Int → St → Prop} (hq : ∀ σ1, σ1 24 2 = n → (∀ k : Nat, (k : Int) < n → σ1 25 k = ρ 1 k - 97) → Fr S_X0_hear_c1 σ σ1 → Q 0 σ1) : wp_X0_hear_c1 n σ Q := by
  refine mf_X0_hear_c1 (Q := fun r σ1 => r = 0 ∧ σ1 24 2 = n ∧ ∀ k : Nat, (k : Int) < n → σ1 25 k = ρ 1 k - 97) (fun r σ1 h f => by rw [h.1]; exact hq σ1 h.2.1 h.2.2 f) Fr.rf ?_
  have lp : ∀ (d x : Nat) (σ : St) (f : Nat), (x : Int) + d = n → d < f → σ 24 2 = n → (∀ k : Nat, (k : Int) < n → σ 1 k = ρ 1 k) → (∀ k : Nat, k < x → σ 25 k = ρ 1 k - 97) → wp_X0_hear_c1_l17 (fun r σ1 => r = 0 ∧ σ1 24 2 = n ∧ ∀ k : Nat, (k : Int) < n → σ1 25 k = ρ 1 k - 97) f (x : Int) σ := by
    intro d
    induction d with
    | zero =>
      intro x σ f hd hf h24 h1 ha
      obtain ⟨f, rfl⟩ := suc_n hf
      unfold wp_X0_hear_c1_l17
      rw [h24]
      exact ⟨fun _ => ⟨rfl, rfl, fun k hk => ha k (by omega)⟩, fun q => absurd (by omega) q⟩
    | succ d ih =>
      intro x σ f hd hf h24 h1 ha
      obtain ⟨f, rfl⟩ := suc_n hf
      unfold wp_X0_hear_c1_l17
      rw [h24]
      refine ⟨fun q => absurd q (by push_cast at hd; omega), fun _ => ⟨by push_cast at hd; omega, by push_cast at hd; omega, fun σ2 e2 v e => ?_⟩⟩
      have hx := hs x (by push_cast at hd; omega)
      rw [Int.toNat_natCast, h1 x (by push_cast at hd; omega), w32_of (by omega) (by omega)] at e2
      rw [w32_of (by omega) (by push_cast at hd; omega), show (x : Int) + 1 = ((x + 1 : Nat) : Int) by omega] at e
      rw [e]
      refine ih (x + 1) σ2 f (by push_cast at hd ⊢; omega) (by omega) (by rw [e2]; exact h24) (fun k hk => by rw [e2]; exact h1 k hk) (fun k hk => ?_)
      by_cases hkx : k = x
      · rw [hkx, e2, upS_s]
      · rw [e2, upS_j hkx]; exact ha k (by omega)
  unfold wp_X0_hear_c1
  intro σ1 e1
  rw [show min (min n 8) 1000 = n by omega] at e1
  exact lp n.toNat 0 σ1 bigN (by omega) (by unfold bigN; omega) (by rw [e1, upS_s]) (fun k hk => by rw [e1]; exact ht k hk) (fun k hk => by omega)
theorem c_say {ρ σ : St} (hW : WW ρ) (hV : VC σ ρ) {Q : Int → St → Prop} (hno : ¬ (ρ 0 0 ≤ 8 ∧ smA ρ (ρ 0 0)) → ∀ σ1, σ1 = upS σ 0 1 0 → VC σ1 (upS ρ 0 0 0) → Q (-4) σ1) (hyes : (ρ 0 0 ≤ 8 ∧ smA ρ (ρ 0 0)) → ∀ σ1, FgA σ1 → VC σ1 (sayS ρ) → Q (ρ 0 0) σ1) : wp_X11_say σ Q := by
  obtain ⟨⟨t1, t2⟩, vo, vf, vg, vb, vs⟩ := hV
  have w0 := hW.1.1
  unfold wp_X11_say
  intro v1 e1 σ2 e2
  rw [t1] at e1
  have hV2 : VC σ2 (upS ρ 0 0 0) := by
    rw [e2]
    exact ⟨⟨by rw [upS_s, upS_s], fun j hj => by rw [upS_s] at hj; omega⟩, vo, vf, vg, vb, vs⟩
  rw [e1]
  refine ⟨fun q => hno (fun w => by omega) σ2 e2 hV2, fun q => ?_⟩
  have ht : ∀ k : Nat, (k : Int) < ρ 0 0 → σ2 1 k = ρ 1 k := fun k hk => by rw [e2]; exact t2 k hk
  refine c_lettersAlone ⟨w0, by omega⟩ ht (fun hs => ⟨fun _ => ?_, fun q => absurd (by decide) q⟩) (fun hs => ⟨fun q => absurd rfl q, fun _ => hno (fun w => hs w.2) σ2 e2 hV2⟩)
  refine c_hear ⟨w0, by omega⟩ ht hs (fun σ3 a1 a2 f3 => c_forgetCases (fun σ4 hf f4 => hyes ⟨by omega, hs⟩ σ4 hf (VC.frB f4 (by decide) ?_)))
  obtain ⟨⟨s1, s2⟩, so, sf, sg, sb, ss⟩ := hV2
  refine ⟨⟨?_, fun j hj => ?_⟩, so.fr f3 ⟨rfl, fun _ => rfl⟩, sf.fr f3 ⟨rfl, rfl⟩, sg.fr f3 ⟨rfl, fun _ => rfl, fun _ => rfl, fun _ => rfl, fun _ => rfl, fun _ => rfl, fun _ => rfl⟩, sb.fr f3 ⟨rfl, rfl, rfl, fun _ => rfl, fun _ => rfl⟩, ⟨a1, fun j hj => a2 j hj⟩⟩
  · rw [f3.at rfl, s1]; rfl
  · exact absurd (show (j : Int) < 0 from hj) (by omega)
theorem r_say {ρ τ : St} (hW : WW ρ) (hV : VR τ ρ) {Q : Int → St → Prop} (hno : ¬ (ρ 0 0 ≤ 8 ∧ smA ρ (ρ 0 0)) → ∀ τ1, VR τ1 (upS ρ 0 0 0) → Q (-4) τ1) (hyes : (ρ 0 0 ≤ 8 ∧ smA ρ (ρ 0 0)) → ∀ τ1, VR τ1 (sayS ρ) → Q (ρ 0 0) τ1) : wp_X12_say τ Q := by
  obtain ⟨⟨t1, t2⟩, vo, vf, vg, vb, vs⟩ := hV
  obtain ⟨w0, w1, w2⟩ := hW.1
  unfold wp_X12_say
  intro v1 e1 τ2 e2
  rw [t1] at e1
  have hV2 : VR τ2 (upS ρ 0 0 0) := by
    rw [e2]
    exact ⟨⟨by rw [upS_s, upS_s], fun j hj => by rw [upS_s] at hj; omega⟩, vo, vf, vg, vb, vs⟩
  have h12 : ∀ k : Nat, (k : Int) < ρ 0 0 → τ2 12 k = sby (ρ 1 k) := fun k hk => by rw [e2]; exact t2 k hk
  rw [e1]
  refine ⟨fun q => ?_, fun q => hno (fun w => q w.1) τ2 hV2⟩
  have lp2 : smA ρ (ρ 0 0) → ∀ (d x : Nat) (τ3 : St) (f : Nat), (x : Int) + d = ρ 0 0 → d < f → (∀ k : Nat, (k : Int) < ρ 0 0 → τ3 12 k = sby (ρ 1 k)) → (∀ k : Nat, k < x → τ3 11 k = ρ 1 k - 97) → τ3 0 17 = 0 → VRo τ3 (sayS ρ) → VRf τ3 (sayS ρ) → VRg τ3 (sayS ρ) → VRb τ3 (sayS ρ) → τ3 0 15 = ρ 0 0 → wp_X12_say_l61 Q f (ρ 0 0) (x : Int) τ3 := by
    intro hs d
    induction d with
    | zero =>
      intro x τ3 f hd hf h1 h2 h3 ho hf' hg hb h15
      obtain ⟨f, rfl⟩ := suc_n hf
      unfold wp_X12_say_l61
      refine ⟨fun _ => hyes ⟨q, hs⟩ τ3 ⟨⟨h3, fun j hj => ?_⟩, ho, hf', hg, hb, ⟨h15, fun j hj => h2 j ?_⟩⟩, fun q => absurd (by omega) q⟩
      · exact absurd (show (j : Int) < 0 from hj) (by omega)
      · have : (j : Int) < ρ 0 0 := hj
        omega
    | succ d ih =>
      intro x τ3 f hd hf h1 h2 h3 ho hf' hg hb h15
      obtain ⟨f, rfl⟩ := suc_n hf
      unfold wp_X12_say_l61
      refine ⟨fun q => absurd q (by push_cast at hd; omega), fun _ => ⟨by push_cast at hd; omega, by push_cast at hd; omega, fun τ4 e4 v e => ?_⟩⟩
      have hx := hs x (by push_cast at hd; omega)
      rw [Int.toNat_natCast, h1 x (by push_cast at hd; omega), show sby (ρ 1 x) = ρ 1 x by unfold sby; rw [if_pos (by omega)], w32_of (by omega) (by omega)] at e4
      rw [w32_of (by omega) (by push_cast at hd; omega), show (x : Int) + 1 = ((x + 1 : Nat) : Int) by omega] at e
      rw [e]
      refine ih (x + 1) τ4 f (by push_cast at hd ⊢; omega) (by omega) (fun k hk => by rw [e4]; exact h1 k hk) (fun k hk => ?_) (by rw [e4]; exact h3) (by rw [e4]; exact ho) (by rw [e4]; exact hf') (by rw [e4]; exact hg) (by rw [e4]; exact hb) (by rw [e4]; exact h15)
      by_cases hkx : k = x
      · rw [hkx, e4, upS_s]
      · rw [e4, upS_j hkx]; exact h2 k (by omega)
  have lp : ∀ (d x : Nat) (f : Nat), (x : Int) + d = ρ 0 0 → d < f → (∀ k : Nat, k < x → 97 ≤ ρ 1 k ∧ ρ 1 k ≤ 122) → wp_X12_say_l21 Q f (ρ 0 0) (x : Int) τ2 := by
    intro d
    induction d with
    | zero =>
      intro x f hd hf ha
      obtain ⟨f, rfl⟩ := suc_n hf
      unfold wp_X12_say_l21
      refine ⟨fun _ τ3 e3 => ?_, fun q => absurd (by omega) q⟩
      obtain ⟨⟨s1, s2⟩, so, sf, sg, sb, ss⟩ := hV2
      refine lp2 (fun k hk => ha k (by omega)) (ρ 0 0).toNat 0 τ3 bigN (by omega) (by unfold bigN; omega) (fun k hk => by rw [e3]; exact h12 k hk) (fun k hk => by omega) (by rw [e3]; exact s1) (by rw [e3]; exact so) (by rw [e3]; exact sf) (by rw [e3]; exact sg) (by rw [e3]; exact sb) (by rw [e3, upS_s])
    | succ d ih =>
      intro x f hd hf ha
      obtain ⟨f, rfl⟩ := suc_n hf
      unfold wp_X12_say_l21
      refine ⟨fun q => absurd q (by push_cast at hd; omega), fun _ => ⟨by push_cast at hd; omega, r_in ?_⟩⟩
      have hb := w2 x (by push_cast at hd; omega)
      rw [Int.toNat_natCast, h12 x (by push_cast at hd; omega)]
      by_cases hs : 97 ≤ ρ 1 x ∧ ρ 1 x ≤ 122
      · rw [show sby (ρ 1 x) = ρ 1 x by unfold sby; rw [if_pos (by omega)], if_pos hs]
        refine ⟨fun _ v e => ?_, fun q => absurd (by decide) q⟩
        rw [w32_of (by omega) (by push_cast at hd; omega), show (x : Int) + 1 = ((x + 1 : Nat) : Int) by omega] at e
        rw [e]
        refine ih (x + 1) f (by push_cast at hd ⊢; omega) (by omega) (fun k hk => ?_)
        by_cases hkx : k = x
        · rw [hkx]; exact hs
        · exact ha k (by omega)
      · rw [if_neg (by unfold sby; split <;> omega)]
        exact ⟨fun q => absurd rfl q, fun _ => hno (fun w => hs (w.2 x (by push_cast at hd; omega))) τ2 hV2⟩
  exact lp (ρ 0 0).toNat 0 bigN (by omega) (by unfold bigN; omega) (fun k hk => by omega)
section OPS
variable {Cc : Bool → St → St → Prop}
theorem s_say (hI : CcI Cc) (hC : CcF Cc) : Step_say (Inv Cc) := by
  rintro b σ τ ⟨ρ, hW, hVC, hVR, hc⟩
  have w0 := hW.1.1
  refine c_say hW hVC (fun h σ1 e1 v => ?_) (fun h σ1 hf v => ?_)
  · refine r_say hW hVR (fun _ τ1 v1 => ⟨rfl, upS ρ 0 0 0, ?_, v, v1, ?_⟩) (fun q => absurd q h)
    · exact ⟨⟨by rw [upS_s]; decide, by rw [upS_s]; decide, fun j hj => by rw [upS_s] at hj; omega⟩, hW.2⟩
    · refine hI b σ σ1 ρ _ hc (fun k j hk => ?_) (fun k j hk => ?_)
      · rw [e1, upS_k (by rintro rfl; cases hk)]
      · by_cases hk0 : k = 0
        · subst hk0; rw [upS_j (by rintro rfl; cases hk)]
        · rw [upS_k hk0]
  · refine r_say hW hVR (fun q => absurd h q) (fun _ τ1 v1 => ⟨rfl, sayS ρ, ?_, v, v1, hC _ _ _ hf⟩)
    obtain ⟨wt, wo, wg, wb, ws⟩ := hW
    refine ⟨⟨?_, ?_, fun j hj => ?_⟩, wo, wg, wb, ⟨?_, ?_, fun j hj => ?_⟩⟩
    · show (0 : Int) ≤ 0; decide
    · show (0 : Int) ≤ 1000; decide
    · exact absurd (show (j : Int) < 0 from hj) (by omega)
    · exact w0
    · exact h.1
    · have := h.2 j hj
      show 0 ≤ ρ 1 j - 97 ∧ ρ 1 j - 97 ≤ 25
      omega
end OPS
