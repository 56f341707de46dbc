/-! sums: the equations of a span -/
theorem BL.low {ρ σ σ1 : St} (e : ∀ k, k < 38 → σ1 k = σ k) (h : BL ρ σ) : BL ρ σ1 := by
  obtain ⟨a, b, d⟩ := h
  refine ⟨a.ext ?_ (fun k _ _ => e k (by omega)) (fun k _ _ => e k (by omega)) ?_, ?_, ?_⟩
  · rw [e 14 (by decide)]
  · rw [e 24 (by decide)]; exact ⟨rfl, rfl, rfl, rfl, rfl, rfl⟩
  · rw [e 36 (by decide)]; exact b
  · unfold Lw; rw [e 37 (by decide)]; exact d
noncomputable def hsB (ρ : St) (s a : Nat) : Bool := @decide (hPt ρ ((12 * s + a : Nat) : Int)) (Classical.propDecidable _)
theorem hsB_iff {ρ : St} {s a : Nat} : hsB ρ s a = true ↔ hPt ρ ((12 * s + a : Nat) : Int) := @decide_eq_true_iff _ (Classical.propDecidable _)
theorem cntB_up {f : Nat → Bool} {n : Nat} : ∀ d, cntB f n ≤ cntB f (n + d)
  | 0 => Nat.le_refl _
  | d + 1 => by
    have := cntB_up (f := f) (n := n) d
    show _ ≤ cntB f (n + d) + (if f (n + d) then 1 else 0)
    omega
/-- the row of a label: how many before it have trees -/
noncomputable def rwN (ρ : St) (s a : Nat) : Nat := cntB (hsB ρ s) a
theorem rw_lt {ρ : St} {s a b : Nat} (h : hsB ρ s a = true) (hab : a < b) : rwN ρ s a < rwN ρ s b := by
  unfold rwN
  have h1 : cntB (hsB ρ s) (a + 1) = cntB (hsB ρ s) a + 1 := by
    show cntB (hsB ρ s) a + (if hsB ρ s a then 1 else 0) = _
    rw [h, if_pos rfl]
  have h2 := cntB_up (f := hsB ρ s) (n := a + 1) (b - (a + 1))
  rw [show a + 1 + (b - (a + 1)) = b by omega] at h2
  omega
theorem rw_12 {ρ : St} {s a : Nat} : rwN ρ s a ≤ a := cntB_le _ a
theorem rw_inj {ρ : St} {s a b : Nat} (ha : hsB ρ s a = true) (hb : hsB ρ s b = true) (h : rwN ρ s a = rwN ρ s b) : a = b := by
  rcases Nat.lt_trichotomy a b with z | z | z
  · have := rw_lt ha z; omega
  · exact z
  · have := rw_lt hb z; omega
abbrev RsT : Type := (Nat → Bool) × (Nat → Int)
def ptS (R : RsT) (x : Int) : Int := if x < 0 then 1 else R.2 x.toNat
def prdS (ρ : St) (R : RsT) (k : Cs) : Int := (ρ 6 k.1.toNat * ptS R k.2.2.1 % 9973) * ptS R k.2.2.2 % 9973
noncomputable def fE (ρ : St) (s j : Nat) (k : Cs) : Int := ix (fullC ρ k ∧ goC k ∧ rwN ρ s (k.2.2.1.toNat % 12) = j) * ρ 6 k.1.toNat
noncomputable def gE (ρ : St) (R : RsT) (k : Cs) : Int := ix (fullC ρ k ∧ ¬ goC k) * prdS ρ R k
noncomputable def ent (ρ : St) (s : Nat) (R : RsT) (a j : Nat) (l : List Cs) : Int := if j < 12 then (ix (rwN ρ s a = j) - sumC (fE ρ s j) l) % 9973 else sumC (gE ρ R) l % 9973
def badK (R : RsT) (k : Cs) : Prop := (0 ≤ k.2.2.1 ∧ R.1 (k.2.2.1.toNat / 12) = true) ∨ (0 ≤ k.2.2.2 ∧ R.1 (k.2.2.2.toNat / 12) = true)
def setR (i : Nat) (e : Nat → Int) (m : Mx) : Mx := fun k => if k / 13 = i then e (k % 13) else m k
theorem ent_r {ρ : St} {s : Nat} {R : RsT} {a j : Nat} {l : List Cs} : mR (ent ρ s R a j l) := by
  unfold ent
  by_cases h : j < 12
  · rw [if_pos h]; exact mR_mod _
  · rw [if_neg h]; exact mR_mod _
theorem setR_ok {i : Nat} {e : Nat → Int} {m : Mx} (he : ∀ j, mR (e j)) (h : mOK m) : mOK (setR i e m) := by
  intro k hk
  unfold setR
  by_cases z : k / 13 = i
  · rw [if_pos z]; exact he _
  · rw [if_neg z]; exact h k hk
theorem setR_put {i j : Nat} {e e2 : Nat → Int} {m : Mx} {σ : St} (h : Mat 48 σ (setR i e m)) (hj : j < 13) {v : Int} (hv : v = e2 j) (ho : ∀ x, x < 13 → x ≠ j → e2 x = e x) : Mat 48 (upS σ 48 (13 * i + j) v) (setR i e2 m) := by
  intro k hk
  unfold setR
  by_cases z : k = 13 * i + j
  · rw [z, upS_s, if_pos (by omega), show (13 * i + j) % 13 = j by omega]; exact hv
  · rw [upS_j z, h k hk]
    unfold setR
    by_cases z2 : k / 13 = i
    · rw [if_pos z2, if_pos z2]; exact (ho _ (Nat.mod_lt _ (by decide)) (by omega)).symm
    · rw [if_neg z2, if_neg z2]
/-- what is known of the parts -/
def ptK (R : RsT) (σ : St) (x : Int) : Prop := 0 ≤ x → x < 432 ∧ σ 47 (x.toNat / 12) = (if R.1 (x.toNat / 12) then 1 else 0) ∧ (R.1 (x.toNat / 12) = false → σ 46 x.toNat = R.2 x.toNat ∧ mR (R.2 x.toNat))
theorem ent_app {ρ : St} {s : Nat} {R : RsT} {a j : Nat} {l : List Cs} {k : Cs} : ent ρ s R a j (l ++ [k]) = if j < 12 then ((ix (rwN ρ s a = j) - sumC (fE ρ s j) l) - fE ρ s j k) % 9973 else (sumC (gE ρ R) l + gE ρ R k) % 9973 := by
  unfold ent
  rw [sumC_app, sumC_app]
  show (if j < 12 then (ix (rwN ρ s a = j) - (sumC (fE ρ s j) l + (fE ρ s j k + 0))) % 9973 else (sumC (gE ρ R) l + (gE ρ R k + 0)) % 9973) = _
  rw [Int.add_zero, Int.add_zero, Int.sub_sub]
theorem ent_same {ρ : St} {s : Nat} {R : RsT} {a j : Nat} {l : List Cs} {k : Cs} (h1 : fE ρ s j k = 0) (h2 : gE ρ R k = 0) : ent ρ s R a j (l ++ [k]) = ent ρ s R a j l := by
  rw [ent_app, h1, h2, Int.sub_zero, Int.add_zero]; rfl
theorem c_setEq {ρ σ : St} (hg : Wg ρ) (hL : LL ρ < 9) (hB : BL ρ σ) {R : RsT} {s a : Nat} (hs : s < spN (LL ρ)) (ha : a < 12) (hh : hsB ρ s a = true) (h49 : ∀ b, b < 12 → σ 49 b = ((rwN ρ s b : Nat) : Int)) (hP : ∀ k ∈ cI ρ (12 * s + a), fullC ρ k → ¬ goC k → ptK R σ k.2.2.1 ∧ ptK R σ k.2.2.2) {m : Mx} (hm : mOK m) (hz : ∀ j, j < 13 → m (13 * rwN ρ s a + j) = 0) (hM : Mat 48 σ m) {Q : Int → St → Prop} (hno : ∀ σ1 m1, (∃ k ∈ cI ρ (12 * s + a), fullC ρ k ∧ ¬ goC k ∧ badK R k) → (∀ k, k ≠ 48 → σ1 k = σ k) → mOK m1 → Mat 48 σ1 m1 → (∀ k, k / 13 ≠ rwN ρ s a → m1 k = m k) → Q 0 σ1) (hyes : ∀ σ1, (∀ k ∈ cI ρ (12 * s + a), fullC ρ k → ¬ goC k → ¬ badK R k) → (∀ k, k ≠ 48 → σ1 k = σ k) → Mat 48 σ1 (setR (rwN ρ s a) (fun j => ent ρ s R a j (cI ρ (12 * s + a))) m) → Q 1 σ1) : wp_X7_setEquation ((12 * s + a : Nat) : Int) ((rwN ρ s a : Nat) : Int) σ Q := by
  have h3 := sp_3 _ hL
  have h3360 := PL_3360 hg hL
  have h40 := hg.2.1
  have hr12 := rw_12 (ρ := ρ) (s := s) (a := a)
  generalize hq0 : 12 * s + a = q at *
  have hq : q < 12 * spN (LL ρ) := by omega
  have hlen : (cI ρ q).length < bigN := by
    by_cases hz : (cI ρ q).length = 0
    · rw [hz]; unfold bigN; omega
    · have := (hB.1.seg (t := (cI ρ q).length - 1) hq (by omega)).1
      unfold bigN; omega
  generalize hi : rwN ρ s a = i at *
  have lp : ∀ (d t : Nat) (σ1 : St) (n : Nat), t + d = (cI ρ q).length → d < n → (∀ k, k ≠ 48 → σ1 k = σ k) → (∀ k ∈ (cI ρ q).take t, fullC ρ k → ¬ goC k → ¬ badK R k) → Mat 48 σ1 (setR i (fun j => ent ρ s R a j ((cI ρ q).take t)) m) → wp_X7_setEquation_l24 Q n (q : Int) ((13 * i : Nat) : Int) (((PL ρ q).length + t : Nat) : Int) σ1 := by
    intro d
    induction d with
    | zero =>
      intro t σ1 n hd hn hE hN h1
      obtain ⟨n, rfl⟩ := suc_n hn
      have hB1 : BL ρ σ1 := hB.low (fun k hk => hE k (by omega))
      unfold wp_X7_setEquation_l24
      rw [show t = (cI ρ q).length by omega, List.take_length] at h1 hN
      exact c_caseEnd hL hB1.1 hq ⟨fun _ => hyes σ1 hN hE h1, fun w => absurd (by omega) w⟩
    | succ d ih =>
      intro t σ1 n hd hn hE hN h1
      obtain ⟨n, rfl⟩ := suc_n hn
      have ht : t < (cI ρ q).length := by omega
      have hB1 : BL ρ σ1 := hB.low (fun k hk => hE k (by omega))
      obtain ⟨s0, s1, s2, s3, s4⟩ := hB1.1.seg hq ht
      have mem := List.getElem_mem ht
      have ok := cI_ok hg hL hq mem
      have hp := prN_r hg mem
      have e1 := List.take_succ_eq_append_getElem ht
      have hPk := hP _ mem
      have nx : ∀ σ2, (∀ k, k ≠ 48 → σ2 k = σ k) → (∀ k ∈ (cI ρ q).take t ++ [(cI ρ q)[t]], fullC ρ k → ¬ goC k → ¬ badK R k) → Mat 48 σ2 (setR i (fun j => ent ρ s R a j ((cI ρ q).take t ++ [(cI ρ q)[t]])) m) → wp_X7_setEquation_b261 Q (wp_X7_setEquation_l24 Q n) (q : Int) ((13 * i : Nat) : Int) (((PL ρ q).length + t : Nat) : Int) σ2 := by
        intro σ2 g1 g2 g3
        unfold wp_X7_setEquation_b261
        intro y ey
        rw [ey, w32_of (by omega) (by omega), show (((PL ρ q).length + t : Nat) : Int) + 1 = (((PL ρ q).length + (t + 1) : Nat) : Int) by omega]
        exact ih (t + 1) σ2 n (by omega) (by omega) g1 (by rw [e1]; exact g2) (by rw [e1]; exact g3)
      have vg : VCg σ1 ρ := hB1.1.1.2.2.1.1
      have glab : goC (cI ρ q)[t] → ∃ b, b < 12 ∧ (cI ρ q)[t].2.2.1 = ((12 * s + b : Nat) : Int) := fun hgo => goC_lab hg hL hs ha (by rw [hq0]; exact mem) hgo
      generalize (cI ρ q)[t] = k at *
      have e18 : σ1 18 (k.1).toNat = ρ 6 k.1.toNat := (vg.2 k.1.toNat (by omega)).2.2.2.1
      have pr := hp.2.2.1
      have hNs : ∀ {P : Prop}, (fullC ρ k → ¬ goC k → ¬ badK R k) → ∀ x ∈ (cI ρ q).take t ++ [k], fullC ρ x → ¬ goC x → ¬ badK R x := by
        intro P hk x hx
        rcases List.mem_append.1 hx with z | z
        · exact hN x z
        · rw [List.mem_singleton] at z; subst z; exact hk
      unfold wp_X7_setEquation_l24
      refine c_caseEnd hL hB1.1 hq ⟨fun w => absurd w (by omega), fun _ => ?_⟩
      rw [Int.toNat_natCast, s1, s3, s4, e18]
      refine ⟨by omega, by omega, fun v7 e7 => ⟨by omega, fun v8 e8 => ⟨by omega, fun v9 e9 => ?_⟩⟩⟩
      refine c_isFull hg hL hB1.2.2 (c := k) (by omega) s3 s4 ok.2 (fun hf => ⟨fun z => absurd rfl z, fun _ => ?_⟩) (fun hf => ⟨fun _ => ?_, fun z => absurd (by decide) z⟩)
      · refine nx σ1 hE (hNs (P := True) (fun z => absurd z hf)) (fun x hx => ?_)
        rw [h1 x hx]
        unfold setR
        by_cases z : x / 13 = i
        · rw [if_pos z, if_pos z]
          exact (ent_same (by unfold fE; rw [ix_n (fun z => hf z.1), Int.zero_mul]) (by unfold gE; rw [ix_n (fun z => hf z.1), Int.zero_mul])).symm
        · rw [if_neg z, if_neg z]
      · refine c_goesOn (by omega) ?_
        rw [s2, s3]
        by_cases hgo : goC k
        · rw [if_pos (show k.2.1 = -1 ∧ 0 ≤ k.2.2.1 from hgo)]
          refine ⟨fun w => absurd w (by decide), fun _ => ?_⟩
          obtain ⟨b, hb, eb⟩ := glab hgo
          have ebm : b_rem v8 12 = (b : Int) := by rw [e8, eb, b_rem_eq (by omega) (by omega) (by decide) (by decide)]; omega
          rw [ebm, Int.toNat_natCast, show σ1 49 b = ((rwN ρ s b : Nat) : Int) by rw [hE 49 (by decide)]; exact h49 b hb]
          have hrb := rw_12 (ρ := ρ) (s := s) (a := b)
          refine ⟨by omega, fun v14 e14 => ?_⟩
          rw [w32_of (by omega) (by omega), show ((13 * i : Nat) : Int) + ((rwN ρ s b : Nat) : Int) = ((13 * i + rwN ρ s b : Nat) : Int) by omega] at e14
          have cell : σ1 48 (13 * i + rwN ρ s b) = ent ρ s R a (rwN ρ s b) ((cI ρ q).take t) := by
            have cell := h1 (13 * i + rwN ρ s b) (by omega)
            unfold setR at cell
            rw [if_pos (by omega), show (13 * i + rwN ρ s b) % 13 = rwN ρ s b by omega] at cell
            exact cell
          have er := ent_r (ρ := ρ) (s := s) (R := R) (a := a) (j := rwN ρ s b) (l := (cI ρ q).take t)
          rw [e14, Int.toNat_natCast, cell, e7]
          unfold mR at er
          rw [w32_of (by omega) (by omega)]
          refine ⟨by omega, c_floorMod (by omega) (by omega) ⟨by omega, fun σ2 g2 => ?_⟩⟩
          refine nx σ2 (fun x hx => by rw [g2, upS_k hx]; exact hE x hx) (hNs (P := True) (fun _ z => absurd hgo z)) ?_
          rw [g2]
          have g0 : gE ρ R k = 0 := by unfold gE; rw [ix_n (fun z => z.2 hgo), Int.zero_mul]
          have lb : k.2.2.1.toNat % 12 = b := by rw [eb]; omega
          refine setR_put h1 (by omega) ?_ (fun x hx hne => ent_same ?_ g0)
          · rw [ent_app, if_pos (by omega), show fE ρ s (rwN ρ s b) k = ρ 6 k.1.toNat by unfold fE; rw [lb, ix_y ⟨hf, hgo, rfl⟩, Int.one_mul]]
            unfold ent
            rw [if_pos (by omega)]
            omega
          · unfold fE
            rw [lb, ix_n (fun z => hne z.2.2.symm), Int.zero_mul]
        · rw [if_neg (show ¬ (k.2.1 = -1 ∧ 0 ≤ k.2.2.1) from hgo)]
          have f0 : ∀ j, fE ρ s j k = 0 := fun j => by unfold fE; rw [ix_n (fun z => hgo z.2.1), Int.zero_mul]
          obtain ⟨k1, k2⟩ := hPk hf hgo
          have bad : badK R k → Q 0 σ1 := fun hb => hno σ1 _ ⟨k, mem, hf, hgo, hb⟩ hE (setR_ok (fun j => ent_r) hm) h1 (fun x hx => by unfold setR; rw [if_neg hx])
          have e46 : σ1 46 = σ 46 := hE 46 (by decide)
          have e47 : σ1 47 = σ 47 := hE 47 (by decide)
          have pok : ¬ badK R k → mR (ptS R k.2.2.1) ∧ mR (ptS R k.2.2.2) := by
            intro hb
            have one : ∀ x, ptK R σ x → ¬ (0 ≤ x ∧ R.1 (x.toNat / 12) = true) → mR (ptS R x) := by
              intro x hx hnb
              unfold ptS
              by_cases z : x < 0
              · rw [if_pos z]; unfold mR; omega
              · rw [if_neg z]
                obtain ⟨-, -, g⟩ := hx (by omega)
                cases w : R.1 (x.toNat / 12) with
                | true => exact absurd ⟨by omega, w⟩ hnb
                | false => exact (g w).2
            exact ⟨one _ k1 (fun z => hb (Or.inl z)), one _ k2 (fun z => hb (Or.inr z))⟩
          have fin : ¬ badK R k → ∀ y1 y2, y1 = ptS R k.2.2.1 → y2 = ptS R k.2.2.2 → ∀ v, v = ρ 6 k.1.toNat * y1 % 9973 → wp_X7_setEquation_b229 Q (wp_X7_setEquation_l24 Q n) (q : Int) ((13 * i : Nat) : Int) (((PL ρ q).length + t : Nat) : Int) y2 v σ1 := by
            intro hb y1 y2 e1 e2 v ev
            obtain ⟨p1, p2⟩ := pok hb
            have hv : mR v := by rw [ev]; exact mR_mod _
            rw [← e2] at p2
            have hm2 := mR_mul hv p2
            unfold wp_X7_setEquation_b229
            intro v20 e20
            rw [w32_of (by omega) (by omega), b_rem_eq hm2.1 (by omega) (by decide) (by decide)] at e20
            have cell : σ1 48 (13 * i + 12) = ent ρ s R a 12 ((cI ρ q).take t) := by
              have cell := h1 (13 * i + 12) (by omega)
              unfold setR at cell
              rw [if_pos (by omega), show (13 * i + 12) % 13 = 12 by omega] at cell
              exact cell
            have er := ent_r (ρ := ρ) (s := s) (R := R) (a := a) (j := 12) (l := (cI ρ q).take t)
            rw [w32_of (x := ((13 * i : Nat) : Int) + 12) (by omega) (by omega), show ((13 * i : Nat) : Int) + 12 = ((13 * i + 12 : Nat) : Int) by omega, Int.toNat_natCast, cell]
            unfold mR at er
            have h20 : mR v20 := by rw [e20]; exact mR_mod _
            unfold mR at h20
            rw [w32_of (by omega) (by omega), b_rem_eq (by omega) (by omega) (by decide) (by decide)]
            refine ⟨by omega, by omega, fun σ2 g2 => nx σ2 (fun x hx => by rw [g2, upS_k hx]; exact hE x hx) (hNs (P := True) (fun _ _ => hb)) ?_⟩
            rw [g2]
            refine setR_put h1 (by omega) ?_ (fun x hx hne => ?_)
            · rw [ent_app, if_neg (by omega), show gE ρ R k = v20 by unfold gE prdS; rw [ix_y ⟨hf, hgo⟩, Int.one_mul, e20, ev, e1, e2]]
              unfold ent
              rw [if_neg (by omega)]
              omega
            · rw [ent_app, f0, Int.sub_zero, if_pos (by omega)]
              unfold ent
              rw [if_pos (by omega)]
          have mid : ¬ badK R k → ∀ y1, y1 = ptS R k.2.2.1 → wp_X7_setEquation_b204 Q (wp_X7_setEquation_l24 Q n) (q : Int) ((13 * i : Nat) : Int) (((PL ρ q).length + t : Nat) : Int) v9 y1 v7 σ1 := by
            intro hb y1 ey1
            obtain ⟨p1, p2⟩ := pok hb
            rw [← ey1] at p1
            have hm2 := mR_mul (show mR v7 by rw [e7]; unfold mR; omega) p1
            unfold wp_X7_setEquation_b204
            intro v19 e19
            rw [w32_of (by omega) (by omega), b_rem_eq hm2.1 (by omega) (by decide) (by decide), e7] at e19
            refine ⟨fun z => ?_, fun z => fin hb y1 1 ey1 (by unfold ptS; rw [if_pos (by omega)]) v19 e19⟩
            obtain ⟨g1, g2, g3⟩ := k2 (by omega)
            refine ⟨by omega, fin hb y1 _ ey1 ?_ v19 e19⟩
            unfold ptS
            rw [if_neg (by omega), e46, e9]
            cases w : R.1 (k.2.2.2.toNat / 12) with
            | true => exact absurd (Or.inr ⟨by omega, w⟩) hb
            | false => exact (g3 w).1
          have all : ¬ badK R k → wp_X7_setEquation_b186 Q (wp_X7_setEquation_l24 Q n) (q : Int) ((13 * i : Nat) : Int) (((PL ρ q).length + t : Nat) : Int) v7 v8 v9 σ1 := by
            intro hb
            unfold wp_X7_setEquation_b186
            refine ⟨fun z => ?_, fun z => mid hb 1 (by unfold ptS; rw [if_pos (by omega)])⟩
            obtain ⟨g1, g2, g3⟩ := k1 (by omega)
            refine ⟨by omega, mid hb _ ?_⟩
            unfold ptS
            rw [if_neg (by omega), e46, e8]
            cases w : R.1 (k.2.2.1.toNat / 12) with
            | true => exact absurd (Or.inl ⟨by omega, w⟩) hb
            | false => exact (g3 w).1
          have b166 : ¬ (0 ≤ k.2.2.1 ∧ R.1 (k.2.2.1.toNat / 12) = true) → wp_X7_setEquation_b166 Q (wp_X7_setEquation_l24 Q n) (q : Int) ((13 * i : Nat) : Int) (((PL ρ q).length + t : Nat) : Int) v7 v8 v9 σ1 := by
            intro hb
            unfold wp_X7_setEquation_b166
            refine ⟨fun z => all (fun w => by rcases w with w | w; exact hb w; omega), fun z => ?_⟩
            obtain ⟨g1, g2, g3⟩ := k2 (by omega)
            rw [show b_div v9 12 = ((k.2.2.2.toNat / 12 : Nat) : Int) by rw [e9, b_div_eq (by omega) (by omega) (by decide) (by decide)]; omega, Int.toNat_natCast, e47, g2]
            refine ⟨by omega, fun w => all (fun w2 => ?_), fun w => bad (Or.inr ⟨by omega, ?_⟩)⟩
            · rcases w2 with w2 | w2
              · exact hb w2
              · rw [w2.2, if_pos rfl] at w; exact absurd w (by decide)
            · cases w2 : R.1 (k.2.2.2.toNat / 12) with
              | true => rfl
              | false => rw [w2] at w; exact absurd rfl w
          refine ⟨fun _ => ⟨fun z => b166 (fun w => by omega), fun z => ?_⟩, fun w => absurd rfl w⟩
          obtain ⟨g1, g2, g3⟩ := k1 (by omega)
          rw [show b_div v8 12 = ((k.2.2.1.toNat / 12 : Nat) : Int) by rw [e8, b_div_eq (by omega) (by omega) (by decide) (by decide)]; omega, Int.toNat_natCast, e47, g2]
          refine ⟨by omega, fun w => bad (Or.inl ⟨by omega, ?_⟩), fun w => b166 (fun w2 => ?_)⟩
          · cases w2 : R.1 (k.2.2.1.toNat / 12) with
            | true => rfl
            | false => rw [w2] at w; exact absurd rfl w
          · rw [w2.2, if_pos rfl] at w; exact absurd (by decide) w
  unfold wp_X7_setEquation
  intro v1 ev1
  rw [w32_of (by omega) (by omega), show ((i : Nat) : Int) * 13 = ((13 * i : Nat) : Int) by omega] at ev1
  rw [ev1, w32_of (x := ((13 * i : Nat) : Int) + (i : Int)) (by omega) (by omega), show ((13 * i : Nat) : Int) + (i : Int) = ((13 * i + i : Nat) : Int) by omega, Int.toNat_natCast]
  refine ⟨by omega, fun σ2 e2 => ?_⟩
  have hB2 : BL ρ σ2 := hB.low (fun k hk => by rw [e2, upS_k (by omega)])
  refine c_caseStart hL hB2.1 hq (lp _ 0 σ2 bigN (Nat.zero_add _) hlen (fun k hk => by rw [e2, upS_k hk]) (fun k hk => (by cases hk)) (fun x hx => ?_))
  rw [e2]
  unfold setR ent
  show upS σ 48 (13 * i + i) 1 48 x = if x / 13 = i then (if x % 13 < 12 then (ix (rwN ρ s a = x % 13) - 0) % 9973 else 0 % 9973) else m x
  rw [hi]
  by_cases z : x = 13 * i + i
  · rw [z, upS_s, if_pos (by omega), if_pos (by omega), ix_y (by omega)]; rfl
  · rw [upS_j z, hM x hx]
    by_cases z2 : x / 13 = i
    · rw [if_pos z2]
      have := hz (x % 13) (Nat.mod_lt _ (by decide))
      rw [show 13 * i + x % 13 = x by omega] at this
      rw [this]
      by_cases z3 : x % 13 < 12
      · rw [if_pos z3, ix_n (by omega)]; rfl
      · rw [if_neg z3]; rfl
    · rw [if_neg z2]
