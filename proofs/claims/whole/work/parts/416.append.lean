/-! all base cases of an item; one more tree of an item -/
theorem hs_none {ρ : St} (hg : Wg ρ) (hL : LL ρ < 9) {F : Fo} {D : Nat → Prop} (hF : ClF ρ F D) (hD : ∀ q, D q → q < 12 * spN (LL ρ)) {p : Int} (hp : 0 ≤ p → D p.toNat) (hn : ¬ hPt ρ p) : hsF F p = 0 := by
  unfold hPt at hn
  have h0 : 0 ≤ p := by
    by_cases h : p < 0
    · exact absurd (Or.inl h) hn
    · omega
  rw [hsF_pos h0]
  refine Classical.byContradiction fun hne => hn (Or.inr ?_)
  have hd := hp h0
  have e : p.toNat = 12 * (p.toNat / 12) + p.toNat % 12 := by omega
  rw [e] at hd hne
  have t := en_te hg hL hF hD _ (p.toNat / 12) (p.toNat % 12) 0 (by omega) hd (by omega) (Nat.lt_succ_self _)
  have e1 : p % 12 = ((p.toNat % 12 : Nat) : Int) := by omega
  have e2 : (p / 12).toNat = p.toNat / 12 := by omega
  rw [e1, e2]
  exact ⟨_, t⟩
theorem c_gatherBase {ρ σ : St} (hg : Wg ρ) (hL : LL ρ < 9) {F : Fo} {D : Nat → Prop} (hF : ClF ρ F D) (hU : ubF F D) (hD : ∀ q, D q → q < 12 * spN (LL ρ)) {s a : Nat} (hs : s < spN (LL ρ)) (ha : a < 12) (hp : ∀ t, t < (cI ρ (12 * s + a)).length → ¬ (cm ρ (12 * s + a) t = -1 ∧ 0 ≤ cf ρ (12 * s + a) t) → PDf ρ D (12 * s + a) t) (hG : GSt ρ σ F D) (h64 : σ 64 a = 0) {Q : Int → St → Prop} (hq : ∀ σ1 n1 L1, frB a σ σ1 → BLs ρ σ1 F (12 * s + a) a (BaseC ρ F (12 * s + a)) n1 L1 → Q 0 σ1) : wp_X3_gatherBase ((12 * s + a : Nat) : Int) (a : Int) σ Q := by
  have h3360 := PL_3360 hg hL
  have hqi : 12 * s + a < 12 * spN (LL ρ) := by omega
  have lp : ∀ (d t : Nat) (σ' : St) (m n' : Nat) (L' : Nat → En), t + d = (cI ρ (12 * s + a)).length → d < m → GSt ρ σ' F D → frB a σ σ' → BLs ρ σ' F (12 * s + a) a (PtC ρ F (12 * s + a) t 0 0) n' L' → wp_X3_gatherBase_l9 Q m ((12 * s + a : Nat) : Int) (a : Int) (((PL ρ (12 * s + a)).length + t : Nat) : Int) σ' := by
    intro d
    induction d with
    | zero =>
      intro t σ' m n' L' hd hm hG' hf hB'
      obtain ⟨m, rfl⟩ := suc_n hm
      unfold wp_X3_gatherBase_l9
      refine c_caseEnd hL hG'.1.1 hqi ⟨fun _ => hq σ' n' L' hf (hB'.iff (fun w => ⟨fun h => h.1, fun h => ⟨h, Or.inl (by have := h.1.1; omega)⟩⟩)), fun h => absurd (by omega) h⟩
    | succ d ih =>
      intro t σ' m n' L' hd hm hG' hf hB'
      obtain ⟨m, rfl⟩ := suc_n hm
      have ht : t < (cI ρ (12 * s + a)).length := by omega
      obtain ⟨e0, e29, e30, e31, e32⟩ := hG'.1.1.csq hqi ht
      unfold wp_X3_gatherBase_l9 wp_X3_gatherBase_b49
      have nx : ∀ (σ2 : St) (n2 : Nat) (L2 : Nat → En), GSt ρ σ2 F D → frB a σ σ2 → BLs ρ σ2 F (12 * s + a) a (PtC ρ F (12 * s + a) (t + 1) 0 0) n2 L2 → ∀ v11 : Int, v11 = w32 ((((PL ρ (12 * s + a)).length + t : Nat) : Int) + 1) → wp_X3_gatherBase_l9 Q m ((12 * s + a : Nat) : Int) (a : Int) v11 σ2 := by
        intro σ2 n2 L2 g2 f2 b2 v11 e11
        rw [w32_of (by omega) (by omega), show (((PL ρ (12 * s + a)).length + t : Nat) : Int) + 1 = (((PL ρ (12 * s + a)).length + (t + 1) : Nat) : Int) by omega] at e11
        rw [e11]
        exact ih (t + 1) σ2 m n2 L2 (by omega) (by omega) g2 f2 b2
      have skip : (∀ w, BaseC ρ F (12 * s + a) w → w.2.1 ≠ t) → BLs ρ σ' F (12 * s + a) a (PtC ρ F (12 * s + a) (t + 1) 0 0) n' L' := fun hno => hB'.iff (fun w => ⟨fun h => ⟨h.1, by have := h.2; omega⟩, fun h => ⟨h.1, by have := h.2; have := hno w h.1; omega⟩⟩)
      refine c_caseEnd hL hG'.1.1 hqi ⟨fun h => absurd h (by omega), fun _ => c_goesOn (by omega) ?_⟩
      rw [e30, e31]
      by_cases hu : cm ρ (12 * s + a) t = -1 ∧ 0 ≤ cf ρ (12 * s + a) t
      · rw [if_pos hu]
        exact ⟨fun _ => nx σ' n' L' hG' hf (skip (fun w hw e => hw.2 (by rw [e]; exact hu))), fun h => absurd (by decide) h⟩
      · rw [if_neg hu]
        refine ⟨fun h => absurd rfl h, fun _ => ?_⟩
        have pt := hp t ht hu
        have cr := cI_r hg hL ha hs (cq_mem ht)
        refine c_isFull (c := cq ρ (12 * s + a) t) hg hL hG'.1.2.2 (by omega) e31 e32 cr (fun hnf => ⟨fun _ => nx σ' n' L' hG' hf (skip (fun w hw e => hnf ?_)), fun h => absurd rfl h⟩) (fun _ => ⟨fun h => absurd h (by decide), fun _ => ?_⟩)
        · obtain ⟨w1, w2, w3, w4⟩ := hw.1
          rw [e] at w2 w3
          refine ⟨Classical.byContradiction fun h => ?_, Classical.byContradiction fun h => ?_⟩
          · have := hs_none hg hL hF hD pt.1 h; omega
          · have := hs_none hg hL hF hD pt.2.1 h; omega
        · obtain ⟨r, -, -, -, -, hcp, hpr, -⟩ := cs_kind hg hL ha hs ht
          exact c_gatherPairs hg hL hF hU hqi ha ht hu hp (by omega) hG' hB' (fun σ1 n1 L1 f1 b1 => nx σ1 n1 L1 (f1.gs hG') (hf.tr f1) b1)
  unfold wp_X3_gatherBase
  refine c_caseStart hL hG.1.1 hqi ?_
  have hle : (cI ρ (12 * s + a)).length ≤ 3360 := by
    obtain ⟨l, hl⟩ := PL_split (ρ := ρ) (q := 12 * s + a) (12 * spN (LL ρ) - (12 * s + a + 1))
    rw [show 12 * s + a + 1 + (12 * spN (LL ρ) - (12 * s + a + 1)) = 12 * spN (LL ρ) by omega] at hl
    rw [hl, List.length_append, List.length_append] at h3360
    omega
  exact lp (cI ρ (12 * s + a)).length 0 σ bigN 0 (fun _ => (0, 0, 0, 0)) (by omega) (by unfold bigN; omega) hG frB.rf ⟨TopP.nil (fun w h => by have := h.2; omega), h64, fun i hi => by omega, fun w h => h.1.1⟩
/-- what an append leaves alone -/
def frA (q : Nat) (σ σ1 : St) : Prop := (∀ k, (k < 55 ∨ 59 < k) → σ1 k = σ k) ∧ (∀ k, 55 ≤ k → k ≤ 58 → ∀ j, (j < 16 * q ∨ 16 * q + 16 ≤ j) → σ1 k j = σ k j) ∧ ∀ j, j ≠ q → σ1 59 j = σ 59 j
theorem frA.rf {q : Nat} {σ : St} : frA q σ σ := ⟨fun _ _ => rfl, fun _ _ _ _ _ => rfl, fun _ _ => rfl⟩
theorem frA.tr {q : Nat} {σ σ1 σ2 : St} (h : frA q σ σ1) (h2 : frA q σ1 σ2) : frA q σ σ2 := ⟨fun k h1 => (h2.1 k h1).trans (h.1 k h1), fun k h1 h3 j hj => (h2.2.1 k h1 h3 j hj).trans (h.2.1 k h1 h3 j hj), fun j hj => (h2.2.2 j hj).trans (h.2.2 j hj)⟩
noncomputable def shB (ρ : St) (F : Fo) (q : Nat) (z : En) : Nat → Bool := fun l => @decide (SHp ρ F q (F.2 q l) z) (Classical.propDecidable _)
theorem shB_t {ρ : St} {F : Fo} {q l : Nat} {z : En} : shB ρ F q z l = true ↔ SHp ρ F q (F.2 q l) z := ⟨fun h => @of_decide_eq_true _ (Classical.propDecidable _) h, fun h => @decide_eq_true _ (Classical.propDecidable _) h⟩
theorem shB_f {ρ : St} {F : Fo} {q l : Nat} {z : En} : shB ρ F q z l = false ↔ ¬ SHp ρ F q (F.2 q l) z := ⟨fun h => @of_decide_eq_false _ (Classical.propDecidable _) h, fun h => @decide_eq_false _ (Classical.propDecidable _) h⟩
theorem cntB_s {f : Nat → Bool} {n : Nat} : cntB f (n + 1) = cntB f n + (if f n = true then 1 else 0) := by
  show cntB f n + _ = _
  cases f n <;> rfl
/-- the new ranks -/
theorem rk_add {ρ : St} {F : Fo} {D : Nat → Prop} (hF : ClF ρ F D) {q : Nat} (hq : D q) {z : En} (hz : CandE ρ F q z) (hne : ∀ l, l < F.1 q → F.2 q l ≠ z) : (∀ k, k < F.1 q → (rkN ρ F q k < cntB (shB ρ F q z) (F.1 q) ↔ SHp ρ F q (F.2 q k) z) ∧ rkN ρ (addF F q z) q k = rkN ρ F q k + (if rkN ρ F q k < cntB (shB ρ F q z) (F.1 q) then 0 else 1)) ∧ rkN ρ (addF F q z) q (F.1 q) = cntB (shB ρ F q z) (F.1 q) ∧ ∀ p k, D p → p ≠ q → k < F.1 p → rkN ρ (addF F q z) p k = rkN ρ F p k := by
  have hx : ExD D F (addF F q z) := addF_ex
  have cl : ∀ l, l < F.1 q → CandE ρ F q (F.2 q l) := fun l hl => ((hF q hq).1 l hl).1
  have pz : ∀ l, l < F.1 q → PDf ρ D q (F.2 q l).2.1 := fun l hl => (hF q hq).2.2 _ (cl l hl).1
  have e1 : ∀ l, l < F.1 q → (addF F q z).2 q l = F.2 q l := fun l hl => (hx q hq).2 l hl
  have e2 : (addF F q z).2 q (F.1 q) = z := by rw [addF_e, if_pos ⟨rfl, rfl⟩]
  have h1 : (addF F q z).1 q = F.1 q + 1 := by rw [addF_h, if_pos rfl]
  -- order among old and new
  have oo : ∀ k l, k < F.1 q → l < F.1 q → (FL ρ (addF F q z) q k l ↔ FL ρ F q k l) := fun k l hk hl => (hx.fl hF hq hk hl).symm
  have on : ∀ l, l < F.1 q → (FL ρ (addF F q z) q l (F.1 q) ↔ SHp ρ F q (F.2 q l) z) := fun l hl => by
    rw [FL_iff, e1 l hl, e2]; exact (hx.sh hF hq (cl l hl) hz).symm
  have no : ∀ l, l < F.1 q → (FL ρ (addF F q z) q (F.1 q) l ↔ SHp ρ F q z (F.2 q l)) := fun l hl => by
    rw [FL_iff, e1 l hl, e2]; exact (hx.sh hF hq hz (cl l hl)).symm
  have key : ∀ k, k < F.1 q → (rkN ρ F q k < cntB (shB ρ F q z) (F.1 q) ↔ SHp ρ F q (F.2 q k) z) := by
    intro k hk
    constructor
    · intro g
      refine Classical.byContradiction fun hn => ?_
      have hz2 : SHp ρ F q z (F.2 q k) := by
        rcases hF.shT hq (cl k hk) hz (hne k hk) with r | r
        · exact absurd r hn
        · exact r
      have : cntB (shB ρ F q z) (F.1 q) ≤ rkN ρ F q k := cntB_mono _ (fun x hxl h => flB_t.2 (FL_iff.2 ((shB_t.1 h).tr hz2)))
      omega
    · intro g
      exact cntB_lt _ (fun x hxl h => shB_t.2 ((FL_iff.1 (flB_t.1 h)).tr g)) ⟨k, hk, shB_t.2 g, flB_f.2 FL.irr⟩
  refine ⟨fun k hk => ⟨key k hk, ?_⟩, ?_, fun p k hp hpq hk => ?_⟩
  · unfold rkN
    rw [h1, cntB_s]
    have ea : cntB (flB ρ (addF F q z) q k) (F.1 q) = cntB (flB ρ F q k) (F.1 q) := cntB_eq _ (fun l hl => by
      rw [Bool.eq_iff_iff, flB_t, flB_t]; exact oo l k hl hk)
    rw [ea]
    congr 1
    have kk := key k hk
    unfold rkN at kk
    by_cases g : SHp ρ F q (F.2 q k) z
    · rw [if_pos (kk.2 g), if_neg]
      rw [flB_t, no k hk]
      exact fun h => SHp.irr (g.tr h)
    · rw [if_neg (fun h => g (kk.1 h)), if_pos]
      rw [flB_t, no k hk]
      rcases hF.shT hq (cl k hk) hz (hne k hk) with r | r
      · exact absurd r g
      · exact r
  · unfold rkN
    rw [h1, cntB_s, if_neg (by rw [flB_t]; exact FL.irr), Nat.add_zero]
    exact cntB_eq _ (fun l hl => by rw [Bool.eq_iff_iff, flB_t, shB_t]; exact on l hl)
  · unfold rkN
    rw [addF_h, if_neg hpq]
    exact cntB_eq _ (fun l hl => by rw [Bool.eq_iff_iff, flB_t, flB_t]; exact (hx.fl hF hp hl hk).symm)
theorem c_append {ρ σ : St} (hg : Wg ρ) (hL : LL ρ < 9) {F : Fo} {D : Nat → Prop} (hF : ClF ρ F D) (hG : GSt ρ σ F D) {q : Nat} (hq : D q) (h16 : F.1 q < 16) {z : En} (hz : CandE ρ F q z) (hne : ∀ l, l < F.1 q → F.2 q l ≠ z) (hz16 : z.2.2.1 < 16 ∧ z.2.2.2 < 16) {Q : Int → St → Prop} (hQ : ∀ σ1, frA q σ σ1 → GSt ρ σ1 (addF F q z) D → Q 0 σ1) : wp_X3_append (q : Int) z.1 (((PL ρ q).length + z.2.1 : Nat) : Int) ((16 * z.2.2.1 + z.2.2.2 : Nat) : Int) σ Q := by
  have q3 := sp_3 _ hL
  obtain ⟨hBL, hR, hK⟩ := id hG
  obtain ⟨r1, r2, r3, r4⟩ := hR q hq
  obtain ⟨ra, rb, rc⟩ := rk_add hF hq hz hne
  have pl : ∀ l, l < F.1 q → PDf ρ D q (F.2 q l).2.1 := fun l hl => (hF q hq).2.2 _ ((hF q hq).1 l hl).1.1
  -- the ranks move
  have lp68 : ∀ (d j : Nat) (σ' : St) (m : Nat), j + d = F.1 q → d < m → (∀ k, k ≠ 58 → σ' k = σ k) → (∀ i, (i < 16 * q ∨ 16 * q + 16 ≤ i) → σ' 58 i = σ 58 i) → (∀ k, k < j → σ' 58 (16 * q + k) = (rkN ρ (addF F q z) q k : Nat)) → (∀ k, j ≤ k → k < F.1 q → σ' 58 (16 * q + k) = (rkN ρ F q k : Nat)) → wp_X3_append_l68 Q m (q : Int) z.1 (((PL ρ q).length + z.2.1 : Nat) : Int) ((16 * z.2.2.1 + z.2.2.2 : Nat) : Int) ((16 * q + F.1 q : Nat) : Int) ((cntB (shB ρ F q z) (F.1 q) : Nat) : Int) ((16 * q + j : Nat) : Int) σ' := by
    intro d
    induction d with
    | zero =>
      intro j σ' m hj hm hk h58 hlo hhi
      obtain ⟨m, rfl⟩ := suc_n hm
      unfold wp_X3_append_l68
      refine ⟨fun _ => ⟨by omega, fun σ6 e6 => ⟨by omega, fun σ7 e7 => ⟨by omega, fun σ8 e8 => ⟨by omega, fun σ9 e9 => ⟨by omega, by omega, fun σ10 e10 => ?_⟩⟩⟩⟩⟩, fun h => absurd (by omega) h⟩
      simp only [Int.toNat_natCast] at e6 e7 e8 e9 e10
      have e59 : σ9 59 = σ 59 := by rw [e9, upS_k (by decide), e8, upS_k (by decide), e7, upS_k (by decide), e6, upS_k (by decide)]; exact hk 59 (by decide)
      rw [e59, r3, w32_of (by omega) (by omega)] at e10
      have s55 : σ10 55 = upS σ 55 (16 * q + F.1 q) z.1 55 := by
        rw [e10, upS_k (by decide), e9, upS_k (by decide), e8, upS_k (by decide), e7, upS_k (by decide), e6]
        funext i
        by_cases e : i = 16 * q + F.1 q
        · rw [e, upS_s, upS_s]
        · rw [upS_j e, upS_j e, hk 55 (by decide)]
      have s56 : σ10 56 = upS σ 56 (16 * q + F.1 q) (((PL ρ q).length + z.2.1 : Nat) : Int) 56 := by
        rw [e10, upS_k (by decide), e9, upS_k (by decide), e8, upS_k (by decide), e7]
        funext i
        by_cases e : i = 16 * q + F.1 q
        · rw [e, upS_s, upS_s]
        · rw [upS_j e, upS_j e, e6, upS_k (by decide), hk 56 (by decide)]
      have s57 : σ10 57 = upS σ 57 (16 * q + F.1 q) ((16 * z.2.2.1 + z.2.2.2 : Nat) : Int) 57 := by
        rw [e10, upS_k (by decide), e9, upS_k (by decide), e8]
        funext i
        by_cases e : i = 16 * q + F.1 q
        · rw [e, upS_s, upS_s]
        · rw [upS_j e, upS_j e, e7, upS_k (by decide), e6, upS_k (by decide), hk 57 (by decide)]
      have s58 : σ10 58 = upS σ' 58 (16 * q + F.1 q) ((cntB (shB ρ F q z) (F.1 q) : Nat) : Int) 58 := by
        rw [e10, upS_k (by decide), e9]
        funext i
        by_cases e : i = 16 * q + F.1 q
        · rw [e, upS_s, upS_s]
        · rw [upS_j e, upS_j e, e8, upS_k (by decide), e7, upS_k (by decide), e6, upS_k (by decide)]
      have s59 : ∀ p, p ≠ q → σ10 59 p = σ 59 p := fun p hp => by rw [e10, upS_j hp, e59]
      have s59q : σ10 59 q = ((F.1 q + 1 : Nat) : Int) := by rw [e10, upS_s]; omega
      have so : ∀ k, (k < 55 ∨ 59 < k) → σ10 k = σ k := fun k h => by rw [e10, upS_k (by omega), e9, upS_k (by omega), e8, upS_k (by omega), e7, upS_k (by omega), e6, upS_k (by omega)]; exact hk k (by omega)
      refine hQ σ10 ⟨so, fun k h1 h2 i hi => ?_, s59⟩ ⟨hBL.extK (fun k h => so k (by omega)), fun p hp => ?_, fun p hp k hkp => ?_⟩
      · have : k = 55 ∨ k = 56 ∨ k = 57 ∨ k = 58 := by omega
        rcases this with rfl | rfl | rfl | rfl
        · rw [s55, upS_j (by omega)]
        · rw [s56, upS_j (by omega)]
        · rw [s57, upS_j (by omega)]
        · rw [s58, upS_j (by omega)]; exact h58 i hi
      · by_cases e : p = q
        · subst e
          refine ⟨r1, by rw [addF_h, if_pos rfl]; omega, by rw [addF_h, if_pos rfl]; exact s59q, fun k hkp => ?_⟩
          rw [addF_h, if_pos rfl] at hkp
          rw [addF_e]
          by_cases ek : k = F.1 p
          · rw [if_pos ⟨rfl, ek⟩, ek, s55, s56, s57, upS_s, upS_s, upS_s]
            exact ⟨rfl, rfl, rfl, hz16⟩
          · rw [if_neg (fun h => ek h.2), s55, s56, s57, upS_j (by omega), upS_j (by omega), upS_j (by omega)]
            exact r4 k (by omega)
        · obtain ⟨p1, p2, p3, p4⟩ := hR p hp
          rw [addF_h, if_neg e]
          refine ⟨p1, p2, by rw [s59 p e]; exact p3, fun k hkp => ?_⟩
          have hne2 : 16 * p + k ≠ 16 * q + F.1 q := by omega
          rw [addF_e, if_neg (fun h => e h.1), s55, s56, s57, upS_j hne2, upS_j hne2, upS_j hne2]
          exact p4 k hkp
      · by_cases e : p = q
        · subst e
          rw [addF_h, if_pos rfl] at hkp
          by_cases ek : k = F.1 p
          · rw [ek, s58, upS_s, rb]
          · rw [s58, upS_j (by omega)]; exact hlo k (by omega)
        · rw [addF_h, if_neg e] at hkp
          have p2 := (hR p hp).2.1
          rw [s58, upS_j (by omega), h58 _ (by omega), rc p k hp e hkp]
          exact hK p hp k hkp
    | succ d ih =>
      intro j σ' m hj hm hk h58 hlo hhi
      obtain ⟨m, rfl⟩ := suc_n hm
      have hjr := hhi j (Nat.le_refl _) (by omega)
      have raj := (ra j (by omega)).2
      have rj16 := rk_16 (ρ := ρ) (k := j) r2
      unfold wp_X3_append_l68 wp_X3_append_b98
      have ew : w32 (((16 * q + j : Nat) : Int) + 1) = ((16 * q + (j + 1) : Nat) : Int) := by rw [w32_of (by omega) (by omega)]; omega
      rw [ew, show (((16 * q + j : Nat) : Int)).toNat = 16 * q + j from Int.toNat_natCast _, hjr]
      refine ⟨fun h => absurd h (by omega), fun _ => ⟨by omega, fun h v13 e13 => ?_, fun h => ⟨by omega, by omega, fun σ11 e11 v13 e13 => ?_⟩⟩⟩
      · rw [e13]
        rw [if_pos (by omega), Nat.add_zero] at raj
        refine ih (j + 1) σ' m (by omega) (by omega) hk h58 (fun k hkj => ?_) (fun k h1 h2 => hhi k (by omega) h2)
        by_cases e : k = j
        · rw [e, raj]; exact hjr
        · exact hlo k (by omega)
      · rw [e13]
        rw [if_neg (by omega)] at raj
        rw [w32_of (by omega) (by omega)] at e11
        refine ih (j + 1) σ11 m (by omega) (by omega) (fun k hk2 => by rw [e11, upS_k hk2]; exact hk k hk2) (fun i hi => by rw [e11, upS_j (by omega)]; exact h58 i hi) (fun k hkj => ?_) (fun k h1 h2 => by rw [e11, upS_j (by omega)]; exact hhi k (by omega) h2)
        by_cases e : k = j
        · rw [e, e11, upS_s, raj]; push_cast; rfl
        · rw [e11, upS_j (by omega)]; exact hlo k (by omega)
  have lp24 : ∀ (d j : Nat) (m : Nat), j + d = F.1 q → d < m → wp_X3_append_l24 Q m (q : Int) z.1 (((PL ρ q).length + z.2.1 : Nat) : Int) ((16 * z.2.2.1 + z.2.2.2 : Nat) : Int) ((16 * q : Nat) : Int) ((16 * q + F.1 q : Nat) : Int) ((cntB (shB ρ F q z) j : Nat) : Int) ((16 * q + j : Nat) : Int) σ := by
    intro d
    induction d with
    | zero =>
      intro j m hj hm
      obtain ⟨m, rfl⟩ := suc_n hm
      have ej : j = F.1 q := by omega
      subst ej
      unfold wp_X3_append_l24
      exact ⟨fun _ => lp68 (F.1 q) 0 σ bigN (by omega) (by unfold bigN; omega) (fun _ _ => rfl) (fun _ _ => rfl) (fun k hk => by omega) (fun k _ hk => hK q hq k hk), fun h => absurd (by omega) h⟩
    | succ d ih =>
      intro j m hj hm
      obtain ⟨m, rfl⟩ := suc_n hm
      obtain ⟨b1, b2, b3, b4⟩ := r4 j (by omega)
      have cle := cntB_le (shB ρ F q z) j
      unfold wp_X3_append_l24 wp_X3_append_b58
      have ew : w32 (((16 * q + j : Nat) : Int) + 1) = ((16 * q + (j + 1) : Nat) : Int) := by rw [w32_of (by omega) (by omega)]; omega
      rw [ew, Int.toNat_natCast, b2, b3]
      refine ⟨fun h => absurd h (by omega), fun _ => ⟨by omega, by omega, ?_⟩⟩
      refine c_isSmaller hg hL hBL.1 hF hR hK r1 (pl j (by omega)) ((hF q hq).1 j (by omega)).1 hz b4 hz16 (fun hs => ⟨fun h => absurd h (by decide), fun _ v5 e5 v12 e12 => ?_⟩) (fun hs => ⟨fun _ v12 e12 => ?_, fun h => absurd rfl h⟩)
      · rw [w32_of (by omega) (by omega)] at e5
        rw [e12, e5, show ((cntB (shB ρ F q z) j : Nat) : Int) + 1 = ((cntB (shB ρ F q z) (j + 1) : Nat) : Int) by rw [cntB_s, if_pos (shB_t.2 hs)]; push_cast; rfl]
        exact ih (j + 1) m (by omega) (by omega)
      · rw [e12, show ((cntB (shB ρ F q z) j : Nat) : Int) = ((cntB (shB ρ F q z) (j + 1) : Nat) : Int) by rw [cntB_s, if_neg (by rw [shB_t]; exact hs)]; rfl]
        exact ih (j + 1) m (by omega) (by omega)
  unfold wp_X3_append
  intro v1 e1
  rw [w32_of (by omega) (by omega), show (q : Int) * 16 = ((16 * q : Nat) : Int) by omega] at e1
  refine ⟨by omega, fun v2 e2 => ?_⟩
  rw [e1, Int.toNat_natCast, r3, w32_of (by omega) (by omega), show ((16 * q : Nat) : Int) + ((F.1 q : Nat) : Int) = ((16 * q + F.1 q : Nat) : Int) by omega] at e2
  rw [e2, e1]
  exact lp24 (F.1 q) 0 bigN (by omega) (by unfold bigN; omega)
