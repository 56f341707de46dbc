/-! a node comes to the list of its item -/
def RRw (ρ τ : St) (F : Fo) (q n : Nat) (L : Nat → En) : Prop := τ 38 (iR ρ q) = (n : Int) ∧ ∀ i, i < n → NdC ρ τ F q (L i) (τ 37 (16 * iR ρ q + i))
theorem NdC.cg {ρ τ τ1 : St} {F : Fo} {D : Nat → Prop} {q p : Nat} {z : En} {v : Int} (hL : LL ρ < 9) (hD : ∀ p, D p → p < 12 * spN (LL ρ) ∧ p ≠ q ∧ F.1 p ≤ 16) (hq : q < 12 * spN (LL ρ)) (e : ∀ k, 28 ≤ k → k ≤ 36 → τ1 k = τ k) (e37 : ∀ j, (j < 16 * iR ρ q ∨ 16 * iR ρ q + 16 ≤ j) → τ1 37 j = τ 37 j) (hp : PDf ρ D p z.2.1) (hz : CandE ρ F p z) (h : NdC ρ τ F p z v) : NdC ρ τ1 F p z v := by
  have part : ∀ (c : Int) (x : Nat), (0 ≤ c → D c.toNat) → x < hsF F c → chN ρ τ1 c x = chN ρ τ c x := by
    intro c x hc hx
    unfold chN
    by_cases h0 : c < 0
    · rw [if_pos h0, if_pos h0]
    · rw [if_neg h0, if_neg h0]
      rw [hsF_pos (by omega)] at hx
      obtain ⟨d1, d2, d3⟩ := hD _ (hc (by omega))
      have : iR ρ c.toNat ≠ iR ρ q := fun e => d2 (iR_inj hL d1 hq e)
      exact e37 _ (by omega)
  obtain ⟨n0, n1, n2, n3, n4, n5, n6, n7, n8, n9, n10⟩ := h
  unfold NdC
  rw [part _ _ hp.1 hz.2.1, part _ _ hp.2.1 hz.2.2.1, e 28 (by decide) (by decide), e 29 (by decide) (by decide), e 30 (by decide) (by decide), e 31 (by decide) (by decide), e 32 (by decide) (by decide), e 33 (by decide) (by decide), e 34 (by decide) (by decide), e 35 (by decide) (by decide), e 36 (by decide) (by decide)]
  exact ⟨n0, n1, n2, n3, n4, n5, n6, n7, n8, n9, n10⟩
/-- what changes when a node comes -/
def frCm (ρ : St) (q n p : Nat) (v : Int) (τ τ1 : St) : Prop := (∀ k, k ≠ 0 → k ≠ 37 → k ≠ 38 → τ1 k = τ k) ∧ (∀ j, (j < 16 * iR ρ q ∨ 16 * iR ρ q + 16 ≤ j) → τ1 37 j = τ 37 j) ∧ (∀ j, j ≠ iR ρ q → τ1 38 j = τ 38 j) ∧ (∀ j, j ≠ 54 → j ≠ 55 → τ1 0 j = τ 0 j) ∧ τ1 38 (iR ρ q) = ((min (n + 1) 16 : Nat) : Int) ∧ (∀ i, i < min (n + 1) 16 → τ1 37 (16 * iR ρ q + i) = if i < p then τ 37 (16 * iR ρ q + i) else if i = p then v else τ 37 (16 * iR ρ q + (i - 1))) ∧ τ1 0 54 = (if τ 0 55 = -1 then τ 0 54 + 1 else τ 0 54) ∧ τ1 0 55 = (if n = 16 then τ 37 (16 * iR ρ q + 15) else -1)
theorem r_shift {ρ τ : St} {q n p : Nat} {v : Int} (hi : iR ρ q < 768) (hn : n ≤ 16) (hp : p ≤ n) (h16 : p < 16) {τ2 : St} (e2 : ∀ k, k ≠ 0 → k ≠ 38 → τ2 k = τ k) {Q : Int → St → Prop} (hQ : ∀ τ1, (∀ k, k ≠ 37 → τ1 k = τ2 k) → (∀ j, (j < 16 * iR ρ q ∨ 16 * iR ρ q + 16 ≤ j) → τ1 37 j = τ 37 j) → (∀ i, i < min (n + 1) 16 → τ1 37 (16 * iR ρ q + i) = if i < p then τ 37 (16 * iR ρ q + i) else if i = p then v else τ 37 (16 * iR ρ q + (i - 1))) → Q 0 τ1) : ∀ (d x : Nat) (τ' : St) (m : Nat), p + d = x → x + 1 ≤ min (n + 1) 16 → d < m → (∀ k, k ≠ 37 → τ' k = τ2 k) → (∀ j, (j ≤ 16 * iR ρ q + x ∨ 16 * iR ρ q + min (n + 1) 16 ≤ j) → τ' 37 j = τ 37 j) → (∀ i, x < i → i < min (n + 1) 16 → τ' 37 (16 * iR ρ q + i) = τ 37 (16 * iR ρ q + (i - 1))) → wp_X12_comes_l128 Q m v (iR ρ q : Int) (p : Int) (x : Int) τ' := by
  intro d
  induction d with
  | zero =>
    intro x τ' m hx hx2 hm k1 k2 k3
    obtain ⟨m, rfl⟩ := suc_n hm
    unfold wp_X12_comes_l128
    refine ⟨fun _ => ?_, fun w => absurd (by omega) w⟩
    rw [w32_of (x := (iR ρ q : Int) * 16) (by omega) (by omega), w32_of (x := (iR ρ q : Int) * 16 + (p : Int)) (by omega) (by omega), show (iR ρ q : Int) * 16 + (p : Int) = ((16 * iR ρ q + p : Nat) : Int) by omega, Int.toNat_natCast]
    refine ⟨by omega, fun σ12 e12 => hQ σ12 (fun k hk => by rw [e12, upS_k hk]; exact k1 k hk) (fun j hj => ?_) (fun i hi2 => ?_)⟩
    · rw [e12, upS_j (by omega)]; exact k2 j (by omega)
    · rw [e12]
      by_cases e : i = p
      · rw [e, upS_s, if_neg (by omega), if_pos rfl]
      · rw [upS_j (by omega)]
        by_cases hlt : i < p
        · rw [if_pos hlt]; exact k2 _ (by omega)
        · rw [if_neg hlt, if_neg e]; exact k3 i (by omega) hi2
  | succ d ih =>
    intro x τ' m hx hx2 hm k1 k2 k3
    obtain ⟨m, rfl⟩ := suc_n hm
    unfold wp_X12_comes_l128
    refine ⟨fun w => absurd w (by omega), fun _ => ?_⟩
    rw [w32_of (x := (iR ρ q : Int) * 16) (by omega) (by omega), w32_of (x := (iR ρ q : Int) * 16 + (x : Int)) (by omega) (by omega), w32_of (x := (iR ρ q : Int) * 16 + (x : Int) - 1) (by omega) (by omega), show (iR ρ q : Int) * 16 + (x : Int) - 1 = ((16 * iR ρ q + (x - 1) : Nat) : Int) by omega, show (iR ρ q : Int) * 16 + (x : Int) = ((16 * iR ρ q + x : Nat) : Int) by omega, Int.toNat_natCast, Int.toNat_natCast]
    refine ⟨by omega, by omega, fun σ13 e13 v14 e14 => ?_⟩
    rw [w32_of (by omega) (by omega), show (x : Int) + -1 = ((x - 1 : Nat) : Int) by omega] at e14
    rw [e14]
    rw [k2 (16 * iR ρ q + (x - 1)) (by omega)] at e13
    refine ih (x - 1) σ13 m (by omega) (by omega) (by omega) (fun k hk => by rw [e13, upS_k hk]; exact k1 k hk) (fun j hj => by rw [e13, upS_j (by omega)]; exact k2 j (by omega)) (fun i h1 h2 => ?_)
    rw [e13]
    by_cases e : i = x
    · rw [e, upS_s]
    · rw [upS_j (by omega)]; exact k3 i (by omega) h2
theorem r_comes {ρ τ : St} (hg : Wg ρ) (hL : LL ρ < 9) (h1 : ∀ r : Nat, (r : Int) < ρ 0 4 → τ 1 r = ρ 3 r) {F : Fo} {D : Nat → Prop} (hF : ClF ρ F D) (hT : ∀ q, D q → SgF ρ F q) (hR : RFo ρ τ F D) {q : Nat} (hq : q < 12 * spN (LL ρ)) (hDq : ¬ D q) {P : En → Prop} {n : Nat} {L : Nat → En} (hTop : TopP (ltE ρ F q) P n L) (hP : ∀ w, P w → CandE ρ F q w ∧ PDf ρ D q w.2.1) (hrow : RRw ρ τ F q n L) {z : En} (hp : PDf ρ D q z.2.1) (hz : CandE ρ F q z) (hzP : ¬ P z) {v : Int} (nv : NdC ρ τ F q z v) (fresh : ∀ i, i < n → τ 37 (16 * iR ρ q + i) ≠ v) (h54 : 0 ≤ τ 0 54 ∧ τ 0 54 < 100000) {Q : Int → St → Prop} (hno : n = 16 → (∀ i, i < 16 → ltE ρ F q (L i) z) → Q 0 τ) (hyes : ∀ τ1 p, p ≤ n → p < 16 → frCm ρ q n p v τ τ1 → TopP (ltE ρ F q) (fun w => P w ∨ w = z) (min (n + 1) 16) (fun i => if i < p then L i else if i = p then z else L (i - 1)) → RRw ρ τ1 F q (min (n + 1) 16) (fun i => if i < p then L i else if i = p then z else L (i - 1)) → Q 0 τ1) : wp_X12_comes v τ Q := by
  obtain ⟨iRl, iRe⟩ := iR_it hL hq
  have hn16 := hTop.1
  have qs := sp_s hL (show q / 12 < spN (LL ρ) by omega)
  have kz := cs_kind hg hL (show q % 12 < 12 by omega) (show q / 12 < spN (LL ρ) by omega) (t := z.2.1) (by rw [show 12 * (q / 12) + q % 12 = q by omega]; exact hz.1)
  rw [show 12 * (q / 12) + q % 12 = q by omega] at kz
  obtain ⟨r, r1, -, r3, r2, -⟩ := kz
  have h40 := hg.2.1
  have hDD : ∀ p, D p → p < 12 * spN (LL ρ) ∧ p ≠ q ∧ F.1 p ≤ 16 := fun p hp => ⟨(hR p hp).1, fun e => hDq (e ▸ hp), (hR p hp).2.1⟩
  -- all before p, all after
  have fin : ∀ (p : Nat), p ≤ n → (∀ i, p ≤ i → i < n → ltE ρ F q z (L i)) → (∀ i, i < p → ltE ρ F q (L i) z) → wp_X12_comes_b65 Q v (iR ρ q : Int) (p : Int) τ := by
    intro p hpn hhi hlo
    unfold wp_X12_comes_b65 wp_X12_takesNode wp_X12_takesNode_b18 wp_X12_comes_b118
    refine ⟨fun hne => ?_, fun he => ?_⟩
    · have h16 : p < 16 := by omega
      have top := hTop.ins (fun a b c h h2 => h.tr h2) hpn h16 hlo hhi
      -- the node is taken
      have go : ∀ (σ8 : St), (∀ k, k ≠ 0 → σ8 k = τ k) → (∀ j, j ≠ 54 → j ≠ 55 → σ8 0 j = τ 0 j) → σ8 0 54 = (if τ 0 55 = -1 then τ 0 54 + 1 else τ 0 54) → σ8 0 55 = -1 → (0 ≤ (iR ρ q : Int) ∧ (iR ρ q : Int) < 768) ∧ ((σ8 38 ((iR ρ q : Int).toNat) ≠ 16) → (0 ≤ (iR ρ q : Int) ∧ (iR ρ q : Int) < 768) ∧ (0 ≤ (iR ρ q : Int) ∧ (iR ρ q : Int) < 768) ∧ ∀ σ9 : St, σ9 = upS σ8 38 (iR ρ q : Int).toNat (w32 ((σ8 38 ((iR ρ q : Int).toNat)) + 1)) → (0 ≤ (iR ρ q : Int) ∧ (iR ρ q : Int) < 768) ∧ ∀ v11 : Int, v11 = w32 ((σ9 38 ((iR ρ q : Int).toNat)) - 1) → wp_X12_comes_l128 Q bigN v (iR ρ q : Int) (p : Int) v11 σ9) ∧ (¬ (σ8 38 ((iR ρ q : Int).toNat) ≠ 16) → (0 ≤ w32 ((w32 ((w32 ((iR ρ q : Int) * 16)) + 16)) - 1) ∧ w32 ((w32 ((w32 ((iR ρ q : Int) * 16)) + 16)) - 1) < 12288) ∧ ∀ σ10 : St, σ10 = upS σ8 0 55 (σ8 37 ((w32 ((w32 ((w32 ((iR ρ q : Int) * 16)) + 16)) - 1)).toNat)) → (0 ≤ (iR ρ q : Int) ∧ (iR ρ q : Int) < 768) ∧ ∀ v11 : Int, v11 = w32 ((σ10 38 ((iR ρ q : Int).toNat)) - 1) → wp_X12_comes_l128 Q bigN v (iR ρ q : Int) (p : Int) v11 σ10) := by
        intro σ8 a1 a2 a3 a4
        have done : ∀ τ2 : St, (∀ k, k ≠ 0 → k ≠ 38 → τ2 k = τ k) → (∀ j, j ≠ 54 → j ≠ 55 → τ2 0 j = τ 0 j) → τ2 0 54 = (if τ 0 55 = -1 then τ 0 54 + 1 else τ 0 54) → τ2 0 55 = (if n = 16 then τ 37 (16 * iR ρ q + 15) else -1) → (∀ j, j ≠ iR ρ q → τ2 38 j = τ 38 j) → τ2 38 (iR ρ q) = ((min (n + 1) 16 : Nat) : Int) → wp_X12_comes_l128 Q bigN v (iR ρ q : Int) (p : Int) ((min (n + 1) 16 - 1 : Nat) : Int) τ2 := by
          intro τ2 b1 b2 b3 b4 b5 b6
          refine r_shift iRl hn16 hpn h16 b1 (fun τ1 c1 c2 c3 => ?_) (min (n + 1) 16 - 1 - p) (min (n + 1) 16 - 1) τ2 bigN (by omega) (by omega) (by unfold bigN; omega) (fun _ _ => rfl) (fun j hj => by rw [b1 37 (by decide) (by decide)]) (fun i i1 i2 => by omega)
          have f : frCm ρ q n p v τ τ1 := ⟨fun k k0 k1 k2 => by rw [c1 k k1]; exact b1 k k0 k2, c2, fun j hj => by rw [c1 38 (by decide)]; exact b5 j hj, fun j j1 j2 => by rw [c1 0 (by decide)]; exact b2 j j1 j2, by rw [c1 38 (by decide)]; exact b6, c3, by rw [c1 0 (by decide)]; exact b3, by rw [c1 0 (by decide)]; exact b4⟩
          refine hyes τ1 p hpn h16 f top ⟨f.2.2.2.2.1, fun i hi => ?_⟩
          rw [c3 i hi]
          have cg : ∀ {w : En} {u : Int}, CandE ρ F q w → PDf ρ D q w.2.1 → NdC ρ τ F q w u → NdC ρ τ1 F q w u := fun hw hpw h => NdC.cg hL hDD hq (fun k k1 k2 => f.1 k (by omega) (by omega) (by omega)) c2 hpw hw h
          by_cases i1 : i < p
          · simp only [if_pos i1]
            have hh := hP _ (hTop.2.1 i (by omega))
            exact cg hh.1 hh.2 (hrow.2 i (by omega))
          · by_cases i2 : i = p
            · simp only [if_neg i1, if_pos i2]
              exact cg hz hp nv
            · simp only [if_neg i1, if_neg i2]
              have hh := hP _ (hTop.2.1 (i - 1) (by omega))
              exact cg hh.1 hh.2 (hrow.2 (i - 1) (by omega))
        rw [Int.toNat_natCast, a1 38 (by decide), hrow.1]
        refine ⟨by omega, fun h => ⟨by omega, by omega, fun σ9 e9 => ⟨by omega, fun v11 e11 => ?_⟩⟩, fun h => ⟨?_, fun σ10 e10 => ⟨by omega, fun v11 e11 => ?_⟩⟩⟩
        · have n16 : n < 16 := by omega
          rw [w32_of (by omega) (by omega)] at e9
          rw [e9, upS_s, w32_of (by omega) (by omega), show (n : Int) + 1 - 1 = ((min (n + 1) 16 - 1 : Nat) : Int) by omega] at e11
          rw [e11]
          refine done σ9 (fun k k0 k1 => by rw [e9, upS_k k1]; exact a1 k k0) (fun j j1 j2 => by rw [e9, upS_k (by decide)]; exact a2 j j1 j2) (by rw [e9, upS_k (by decide)]; exact a3) (by rw [e9, upS_k (by decide), if_neg (by omega)]; exact a4) (fun j hj => by rw [e9, upS_j hj, a1 38 (by decide)]) (by rw [e9, upS_s]; omega)
        · rw [w32_of (x := (iR ρ q : Int) * 16) (by omega) (by omega), w32_of (x := (iR ρ q : Int) * 16 + 16) (by omega) (by omega), w32_of (by omega) (by omega)]; omega
        · have n16 : n = 16 := by omega
          rw [w32_of (x := (iR ρ q : Int) * 16) (by omega) (by omega), w32_of (x := (iR ρ q : Int) * 16 + 16) (by omega) (by omega), w32_of (x := (iR ρ q : Int) * 16 + 16 - 1) (by omega) (by omega), show (iR ρ q : Int) * 16 + 16 - 1 = ((16 * iR ρ q + 15 : Nat) : Int) by omega, Int.toNat_natCast, a1 37 (by decide)] at e10
          have e38 : σ10 38 (iR ρ q) = (n : Int) := by rw [e10, upS_k (by decide), a1 38 (by decide)]; exact hrow.1
          rw [e38, w32_of (by omega) (by omega), show (n : Int) - 1 = ((min (n + 1) 16 - 1 : Nat) : Int) by omega] at e11
          rw [e11]
          refine done σ10 (fun k k0 k1 => by rw [e10, upS_k k0]; exact a1 k k0) (fun j j1 j2 => by rw [e10, upS_j j2]; exact a2 j j1 j2) (by rw [e10, upS_j (by decide)]; exact a3) (by rw [e10, upS_s, if_pos n16]) (fun j hj => by rw [e10, upS_k (by decide), a1 38 (by decide)]) (by rw [e38]; omega)
      refine ⟨fun hs σ2 e2 => ?_, fun hs σ1 e1 σ2 e2 => ?_⟩
      · refine go σ2 (fun k hk => by rw [e2, upS_k hk]) (fun j j1 j2 => by rw [e2, upS_j j2]) (by rw [e2, upS_j (by decide), if_neg hs]) (by rw [e2, upS_s])
      · have hs0 : τ 0 55 = -1 := Classical.byContradiction hs
        rw [w32_of (by omega) (by omega)] at e1
        refine go σ2 (fun k hk => by rw [e2, upS_k hk, e1, upS_k hk]) (fun j j1 j2 => by rw [e2, upS_j j2, e1, upS_j j1]) (by rw [e2, upS_j (by decide), e1, upS_s, if_pos hs0]) (by rw [e2, upS_s])
    · have e16 : p = 16 := by
        have := Classical.byContradiction he
        omega
      exact hno (by omega) (fun i hi => hlo i (by omega))
  have lp : ∀ (x m : Nat), x ≤ n → x < m → (∀ i, x ≤ i → i < n → ltE ρ F q z (L i)) → wp_X12_comes_l34 Q m v (iR ρ q : Int) (x : Int) τ := by
    intro x
    induction x with
    | zero =>
      intro m hx hm hhi
      obtain ⟨m, rfl⟩ := suc_n hm
      unfold wp_X12_comes_l34
      exact ⟨fun _ => fin 0 hx hhi (fun i hi => by omega), fun w => absurd (by omega) w⟩
    | succ x ih =>
      intro m hx hm hhi
      obtain ⟨m, rfl⟩ := suc_n hm
      have hh := hP _ (hTop.2.1 x (by omega))
      unfold wp_X12_comes_l34
      rw [w32_of (x := (iR ρ q : Int) * 16) (by omega) (by omega), w32_of (x := (iR ρ q : Int) * 16 + ((x + 1 : Nat) : Int)) (by omega) (by omega), w32_of (x := (iR ρ q : Int) * 16 + ((x + 1 : Nat) : Int) - 1) (by omega) (by omega), show (iR ρ q : Int) * 16 + ((x + 1 : Nat) : Int) - 1 = ((16 * iR ρ q + x : Nat) : Int) by omega, Int.toNat_natCast]
      refine ⟨fun w => absurd w (by omega), fun _ => ⟨by omega, r_isAhead hg hL hF hT hR hq hp hz hh.1 nv (hrow.2 x (by omega)) (fun e => absurd e.symm (fresh x (by omega))) (fun hl => ⟨fun w => absurd w (by decide), fun _ v6 e6 => ?_⟩) (fun hl => ⟨fun _ => fin (x + 1) hx hhi (fun i hi => ?_), fun w => absurd rfl w⟩)⟩⟩
      · rw [w32_of (by omega) (by omega), show ((x + 1 : Nat) : Int) + -1 = (x : Int) by omega] at e6
        rw [e6]
        refine ih m (by omega) (by omega) (fun i i1 i2 => ?_)
        by_cases e : i = x
        · rw [e]; exact hl
        · exact hhi i (by omega) i2
      · have hne : z ≠ L x := fun e => hzP (by rw [e]; exact hTop.2.1 x (by omega))
        have hx' : ltE ρ F q (L x) z := (hF.ltTp hp hz hh.1 hne).resolve_left hl
        by_cases e : i = x
        · rw [e]; exact hx'
        · exact (hTop.2.2.1 i x (by omega) (by omega)).tr hx'
  unfold wp_X12_comes
  rw [nv.2.2.1, r2, Int.toNat_natCast, h1 r r1, r3, nv.2.2.2.1, nv.2.2.2.2.2.1]
  have v0 := nv.1
  have v1 := nv.2.1
  refine ⟨⟨v0, v1⟩, by omega, ⟨v0, v1⟩, ⟨v0, v1⟩, r_item (by omega) (by omega) ?_⟩
  rw [iRe]
  refine ⟨by omega, fun v3 e3 => ?_⟩
  rw [Int.toNat_natCast, hrow.1] at e3
  rw [e3]
  exact lp n bigN (Nat.le_refl _) (by unfold bigN; omega) (fun i i1 i2 => by omega)
