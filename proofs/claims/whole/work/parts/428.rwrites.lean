/-! the reference writes a node -/
theorem dE_sN {ρ : St} {F : Fo} : ∀ n q k, dE ρ F n q k ≤ sN ρ F n q k
  | 0, _, _ => Nat.le_refl _
  | n + 1, q, k => by
    have a : ∀ (p : Int) (x : Nat), (if p < 0 then 0 else dE ρ F n p.toNat x) ≤ (if p < 0 then 0 else sN ρ F n p.toNat x) := fun p x => by
      split
      · exact Nat.le_refl _
      · exact dE_sN n _ _
    have b := a (cf ρ q (F.2 q k).2.1) (F.2 q k).2.2.1
    have c := a (cg ρ q (F.2 q k).2.1) (F.2 q k).2.2.2
    unfold dE sN
    omega
theorem dpP_le {ρ : St} {F : Fo} {p : Int} {x : Nat} : dpP ρ F p x ≤ stP ρ F p x := by
  unfold dpP stP dpT lnT
  split
  · exact Nat.le_refl _
  · exact dE_sN _ _ _
theorem up_j {σ : St} {k i j : Nat} {x : Int} {a : Nat} (h : j ≠ i) : upS σ k i x a j = σ a j := by
  by_cases e : a = k
  · subst e; exact upS_j h
  · rw [upS_k e]
def frN (v : Int) (τ τ1 : St) : Prop := (∀ k, (k < 28 ∨ 36 < k) → τ1 k = τ k) ∧ ∀ k j, j ≠ v.toNat → τ1 k j = τ k j
theorem frN.nd {ρ τ τ1 : St} {F : Fo} {q : Nat} {z : En} {v u : Int} (f : frN v τ τ1) (hv : 0 ≤ v) (hu : u ≠ v) (h : NdC ρ τ F q z u) : NdC ρ τ1 F q z u := by
  obtain ⟨n0, n1, n2, n3, n4, n5, n6, n7, n8, n9, n10⟩ := h
  have hj : u.toNat ≠ v.toNat := by omega
  unfold NdC chN
  rw [f.2 28 _ hj, f.2 29 _ hj, f.2 30 _ hj, f.2 31 _ hj, f.2 32 _ hj, f.2 33 _ hj, f.2 34 _ hj, f.2 35 _ hj, f.2 36 _ hj, f.1 37 (by decide)]
  exact ⟨n0, n1, n2, n3, n4, n5, n6, n7, n8, n9, n10⟩
/-- what is read of a part's node -/
def pRd (τ : St) (k : Nat) (c : Int) (x : Int) : Prop := (c = -1 ∧ x = 0) ∨ (0 ≤ c ∧ c < 40000 ∧ τ k c.toNat = x)
theorem r_costNode {τ : St} {c x : Int} (h : pRd τ 34 c x) {Q : Int → St → Prop} (hq : Q x τ) : wp_X12_costNode c τ Q := by
  unfold wp_X12_costNode
  rcases h with ⟨h1, h2⟩ | ⟨h1, h2, h3⟩
  · exact ⟨fun e => absurd h1 e, fun _ => by rw [← h2]; exact hq⟩
  · exact ⟨fun _ => ⟨⟨h1, h2⟩, by rw [h3]; exact hq⟩, fun e => absurd (by omega) e⟩
theorem r_stepsNode {τ : St} {c x : Int} (h : pRd τ 35 c x) {Q : Int → St → Prop} (hq : Q x τ) : wp_X12_stepsNode c τ Q := by
  unfold wp_X12_stepsNode
  rcases h with ⟨h1, h2⟩ | ⟨h1, h2, h3⟩
  · exact ⟨fun e => absurd h1 e, fun _ => by rw [← h2]; exact hq⟩
  · exact ⟨fun _ => ⟨⟨h1, h2⟩, by rw [h3]; exact hq⟩, fun e => absurd (by omega) e⟩
theorem r_deepNode {τ : St} {c x : Int} (h : pRd τ 36 c x) {Q : Int → St → Prop} (hq : Q x τ) : wp_X12_deepNode c τ Q := by
  unfold wp_X12_deepNode
  rcases h with ⟨h1, h2⟩ | ⟨h1, h2, h3⟩
  · exact ⟨fun e => absurd h1 e, fun _ => by rw [← h2]; exact hq⟩
  · exact ⟨fun _ => ⟨⟨h1, h2⟩, by rw [h3]; exact hq⟩, fun e => absurd (by omega) e⟩
theorem pRd.fr {τ τ1 : St} {k : Nat} {c x v : Int} (h : pRd τ k c x) (hv : 0 ≤ v) (hc : c ≠ v) (e : ∀ j, j ≠ v.toNat → τ1 k j = τ k j) : pRd τ1 k c x := by
  rcases h with h | ⟨h1, h2, h3⟩
  · exact Or.inl h
  · exact Or.inr ⟨h1, h2, by rw [e _ (by omega)]; exact h3⟩
theorem pt_rd {ρ τ : St} {F : Fo} {D : Nat → Prop} (hF : ClF ρ F D) (hR : RFo ρ τ F D) {p : Int} {x : Nat} (hp : 0 ≤ p → D p.toNat) (hx : x < hsF F p) : pRd τ 34 (chN ρ τ p x) (scF F p x) ∧ pRd τ 35 (chN ρ τ p x) (stP ρ F p x : Nat) ∧ pRd τ 36 (chN ρ τ p x) (dpP ρ F p x : Nat) := by
  unfold chN stP dpP
  by_cases h : p < 0
  · rw [if_pos h, if_pos h, if_pos h, scF_neg h]
    exact ⟨Or.inl ⟨rfl, rfl⟩, Or.inl ⟨rfl, rfl⟩, Or.inl ⟨rfl, rfl⟩⟩
  · rw [if_neg h, if_neg h, if_neg h, scF_pos (by omega)]
    rw [hsF_pos (by omega)] at hx
    have hd := hp (by omega)
    have n := (hR _ hd).2.2.2 x hx
    refine ⟨Or.inr ⟨n.1, n.2.1, n.2.2.2.2.2.2.2.2.1⟩, Or.inr ⟨n.1, n.2.1, ?_⟩, Or.inr ⟨n.1, n.2.1, ?_⟩⟩
    · rw [lnT_eq hF hd hx]; exact n.2.2.2.2.2.2.2.2.2.1
    · rw [dpT_eq hF hd hx]; exact n.2.2.2.2.2.2.2.2.2.2
theorem r_writes {ρ τ : St} (hg : Wg ρ) (hL : LL ρ < 9) {F : Fo} {D : Nat → Prop} (hF : ClF ρ F D) (hT : ∀ q, D q → SgF ρ F q) (hR : RFo ρ τ F D) {q : Nat} {z : En} (hp : PDf ρ D q z.2.1) (hz : CandE ρ F q z) {r : Nat} (hr : (cq ρ q z.2.1).1 = (r : Int)) (hr4 : (r : Int) < ρ 0 4) (h4 : τ 4 r = ρ 6 r) {v : Int} (hv : v = if τ 0 55 = -1 then τ 0 54 else τ 0 55) (v0 : 0 ≤ v ∧ v < 40000) (c1 : chN ρ τ (cf ρ q z.2.1) z.2.2.1 ≠ v) (c2 : chN ρ τ (cg ρ q z.2.1) z.2.2.2 ≠ v) {i m j a b : Int} (hi : i = (spB (LL ρ) (q / 12) : Nat)) (hm : m = cm ρ q z.2.1) (hj : j = (spF (LL ρ) (q / 12) : Nat)) (ha : a = chN ρ τ (cf ρ q z.2.1) z.2.2.1) (hb : b = chN ρ τ (cg ρ q z.2.1) z.2.2.2) {Q : Int → St → Prop} (hQ : ∀ τ1, frN v τ τ1 → NdC ρ τ1 F q z v → Q v τ1) : wp_X12_writes (r : Int) i m j a b τ Q := by
  obtain ⟨p1, p2, p3⟩ := pt_rd hF hR hp.1 hz.2.1
  obtain ⟨q1, q2, q3⟩ := pt_rd hF hR hp.2.1 hz.2.2.1
  have s1 := stP_360 hg hL hF hT (fun p hp => (hR p hp).1) hp.1 hz.2.1
  have s2 := stP_360 hg hL hF hT (fun p hp => (hR p hp).1) hp.2.1 hz.2.2.1
  have d1 := dpP_le (ρ := ρ) (F := F) (p := cf ρ q z.2.1) (x := z.2.2.1)
  have d2 := dpP_le (ρ := ρ) (F := F) (p := cg ρ q z.2.1) (x := z.2.2.2)
  have hpr := (hg.2.2 r hr4).2.2.2.1
  have h40 := hg.2.1
  have sc : ∀ (p : Int) (x : Nat), (0 ≤ p → D p.toNat) → x < hsF F p → 0 ≤ scF F p x ∧ scF F p x ≤ 35640 := fun p x hp hx => by
    refine ⟨hF.sc hp hx, ?_⟩
    by_cases h : p < 0
    · rw [scF_neg h]; decide
    · rw [scF_pos (by omega)]
      rw [hsF_pos (by omega)] at hx
      exact ub_of hg hL hF hT (fun p hp => (hR p hp).1) (hp (by omega)) hx
  have e1 := sc _ _ hp.1 hz.2.1
  have e2 := sc _ _ hp.2.1 hz.2.2.1
  have hcost : z.1 = ρ 6 r + scF F (cf ρ q z.2.1) z.2.2.1 + scF F (cg ρ q z.2.1) z.2.2.2 := by
    rw [hz.2.2.2]; unfold cp; rw [hr, Int.toNat_natCast]
  rw [← ha] at p1 p2 p3 c1
  rw [← hb] at q1 q2 q3 c2
  have go : wp_X12_writes_b19 Q (r : Int) i m j a b v τ := by
    unfold wp_X12_writes_b19
    refine ⟨v0, fun σ1 f1 => ⟨v0, fun σ2 f2 => ⟨v0, fun σ3 f3 => ⟨v0, fun σ4 f4 => ⟨v0, fun σ5 f5 => ⟨v0, fun σ6 f6 => ⟨by omega, ?_⟩⟩⟩⟩⟩⟩⟩
    have o6 : ∀ k, 33 < k ∨ k < 28 → σ6 k = τ k := fun k hk => by rw [f6, upS_k (by omega), f5, upS_k (by omega), f4, upS_k (by omega), f3, upS_k (by omega), f2, upS_k (by omega), f1, upS_k (by omega)]
    refine r_costNode (p1.fr v0.1 c1 (fun j _ => by rw [o6 34 (by decide)])) (r_costNode (q1.fr v0.1 c2 (fun j _ => by rw [o6 34 (by decide)])) ⟨v0, fun σ11 f11 => ?_⟩)
    rw [Int.toNat_natCast, o6 4 (by decide), h4, w32_of (x := ρ 6 r + scF F (cf ρ q z.2.1) z.2.2.1) (by omega) (by omega), w32_of (by omega) (by omega), ← hcost] at f11
    refine r_stepsNode (p2.fr v0.1 c1 (fun j _ => by rw [f11, upS_k (by decide), o6 35 (by decide)])) (r_stepsNode (q2.fr v0.1 c2 (fun j _ => by rw [f11, upS_k (by decide), o6 35 (by decide)])) ⟨v0, fun σ16 f16 => ?_⟩)
    rw [w32_of (x := 1 + ((stP ρ F (cf ρ q z.2.1) z.2.2.1 : Nat) : Int)) (by omega) (by omega), w32_of (by omega) (by omega)] at f16
    refine r_deepNode (p3.fr v0.1 c1 (fun j _ => by rw [f16, upS_k (by decide), f11, upS_k (by decide), o6 36 (by decide)])) (r_deepNode (q3.fr v0.1 c2 (fun j _ => by rw [f16, upS_k (by decide), f11, upS_k (by decide), o6 36 (by decide)])) ⟨v0, fun σ21 f21 => ?_⟩)
    rw [w32_of (by omega) (by omega)] at f21
    refine hQ σ21 ⟨fun k hk => ?_, fun k l hl => ?_⟩ ?_
    · rw [f21, upS_k (by omega), f16, upS_k (by omega), f11, upS_k (by omega), o6 k (by omega)]
    · rw [f21, up_j hl, f16, up_j hl, f11, up_j hl, f6, up_j hl, f5, up_j hl, f4, up_j hl, f3, up_j hl, f2, up_j hl, f1, up_j hl]
    · have c37 : σ21 37 = τ 37 := by rw [f21, upS_k (by decide), f16, upS_k (by decide), f11, upS_k (by decide), o6 37 (by decide)]
      unfold NdC chN
      rw [c37]
      unfold chN at ha hb
      refine ⟨v0.1, v0.2, ?_, ?_, ?_, ?_, ?_, ?_, ?_, ?_, ?_⟩
      · rw [f21, upS_k (by decide), f16, upS_k (by decide), f11, upS_k (by decide), f6, upS_k (by decide), f5, upS_k (by decide), f4, upS_k (by decide), f3, upS_k (by decide), f2, upS_k (by decide), f1, upS_s, hr]
      · rw [f21, upS_k (by decide), f16, upS_k (by decide), f11, upS_k (by decide), f6, upS_k (by decide), f5, upS_k (by decide), f4, upS_k (by decide), f3, upS_k (by decide), f2, upS_s, hi]
      · rw [f21, upS_k (by decide), f16, upS_k (by decide), f11, upS_k (by decide), f6, upS_k (by decide), f5, upS_k (by decide), f4, upS_k (by decide), f3, upS_s, hm]
      · rw [f21, upS_k (by decide), f16, upS_k (by decide), f11, upS_k (by decide), f6, upS_k (by decide), f5, upS_k (by decide), f4, upS_s, hj]
      · rw [f21, upS_k (by decide), f16, upS_k (by decide), f11, upS_k (by decide), f6, upS_k (by decide), f5, upS_s, ha]
      · rw [f21, upS_k (by decide), f16, upS_k (by decide), f11, upS_k (by decide), f6, upS_s, hb]
      · rw [f21, upS_k (by decide), f16, upS_k (by decide), f11, upS_s]
      · rw [f21, upS_k (by decide), f16, upS_s]; unfold stC; push_cast; rfl
      · rw [f21, upS_s]; unfold dpC; omega
  unfold wp_X12_writes
  refine ⟨fun e => ?_, fun e => ?_⟩
  · rw [if_pos e] at hv; rw [← hv]; exact go
  · rw [if_neg e] at hv; rw [← hv]; exact go
