/-! nodes over a forest that has more; which of those that wait comes first -/
theorem ex_sN {ρ : St} {F F1 : Fo} {D : Nat → Prop} (h : ClF ρ F D) (hx : ExD D F F1) : ∀ (n q k : Nat), D q → k < F.1 q → sN ρ F1 n q k = sN ρ F n q k
  | 0, _, _, _, _ => rfl
  | n + 1, q, k, hq, hk => by
    have ih := ex_sN h hx n
    obtain ⟨z1, z2, z3, z4⟩ := ((h q hq).1 k hk).1
    obtain ⟨a1, a2, a3⟩ := (h q hq).2.2 _ z1
    have part : ∀ (p : Int) (x : Nat), (0 ≤ p → D p.toNat) → x < hsF F p → (if p < 0 then 0 else sN ρ F1 n p.toNat x) = (if p < 0 then 0 else sN ρ F n p.toNat x) := by
      intro p x hp hx'
      by_cases h0 : p < 0
      · rw [if_pos h0, if_pos h0]
      · rw [if_neg h0, if_neg h0]
        rw [hsF_pos (by omega)] at hx'
        exact ih _ x (hp (by omega)) hx'
    unfold sN
    rw [(hx q hq).2 k hk, part _ _ a1 z2, part _ _ a2 z3]
theorem ex_dE {ρ : St} {F F1 : Fo} {D : Nat → Prop} (h : ClF ρ F D) (hx : ExD D F F1) : ∀ (n q k : Nat), D q → k < F.1 q → dE ρ F1 n q k = dE ρ F n q k
  | 0, _, _, _, _ => rfl
  | n + 1, q, k, hq, hk => by
    have ih := ex_dE h hx n
    obtain ⟨z1, z2, z3, z4⟩ := ((h q hq).1 k hk).1
    obtain ⟨a1, a2, a3⟩ := (h q hq).2.2 _ z1
    have part : ∀ (p : Int) (x : Nat), (0 ≤ p → D p.toNat) → x < hsF F p → (if p < 0 then 0 else dE ρ F1 n p.toNat x) = (if p < 0 then 0 else dE ρ F n p.toNat x) := by
      intro p x hp hx'
      by_cases h0 : p < 0
      · rw [if_pos h0, if_pos h0]
      · rw [if_neg h0, if_neg h0]
        rw [hsF_pos (by omega)] at hx'
        exact ih _ x (hp (by omega)) hx'
    unfold dE
    rw [(hx q hq).2 k hk, part _ _ a1 z2, part _ _ a2 z3]
theorem ex_stP {ρ : St} {F F1 : Fo} {D : Nat → Prop} (h : ClF ρ F D) (hx : ExD D F F1) {p : Int} {x : Nat} (hp : 0 ≤ p → D p.toNat) (hxp : x < hsF F p) : stP ρ F1 p x = stP ρ F p x ∧ dpP ρ F1 p x = dpP ρ F p x := by
  unfold stP dpP lnT dpT
  by_cases h0 : p < 0
  · rw [if_pos h0, if_pos h0, if_pos h0, if_pos h0]; exact ⟨rfl, rfl⟩
  · rw [if_neg h0, if_neg h0, if_neg h0, if_neg h0]
    rw [hsF_pos (by omega)] at hxp
    have hq := hp (by omega)
    rw [(hx _ hq).2 x hxp]
    exact ⟨ex_sN h hx _ _ x hq hxp, ex_dE h hx _ _ x hq hxp⟩
theorem NdC.ex {ρ τ : St} {F F1 : Fo} {D : Nat → Prop} (h : ClF ρ F D) (hx : ExD D F F1) {q : Nat} {z : En} {v : Int} (hp : PDf ρ D q z.2.1) (hz : CandE ρ F q z) (hn : NdC ρ τ F q z v) : NdC ρ τ F1 q z v := by
  have a := ex_stP h hx hp.1 hz.2.1
  have b := ex_stP h hx hp.2.1 hz.2.2.1
  unfold NdC stC dpC at *
  rw [a.1, a.2, b.1, b.2]
  exact hn
/-- c nodes wait or have been taken: E tells label and entry -/
def MPd (ρ τ : St) (F : Fo) (s c : Nat) (E : Nat → Nat × En) : Prop := τ 0 59 = (c : Int) ∧ τ 0 55 = -1 ∧ (∀ p, p < c → (E p).1 < 12 ∧ CandE ρ F (12 * s + (E p).1) (E p).2 ∧ ((τ 39 p = -1 ∧ inF F (12 * s + (E p).1) (E p).2) ∨ (NdC ρ τ F (12 * s + (E p).1) (E p).2 (τ 39 p) ∧ τ 39 p < τ 0 54 ∧ ¬ inF F (12 * s + (E p).1) (E p).2))) ∧ ∀ p p', p < c → p' < c → E p = E p' → p = p'
def LvP (τ : St) (F : Fo) (s : Nat) (E : Nat → Nat × En) (p : Nat) : Prop := τ 39 p ≠ -1 ∧ F.1 (12 * s + (E p).1) < 16
def BtP (ρ : St) (F : Fo) (s : Nat) (E : Nat → Nat × En) (k p : Nat) : Prop := (E k).2.1 ≤ (E p).2.1 ∧ ((E p).1 = (E k).1 → p ≠ k → ltE ρ F (12 * s + (E k).1) (E k).2 (E p).2)
theorem pend_info {ρ τ : St} (hg : Wg ρ) (hL : LL ρ < 9) (hS : RSg ρ τ) {F : Fo} {s : Nat} (hs : s < spN (LL ρ)) {c : Nat} {E : Nat → Nat × En} (hM : MPd ρ τ F s c E) {p : Nat} (hp : p < c) (h : τ 39 p ≠ -1) : ∃ r : Nat, (r : Int) < ρ 0 4 ∧ r < 40 ∧ 0 ≤ τ 39 p ∧ τ 39 p < 40000 ∧ τ 28 (τ 39 p).toNat = (r : Int) ∧ τ 1 r = ((E p).1 : Int) ∧ τ 29 (τ 39 p).toNat = (spB (LL ρ) s : Nat) ∧ τ 31 (τ 39 p).toNat = (spF (LL ρ) s : Nat) ∧ τ 34 (τ 39 p).toNat = (E p).2.1 ∧ NdC ρ τ F (12 * s + (E p).1) (E p).2 (τ 39 p) ∧ ¬ inF F (12 * s + (E p).1) (E p).2 ∧ (cq ρ (12 * s + (E p).1) (E p).2.2.1).1 = (r : Int) := by
  obtain ⟨b1, b2, b3⟩ := hM.2.2.1 p hp
  rcases b3 with ⟨e, -⟩ | ⟨n, -, ni⟩
  · exact absurd e h
  · obtain ⟨r, hr, h8, h3, hc, -⟩ := cs_kind hg hL b1 hs b2.1
    have h40 := hg.2.1
    have eq : (12 * s + (E p).1) / 12 = s := by omega
    obtain ⟨n0, n1, n2, n3, n4, n5, n6, n7, n8, n9, n10⟩ := id n
    rw [eq] at n3 n5
    exact ⟨r, hr, by omega, n0, n1, by rw [n2]; exact hc, by rw [(hS.2.1 r hr).1]; exact h3, n3, n5, n8, n, ni, hc⟩
theorem r_firstP {ρ τ : St} (hg : Wg ρ) (hL : LL ρ < 9) (hS : RSg ρ τ) {F : Fo} {D : Nat → Prop} (hF : ClF ρ F D) (hT : ∀ q, D q → SgF ρ F q) (hR : RFo ρ τ F D) {s : Nat} (hs : s < spN (LL ρ)) (hD : ∀ a, a < 12 → D (12 * s + a)) {c : Nat} {E : Nat → Nat × En} (hM : MPd ρ τ F s c E) (hc : c < 1000) {Q : Int → St → Prop} (hno : (∀ p, p < c → ¬ LvP τ F s E p) → Q (-1) τ) (hyes : ∀ k : Nat, k < c → LvP τ F s E k → (∀ p, p < c → LvP τ F s E p → BtP ρ F s E k p) → Q (k : Int) τ) : wp_X12_firstPending τ Q := by
  have lp : ∀ (d x : Nat) (x1 : Int) (n : Nat), x + d = c → d < n → ((x1 = -1 ∧ ∀ p, p < x → ¬ LvP τ F s E p) ∨ ∃ k : Nat, k < x ∧ x1 = (k : Int) ∧ LvP τ F s E k ∧ ∀ p, p < x → LvP τ F s E p → BtP ρ F s E k p) → wp_X12_firstPending_l4 Q n x1 (x : Int) τ := by
    intro d
    induction d with
    | zero =>
      intro x x1 n hx hn hI
      obtain ⟨n, rfl⟩ := suc_n hn
      have ex : x = c := by omega
      subst ex
      unfold wp_X12_firstPending_l4
      rw [hM.1]
      refine ⟨fun _ => ?_, fun w => absurd (by omega) w⟩
      rcases hI with ⟨rfl, h⟩ | ⟨k, k1, rfl, k2, k3⟩
      · exact hno h
      · exact hyes k k1 k2 k3
    | succ d ih =>
      intro x x1 n hx hn hI
      obtain ⟨n, rfl⟩ := suc_n hn
      have hxc : x < c := by omega
      have nx : ∀ x1' : Int, ((x1' = -1 ∧ ∀ p, p < x + 1 → ¬ LvP τ F s E p) ∨ ∃ k : Nat, k < x + 1 ∧ x1' = (k : Int) ∧ LvP τ F s E k ∧ ∀ p, p < x + 1 → LvP τ F s E p → BtP ρ F s E k p) → wp_X12_firstPending_b159 Q (wp_X12_firstPending_l4 Q n) x1' (x : Int) τ := by
        intro x1' h
        unfold wp_X12_firstPending_b159
        intro v6 e6
        rw [w32_of (by omega) (by omega), show (x : Int) + 1 = ((x + 1 : Nat) : Int) by omega] at e6
        rw [e6]
        exact ih (x + 1) x1' n (by omega) (by omega) h
      -- the place is dead: nothing changes
      have dead : ¬ LvP τ F s E x → wp_X12_firstPending_b159 Q (wp_X12_firstPending_l4 Q n) x1 (x : Int) τ := by
        intro h
        refine nx x1 ?_
        rcases hI with ⟨e, g⟩ | ⟨k, k1, e, k2, k3⟩
        · refine Or.inl ⟨e, fun p hp => ?_⟩
          by_cases ep : p = x
          · rw [ep]; exact h
          · exact g p (by omega)
        · refine Or.inr ⟨k, by omega, e, k2, fun p hp hl => ?_⟩
          by_cases ep : p = x
          · rw [ep] at hl; exact absurd hl h
          · exact k3 p (by omega) hl
      unfold wp_X12_firstPending_l4
      rw [hM.1, Int.toNat_natCast]
      refine ⟨fun w => absurd w (by omega), fun _ => ⟨by omega, fun v1 e1 => ?_⟩⟩
      rw [e1]
      refine ⟨fun h => dead (fun g => g.1 h), fun h => ?_⟩
      obtain ⟨r, hr, r40, v0, v1', i28, i1, i29, i31, i34, nx', nix, -⟩ := pend_info hg hL hS hs hM hxc h
      obtain ⟨bx, cx, -⟩ := hM.2.2.1 x hxc
      have qx : 12 * s + (E x).1 < 12 * spN (LL ρ) := by omega
      obtain ⟨iRl, iRe⟩ := iR_it hL qx
      rw [show (12 * s + (E x).1) % 12 = (E x).1 by omega, show (12 * s + (E x).1) / 12 = s by omega] at iRe
      have qs := sp_s hL hs
      obtain ⟨-, f16, h38, -⟩ := hR _ (hD _ bx)
      rw [i28, Int.toNat_natCast, i1, i29, i31]
      refine ⟨⟨v0, v1'⟩, by omega, ⟨v0, v1'⟩, ⟨v0, v1'⟩, r_item (by omega) (by omega) ?_⟩
      rw [iRe]
      rw [Int.toNat_natCast, h38]
      refine ⟨by omega, fun hn16 => ?_, fun hn16 => dead (fun g => by have := g.2; omega)⟩
      have live : LvP τ F s E x := ⟨h, by omega⟩
      -- the new one is first
      have take : (∀ p, p < x → LvP τ F s E p → BtP ρ F s E x p) → wp_X12_firstPending_b159 Q (wp_X12_firstPending_l4 Q n) (x : Int) (x : Int) τ := by
        intro g
        refine nx _ (Or.inr ⟨x, by omega, rfl, live, fun p hp hl => ?_⟩)
        by_cases ep : p = x
        · rw [ep]; exact ⟨Int.le_refl _, fun _ h => absurd rfl h⟩
        · exact g p (by omega) hl
      rcases hI with ⟨e, g⟩ | ⟨k, k1, e, k2, k3⟩
      · refine ⟨fun _ => take (fun p hp hl => absurd hl (g p hp)), fun w => absurd e w⟩
      · refine ⟨fun w => absurd w (by omega), fun _ => ?_⟩
        have hkc : k < c := by omega
        obtain ⟨rk, hrk, rk40, k0, k1', j28, j1, j29, j31, j34, nk, nik, -⟩ := pend_info hg hL hS hs hM hkc k2.1
        obtain ⟨bk, ck, -⟩ := hM.2.2.1 k hkc
        have keep : BtP ρ F s E k x → wp_X12_firstPending_b159 Q (wp_X12_firstPending_l4 Q n) x1 (x : Int) τ := by
          intro g
          refine nx x1 (Or.inr ⟨k, by omega, e, k2, fun p hp hl => ?_⟩)
          by_cases ep : p = x
          · rw [ep]; exact g
          · exact k3 p (by omega) hl
        subst e
        rw [Int.toNat_natCast, i34, j34, i28, j28, Int.toNat_natCast, Int.toNat_natCast, i1, j1]
        refine ⟨⟨v0, v1'⟩, by omega, ⟨k0, k1'⟩, fun hge => ⟨⟨v0, v1'⟩, by omega, ⟨k0, k1'⟩, fun hne => keep ⟨by omega, fun _ _ => Or.inl (by omega)⟩, fun heq => ⟨⟨v0, v1'⟩, by omega, by omega, ⟨k0, k1'⟩, by omega, fun hl => keep ⟨by omega, fun e2 => absurd e2 (by omega)⟩, fun hl => ⟨by omega, ?_⟩⟩⟩, fun hlt => ?_⟩
        · have el : (E k).1 = (E x).1 := by omega
          have heq' : (E x).2.1 = (E k).2.1 := Classical.byContradiction heq
          have nk' : NdC ρ τ F (12 * s + (E x).1) (E k).2 (τ 39 k) := by rw [← el]; exact nk
          have ck' : CandE ρ F (12 * s + (E x).1) (E k).2 := by rw [← el]; exact ck
          have hpx : PDf ρ D (12 * s + (E x).1) (E x).2.2.1 := (hF _ (hD _ bx)).2.2 _ cx.1
          refine r_form hg hL hF hT hR qx hpx cx ck' nx' nk' (fun e => nd_same hF hR hpx cx ck' nx' (by rw [e]; exact nk')) (fun r4 hr4 => ⟨fun h4 => ?_, fun h4 => ?_⟩)
          · rcases hr4 with ⟨-, ez⟩ | ⟨h5, -⟩ | ⟨-, sh⟩
            · have := hM.2.2.2 x k hxc hkc (Prod.ext el.symm ez); omega
            · omega
            · exact keep ⟨by omega, fun _ _ => Or.inr ⟨by omega, by rw [el]; exact sh⟩⟩
          · rcases hr4 with ⟨h5, -⟩ | ⟨-, sh⟩ | ⟨h5, -⟩
            · omega
            · refine take (fun p hp hl => ?_)
              have b := k3 p hp hl
              refine ⟨by have := b.1; omega, fun ep _ => ?_⟩
              have lt1 : ltE ρ F (12 * s + (E x).1) (E x).2 (E k).2 := Or.inr ⟨heq', sh⟩
              by_cases epk : p = k
              · rw [epk]; exact lt1
              · have := b.2 (by omega) epk
                rw [el] at this
                exact lt1.tr this
            · omega
        · unfold wp_X12_firstPending_b88
          refine take (fun p hp hl => ?_)
          have b := (k3 p hp hl).1
          exact ⟨by omega, fun _ _ => Or.inl (by omega)⟩
  unfold wp_X12_firstPending
  exact lp c 0 (-1) bigN (by omega) (by unfold bigN; omega) (Or.inl ⟨rfl, fun p hp => by omega⟩)
