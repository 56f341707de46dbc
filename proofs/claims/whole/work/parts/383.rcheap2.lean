/-! how many trees cost so much: the reference's, span by span -/
theorem cx_ne {a i j b k l : Int} {x c : Nat} (ha : 0 ≤ a ∧ a < 12) (hi : 0 ≤ i ∧ i < j ∧ j ≤ 8) (hb : 0 ≤ b ∧ b < 12) (hk : 0 ≤ k ∧ k < l ∧ l ≤ 8) (hc : c ≤ 300) (hx : x ≤ 300) (h : ¬ (b = a ∧ k = i ∧ l = j ∧ x = c)) : cx b k l x ≠ cx a i j c := by
  intro e
  unfold cx at e
  have e2 : (it b k l).toNat = (it a i j).toNat := by omega
  have := it_inj hb hk ha hi e2
  exact h ⟨this.1, this.2.1, this.2.2, by omega⟩
theorem DN.up {ρ τ : St} {a i j k l v : Int} {n c : Nat} (h : DN ρ τ k l n) (ha : 0 ≤ a ∧ a < 12) (hi : 0 ≤ i ∧ i < j ∧ j ≤ 8) (hk : 0 ≤ k ∧ k < l ∧ l ≤ 8) (hc : c ≤ 300) (hn : n ≤ 300) (ho : ¬ (k = i ∧ l = j) ∨ n < c) : DN ρ (upS τ 41 (cx a i j c) v) k l n := by
  intro b hb x x1 x2
  rw [upS_j (cx_ne ha hi hb hk hc (by omega) (fun z => by rcases ho with o | o; exact o ⟨z.2.1, z.2.2.1⟩; omega))]
  exact h b hb x x1 x2
theorem DN.to {ρ τ : St} {i j : Int} {n m : Nat} (h : DN ρ τ i j n) (hm : m ≤ n) : DN ρ τ i j m := fun a ha x x1 x2 => h a ha x x1 (by omega)
def DS (ρ τ : St) (mo : Nat) (D : Int → Int → Prop) : Prop := ∀ k l, D k l → DN ρ τ k l mo
theorem DS.up {ρ τ : St} {mo : Nat} {D : Int → Int → Prop} (h : DS ρ τ mo D) {a i j v : Int} {c : Nat} (hD : ∀ k l, D k l → (0 ≤ k ∧ k < l ∧ l ≤ 8) ∧ ¬ (k = i ∧ l = j)) (ha : 0 ≤ a ∧ a < 12) (hi : 0 ≤ i ∧ i < j ∧ j ≤ 8) (hc : c ≤ 300) (hn : mo ≤ 300) : DS ρ (upS τ 41 (cx a i j c) v) mo D := fun k l hd => (h k l hd).up ha hi (hD k l hd).1 hc hn (Or.inl (hD k l hd).2)
section LC
variable {ρ : St} {D : Int → Int → Prop} {i j mo : Nat}
theorem r_lc48 (hg : Wg ρ) (hL : LL ρ < 9) (h80 : 0 ≤ ρ 0 8) (hi : i < j ∧ j ≤ LL ρ) (hmo : mo ≤ 300) (hD : ∀ k l, D k l → (0 ≤ k ∧ k < l ∧ l ≤ 8) ∧ ¬ (k = (i : Int) ∧ l = (j : Int))) (hin : ∀ m : Nat, i < m → m < j → D i m ∧ D m j) {c : Nat} (hc : 1 ≤ c ∧ c ≤ mo) {Q : Int → St → Prop} {K : Int → Int → Int → Int → St → Prop} (hk : ∀ τ1, LA ρ τ1 → DS ρ τ1 mo D → DN ρ τ1 i j c → K i j mo ((c + 1 : Nat) : Int) τ1) : ∀ (d r : Nat) (τ : St) (n : Nat), (r : Int) + d = ρ 0 4 → d < n → LA ρ τ → DS ρ τ mo D → DN ρ τ i j (c - 1) → (∀ a : Nat, a < 12 → τ 41 (cx a i j c) = min B0 (sumC (cwt ρ (ct ρ) c) (cS ρ (spA (LL ρ) i j) (liA ρ a r)))) → wp_X12_laysCheap_l48 Q K n (i : Int) (j : Int) (mo : Int) (c : Int) (r : Int) τ := by
  have h40 := hg.2.1
  have eL : ((LL ρ : Nat) : Int) = ρ 0 8 := by unfold LL; omega
  have hs8 : ρ 0 8 ≤ 8 := by unfold LL at hL; omega
  have q := sp_a (L := LL ρ) hL hi
  intro d
  induction d with
  | zero =>
    intro r τ n hd hn hA hS hN hP
    obtain ⟨n, rfl⟩ := suc_n hn
    unfold wp_X12_laysCheap_l48
    rw [hA.1.1]
    refine ⟨fun _ v ev => ?_, fun w => absurd (by omega) w⟩
    rw [ev, w32_of (by omega) (by omega)]
    refine hk τ hA hS (fun a ha x x1 x2 => ?_)
    by_cases e : x = c
    · subst e
      have := hP a.toNat (by omega)
      rw [show ((a.toNat : Nat) : Int) = a by omega] at this
      rw [this, ct_eq hg x1]
      unfold ctF cI itN
      rw [Int.toNat_natCast, Int.toNat_natCast, show (12 * spA (LL ρ) i j + a.toNat) / 12 = spA (LL ρ) i j by omega, show (12 * spA (LL ρ) i j + a.toNat) % 12 = a.toNat by omega, show (ρ 0 4).toNat = r by omega]
    · exact hN a ha x x1 (by omega)
  | succ d ih =>
    intro r τ n hd hn hA hS hN hP
    obtain ⟨n, rfl⟩ := suc_n hn
    have hr : (r : Int) < ρ 0 4 := by push_cast at hd; omega
    obtain ⟨k1, k2, k3, k4⟩ := hA.1.2.2.2.1 r hr
    obtain ⟨hh, hp1, hp2, hpr, -⟩ := hg.2.2 r hr
    have step : ∀ a : Nat, sumC (cwt ρ (ct ρ) c) (cS ρ (spA (LL ρ) i j) (liA ρ a (r + 1))) = sumC (cwt ρ (ct ρ) c) (cS ρ (spA (LL ρ) i j) (liA ρ a r)) + (if inA ρ a r = true then (if ρ 6 r ≤ (c : Int) then sumC (Gd ρ (c - (ρ 6 r).toNat)) (cC ρ i j r) else 0) else 0) := by
      intro a
      rw [cS_step, sumC_app, q.2.1, q.2.2]
      congr 1
      by_cases z : inA ρ a r = true
      · rw [if_pos z, if_pos z, Gd_cC hg hr]
      · rw [if_neg z, if_neg z]; rfl
    have skip : (ρ 8 r ≠ 0 ∨ ¬ ρ 6 r ≤ (c : Int)) → wp_X12_laysCheap_b178 Q K (wp_X12_laysCheap_l48 Q K n) (i : Int) (j : Int) (mo : Int) (c : Int) (r : Int) τ := by
      intro hno
      unfold wp_X12_laysCheap_b178
      intro v ev
      rw [ev, w32_of (by omega) (by omega), show (r : Int) + 1 = ((r + 1 : Nat) : Int) by omega]
      refine ih (r + 1) τ n (by push_cast at hd ⊢; omega) (by omega) hA hS hN (fun a ha => ?_)
      rw [step a, hP a ha]
      have : (if inA ρ a r = true then (if ρ 6 r ≤ (c : Int) then sumC (Gd ρ (c - (ρ 6 r).toNat)) (cC ρ i j r) else 0) else 0) = (0 : Int) := by
        by_cases z : inA ρ a r = true
        · rw [if_pos z]
          rcases hno with z2 | z2
          · exact absurd (inA_iff.1 z).2 z2
          · rw [if_neg z2]
        · rw [if_neg z]
      rw [this, Int.add_zero]
    unfold wp_X12_laysCheap_l48
    rw [hA.1.1]
    refine ⟨fun w => absurd w (by omega), fun _ => r_isIn hg hA.1.2.1 hr ?_⟩
    by_cases h8 : ρ 8 r = 0
    · rw [if_pos h8, Int.toNat_natCast, k4, k1]
      refine ⟨fun w => absurd w (by decide), fun _ => ⟨by omega, fun hle => ⟨by omega, ?_⟩, fun hle => skip (Or.inr (by omega))⟩⟩
      have ir := it_r (a := ρ 3 r) (i := (i : Int)) (j := (j : Int)) hh (by omega)
      refine r_item hh (by omega) (fun v10 e10 => ⟨by omega, ?_⟩)
      rw [w32_of (x := it (ρ 3 r) i j * 301) (by omega) (by omega), w32_of (by omega) (by omega)] at e10
      have ecx : v10.toNat = cx (ρ 3 r) i j c := by unfold cx; omega
      have gn : 0 ≤ sumC (Gd ρ (c - (ρ 6 r).toNat)) (cC ρ i j r) := sumC_nn _ (fun k _ => cv_nn (fun x _ => tpc_n hg _ _) (fun x _ => tpc_n hg _ _))
      have fin : ∀ y, y = min B0 (sumC (Gd ρ (c - (ρ 6 r).toNat)) (cC ρ i j r)) → wp_X12_laysCheap_b157 Q K (wp_X12_laysCheap_l48 Q K n) (i : Int) (j : Int) (mo : Int) (c : Int) (r : Int) v10 y τ := by
        intro y ey
        unfold wp_X12_laysCheap_b157
        have hP0 := hP (ρ 3 r).toNat (by omega)
        rw [show (((ρ 3 r).toNat : Nat) : Int) = ρ 3 r by omega] at hP0
        have sn : 0 ≤ sumC (cwt ρ (ct ρ) c) (cS ρ (spA (LL ρ) i j) (liA ρ (ρ 3 r).toNat r)) := sumC_nn _ (fun k _ => by
          unfold cwt
          by_cases z : prN ρ k ≤ c
          · rw [if_pos z]; exact cv_nn (fun x _ => tpc_n hg _ _) (fun x _ => tpc_n hg _ _)
          · rw [if_neg z]; exact Int.le_refl _)
        rw [ecx, hP0, ey]
        refine ⟨by omega, r_plusGreat (sat_r sn) (sat_r gn) ⟨by omega, fun τ1 e1 => ?_⟩⟩
        unfold wp_X12_laysCheap_b178
        intro v ev
        rw [ev, w32_of (by omega) (by omega), show (r : Int) + 1 = ((r + 1 : Nat) : Int) by omega, e1]
        refine ih (r + 1) _ n (by push_cast at hd ⊢; omega) (by omega) hA (hS.up hD hh (by omega) (by omega) hmo) (hN.up hh (by omega) (by omega) (by omega) (by omega) (Or.inr (by omega))) (fun a ha => ?_)
        by_cases e : (a : Int) = ρ 3 r
        · rw [e, upS_s, step a, if_pos (inA_iff.2 ⟨e.symm, h8⟩), if_pos (by omega), show (ρ 3 r).toNat = a by omega, sat_pl (by rw [show (ρ 3 r).toNat = a by omega] at sn; exact sn) gn]
        · rw [upS_j (cx_ne hh (by omega) (by omega) (by omega) (by omega) (by omega) (fun z => e z.1)), hP a ha, step a, if_neg (fun z => e (inA_iff.1 z).1.symm), Int.add_zero]
      rw [k4, k3, k2, w32_of (x := (c : Int) - ρ 6 r) (by omega) (by omega), show (c : Int) - ρ 6 r = ((c - (ρ 6 r).toNat : Nat) : Int) by omega]
      refine ⟨fun h5 => ⟨by omega, ?_⟩, fun h5 => ⟨by omega, by omega, ?_⟩⟩
      · refine r_cTwos hg hL h80 hA hr h5 hi (by omega) (fun m m1 m2 => ⟨(hS _ _ (hin m m1 m2).1).to (by omega), (hS _ _ (hin m m1 m2).2).to (by omega)⟩) (fin _ ?_)
        unfold cC; rw [if_neg h5]
      · have h5 : ρ 5 r = -1 := by omega
        refine r_cheapPart hg hL h80 hA hp1 hi (by omega) (hN.to (by omega)) (fin _ ?_)
        unfold cC; rw [if_pos h5, Gd_single]
    · rw [if_neg h8]
      exact ⟨fun _ => skip (Or.inl h8), fun w => absurd rfl w⟩
theorem r_lc12 (hL : LL ρ < 9) (h80 : 0 ≤ ρ 0 8) (hi : i < j ∧ j ≤ LL ρ) (hmo : mo ≤ 300) (hD : ∀ k l, D k l → (0 ≤ k ∧ k < l ∧ l ≤ 8) ∧ ¬ (k = (i : Int) ∧ l = (j : Int))) {c : Nat} (hc : 1 ≤ c ∧ c ≤ mo) {Q : Int → St → Prop} {K : Int → Int → Int → Int → St → Prop} (hk : ∀ τ1, LA ρ τ1 → DS ρ τ1 mo D → DN ρ τ1 i j (c - 1) → (∀ a : Nat, a < 12 → τ1 41 (cx a i j c) = 0) → wp_X12_laysCheap_l48 Q K bigN (i : Int) (j : Int) (mo : Int) (c : Int) 0 τ1) : ∀ (d x : Nat) (τ : St) (n : Nat), x + d = 12 → d < n → LA ρ τ → DS ρ τ mo D → DN ρ τ i j (c - 1) → (∀ a : Nat, a < x → τ 41 (cx a i j c) = 0) → wp_X12_laysCheap_l12 Q K n (i : Int) (j : Int) (mo : Int) (c : Int) (x : Int) τ := by
  have eL : ((LL ρ : Nat) : Int) = ρ 0 8 := by unfold LL; omega
  intro d
  induction d with
  | zero =>
    intro x τ n hd hn hA hS hN hP
    obtain ⟨n, rfl⟩ := suc_n hn
    unfold wp_X12_laysCheap_l12
    exact ⟨fun _ => hk τ hA hS hN (fun a ha => hP a (by omega)), fun w => absurd (by omega) w⟩
  | succ d ih =>
    intro x τ n hd hn hA hS hN hP
    obtain ⟨n, rfl⟩ := suc_n hn
    have ir := it_r (a := (x : Int)) (i := (i : Int)) (j := (j : Int)) (by omega) (by omega)
    unfold wp_X12_laysCheap_l12
    refine ⟨fun w => absurd w (by omega), fun _ => r_item (by omega) (by omega) ?_⟩
    rw [w32_of (x := it x i j * 301) (by omega) (by omega), w32_of (by omega) (by omega), show (it x i j * 301 + (c : Int)).toNat = cx x i j c by unfold cx; omega]
    refine ⟨by omega, fun τ1 e1 v ev => ?_⟩
    rw [ev, w32_of (by omega) (by omega), e1]
    refine ih (x + 1) _ n (by omega) (by omega) hA (hS.up hD (by omega) (by omega) (by omega) hmo) (hN.up (by omega) (by omega) (by omega) (by omega) (by omega) (Or.inr (by omega))) (fun a ha => ?_)
    by_cases e : a = x
    · rw [e, upS_s]
    · rw [upS_j (cx_ne (by omega) (by omega) (by omega) (by omega) (by omega) (by omega) (fun z => e (by omega)))]
      exact hP a (by omega)
theorem r_laysCheap (hg : Wg ρ) (hL : LL ρ < 9) (h80 : 0 ≤ ρ 0 8) (hi : i < j ∧ j ≤ LL ρ) (hmo : mo ≤ 300) (hD : ∀ k l, D k l → (0 ≤ k ∧ k < l ∧ l ≤ 8) ∧ ¬ (k = (i : Int) ∧ l = (j : Int))) (hin : ∀ m : Nat, i < m → m < j → D i m ∧ D m j) {τ : St} (hA : LA ρ τ) (hS : DS ρ τ mo D) {Q : Int → St → Prop} (hq : ∀ τ1, LA ρ τ1 → DS ρ τ1 mo D → DN ρ τ1 i j mo → Q 0 τ1) : wp_X12_laysCheap (i : Int) (j : Int) (mo : Int) τ Q := by
  have lp : ∀ (d c : Nat) (τ : St) (n : Nat), c + d = mo + 1 → 1 ≤ c → d < n → LA ρ τ → DS ρ τ mo D → DN ρ τ i j (c - 1) → wp_X12_laysCheap_l3 Q n (i : Int) (j : Int) (mo : Int) (c : Int) τ := by
    intro d
    induction d with
    | zero =>
      intro c τ n hd h1 hn hA hS hN
      obtain ⟨n, rfl⟩ := suc_n hn
      unfold wp_X12_laysCheap_l3
      exact ⟨fun _ => hq τ hA hS (hN.to (by omega)), fun w => absurd (by omega) w⟩
    | succ d ih =>
      intro c τ n hd h1 hn hA hS hN
      obtain ⟨n, rfl⟩ := suc_n hn
      unfold wp_X12_laysCheap_l3
      refine ⟨fun w => absurd w (by omega), fun _ => ?_⟩
      refine r_lc12 hL h80 hi hmo hD (c := c) (by omega) (fun τ1 a1 a2 a3 a4 => ?_) 12 0 τ bigN (by omega) (by unfold bigN; omega) hA hS hN (fun a ha => by omega)
      refine r_lc48 hg hL h80 hi hmo hD hin (c := c) (by omega) (fun τ2 b1 b2 b3 => ih (c + 1) τ2 n (by omega) (by omega) (by omega) b1 b2 b3) (ρ 0 4).toNat 0 τ1 bigN (by have := hg.1; omega) (by have := hg.2.1; unfold bigN; omega) a1 a2 a3 (fun a ha => ?_)
      rw [a4 a ha]
      show (0 : Int) = min B0 0
      unfold B0; decide
  unfold wp_X12_laysCheap
  exact lp mo 1 τ bigN (by omega) (by omega) (by unfold bigN; omega) hA hS (fun a ha x x1 x2 => by omega)
end LC
theorem r_cheap2 {ρ τ : St} (hW : WW ρ) (hV : VR τ ρ) {x1 x2 x3 x4 : Int} {Q : Int → St → Prop} (hno : ¬ (isItm ρ x1 x2 x3 ∧ 0 ≤ x4 ∧ x4 ≤ 300) → Q (-2) τ) (hyes : isItm ρ x1 x2 x3 → 0 ≤ x4 → x4 ≤ 300 → ∀ τ1 v, v = min B0 (sumN (ct ρ (itN ρ x1 x2 x3)) (x4.toNat + 1)) → Q (if v ≤ 1000000000000000 then v else -3) τ1) : wp_X12_cheap x1 x2 x3 x4 τ Q := by
  have hg := hW.2.2.1
  have h80 := hW.2.2.2.2.1
  have hs8 := hW.2.2.2.2.2.1
  have hL : LL ρ < 9 := by unfold LL; omega
  have eL : ((LL ρ : Nat) : Int) = ρ 0 8 := by unfold LL; omega
  unfold wp_X12_cheap
  refine r_isItem hV.2.2.2.2.2.1 (fun h => ⟨fun _ => hno (fun z => h z.1), fun q => absurd rfl q⟩) (fun h => ⟨fun q => absurd q (by decide), fun _ => r_in ?_⟩)
  by_cases hx4 : 0 ≤ x4 ∧ x4 ≤ 300
  · rw [if_pos hx4]
    refine ⟨fun _ => r_looks hW hV (fun τ1 hA => ?_), fun w => absurd (by decide) w⟩
    have h2 := h.2
    obtain ⟨mo, rfl⟩ : ∃ mo : Nat, x4 = (mo : Int) := ⟨x4.toNat, by omega⟩
    have hmo : mo ≤ 300 := by omega
    have l89 : ∀ (τ1 : St), LA ρ τ1 → DN ρ τ1 x2 x3 mo → ∀ (d x : Nat) (n : Nat), x + d = mo + 1 → 1 ≤ x → d < n → wp_X12_cheap_l89 Q n x1 x2 x3 (mo : Int) (min B0 (sumN (ct ρ (itN ρ x1 x2 x3)) x)) (x : Int) τ1 := by
      intro τ1 hA hN d
      induction d with
      | zero =>
        intro x n hd h1 hn
        obtain ⟨n, rfl⟩ := suc_n hn
        unfold wp_X12_cheap_l89
        have hy := hyes h (by omega) (by omega) τ1 _ rfl
        rw [Int.toNat_natCast, show mo + 1 = x by omega] at hy
        refine ⟨fun _ => ⟨fun w => ?_, fun w => ?_⟩, fun w => absurd (by omega) w⟩
        · rw [if_pos w] at hy; exact hy
        · rw [if_neg w] at hy; exact hy
      | succ d ih =>
        intro x n hd h1 hn
        obtain ⟨n, rfl⟩ := suc_n hn
        unfold wp_X12_cheap_l89
        refine ⟨fun w => absurd w (by omega), fun _ => ?_⟩
        have hp : isPart x1 := Or.inl h.1
        have := r_cheapPart hg hL h80 hA hp (i := x2.toNat) (j := x3.toNat) (by omega) (c := x) (by omega) (by rw [show ((x2.toNat : Nat) : Int) = x2 by omega, show ((x3.toNat : Nat) : Int) = x3 by omega]; exact hN.to (by omega)) (Q := fun r7 σ8 => wp_X12_plusGreat (min B0 (sumN (ct ρ (itN ρ x1 x2 x3)) x)) r7 σ8 (fun r9 σ10 => ∀ v11 : Int, v11 = w32 ((x : Int) + 1) → wp_X12_cheap_l89 Q n x1 x2 x3 (mo : Int) r9 v11 σ10)) ?_
        · rw [show ((x2.toNat : Nat) : Int) = x2 by omega, show ((x3.toNat : Nat) : Int) = x3 by omega] at this
          exact this
        · have sn := sumN_nn (f := ct ρ (itN ρ x1 x2 x3)) x (fun k _ => ct_n hg _ k)
          have e : tr ρ x1 x2.toNat x3.toNat x = ct ρ (itN ρ x1 x2 x3) x := by
            unfold tr
            have e := pv_itN (ρ := ρ) (p := x1) (i := x2.toNat) (j := x3.toNat) h.1
            rw [show ((x2.toNat : Nat) : Int) = x2 by omega, show ((x3.toNat : Nat) : Int) = x3 by omega] at e
            rw [e, if_neg (by omega), tp_pos (by omega), Int.toNat_natCast]
          rw [e]
          refine r_plusGreat (sat_r sn) (sat_r (ct_n hg _ _)) (fun v ev => ?_)
          rw [ev, w32_of (by omega) (by omega), sat_pl sn (ct_n hg _ _)]
          exact ih (x + 1) n (by omega) (by omega) (by omega)
    have l46 : ∀ (K : Int → Int → Int → Int → Int → St → Prop) (len : Nat), 1 ≤ len → len ≤ LL ρ → (∀ τ1, LA ρ τ1 → DS ρ τ1 mo (fun k l => (0 ≤ k ∧ k < l ∧ l ≤ ρ 0 8) ∧ l - k ≤ (len : Int)) → K x1 x2 x3 (mo : Int) ((len + 1 : Nat) : Int) τ1) → ∀ (d a : Nat) (τ1 : St) (n : Nat), a + len + d = LL ρ + 1 → d < n → LA ρ τ1 → DS ρ τ1 mo (fun k l => (0 ≤ k ∧ k < l ∧ l ≤ ρ 0 8) ∧ (l - k < (len : Int) ∨ (l - k = (len : Int) ∧ k < (a : Int)))) → wp_X12_cheap_l46 Q K n x1 x2 x3 (mo : Int) (len : Int) (a : Int) τ1 := by
      intro K len hl1 hl2 hK d
      induction d with
      | zero =>
        intro a τ1 n hd hn hA hS
        obtain ⟨n, rfl⟩ := suc_n hn
        unfold wp_X12_cheap_l46
        rw [hA.1.2.2.1, w32_of (x := (a : Int) + (len : Int)) (by omega) (by omega)]
        refine ⟨fun _ v ev => ?_, fun w => absurd (by omega) w⟩
        rw [ev, w32_of (by omega) (by omega)]
        exact hK τ1 hA (fun k l hkl => hS k l ⟨hkl.1, by have := hkl.1; have := hkl.2; omega⟩)
      | succ d ih =>
        intro a τ1 n hd hn hA hS
        obtain ⟨n, rfl⟩ := suc_n hn
        unfold wp_X12_cheap_l46
        rw [hA.1.2.2.1, w32_of (x := (a : Int) + (len : Int)) (by omega) (by omega)]
        refine ⟨fun w => absurd w (by omega), fun _ => ?_⟩
        rw [show (a : Int) + (len : Int) = ((a + len : Nat) : Int) by omega]
        refine r_laysCheap hg hL h80 (i := a) (j := a + len) (by omega) hmo (fun k l hkl => ⟨by have := hkl.1; omega, fun z => by have := hkl.2; omega⟩) (fun m m1 m2 => ⟨⟨by omega, Or.inl (by omega)⟩, ⟨by omega, Or.inl (by omega)⟩⟩) hA hS (fun τ2 b1 b2 b3 v ev => ?_)
        rw [ev, w32_of (by omega) (by omega), show (a : Int) + 1 = ((a + 1 : Nat) : Int) by omega]
        refine ih (a + 1) τ2 n (by omega) (by omega) b1 (fun k l hkl => ?_)
        by_cases e : k = (a : Int) ∧ l - k = (len : Int)
        · have e2 : l = ((a + len : Nat) : Int) := by omega
          rw [e.1, e2]; exact b3
        · exact b2 k l ⟨hkl.1, by have := hkl.2; omega⟩
    have l34 : ∀ (d len : Nat) (τ1 : St) (n : Nat), len + d = LL ρ + 1 → 1 ≤ len → d < n → LA ρ τ1 → DS ρ τ1 mo (fun k l => (0 ≤ k ∧ k < l ∧ l ≤ ρ 0 8) ∧ l - k < (len : Int)) → wp_X12_cheap_l34 Q n x1 x2 x3 (mo : Int) (len : Int) τ1 := by
      intro d
      induction d with
      | zero =>
        intro len τ1 n hd h1 hn hA hS
        obtain ⟨n, rfl⟩ := suc_n hn
        unfold wp_X12_cheap_l34
        rw [hA.1.2.2.1]
        refine ⟨fun _ => ?_, fun w => absurd (by omega) w⟩
        have := l89 τ1 hA (hS x2 x3 ⟨h.2, by omega⟩) mo 1 bigN (by omega) (by omega) (by unfold bigN; omega)
        rw [show min B0 (sumN (ct ρ (itN ρ x1 x2 x3)) 1) = 0 by show min B0 (0 + ct ρ _ 0) = 0; rw [ct_0]; unfold B0; decide] at this
        exact this
      | succ d ih =>
        intro len τ1 n hd h1 hn hA hS
        obtain ⟨n, rfl⟩ := suc_n hn
        unfold wp_X12_cheap_l34
        rw [hA.1.2.2.1]
        refine ⟨fun w => absurd w (by omega), fun _ => ?_⟩
        exact l46 (wp_X12_cheap_l34 Q n) len h1 (by omega) (fun τ2 b1 b2 => ih (len + 1) τ2 n (by omega) (by omega) (by omega) b1 (fun k l hkl => b2 k l ⟨hkl.1, by have := hkl.2; omega⟩)) (LL ρ + 1 - len) 0 τ1 bigN (by omega) (by unfold bigN; omega) hA (fun k l hkl => hS k l ⟨hkl.1, by have := hkl.1; have := hkl.2; omega⟩)
    exact l34 (LL ρ) 1 τ1 bigN (by omega) (by omega) (by unfold bigN; omega) hA (fun k l hkl => by have := hkl.1; have := hkl.2; omega)
  · rw [if_neg hx4]
    exact ⟨fun w => absurd rfl w, fun _ => hno (fun z => hx4 z.2)⟩
