/-! from an item to the parts of its cases; all spans from the last to the first -/
theorem c_gp156 {σ : St} {x1 x2 x4 x5 x6 x8 : Int} {Q : Int → St → Prop} {K : Int → Int → St → Prop} (hx4 : x4 < 432) (h5 : 0 ≤ x5 ∧ x5 ≤ 100000000) (h6 : x6 ≤ 1000000) (hv : 0 ≤ x4 → σ 81 x4.toNat = -1 ∨ 0 ≤ σ 81 x4.toNat) (hno : (x8 = 0 ∨ x4 < 0 ∨ x6 < 0) → wp_X5_goToParts_b186 Q K x1 x2 σ) (hyes : x8 ≠ 0 → 0 ≤ x4 → 0 ≤ x6 → ∀ w, vle w (σ 81 x4.toNat) → cvr w (x5 + x6) → (w = σ 81 x4.toNat ∨ w = x5 + x6) → wp_X5_goToParts_b186 Q K x1 x2 (upS σ 81 x4.toNat w)) : wp_X5_goToParts_b156 Q K x1 x2 x4 x5 x6 x8 σ := by
  unfold wp_X5_goToParts_b156
  refine ⟨fun h => hno (Or.inl h), fun h1 => ⟨fun h => hno (Or.inr (Or.inl h)), fun h2 => ⟨fun h => hno (Or.inr (Or.inr h)), fun h3 => ?_⟩⟩⟩
  rw [w32_of (by omega) (by omega)]
  have e : x4 = ((x4.toNat : Nat) : Int) := by omega
  have go : wp_X5_improve_c81 ((x4.toNat : Nat) : Int) (x5 + x6) σ (fun r10 σ11 => wp_X5_goToParts_b186 Q K x1 x2 σ11) := c_imp81 (by omega) (by omega) (hv (by omega)) (fun w f w1 w2 w3 _ _ => hyes h1 (by omega) (by omega) w w1 w2 w3)
  rw [← e] at go
  exact go
theorem c_gp126 {σ : St} {x1 x2 x3 x4 x5 x6 x7 s0 : Int} {Q : Int → St → Prop} {K : Int → Int → St → Prop} (hx3 : x3 < 432) (h5 : 0 ≤ x5 ∧ x5 ≤ 100000000) (h7 : x7 ≤ 1000000) (hv : 0 ≤ x3 → σ 81 x3.toNat = -1 ∨ 0 ≤ σ 81 x3.toNat) (hno : (s0 = 0 ∨ x3 < 0 ∨ x7 < 0) → wp_X5_goToParts_b156 Q K x1 x2 x4 x5 x6 s0 σ) (hyes : s0 ≠ 0 → 0 ≤ x3 → 0 ≤ x7 → ∀ w, vle w (σ 81 x3.toNat) → cvr w (x5 + x7) → (w = σ 81 x3.toNat ∨ w = x5 + x7) → wp_X5_goToParts_b156 Q K x1 x2 x4 x5 x6 s0 (upS σ 81 x3.toNat w)) : wp_X5_goToParts_b126 Q K x1 x2 x3 x4 x5 x6 x7 s0 σ := by
  unfold wp_X5_goToParts_b126
  refine ⟨fun h => hno (Or.inl h), fun h1 => ⟨fun h => hno (Or.inr (Or.inl h)), fun h2 => ⟨fun h => hno (Or.inr (Or.inr h)), fun h3 => ?_⟩⟩⟩
  rw [w32_of (by omega) (by omega)]
  have e : x3 = ((x3.toNat : Nat) : Int) := by omega
  have go : wp_X5_improve_c81 ((x3.toNat : Nat) : Int) (x5 + x7) σ (fun r10 σ11 => wp_X5_goToParts_b156 Q K x1 x2 x4 x5 x6 s0 σ11) := c_imp81 (by omega) (by omega) (hv (by omega)) (fun w f w1 w2 w3 _ _ => hyes h1 (by omega) (by omega) w w1 w2 w3)
  rw [← e] at go
  exact go
/-- what a case of two parts gives to its parts -/
def PCv (ρ : St) (low ar : Nat → Int) (v : Int) (c : Int × Int × Int × Int) : Prop := c.2.1 ≠ -1 → (0 ≤ c.2.2.1 → 0 ≤ pw low c.2.2.2 → cvr (ar c.2.2.1.toNat) (v + ρ 6 c.1.toNat + pw low c.2.2.2)) ∧ (0 ≤ c.2.2.2 → 0 ≤ pw low c.2.2.1 → cvr (ar c.2.2.2.toNat) (v + ρ 6 c.1.toNat + pw low c.2.2.1))
theorem PCv.le {ρ : St} {low ar ar1 : Nat → Int} {v : Int} {c : Int × Int × Int × Int} (h : PCv ρ low ar v c) (hv : ∀ x, vle (ar1 x) (ar x)) : PCv ρ low ar1 v c := fun q => ⟨fun a b => ((h q).1 a b).le (hv _), fun a b => ((h q).2 a b).le (hv _)⟩
/-- what is known of a case of an item: bounds, and of two parts their least costs -/
theorem case_pair {ρ σ : St} (hg : Wg ρ) (hL : LL ρ < 9) (hw : Lw ρ σ) {s a : Nat} (ha : a < 12) (hs : s < spN (LL ρ)) {c : Int × Int × Int × Int} (hc : c ∈ cI ρ (12 * s + a)) : ∃ r : Nat, (r : Int) < ρ 0 4 ∧ c.1 = (r : Int) ∧ ρ 3 r = (a : Int) ∧ ρ 8 r = 0 ∧ -1 ≤ c.2.2.1 ∧ -1 ≤ c.2.2.2 ∧ c.2.2.1 < 432 ∧ c.2.2.2 < 432 ∧ ((c.2.1 = -1 ∧ ρ 5 r = -1) ∨ (c.2.1 ≠ -1 ∧ ρ 5 r ≠ -1 ∧ ∃ m : Nat, spB (LL ρ) s < m ∧ m < spF (LL ρ) s ∧ c.2.2.1 = pv ρ (ρ 4 r) (spB (LL ρ) s) m ∧ c.2.2.2 = pv ρ (ρ 5 r) m (spF (LL ρ) s) ∧ LoC ρ jA (ρ 4 r) (spB (LL ρ) s : Nat) (m : Nat) (pw (σ 37) c.2.2.1) ∧ LoC ρ jA (ρ 5 r) (m : Nat) (spF (LL ρ) s : Nat) (pw (σ 37) c.2.2.2))) := by
  have q3 := sp_3 _ hL
  have qs := sp_s hL hs
  rw [mem_cI ha] at hc
  obtain ⟨r, hr, hin, hc⟩ := hc
  unfold inA at hin
  rw [Bool.and_eq_true, decide_eq_true_iff, decide_eq_true_iff] at hin
  have hr4 : (r : Int) < ρ 0 4 := by have := hg.1; omega
  obtain ⟨hh, hp1, hp2, hpr, -⟩ := hg.2.2 r hr4
  have bnd : ∀ (p : Int) (i j : Nat), isPart p → i < j ∧ j ≤ LL ρ → pv ρ p i j ≠ -2 → -1 ≤ pv ρ p i j ∧ pv ρ p i j < 432 := by
    intro p i j hp hij hn
    have q := sp_a hL hij
    unfold isPart at hp
    by_cases h1 : 100 ≤ p
    · by_cases h2 : j = i + 1 ∧ ρ 11 i = p - 100
      · rw [pv_yes h1 h2]; omega
      · rw [pv_no h1 h2] at hn; exact absurd rfl hn
    · rw [pv_lab (by omega)]; omega
  rw [mem_cC] at hc
  rcases hc with ⟨h5, hn, rfl⟩ | ⟨h5, m, m1, m2, n1, n2, rfl⟩
  · have b1 := bnd _ _ _ hp1 ⟨qs.1, qs.2.1⟩ hn
    exact ⟨r, hr4, rfl, hin.1, hin.2, b1.1, by show (-1 : Int) ≤ -1; decide, b1.2, by show (-1 : Int) < 432; decide, Or.inl ⟨rfl, h5⟩⟩
  · have hp2' : isPart (ρ 5 r) := by
      rcases hp2 with h | h
      · exact absurd h h5
      · exact h
    have b1 := bnd _ _ _ hp1 ⟨m1, by omega⟩ n1
    have b2 := bnd _ _ _ hp2' ⟨m2, qs.2.1⟩ n2
    refine ⟨r, hr4, rfl, hin.1, hin.2, b1.1, b2.1, b1.2, b2.2, Or.inr ⟨by show ((m : Nat) : Int) ≠ -1; omega, h5, m, m1, m2, rfl, rfl, ?_, ?_⟩⟩
    · exact (hw.part hg (fun _ => rfl) hL hp1 ⟨m1, by omega⟩ (sp_a hL ⟨m1, by omega⟩).1).2 n1
    · exact (hw.part hg (fun _ => rfl) hL hp2' ⟨m2, qs.2.1⟩ (sp_a hL ⟨m2, qs.2.1⟩).1).2 n2
theorem LoC.ub {g : St} {J : Int → Int → Int} {p i j v : Int} (h : LoC g J p i j v) : -1 ≤ v ∧ v ≤ 353430 := by
  rcases h with ⟨h, -⟩ | ⟨h1, h2, -⟩ <;> omega
theorem LoC.te {g : St} {J : Int → Int → Int} {p i j v : Int} (h : LoC g J p i j v) (h0 : 0 ≤ v) : Te g J p i j v := by
  rcases h with ⟨h, -⟩ | ⟨h1, h2, h3, -⟩
  · omega
  · exact h3
theorem LoC.cv {g : St} {J : Int → Int → Int} {p i j v c : Int} (h : LoC g J p i j v) (hc : Te g J p i j c) : 0 ≤ v ∧ v ≤ c := by
  rcases h with ⟨h, h2⟩ | ⟨h1, h2, h3, h4⟩
  · exact absurd hc (h2 c)
  · exact ⟨h1, h4 c hc⟩
theorem pw_neg {f : Nat → Int} {x : Int} (h : x < 0) : pw f x = 0 := by unfold pw; rw [if_pos h]
theorem pw_pos {f : Nat → Int} {x : Int} (h : 0 ≤ x) : pw f x = f x.toNat := by unfold pw; rw [if_neg (by omega)]
theorem pv_lab2 {ρ : St} (hL : LL ρ < 9) {p : Int} (hp : isPart p) {i j : Nat} (hij : i < j ∧ j ≤ LL ρ) (h0 : 0 ≤ pv ρ p i j) : p < 12 ∧ 0 ≤ p ∧ (pv ρ p i j).toNat = 12 * spA (LL ρ) i j + p.toNat ∧ spA (LL ρ) i j < spN (LL ρ) := by
  have q := sp_a hL hij
  unfold isPart at hp
  by_cases h1 : 100 ≤ p
  · by_cases h2 : j = i + 1 ∧ ρ 11 i = p - 100
    · rw [pv_yes h1 h2] at h0; omega
    · rw [pv_no h1 h2] at h0; omega
  · rw [pv_lab (by omega)]; exact ⟨by omega, by omega, by omega, q.1⟩
theorem c_gtp {ρ : St} (hg : Wg ρ) (hL : LL ρ < 9) {s a : Nat} (hs : s < spN (LL ρ)) (ha : a < 12) {σ0 : St} {v M : Int} (hv0 : 0 ≤ v ∧ v + 353529 ≤ M ∧ M ≤ 20000000) (hcx : Cx ρ (a : Int) (spB (LL ρ) s : Nat) (spF (LL ρ) s : Nat) v) (ev : σ0 81 (12 * s + a) = v) {Q : Int → St → Prop} (hq : ∀ σ1, BL ρ σ1 → σ1 37 = σ0 37 → ASm ρ σ1 M → (∀ x, 12 * s ≤ x → σ1 81 x = σ0 81 x) → (∀ x, vle (σ1 81 x) (σ0 81 x)) → (∀ c ∈ cI ρ (12 * s + a), PCv ρ (σ0 37) (σ1 81) v c) → Q 0 σ1) : ∀ (d t : Nat) (σ : St) (n : Nat), t + d = (cI ρ (12 * s + a)).length → d < n → BL ρ σ → σ 37 = σ0 37 → ASm ρ σ M → (∀ x, 12 * s ≤ x → σ 81 x = σ0 81 x) → (∀ x, vle (σ 81 x) (σ0 81 x)) → (∀ (t' : Nat) (h : t' < (cI ρ (12 * s + a)).length), t' < t → PCv ρ (σ0 37) (σ 81) v (cI ρ (12 * s + a))[t']) → wp_X5_goToParts_l9 Q n ((12 * s + a : Nat) : Int) (((PL ρ (12 * s + a)).length + t : Nat) : Int) σ := by
  intro d
  have q3 := sp_3 _ hL
  have qs := sp_s hL hs
  have h3360 := PL_3360 hg hL
  have hqi : 12 * s + a < 12 * spN (LL ρ) := by omega
  induction d with
  | zero =>
    intro t σ n hd hn hB e37 hA ho hv hc
    obtain ⟨n, rfl⟩ := suc_n hn
    unfold wp_X5_goToParts_l9
    refine c_caseEnd hL hB.1 hqi ⟨fun _ => hq σ hB e37 hA ho hv (fun c hcm => ?_), fun h => absurd (by omega) h⟩
    obtain ⟨t', ht', e⟩ := List.getElem_of_mem hcm
    subst e
    exact hc t' ht' (by omega)
  | succ d ih =>
    intro t σ n hd hn hB e37 hA ho hv hc
    obtain ⟨n, rfl⟩ := suc_n hn
    have ht : t < (cI ρ (12 * s + a)).length := by omega
    obtain ⟨hlt, e29, e30, e31, e32⟩ := hB.1.seg hqi ht
    have hm := List.getElem_mem ht
    have nx : ∀ σ1 : St, BL ρ σ1 → σ1 37 = σ0 37 → ASm ρ σ1 M → (∀ x, 12 * s ≤ x → σ1 81 x = σ0 81 x) → (∀ x, vle (σ1 81 x) (σ 81 x)) → PCv ρ (σ0 37) (σ1 81) v (cI ρ (12 * s + a))[t] → wp_X5_goToParts_b186 Q (wp_X5_goToParts_l9 Q n) ((12 * s + a : Nat) : Int) (((PL ρ (12 * s + a)).length + t : Nat) : Int) σ1 := by
      intro σ1 hB1 e1 hA1 ho1 hv1 hp1
      unfold wp_X5_goToParts_b186
      intro v12 e12
      rw [e12, w32_of (by omega) (by omega), show (((PL ρ (12 * s + a)).length + t : Nat) : Int) + 1 = (((PL ρ (12 * s + a)).length + (t + 1) : Nat) : Int) by omega]
      refine ih (t + 1) σ1 n (by omega) (by omega) hB1 e1 hA1 ho1 (fun x => (hv1 x).tr (hv x)) (fun t' ht' hlt => ?_)
      by_cases e : t' = t
      · subst e; exact hp1
      · exact (hc t' ht' (by omega)).le hv1
    generalize (cI ρ (12 * s + a))[t] = c at *
    generalize hxx : (PL ρ (12 * s + a)).length + t = x at *
    obtain ⟨r, hr4, er, h3, h8, b1, b2, b3, b4, hpair⟩ := case_pair hg hL hB.2.2 ha hs hm
    rw [e37] at hpair
    obtain ⟨hh, hp1, hp2, hpr, -⟩ := hg.2.2 r hr4
    obtain ⟨k1, k2, k3, k4, k5, k6⟩ := hB.1.1.2.2.1.1.2 r hr4
    have hn4 := hg.2.1
    unfold wp_X5_goToParts_l9
    refine c_caseEnd hL hB.1 hqi ⟨fun h => absurd h (by omega), fun _ => ?_⟩
    rw [Int.toNat_natCast, Int.toNat_natCast, e29, e31, e32, er, Int.toNat_natCast, k4]
    refine ⟨by omega, fun v5 e5 => ⟨by omega, fun v6 e6 => ⟨by omega, by omega, by omega, fun v7 e7 => ?_⟩⟩⟩
    have ho81 := ho (12 * s + a) (by omega)
    rw [ho81, ev, w32_of (by omega) (by omega)] at e7
    subst e5 e6 e7
    have g106 : wp_X5_goToParts_b106 Q (wp_X5_goToParts_l9 Q n) ((12 * s + a : Nat) : Int) (x : Int) c.2.2.1 c.2.2.2 (v + ρ 6 r) (pw (σ 37) c.2.2.1) (pw (σ 37) c.2.2.2) σ := by
      unfold wp_X5_goToParts_b106
      rw [Int.toNat_natCast, e30, e37]
      refine ⟨by omega, fun hm1 => ?_, fun hm1 => ?_⟩
      · unfold wp_X5_goToParts_b126 wp_X5_goToParts_b156
        exact ⟨fun _ => ⟨fun _ => nx σ hB e37 hA ho (fun _ => vle.rf) (fun q => absurd hm1 q), fun q => absurd rfl q⟩, fun q => absurd rfl q⟩
      · rcases hpair with ⟨q, -⟩ | ⟨-, h5, m, m1, m2, ef, es, lf, ls⟩
        · exact absurd q hm1
        have hp2' : isPart (ρ 5 r) := by
          rcases hp2 with h | h
          · exact absurd h h5
          · exact h
        have uf := lf.ub
        have us := ls.ub
        have pf : 0 ≤ c.2.2.1 → ρ 4 r < 12 ∧ 0 ≤ ρ 4 r ∧ c.2.2.1.toNat = 12 * spA (LL ρ) (spB (LL ρ) s) m + (ρ 4 r).toNat ∧ spA (LL ρ) (spB (LL ρ) s) m < spN (LL ρ) := by
          intro h0; rw [ef] at h0 ⊢; exact pv_lab2 hL hp1 ⟨m1, by omega⟩ h0
        have ps : 0 ≤ c.2.2.2 → ρ 5 r < 12 ∧ 0 ≤ ρ 5 r ∧ c.2.2.2.toNat = 12 * spA (LL ρ) m (spF (LL ρ) s) + (ρ 5 r).toNat ∧ spA (LL ρ) m (spF (LL ρ) s) < spN (LL ρ) := by
          intro h0; rw [es] at h0 ⊢; exact pv_lab2 hL hp2' ⟨m2, qs.2.1⟩ h0
        have lf2 : spA (LL ρ) (spB (LL ρ) s) m < s := by
          have := sp_lt (L := LL ρ) hL (i := spB (LL ρ) s) (j := m) (k := spB (LL ρ) s) (l := spF (LL ρ) s) ⟨m1, by omega⟩ ⟨qs.1, qs.2.1⟩ (Or.inl (by omega))
          rw [qs.2.2] at this; exact this
        have ls2 : spA (LL ρ) m (spF (LL ρ) s) < s := by
          have := sp_lt (L := LL ρ) hL (i := m) (j := spF (LL ρ) s) (k := spB (LL ρ) s) (l := spF (LL ρ) s) ⟨m2, qs.2.1⟩ ⟨qs.1, qs.2.1⟩ (Or.inl (by omega))
          rw [qs.2.2] at this; exact this
        have sf := sp_a hL (i := spB (LL ρ) s) (j := m) ⟨m1, by omega⟩
        have ss := sp_a hL (i := m) (j := spF (LL ρ) s) ⟨m2, qs.2.1⟩
        rw [← h3] at hcx
        -- the second improvement
        have second : ∀ σ1 : St, BL ρ σ1 → σ1 37 = σ0 37 → ASm ρ σ1 M → (∀ x, 12 * s ≤ x → σ1 81 x = σ0 81 x) → (∀ x, vle (σ1 81 x) (σ 81 x)) → (0 ≤ c.2.2.1 → 0 ≤ pw (σ0 37) c.2.2.2 → cvr (σ1 81 c.2.2.1.toNat) (v + ρ 6 r + pw (σ0 37) c.2.2.2)) → wp_X5_goToParts_b156 Q (wp_X5_goToParts_l9 Q n) ((12 * s + a : Nat) : Int) (x : Int) c.2.2.2 (v + ρ 6 r) (pw (σ0 37) c.2.2.1) 1 σ1 := by
          intro σ1 hB1 e1 hA1 ho1 hv1 hc1
          refine c_gp156 (by omega) (by omega) (by omega) (fun h0 => ?_) (fun h => nx σ1 hB1 e1 hA1 ho1 hv1 (fun _ => ?_)) (fun _ h0 hc0 w w1 w2 w3 => ?_)
          · obtain ⟨p1, p2, p3, p4⟩ := ps h0
            rw [p3]; exact hA1.va p4 (by omega)
          · rw [er, Int.toNat_natCast]
            exact ⟨hc1, fun g1 g2 => by omega⟩
          · obtain ⟨p1, p2, p3, p4⟩ := ps h0
            refine nx _ hB1 e1 ?_ (fun y hy => ?_) (fun y => (vle_put w1 y).tr (hv1 y)) (fun _ => ?_)
            · rw [p3] at w1 w3 ⊢
              refine hA1.put (Int.le_refl _) (by omega) w3 (by omega) (by omega) ?_
              rw [ss.2.1, ss.2.2, show (((ρ 5 r).toNat : Nat) : Int) = ρ 5 r by omega]
              exact Cx.snd hr4 h8 h5 (by omega) hcx (lf.te hc0)
            · rw [upS_j (by omega)]; exact ho1 y hy
            · rw [er, Int.toNat_natCast]
              exact ⟨fun g1 g2 => (hc1 g1 g2).le (vle_put w1 _), fun _ _ => by rw [upS_s]; exact w2⟩
        refine c_gp126 (by omega) (by omega) (by omega) (fun h0 => ?_) (fun h => second σ hB e37 hA ho (fun _ => vle.rf) (fun g1 g2 => by omega)) (fun _ h0 hc0 w w1 w2 w3 => ?_)
        · obtain ⟨p1, p2, p3, p4⟩ := pf h0
          rw [p3]; exact hA.va p4 (by omega)
        · obtain ⟨p1, p2, p3, p4⟩ := pf h0
          refine second _ hB e37 ?_ (fun y hy => ?_) (fun y => vle_put w1 y) (fun _ _ => by rw [upS_s]; exact w2)
          · rw [p3] at w1 w3 ⊢
            refine hA.put (Int.le_refl _) (by omega) w3 (by omega) (by omega) ?_
            rw [sf.2.1, sf.2.2, show (((ρ 4 r).toNat : Nat) : Int) = ρ 4 r by omega]
            exact Cx.fst hr4 h8 h5 (by omega) hcx (ls.te hc0)
          · rw [upS_j (by omega)]; exact ho y hy
    have g85 : wp_X5_goToParts_b85 Q (wp_X5_goToParts_l9 Q n) ((12 * s + a : Nat) : Int) (x : Int) c.2.2.1 c.2.2.2 (v + ρ 6 r) (pw (σ 37) c.2.2.1) σ := by
      unfold wp_X5_goToParts_b85
      refine ⟨fun h => ⟨by omega, ?_⟩, fun h => ?_⟩
      · rw [pw_pos (x := c.2.2.2) h] at g106; exact g106
      · rw [pw_neg (x := c.2.2.2) (by omega)] at g106; exact g106
    refine ⟨fun h => ⟨by omega, ?_⟩, fun h => ?_⟩
    · rw [pw_pos (x := c.2.2.1) h] at g85; exact g85
    · rw [pw_neg (x := c.2.2.1) (by omega)] at g85; exact g85
theorem c_goToParts {ρ : St} (hg : Wg ρ) (hL : LL ρ < 9) {s a : Nat} (hs : s < spN (LL ρ)) (ha : a < 12) {σ : St} {M M1 : Int} (hM : 0 ≤ M ∧ M + 353529 ≤ M1 ∧ M1 ≤ 20000000) (hB : BL ρ σ) (hA : ASm ρ σ M1) (hne : σ 81 (12 * s + a) ≠ -1) (hvM : σ 81 (12 * s + a) ≤ M) {Q : Int → St → Prop} (hq : ∀ σ1, BL ρ σ1 → σ1 37 = σ 37 → ASm ρ σ1 M1 → (∀ x, 12 * s ≤ x → σ1 81 x = σ 81 x) → (∀ x, vle (σ1 81 x) (σ 81 x)) → (∀ c ∈ cI ρ (12 * s + a), PCv ρ (σ 37) (σ1 81) (σ 81 (12 * s + a)) c) → Q 0 σ1) : wp_X5_goToParts ((12 * s + a : Nat) : Int) σ Q := by
  unfold wp_X5_goToParts
  rcases hA s a hs ha with q | ⟨q1, q2, q3⟩
  · exact absurd q hne
  refine c_caseStart hL hB.1 (by omega) ?_
  have h3360 := PL_3360 hg hL
  have hle : (cI ρ (12 * s + a)).length ≤ 3360 := by
    obtain ⟨l, hl⟩ := PL_split (ρ := ρ) (q := 12 * s + a) (12 * spN (LL ρ) - (12 * s + a + 1))
    rw [show 12 * s + a + 1 + (12 * spN (LL ρ) - (12 * s + a + 1)) = 12 * spN (LL ρ) by omega] at hl
    rw [hl, List.length_append, List.length_append] at h3360
    omega
  exact c_gtp hg hL hs ha (v := σ 81 (12 * s + a)) ⟨q1, by omega, hM.2.2⟩ q3 rfl hq (cI ρ (12 * s + a)).length 0 σ bigN (by omega) (by unfold bigN; omega) hB rfl hA (fun _ _ => rfl) (fun _ => vle.rf) (fun t' _ h => by omega)
theorem c_gd68 {ρ : St} (hg : Wg ρ) (hL : LL ρ < 9) {s : Nat} (hs : s < spN (LL ρ)) {σ0 : St} {M M1 : Int} (hM : 0 ≤ M ∧ M + 353529 ≤ M1 ∧ M1 ≤ 20000000) (h0M : ASm ρ σ0 M) {Q : Int → St → Prop} {K : Int → St → Prop} (hq : ∀ σ1, BL ρ σ1 → σ1 37 = σ0 37 → ASm ρ σ1 M1 → (∀ x, 12 * s ≤ x → σ1 81 x = σ0 81 x) → (∀ x, vle (σ1 81 x) (σ0 81 x)) → (∀ a, a < 12 → σ0 81 (12 * s + a) ≠ -1 → ∀ c ∈ cI ρ (12 * s + a), PCv ρ (σ0 37) (σ1 81) (σ0 81 (12 * s + a)) c) → K ((s : Int) - 1) σ1) : ∀ (d a : Nat) (σ : St) (n : Nat), a + d = 12 → d < n → BL ρ σ → σ 37 = σ0 37 → ASm ρ σ M1 → (∀ x, 12 * s ≤ x → σ 81 x = σ0 81 x) → (∀ x, vle (σ 81 x) (σ0 81 x)) → (∀ b, b < a → σ0 81 (12 * s + b) ≠ -1 → ∀ c ∈ cI ρ (12 * s + b), PCv ρ (σ0 37) (σ 81) (σ0 81 (12 * s + b)) c) → wp_X5_goDown_l68 Q K n (s : Int) ((12 * s : Nat) : Int) ((12 * s + a : Nat) : Int) σ := by
  intro d
  have q3 := sp_3 _ hL
  induction d with
  | zero =>
    intro a σ n hd hn hB e37 hA ho hv hc
    obtain ⟨n, rfl⟩ := suc_n hn
    unfold wp_X5_goDown_l68
    rw [w32_of (x := ((12 * s : Nat) : Int) + 12) (by omega) (by omega)]
    refine ⟨fun _ v9 e9 => ?_, fun h => absurd (by omega) h⟩
    rw [w32_of (by omega) (by omega)] at e9
    rw [e9, show (s : Int) + -1 = (s : Int) - 1 by omega]
    exact hq σ hB e37 hA ho hv (fun b hb => hc b (by omega))
  | succ d ih =>
    intro a σ n hd hn hB e37 hA ho hv hc
    obtain ⟨n, rfl⟩ := suc_n hn
    unfold wp_X5_goDown_l68 wp_X5_goDown_b94
    rw [w32_of (x := ((12 * s : Nat) : Int) + 12) (by omega) (by omega), Int.toNat_natCast]
    have es := ho (12 * s + a) (by omega)
    have ew : w32 (((12 * s + a : Nat) : Int) + 1) = ((12 * s + (a + 1) : Nat) : Int) := by rw [w32_of (by omega) (by omega)]; omega
    rw [ew]
    refine ⟨fun h => absurd h (by omega), fun _ => ⟨by omega, fun hn1 v12 e12 => ?_, fun hn1 => ?_⟩⟩
    · rw [e12]
      refine ih (a + 1) σ n (by omega) (by omega) hB e37 hA ho hv (fun b hb hb1 => ?_)
      by_cases e : b = a
      · subst e; rw [es] at hn1; exact absurd hn1 hb1
      · exact hc b (by omega) hb1
    · have hvM : σ 81 (12 * s + a) ≤ M := by
        rw [es]
        rcases h0M s a hs (by omega) with q | ⟨-, q, -⟩ <;> omega
      refine c_goToParts hg hL hs (by omega) hM hB hA hn1 hvM (fun σ1 hB1 e1 hA1 ho1 hv1 hp v12 e12 => ?_)
      rw [e12]
      refine ih (a + 1) σ1 n (by omega) (by omega) hB1 (e1.trans e37) hA1 (fun y hy => (ho1 y hy).trans (ho y hy)) (fun y => (hv1 y).tr (hv y)) (fun b hb hb1 c hcm => ?_)
      by_cases e : b = a
      · subst e
        have := hp c hcm
        rw [es, e37] at this; exact this
      · exact (hc b (by omega) hb1 c hcm).le hv1
/-- spans from k on are done -/
def DNk (ρ σ : St) (k : Nat) : Prop := BL ρ σ ∧ ASm ρ σ (410000 * ((spN (LL ρ) : Int) - k)) ∧ cvr (σ 81 (itN ρ (ρ 3 0) 0 (ρ 0 8))) 0 ∧ (∀ s a : Nat, k ≤ s → s < spN (LL ρ) → a < 12 → ∀ c, Cx ρ (a : Int) (spB (LL ρ) s : Nat) (spF (LL ρ) s : Nat) c → cvr (σ 81 (12 * s + a)) c) ∧ (∀ (r i m j : Nat), (r : Int) < ρ 0 4 → ρ 8 r = 0 → ρ 5 r ≠ -1 → i < m → m < j → j ≤ LL ρ → k ≤ spA (LL ρ) i j → ∀ c0 c2 : Int, Cx ρ (ρ 3 r) (i : Int) (j : Int) c0 → (ρ 4 r < 100 → Te ρ jA (ρ 5 r) (m : Int) (j : Int) c2 → cvr (σ 81 (12 * spA (LL ρ) i m + (ρ 4 r).toNat)) (c0 + ρ 6 r + c2)) ∧ (ρ 5 r < 100 → Te ρ jA (ρ 4 r) (i : Int) (m : Int) c2 → cvr (σ 81 (12 * spA (LL ρ) m j + (ρ 5 r).toNat)) (c0 + ρ 6 r + c2)))
theorem te_pv {ρ σ : St} (hg : Wg ρ) (hL : LL ρ < 9) (hw : Lw ρ σ) {p c : Int} (hp : isPart p) {i j : Nat} (hij : i < j ∧ j ≤ LL ρ) (h : Te ρ jA p (i : Int) (j : Int) c) : pv ρ p i j ≠ -2 ∧ 0 ≤ pw (σ 37) (pv ρ p i j) ∧ pw (σ 37) (pv ρ p i j) ≤ c := by
  have q := hw.part hg (fun _ => rfl) hL hp hij (sp_a hL hij).1
  have hn : pv ρ p i j ≠ -2 := fun e => q.1 e c h
  exact ⟨hn, (q.2 hn).cv h⟩
theorem dn_step {ρ σ σ1 σ2 : St} (hg : Wg ρ) (hL : LL ρ < 9) (h8 : 0 < ρ 0 8 ∧ ρ 0 8 ≤ 8) {s : Nat} (hs : s < spN (LL ρ)) (hD : DNk ρ σ (s + 1)) (e1 : σ1 37 = σ 37) (hv1 : ∀ x, vle (σ1 81 x) (σ 81 x)) (hc1 : ∀ (a : Nat) (c : Int), a < 12 → Cx ρ (a : Int) (spB (LL ρ) s : Nat) (spF (LL ρ) s : Nat) c → cvr (σ1 81 (12 * s + a)) c) (hB2 : BL ρ σ2) (hA2 : ASm ρ σ2 (410000 * ((spN (LL ρ) : Int) - s))) (ho2 : ∀ x, 12 * s ≤ x → σ2 81 x = σ1 81 x) (hv2 : ∀ x, vle (σ2 81 x) (σ1 81 x)) (hp2 : ∀ a, a < 12 → σ1 81 (12 * s + a) ≠ -1 → ∀ c ∈ cI ρ (12 * s + a), PCv ρ (σ1 37) (σ2 81) (σ1 81 (12 * s + a)) c) : DNk ρ σ2 s := by
  obtain ⟨hB, hA, hR, hD, hP⟩ := hD
  have qs := sp_s hL hs
  refine ⟨hB2, hA2, hR.le ((hv2 _).tr (hv1 _)), fun s' a hks hs' ha c hc => ?_, fun r i m j hr h8r h5 hi hj hjL hk c0 c2 hcx => ?_⟩
  · by_cases e : s' = s
    · subst e; rw [ho2 _ (by omega)]; exact hc1 a c ha hc
    · exact (hD s' a (by omega) hs' ha c hc).le ((hv2 _).tr (hv1 _))
  · by_cases e : spA (LL ρ) i j = s
    · have eij : spB (LL ρ) s = i ∧ spF (LL ρ) s = j := by
        have q := sp_a hL (i := i) (j := j) ⟨by omega, hjL⟩
        rw [e] at q; exact ⟨q.2.1, q.2.2⟩
      obtain ⟨hh, hp1, hp2', hpr, -⟩ := hg.2.2 r hr
      have hp5 : isPart (ρ 5 r) := by
        rcases hp2' with h | h
        · exact absurd h h5
        · exact h
      have c1 := hc1 (ρ 3 r).toNat c0 (by omega) (by rw [eij.1, eij.2, show (((ρ 3 r).toNat : Nat) : Int) = ρ 3 r by omega]; exact hcx)
      have hw : Lw ρ σ1 := by unfold Lw; rw [e1]; exact hB.2.2
      have memc : ∀ (n1 : pv ρ (ρ 4 r) i m ≠ -2) (n2 : pv ρ (ρ 5 r) m j ≠ -2), ((r : Int), (m : Int), pv ρ (ρ 4 r) i m, pv ρ (ρ 5 r) m j) ∈ cI ρ (12 * s + (ρ 3 r).toNat) := by
        intro n1 n2
        rw [mem_cI (by omega)]
        refine ⟨r, by omega, ?_, ?_⟩
        · unfold inA
          rw [decide_eq_true (by omega : ρ 3 r = (((ρ 3 r).toNat : Nat) : Int)), decide_eq_true h8r]; rfl
        · rw [mem_cC, eij.1, eij.2]
          exact Or.inr ⟨h5, m, hi, hj, n1, n2, rfl⟩
      have hne : σ1 81 (12 * s + (ρ 3 r).toNat) ≠ -1 := by have := c1.1; omega
      constructor
      · intro h4 ht
        obtain ⟨t1, t2, t3⟩ := te_pv hg hL hw hp5 ⟨hj, hjL⟩ ht
        have e4 := pv_lab (ρ := ρ) (p := ρ 4 r) (i := i) (j := m) h4
        unfold isPart at hp1
        have k := (hp2 _ (by omega) hne _ (memc (by rw [e4]; omega) t1) (by show ((m : Nat) : Int) ≠ -1; omega)).1 (by show 0 ≤ pv ρ (ρ 4 r) i m; rw [e4]; omega) t2
        have k : cvr (σ2 81 (pv ρ (ρ 4 r) i m).toNat) (σ1 81 (12 * s + (ρ 3 r).toNat) + ρ 6 ((r : Nat) : Int).toNat + pw (σ1 37) (pv ρ (ρ 5 r) m j)) := k
        rw [Int.toNat_natCast, e4, show (((spA (LL ρ) i m * 12 : Nat) : Int) + ρ 4 r).toNat = 12 * spA (LL ρ) i m + (ρ 4 r).toNat by omega] at k
        exact k.up (by have := c1.2; omega)
      · intro h4 ht
        obtain ⟨t1, t2, t3⟩ := te_pv hg hL hw hp1 ⟨hi, by omega⟩ ht
        have e4 := pv_lab (ρ := ρ) (p := ρ 5 r) (i := m) (j := j) h4
        unfold isPart at hp5
        have k := (hp2 _ (by omega) hne _ (memc t1 (by rw [e4]; omega)) (by show ((m : Nat) : Int) ≠ -1; omega)).2 (by show 0 ≤ pv ρ (ρ 5 r) m j; rw [e4]; omega) t2
        have k : cvr (σ2 81 (pv ρ (ρ 5 r) m j).toNat) (σ1 81 (12 * s + (ρ 3 r).toNat) + ρ 6 ((r : Nat) : Int).toNat + pw (σ1 37) (pv ρ (ρ 4 r) i m)) := k
        rw [Int.toNat_natCast, e4, show (((spA (LL ρ) m j * 12 : Nat) : Int) + ρ 5 r).toNat = 12 * spA (LL ρ) m j + (ρ 5 r).toNat by omega] at k
        exact k.up (by have := c1.2; omega)
    · have q := hP r i m j hr h8r h5 hi hj hjL (by omega) c0 c2 hcx
      exact ⟨fun a b => (q.1 a b).le ((hv2 _).tr (hv1 _)), fun a b => (q.2 a b).le ((hv2 _).tr (hv1 _))⟩
/-- before the turns of span s: what does not come by a rule of one label is covered -/
theorem dn_base {ρ σ : St} (hg : Wg ρ) (hL : LL ρ < 9) (h8 : 0 < ρ 0 8 ∧ ρ 0 8 ≤ 8) (h4 : 0 < ρ 0 4) {s : Nat} (hs : s < spN (LL ρ)) (hD : DNk ρ σ (s + 1)) (a : Nat) (c : Int) (ha : a < 12) (hc : Cx ρ (a : Int) (spB (LL ρ) s : Nat) (spF (LL ρ) s : Nat) c) : cvr (σ 81 (12 * s + a)) c ∨ ∃ r : Nat, r ∈ uyL ρ 12 ∧ ρ 4 r = (a : Int) ∧ ∃ c1, Cx ρ (ρ 3 r) (spB (LL ρ) s : Nat) (spF (LL ρ) s : Nat) c1 ∧ c = c1 + ρ 6 r := by
  obtain ⟨hB, hA, hR, hD, hP⟩ := hD
  have qs := sp_s hL hs
  have eL : ((LL ρ : Nat) : Int) = ρ 0 8 := by unfold LL; omega
  rcases hc.inv with ⟨p1, p2, p3, p4⟩ | ⟨r, r1, r2, h⟩
  · left
    have es : itN ρ (ρ 3 0) 0 (ρ 0 8) = 12 * s + a := by
      unfold itN
      have b0 : spB (LL ρ) s = 0 := by omega
      have f0 : spF (LL ρ) s = LL ρ := by omega
      have := qs.2.2
      rw [b0, f0] at this
      rw [← p1, show (ρ 0 8).toNat = LL ρ from rfl, show (0 : Int).toNat = 0 from rfl, this]; omega
    rw [es] at hR
    rw [p4]; exact hR
  · obtain ⟨hh, hp1, hp2', hpr, -⟩ := hg.2.2 r r1
    rcases h with ⟨h5, h4, c0, h1, h2⟩ | ⟨h5, h4, j2, c0, c2, h0, h1, h2, h3⟩ | ⟨h5, h4, i0, c0, c1, h0, h1, h2, h3⟩
    · right
      refine ⟨r, ?_, h4, c0, h1, h2⟩
      rw [mem_uyL]
      refine ⟨by omega, (ρ 3 r).toNat, by omega, ?_⟩
      unfold inA unR
      rw [decide_eq_true (by omega : ρ 3 r = (((ρ 3 r).toNat : Nat) : Int)), decide_eq_true r2, decide_eq_true h5, decide_eq_true (by omega : ρ 4 r < 12)]; rfl
    · left
      have ri := h1.in h8.1 (by omega)
      obtain ⟨j2, rfl⟩ : ∃ k : Nat, j2 = (k : Int) := ⟨j2.toNat, by omega⟩
      have hk := sp_lt (L := LL ρ) hL (i := spB (LL ρ) s) (j := spF (LL ρ) s) (k := spB (LL ρ) s) (l := j2) ⟨qs.1, qs.2.1⟩ ⟨by omega, by omega⟩ (Or.inl (by omega))
      rw [qs.2.2] at hk
      have k := (hP r (spB (LL ρ) s) (spF (LL ρ) s) j2 r1 r2 h5 qs.1 (by omega) (by omega) (by omega) c0 c2 h1).1 (by omega) h2
      rw [qs.2.2, h4, show ((a : Int)).toNat = a by omega] at k
      rw [h3]; exact k
    · left
      have ri := h1.in h8.1 (by omega)
      obtain ⟨i0, rfl⟩ : ∃ k : Nat, i0 = (k : Int) := ⟨i0.toNat, by omega⟩
      have hk := sp_lt (L := LL ρ) hL (i := spB (LL ρ) s) (j := spF (LL ρ) s) (k := i0) (l := spF (LL ρ) s) ⟨qs.1, qs.2.1⟩ ⟨by omega, by omega⟩ (Or.inl (by omega))
      rw [qs.2.2] at hk
      have k := (hP r i0 (spB (LL ρ) s) (spF (LL ρ) s) r1 r2 h5 (by omega) qs.1 qs.2.1 (by omega) c0 c1 h1).2 (by omega) h2
      rw [qs.2.2, h4, show ((a : Int)).toNat = a by omega] at k
      rw [h3]; exact k
theorem c_gd25 {ρ : St} (hg : Wg ρ) (hL : LL ρ < 9) (h8 : 0 < ρ 0 8 ∧ ρ 0 8 ≤ 8) (h4 : 0 < ρ 0 4) {Q : Int → St → Prop} (hq : ∀ σ1, DNk ρ σ1 0 → Q 0 σ1) : ∀ (k : Nat) (σ : St) (n : Nat), k ≤ spN (LL ρ) → k < n → DNk ρ σ k → wp_X5_goDown_l25 Q n ((k : Int) - 1) σ := by
  intro k
  have q3 := sp_3 _ hL
  induction k with
  | zero =>
    intro σ n hk hn hD
    obtain ⟨n, rfl⟩ := suc_n hn
    unfold wp_X5_goDown_l25
    exact ⟨fun _ => hq σ hD, fun h => absurd (by omega) h⟩
  | succ s ih =>
    intro σ n hk hn hD
    obtain ⟨n, rfl⟩ := suc_n hn
    have hs : s < spN (LL ρ) := by omega
    have hA := hD.2.1
    unfold wp_X5_goDown_l25
    rw [show ((s + 1 : Nat) : Int) - 1 = (s : Int) by omega]
    refine ⟨fun h => absurd h (by omega), fun _ v5 e5 => ?_⟩
    rw [w32_of (by omega) (by omega), show (s : Int) * 12 = ((12 * s : Nat) : Int) by omega] at e5
    rw [e5]
    have hM : (0 : Int) ≤ 410000 * ((spN (LL ρ) : Int) - ((s + 1 : Nat) : Int)) ∧ 410000 * ((spN (LL ρ) : Int) - ((s + 1 : Nat) : Int)) + 410000 = 410000 * ((spN (LL ρ) : Int) - s) ∧ 410000 * ((spN (LL ρ) : Int) - s) ≤ 14760000 := by omega
    generalize 410000 * ((spN (LL ρ) : Int) - ((s + 1 : Nat) : Int)) = M at *
    refine c_mtn hg hL hs (M := M) (σ0 := σ) (by omega) (dn_base hg hL h8 h4 hs hD) (fun σ1 hB1 e1 hA1 ho1 hv1 hc1 => ?_) 13 0 σ 1 bigN (fun _ a => σ 81 (12 * s + a)) (by omega) (by unfold bigN; omega) hD.1 rfl (hA.up (by omega)) (fun _ _ => rfl) (fun _ => vle.rf) (Or.inr rfl) (fun _ _ => rfl) (fun _ _ => rfl) (fun m a h => by omega) (fun m h => by omega) (fun h => absurd h (by decide))
    unfold wp_X5_goDown_b65
    refine c_gd68 hg hL hs (σ0 := σ1) (M := M + 51480) (M1 := 410000 * ((spN (LL ρ) : Int) - s)) (by omega) hA1 (fun σ2 hB2 e2 hA2 ho2 hv2 hp2 => ?_) 12 0 σ1 bigN (by omega) (by unfold bigN; omega) hB1 rfl (hA1.up (by omega)) (fun _ _ => rfl) (fun _ => vle.rf) (fun b hb => by omega)
    exact ih σ2 n (by omega) (by omega) (dn_step hg hL h8 hs hD e1 hv1 hc1 hB2 hA2 ho2 hv2 hp2)
theorem c_goDown {ρ σ : St} (hg : Wg ρ) (hL : LL ρ < 9) (h8 : 0 < ρ 0 8 ∧ ρ 0 8 ≤ 8) (h4 : 0 < ρ 0 4) (hB : BL ρ σ) {Q : Int → St → Prop} (hq : ∀ σ1, DNk ρ σ1 0 → Q 0 σ1) : wp_X5_goDown (itN ρ (ρ 3 0) 0 (ρ 0 8) : Nat) σ Q := by
  have q3 := sp_3 _ hL
  have eL : ((LL ρ : Nat) : Int) = ρ 0 8 := by unfold LL; omega
  have hr := w_head hg (r := 0) (by show (0 : Int) < ρ 0 4; omega)
  have hi : isItm ρ (ρ 3 0) 0 (ρ 0 8) := ⟨hr, by omega, by omega, by omega⟩
  have hit := itN_r hL hi
  have hsp := sp_a hL (i := 0) (j := LL ρ) ⟨by omega, Nat.le_refl _⟩
  have ei : itN ρ (ρ 3 0) 0 (ρ 0 8) = 12 * spA (LL ρ) 0 (LL ρ) + (ρ 3 0).toNat := by
    unfold itN
    rw [show (ρ 0 8).toNat = LL ρ from rfl, show (0 : Int).toNat = 0 from rfl]
  unfold wp_X5_goDown
  refine c_J7_fill_53178_C_c81 (fun σ2 hf he => ⟨by omega, fun σ3 e3 v4 e4 => ?_⟩)
  rw [Int.toNat_natCast] at e3
  have ek : ∀ a, a ≠ 81 → σ3 a = σ a := fun a h => by rw [e3, upS_k h]; exact he a h
  have hB3 : BL ρ σ3 := by
    obtain ⟨a, b, d⟩ := hB
    refine ⟨a.ext ?_ (fun k _ _ => ek k (by omega)) (fun k _ _ => ek k (by omega)) ?_, ?_, ?_⟩
    · rw [ek 14 (by decide)]
    · rw [ek 24 (by decide)]; exact ⟨rfl, rfl, rfl, rfl, rfl, rfl⟩
    · rw [ek 36 (by decide)]; exact b
    · unfold Lw; rw [ek 37 (by decide)]; exact d
  rw [hB3.1.1.2.1.2.1, w32_of (by omega) (by omega)] at e4
  rw [e4]
  have e81 : ∀ x, x < 432 → x ≠ itN ρ (ρ 3 0) 0 (ρ 0 8) → σ3 81 x = -1 := fun x h h2 => by rw [e3, upS_j h2]; exact hf x h
  have e81r : σ3 81 (itN ρ (ρ 3 0) 0 (ρ 0 8)) = 0 := by rw [e3, upS_s]
  refine c_gd25 hg hL h8 h4 hq (spN (LL ρ)) σ3 bigN (Nat.le_refl _) (by unfold bigN; omega) ⟨hB3, fun s a hs ha => ?_, by rw [e81r]; exact ⟨Int.le_refl _, Int.le_refl _⟩, fun s a h1 h2 => by omega, fun r i m j _ _ _ hi hj hjL hk => ?_⟩
  · by_cases e : 12 * s + a = itN ρ (ρ 3 0) 0 (ρ 0 8)
    · right
      rw [e, e81r]
      refine ⟨Int.le_refl _, by omega, ?_⟩
      have es : s = spA (LL ρ) 0 (LL ρ) := by omega
      have ea : (a : Int) = ρ 3 0 := by omega
      rw [es, hsp.2.1, hsp.2.2, ea, eL]
      exact Cx.root
    · exact Or.inl (e81 _ (by omega) e)
  · have := (sp_a hL (i := i) (j := j) ⟨by omega, hjL⟩).1; omega
