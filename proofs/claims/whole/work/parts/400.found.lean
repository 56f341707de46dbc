/-! the class's row found: the least cost with another letter at a place -/
def FSd (ρ σ : St) : Prop := ∀ p x : Nat, p < 8 → x < 26 → σ 82 (26 * p + x) = -1 ∨ (0 ≤ σ 82 (26 * p + x) ∧ σ 82 (26 * p + x) ≤ 20000000 ∧ Cx ρ (100 + (x : Int)) (p : Int) ((p : Int) + 1) (σ 82 (26 * p + x)))
def FCr (ρ : St) (fd : Nat → Int) (s r : Nat) : Prop := ∀ c0 : Int, Cx ρ (ρ 3 r) (spB (LL ρ) s : Nat) (spF (LL ρ) s : Nat) c0 → (ρ 5 r = -1 → 100 ≤ ρ 4 r → spF (LL ρ) s = spB (LL ρ) s + 1 → cvr (fd (26 * spB (LL ρ) s + (ρ 4 r - 100).toNat)) (c0 + ρ 6 r)) ∧ (ρ 5 r ≠ -1 → spB (LL ρ) s + 1 < spF (LL ρ) s → ∀ c2 : Int, (100 ≤ ρ 4 r → Te ρ jA (ρ 5 r) (spB (LL ρ) s + 1 : Nat) (spF (LL ρ) s : Nat) c2 → cvr (fd (26 * spB (LL ρ) s + (ρ 4 r - 100).toNat)) (c0 + ρ 6 r + c2)) ∧ (100 ≤ ρ 5 r → Te ρ jA (ρ 4 r) (spB (LL ρ) s : Nat) (spF (LL ρ) s - 1 : Nat) c2 → cvr (fd (26 * (spF (LL ρ) s - 1) + (ρ 5 r - 100).toNat)) (c0 + ρ 6 r + c2)))
theorem FCr.le {ρ : St} {fd fd1 : Nat → Int} {s r : Nat} (h : FCr ρ fd s r) (hv : ∀ x, vle (fd1 x) (fd x)) : FCr ρ fd1 s r := fun c0 hc => ⟨fun a b c => ((h c0 hc).1 a b c).le (hv _), fun a b c2 => ⟨fun d e => (((h c0 hc).2 a b c2).1 d e).le (hv _), fun d e => (((h c0 hc).2 a b c2).2 d e).le (hv _)⟩⟩
theorem FSd.va {ρ σ : St} (h : FSd ρ σ) {p x : Nat} (hp : p < 8) (hx : x < 26) : σ 82 (26 * p + x) = -1 ∨ 0 ≤ σ 82 (26 * p + x) := by
  rcases h p x hp hx with q | ⟨q1, q2, q3⟩
  · exact Or.inl q
  · exact Or.inr q1
theorem FSd.put {ρ σ : St} (h : FSd ρ σ) {p x : Nat} (hx : x < 26) {w c : Int} (hw : w = σ 82 (26 * p + x) ∨ w = c) (h0 : 0 ≤ c) (hc : c ≤ 20000000) (hcx : Cx ρ (100 + (x : Int)) (p : Int) ((p : Int) + 1) c) : FSd ρ (upS σ 82 (26 * p + x) w) := by
  intro p2 b hp2 hb
  by_cases e : 26 * p2 + b = 26 * p + x
  · have e1 : p2 = p := by omega
    have e2 : b = x := by omega
    subst e1 e2
    rw [upS_s]
    rcases hw with hw | hw
    · rw [hw]; exact h p2 b hp2 hb
    · rw [hw]; exact Or.inr ⟨h0, hc, hcx⟩
  · rw [upS_j e]; exact h p2 b hp2 hb
theorem vle_put82 {σ : St} {x : Nat} {w : Int} (h : vle w (σ 82 x)) (y : Nat) : vle (upS σ 82 x w 82 y) (σ 82 y) := by
  by_cases e : y = x
  · rw [e, upS_s]; exact h
  · rw [upS_j e]; exact vle.rf
theorem c_partCost {ρ σ : St} (hg : Wg ρ) (hL : LL ρ < 9) (hB : BL ρ σ) {p : Int} (hp : isPart p) {i j : Nat} (hij : i < j ∧ j ≤ LL ρ) {Q : Int → St → Prop} (hq : ∀ v, LoC ρ jA p (i : Int) (j : Int) v → Q v σ) : wp_X5_partCost p (i : Int) (j : Int) σ Q := by
  have q3 := sp_3 _ hL
  have q := sp_a hL hij
  have P := hB.2.2.part hg (fun _ => rfl) hL hp hij q.1
  have hp' := hp
  unfold isPart at hp'
  unfold wp_X5_partCost wp_X5_partCost_b52
  have e25 : σ 25 i = ρ 11 i := hB.1.1.1.2 i (by unfold LL at hij; omega)
  rw [w32_of (x := (i : Int) + 1) (by omega) (by omega), Int.toNat_natCast, e25, w32_of (x := p - 100) (by omega) (by omega)]
  have no : 100 ≤ p → ¬ (j = i + 1 ∧ ρ 11 i = p - 100) → Q (-1) σ := fun h1 h2 => hq (-1) (Or.inl ⟨rfl, P.1 (pv_no h1 h2)⟩)
  refine ⟨fun h1 => ⟨fun h2 => no h1 (by omega), fun h2 => ⟨by omega, fun h3 => no h1 (by omega), fun h3 => ?_⟩⟩, fun h1 => ?_⟩
  · have hy : j = i + 1 ∧ ρ 11 i = p - 100 := ⟨by omega, by omega⟩
    have := P.2 (by rw [pv_yes h1 hy]; decide)
    rw [pv_yes h1 hy, pw_neg (by decide)] at this
    exact hq 0 this
  · have e : w32 (w32 ((i : Int) * 9) + (j : Int)) = ((i * 9 + j : Nat) : Int) := by rw [w32_of (x := (i : Int) * 9) (by omega) (by omega), w32_of (by omega) (by omega)]; push_cast; omega
    unfold wp_X0_itemAt
    rw [e, Int.toNat_natCast, hB.1.1.2.1.2.2.2 _ _ hij.1 hij.2 q.1]
    refine ⟨by omega, ?_⟩
    have e2 : w32 (w32 (((spA (LL ρ) i j : Nat) : Int) * 12) + p) = pv ρ p i j := by
      rw [w32_of (x := ((spA (LL ρ) i j : Nat) : Int) * 12) (by omega) (by omega), w32_of (by omega) (by omega), pv_lab (by omega)]
      push_cast; omega
    rw [e2]
    have e3 := pv_lab (ρ := ρ) (p := p) (i := i) (j := j) (by omega)
    refine ⟨by rw [e3]; omega, ?_⟩
    have := P.2 (by rw [e3]; omega)
    rw [pw_pos (by rw [e3]; omega)] at this
    exact hq _ this
theorem c_tryLetter {ρ σ : St} {p : Int} (hp : isPart p) {t : Nat} (ht : t < 8) {v u : Int} (hv : -1 ≤ v ∧ v ≤ 1000000) (hu : 0 ≤ u ∧ u ≤ 20000000) (hF : FSd ρ σ) {Q : Int → St → Prop} (hno : (p < 100 ∨ v = -1) → Q 0 σ) (hyes : 100 ≤ p → 0 ≤ v → ∀ w, vle w (σ 82 (26 * t + (p - 100).toNat)) → cvr w (u + v) → (w = σ 82 (26 * t + (p - 100).toNat) ∨ w = u + v) → Q 0 (upS σ 82 (26 * t + (p - 100).toNat) w)) : wp_X5_tryLetter p (t : Int) v u σ Q := by
  unfold isPart at hp
  unfold wp_X5_tryLetter
  refine ⟨fun h => hno (Or.inl h), fun h1 => ⟨fun h => hno (Or.inr h), fun h2 => ?_⟩⟩
  have e : w32 (w32 (w32 ((t : Int) * 26) + p) - 100) = ((26 * t + (p - 100).toNat : Nat) : Int) := by
    rw [w32_of (x := (t : Int) * 26) (by omega) (by omega), w32_of (x := (t : Int) * 26 + p) (by omega) (by omega), w32_of (by omega) (by omega)]; push_cast; omega
  rw [e, w32_of (by omega) (by omega)]
  exact c_imp82 (by omega) (by omega) (hF.va ht (by omega)) (fun w f w1 w2 w3 => hyes (by omega) (by omega) w w1 w2 w3)
theorem c_tryRule {ρ σ : St} (hg : Wg ρ) (hL : LL ρ < 9) (hD : DNk ρ σ 0) (hF : FSd ρ σ) {s r : Nat} (hs : s < spN (LL ρ)) (hr : (r : Int) < ρ 0 4) (h8 : ρ 8 r = 0) {Q : Int → St → Prop} (hq : ∀ σ1, DNk ρ σ1 0 → FSd ρ σ1 → (∀ x, vle (σ1 82 x) (σ 82 x)) → FCr ρ (σ1 82) s r → (∀ k, k ≠ 82 → σ1 k = σ k) → Q 0 σ1) : wp_X5_tryRule (r : Int) (s : Int) σ Q := by
  have q3 := sp_3 _ hL
  have qs := sp_s hL hs
  have hn4 := hg.2.1
  obtain ⟨hh, hp1, hp2, hpr, -⟩ := hg.2.2 r hr
  have hB := hD.1
  have hp1u := hp1
  unfold isPart at hp1u
  obtain ⟨k1, k2, k3, k4, k5, k6⟩ := hB.1.1.2.2.1.1.2 r hr
  obtain ⟨e26, e27⟩ := hB.1.1.2.1.2.2.1 s hs
  have hcv := hD.2.2.2.1 s (ρ 3 r).toNat (by omega) hs (by omega)
  rw [show (((ρ 3 r).toNat : Nat) : Int) = ρ 3 r by omega] at hcv
  unfold wp_X5_tryRule wp_X5_tryRule_b94
  have ei : w32 (w32 ((s : Int) * 12) + ρ 3 r) = ((12 * s + (ρ 3 r).toNat : Nat) : Int) := by
    rw [w32_of (x := (s : Int) * 12) (by omega) (by omega), w32_of (by omega) (by omega)]; push_cast; omega
  rw [Int.toNat_natCast, Int.toNat_natCast, e26, e27, k1, k2, k3, k4, ei, Int.toNat_natCast]
  refine ⟨by omega, fun v1 e1 => ⟨by omega, fun v2 e2 => ⟨by omega, by omega, fun v3 e3 => ⟨by omega, fun v4 e4 => ⟨by omega, fun v5 e5 => ?_⟩⟩⟩⟩⟩
  subst e1 e2 e3 e4 e5
  rcases hD.2.1 s (ρ 3 r).toNat hs (by omega) with q | ⟨u1, u2, u3⟩
  · refine ⟨fun h => absurd q h, fun _ => hq σ hD hF (fun _ => vle.rf) (fun c0 hc => ?_) (fun _ _ => rfl)⟩
    have := (hcv c0 hc).1; omega
  rw [show (((ρ 3 r).toNat : Nat) : Int) = ρ 3 r by omega] at u3
  have hcv2 : ∀ c0, Cx ρ (ρ 3 r) (spB (LL ρ) s : Nat) (spF (LL ρ) s : Nat) c0 → σ 81 (12 * s + (ρ 3 r).toNat) ≤ c0 := fun c0 hc => (hcv c0 hc).2
  clear hcv
  generalize hu : σ 81 (12 * s + (ρ 3 r).toNat) = u at *
  have u4 : u ≤ 14760000 := by omega
  refine ⟨fun _ => ⟨fun h5 => ⟨fun hlt => ?_, fun hlt => ?_⟩, fun h5 => ⟨fun hne => ?_, fun hne => ?_⟩⟩, fun h => absurd (by omega : u ≠ -1) h⟩
  · rw [w32_of (by omega) (by omega)] at hlt
    exact hq σ hD hF (fun _ => vle.rf) (fun c0 hc => ⟨fun h => absurd h h5, fun _ h => by omega⟩) (fun _ _ => rfl)
  · rw [w32_of (by omega) (by omega)] at hlt
    have hp5 : isPart (ρ 5 r) := by
      rcases hp2 with h | h
      · exact absurd h h5
      · exact h
    rw [w32_of (x := ((spB (LL ρ) s : Nat) : Int) + 1) (by omega) (by omega), w32_of (x := ((spF (LL ρ) s : Nat) : Int) - 1) (by omega) (by omega), show ((spB (LL ρ) s : Nat) : Int) + 1 = ((spB (LL ρ) s + 1 : Nat) : Int) by omega, show ((spF (LL ρ) s : Nat) : Int) - 1 = ((spF (LL ρ) s - 1 : Nat) : Int) by omega]
    have hp5u := hp5
    unfold isPart at hp5u
    refine c_partCost hg hL hB hp5 ⟨by omega, qs.2.1⟩ (fun v2 hv2 => ⟨by omega, ?_⟩)
    rw [k4, w32_of (x := u + ρ 6 r) (by omega) (by omega)]
    have n2 := hv2.ub
    have second : ∀ σ1 : St, DNk ρ σ1 0 → FSd ρ σ1 → (∀ x, vle (σ1 82 x) (σ 82 x)) → (∀ k, k ≠ 82 → σ1 k = σ k) → (∀ c0 c2, Cx ρ (ρ 3 r) (spB (LL ρ) s : Nat) (spF (LL ρ) s : Nat) c0 → 100 ≤ ρ 4 r → Te ρ jA (ρ 5 r) (spB (LL ρ) s + 1 : Nat) (spF (LL ρ) s : Nat) c2 → cvr (σ1 82 (26 * spB (LL ρ) s + (ρ 4 r - 100).toNat)) (c0 + ρ 6 r + c2)) → wp_X5_partCost (ρ 4 r) ((spB (LL ρ) s : Nat) : Int) ((spF (LL ρ) s - 1 : Nat) : Int) σ1 (fun r10 σ11 => (0 ≤ (r : Int) ∧ (r : Int) < 40) ∧ wp_X5_tryLetter (ρ 5 r) ((spF (LL ρ) s - 1 : Nat) : Int) r10 (w32 (u + σ11 18 r)) σ11 (fun _ σ13 => Q 0 σ13)) := by
      intro σ1 hD1 hF1 hv1 ek hc1
      refine c_partCost hg hL hD1.1 hp1 ⟨by omega, by omega⟩ (fun v1 hv1' => ⟨by omega, ?_⟩)
      rw [ek 18 (by decide), k4, w32_of (x := u + ρ 6 r) (by omega) (by omega)]
      have n1 := hv1'.ub
      refine c_tryLetter hp5 (by omega) (by omega) (by omega) hF1 (fun h => hq σ1 hD1 hF1 hv1 (fun c0 hc => ⟨fun q => absurd q h5, fun _ _ c2 => ⟨fun a b => hc1 c0 c2 hc a b, fun a b => ?_⟩⟩) ek) (fun h100 h0 w w1 w2 w3 => ?_)
      · have := hv1'.cv b; omega
      · refine hq _ hD1 (hF1.put (c := u + ρ 6 r + v1) (by omega) w3 (by omega) (by omega) ?_) (fun x => (vle_put82 w1 x).tr (hv1 x)) (fun c0 hc => ⟨fun q => absurd q h5, fun _ _ c2 => ⟨fun a b => (hc1 c0 c2 hc a b).le (vle_put82 w1 _), fun a b => ?_⟩⟩) (fun k hk => by rw [upS_k hk]; exact ek k hk)
        · have := Cx.snd hr h8 h5 (m := ((spF (LL ρ) s - 1 : Nat) : Int)) (by omega) u3 (hv1'.te h0)
          rw [show (100 : Int) + (((ρ 5 r - 100).toNat : Nat) : Int) = ρ 5 r by omega, show ((spF (LL ρ) s - 1 : Nat) : Int) + 1 = ((spF (LL ρ) s : Nat) : Int) by omega]
          exact this
        · rw [upS_s]
          have := hv1'.cv b
          have := hcv2 c0 hc
          exact w2.up (by omega)
    refine c_tryLetter hp1 (by omega) (by omega) (by omega) hF (fun h => second σ hD hF (fun _ => vle.rf) (fun _ _ => rfl) (fun c0 c2 hc a b => ?_)) (fun h100 h0 w w1 w2 w3 => ?_)
    · have := hv2.cv b; omega
    · refine second _ hD (hF.put (c := u + ρ 6 r + v2) (by omega) w3 (by omega) (by omega) ?_) (vle_put82 w1) (fun k hk => by rw [upS_k hk]) (fun c0 c2 hc a b => ?_)
      · have := Cx.fst hr h8 h5 (m := ((spB (LL ρ) s + 1 : Nat) : Int)) (by omega) u3 (hv2.te h0)
        rw [show (100 : Int) + (((ρ 4 r - 100).toNat : Nat) : Int) = ρ 4 r by omega, show ((spB (LL ρ) s : Nat) : Int) + 1 = ((spB (LL ρ) s + 1 : Nat) : Int) by omega]
        exact this
      · rw [upS_s]
        have := hv2.cv b
        have := hcv2 c0 hc
        exact w2.up (by omega)
  · rw [w32_of (by omega) (by omega)] at hne
    refine ⟨by omega, ?_⟩
    rw [w32_of (x := u + ρ 6 r) (by omega) (by omega)]
    exact c_tryLetter hp1 (by omega) (by omega) (by omega) hF (fun _ => hq σ hD hF (fun _ => vle.rf) (fun c0 hc => ⟨fun _ _ h => by omega, fun h => absurd h h5⟩) (fun _ _ => rfl)) (fun _ h => absurd h (by decide))
  · rw [w32_of (by omega) (by omega)] at hne
    have h5' : ρ 5 r = -1 := by omega
    refine ⟨by omega, ?_⟩
    rw [w32_of (x := u + ρ 6 r) (by omega) (by omega)]
    refine c_tryLetter hp1 (by omega) (by omega) (by omega) hF (fun h => hq σ hD hF (fun _ => vle.rf) (fun c0 hc => ⟨fun _ a _ => by omega, fun h => absurd h5' h⟩) (fun _ _ => rfl)) (fun h100 _ w w1 w2 w3 => ?_)
    refine hq _ hD (hF.put (c := u + ρ 6 r + 0) (by omega) w3 (by omega) (by omega) ?_) (vle_put82 w1) (fun c0 hc => ⟨fun _ _ _ => ?_, fun h => absurd h5' h⟩) (fun k hk => by rw [upS_k hk])
    · have := Cx.one hr h8 h5' u3
      rw [show (100 : Int) + (((ρ 4 r - 100).toNat : Nat) : Int) = ρ 4 r by omega, Int.add_zero, show ((spB (LL ρ) s : Nat) : Int) + 1 = ((spF (LL ρ) s : Nat) : Int) by omega]
      exact this
    · rw [upS_s]
      have := hcv2 c0 hc
      exact w2.up (by omega)
/-- the least cost of the whole, were the letter at a place another one -/
def LoX (g : St) (A N v : Int) : Prop := (v = -1 ∧ ∀ c, ¬ Te g jA A 0 N c) ∨ (0 ≤ v ∧ v ≤ 20000000 ∧ Te g jA A 0 N v ∧ ∀ c, Te g jA A 0 N c → v ≤ c)
def Mv (ρ : St) (p x : Nat) (v : Int) : Prop := (ρ 0 4 = 0 ∧ v = -1) ∨ (0 < ρ 0 4 ∧ LoX (upS ρ 11 p x) (ρ 3 0) (ρ 0 8) v)
theorem fd_mv {ρ σ : St} (hg : Wg ρ) (hL : LL ρ < 9) (h8 : 0 < ρ 0 8 ∧ ρ 0 8 ≤ 8) (h4 : 0 < ρ 0 4) (hF : FSd ρ σ) (hC : ∀ s r : Nat, s < spN (LL ρ) → (r : Int) < ρ 0 4 → ρ 8 r = 0 → FCr ρ (σ 82) s r) {p x : Nat} (hp : (p : Int) < ρ 0 8) (hx : x < 26) : Mv ρ p x (σ 82 (26 * p + x)) := by
  right
  refine ⟨h4, ?_⟩
  have eL : ((LL ρ : Nat) : Int) = ρ 0 8 := by unfold LL; omega
  have hr0 := w_head hg (r := 0) (by show (0 : Int) < ρ 0 4; omega)
  have cov : ∀ c, Cx ρ (100 + (x : Int)) (p : Int) ((p : Int) + 1) c → cvr (σ 82 (26 * p + x)) c := by
    intro c hc
    rcases hc.inv with ⟨p1, -⟩ | ⟨r, r1, r2, h⟩
    · omega
    · rcases h with ⟨h5, h4, c0, h1, h2⟩ | ⟨h5, h4, j2, c0, c2, h0, h1, h2, h3⟩ | ⟨h5, h4, i0, c0, c1, h0, h1, h2, h3⟩
      · have q := sp_a hL (i := p) (j := p + 1) ⟨by omega, by omega⟩
        have k := (hC (spA (LL ρ) p (p + 1)) r q.1 r1 r2 c0 (by rw [q.2.1, q.2.2]; push_cast; exact h1)).1 h5 (by omega) (by rw [q.2.1, q.2.2])
        rw [q.2.1, h4, show (100 + (x : Int) - 100).toNat = x by omega] at k
        rw [h2]; exact k
      · have ri := h1.in h8.1 (by omega)
        obtain ⟨j2, rfl⟩ : ∃ k : Nat, j2 = (k : Int) := ⟨j2.toNat, by omega⟩
        have q := sp_a hL (i := p) (j := j2) ⟨by omega, by omega⟩
        have k := ((hC (spA (LL ρ) p j2) r q.1 r1 r2 c0 (by rw [q.2.1, q.2.2]; exact h1)).2 h5 (by rw [q.2.1, q.2.2]; omega) c2).1 (by omega) (by rw [q.2.1, q.2.2]; push_cast; exact h2)
        rw [q.2.1, h4, show (100 + (x : Int) - 100).toNat = x by omega] at k
        rw [h3]; exact k
      · have ri := h1.in h8.1 (by omega)
        obtain ⟨i0, rfl⟩ : ∃ k : Nat, i0 = (k : Int) := ⟨i0.toNat, by omega⟩
        have q := sp_a hL (i := i0) (j := p + 1) ⟨by omega, by omega⟩
        have k := ((hC (spA (LL ρ) i0 (p + 1)) r q.1 r1 r2 c0 (by rw [q.2.1, q.2.2]; push_cast; exact h1)).2 h5 (by rw [q.2.1, q.2.2]; omega) c1).2 (by omega) (by rw [q.2.1, q.2.2, show p + 1 - 1 = p by omega]; exact h2)
        rw [q.2.2, h4, show p + 1 - 1 = p by omega, show (100 + (x : Int) - 100).toNat = x by omega] at k
        rw [h3]; exact k
  have iff : ∀ c, Te (upS ρ 11 p x) jA (ρ 3 0) 0 (ρ 0 8) c ↔ Cx ρ (100 + (x : Int)) (p : Int) ((p : Int) + 1) c := fun c => ctx_iff h8.1 hp (by omega)
  rcases hF p x (by omega) hx with q | ⟨q1, q2, q3⟩
  · refine Or.inl ⟨q, fun c hc => ?_⟩
    have := (cov c ((iff c).1 hc)).1; omega
  · exact Or.inr ⟨q1, q2, (iff _).2 q3, fun c hc => (cov c ((iff c).1 hc)).2⟩
theorem Mv.lo {ρ : St} {p x : Nat} {v w : Int} (h : Mv ρ p x v) (h4 : 0 < ρ 0 4) (h2 : Lo (upS ρ 11 p x) jA (ρ 3 0) 0 (ρ 0 8) w 1000000000) : v = if w < 1000000000 then w else -1 := by
  rcases h with ⟨a, -⟩ | ⟨-, h⟩
  · omega
  · rcases h with ⟨e, h⟩ | ⟨a1, a2, a3, a4⟩
    · rcases h2 with ⟨b1, -⟩ | ⟨-, b2, -⟩
      · rw [if_neg (by omega)]; exact e
      · exact absurd b2 (h w)
    · rcases h2 with ⟨-, b2⟩ | ⟨b1, b2, b3⟩
      · exact absurd a3 (b2 v)
      · rw [if_pos b1]
        have := a4 w b2; have := b3 v a3; omega
theorem Mv.va {ρ : St} {p x : Nat} {v : Int} (h : Mv ρ p x v) : v = -1 ∨ (0 ≤ v ∧ v < 1000000000) := by
  rcases h with ⟨-, a⟩ | ⟨-, h⟩
  · exact Or.inl a
  · rcases h with ⟨e, h⟩ | ⟨a1, a2, a3, a4⟩
    · exact Or.inl e
    · exact Or.inr ⟨a1, by omega⟩
