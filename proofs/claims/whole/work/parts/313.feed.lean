/-! feed -/
def bt (x : Int) (i : Nat) : Int := x / ((2 ^ (24 - 8 * i) : Nat) : Int) % 256
theorem bt_r (x : Int) (i : Nat) : 0 ≤ bt x i ∧ bt x i ≤ 255 := by unfold bt; omega
theorem bt_c {x : Int} (cx : C32 x) {s : Int} {i : Nat} (hi : i < 4) (hs : s = 24 - 8 * (i : Int)) : b_and (b_ushr x s) 255 = bt x i := by
  rw [b_and_255 (x := b_ushr x s) (c32_t _)]
  have key : ∀ k : Nat, k < 32 → s = (k : Int) → b_ushr x s % 4294967296 = x % 4294967296 / ((2 ^ k : Nat) : Int) := fun k hk e => by rw [e]; exact b_ushr_mod cx hk
  unfold bt
  match i, hi with
  | 0, _ => have := key 24 (by omega) (by omega); simp only [Nat.reduceMul, Nat.reduceSub, Nat.reducePow] at *; omega
  | 1, _ => have := key 16 (by omega) (by omega); simp only [Nat.reduceMul, Nat.reduceSub, Nat.reducePow] at *; omega
  | 2, _ => have := key 8 (by omega) (by omega); simp only [Nat.reduceMul, Nat.reduceSub, Nat.reducePow] at *; omega
  | 3, _ => have := key 0 (by omega) (by omega); simp only [Nat.reduceMul, Nat.reduceSub, Nat.reducePow] at *; omega
theorem bt_m {x : Int} (cx : C32 x) {s : Int} {i : Nat} (hi : i < 4) (hs : s = 24 - 8 * (i : Int)) : b_byte (b_byte (b_shr x s)) = sby (bt x i) := by
  have h1 : b_shr x s = x / ((2 ^ (24 - 8 * i) : Nat) : Int) := by
    rw [show s = ((24 - 8 * i : Nat) : Int) by omega, b_shr_eq cx (by omega)]
    norm_cast
  have h2 : C32 (b_shr x s) := c32_t _
  rw [b_byte_eq (x := b_byte (b_shr x s)) (c32_t _), b_byte_eq h2, h1]
  unfold sby bt
  generalize x / ((2 ^ (24 - 8 * i) : Nat) : Int) = y
  split <;> omega
theorem put4_l {x : Int} (cx : C32 x) {Q : Int → St → Prop} {t : Int} (h0 : 0 ≤ t ∧ t + 4 ≤ 1000) {σ0 : St} : ∀ (d : Nat) (i : Nat) (σ : St) (n : Nat), i + d = 4 → 5 ≤ n + i → σ 0 1 = t + i → (∀ j : Nat, (j : Int) < t → σ 1 j = σ0 1 j) → (∀ k : Nat, k < i → σ 1 (t + k).toNat = bt x k) →
    (∀ σ1 : St, σ1 0 1 = t + 4 → (∀ j : Nat, (j : Int) < t → σ1 1 j = σ0 1 j) → (∀ k : Nat, k < 4 → σ1 1 (t + k).toNat = bt x k) → Q 0 σ1) → wp_X11_putFour_l3 Q n x (24 - 8 * (i : Int)) σ := by
  intro d
  induction d with
  | zero =>
    intro i σ n hi hn ht hl hk hq
    have : i = 4 := by omega
    subst this
    obtain ⟨n, rfl⟩ : ∃ k, n = k + 1 := ⟨n - 1, by omega⟩
    unfold wp_X11_putFour_l3
    exact ⟨fun _ => hq σ ht hl hk, fun h => absurd h (by omega)⟩
  | succ d ih =>
    intro i σ n hi hn ht hl hk hq
    obtain ⟨n, rfl⟩ : ∃ k, n = k + 1 := ⟨n - 1, by omega⟩
    unfold wp_X11_putFour_l3
    refine ⟨fun h => absurd h (by omega), fun _ => ⟨fun h => absurd h (by omega), fun _ => ⟨by omega, fun σ1 e1 σ2 e2 v ev => ?_⟩⟩⟩
    have ev : v = 24 - 8 * ((i + 1 : Nat) : Int) := by rw [ev, w32_of (by omega) (by omega)]; push_cast; omega
    rw [ev]
    have e10 : σ1 0 1 = t + i := by rw [e1, upS_k (by decide)]; exact ht
    rw [e10, w32_of (by omega) (by omega)] at e2
    refine ih (i + 1) σ2 n (by omega) (by omega) (by rw [e2, upS_s]; push_cast; omega) (fun j hj => ?_) (fun k hk1 => ?_) hq
    · rw [e2, upS_k (by decide), e1, upS_j (by omega)]; exact hl j hj
    · rw [e2, upS_k (by decide), e1, ht]
      by_cases hki : k = i
      · subst hki; rw [upS_s]; exact bt_c cx (by omega) rfl
      · rw [upS_j (by omega)]; exact hk k (by omega)
theorem c_put4 {x : Int} (cx : C32 x) {Q : Int → St → Prop} {t : Int} (h0 : 0 ≤ t ∧ t + 4 ≤ 1000) {σ : St} (ht : σ 0 1 = t) (hq : ∀ σ1 : St, σ1 0 1 = t + 4 → (∀ j : Nat, (j : Int) < t → σ1 1 j = σ 1 j) → (∀ k : Nat, k < 4 → σ1 1 (t + k).toNat = bt x k) → Q 0 σ1) : wp_X11_putFour x σ Q := by
  unfold wp_X11_putFour
  exact put4_l cx h0 4 0 σ bigN rfl (by unfold bigN; omega) (by rw [ht]; simp) (fun _ _ => rfl) (fun k hk => by omega) hq
/-- the number that holds byte k of twenty -/
def fw (x1 x2 x3 x4 x5 : Int) (k : Nat) : Int := if k < 4 then x1 else if k < 8 then x2 else if k < 12 then x3 else if k < 16 then x4 else x5
theorem c_feed {x1 x2 x3 x4 x5 : Int} (c1 : C32 x1) (c2 : C32 x2) (c3 : C32 x3) (c4 : C32 x4) (c5 : C32 x5) {Q : Int → St → Prop} {t : Int} {σ : St} (h0 : 0 ≤ t ∧ t ≤ 1000) (ht : σ 0 1 = t) (hn : 980 < t → Q (-1) σ)
    (hq : t ≤ 980 → ∀ σ1 : St, σ1 0 1 = t + 20 → (∀ j : Nat, (j : Int) < t → σ1 1 j = σ 1 j) → (∀ k : Nat, k < 20 → σ1 1 (t + k).toNat = bt (fw x1 x2 x3 x4 x5 k) (k % 4)) → Q (t + 20) σ1) : wp_X11_feed x1 x2 x3 x4 x5 σ Q := by
  unfold wp_X11_feed
  rw [ht, w32_of (by omega) (by omega)]
  refine ⟨fun h => ?_, fun h => hn (by omega)⟩
  refine c_put4 c1 (by omega) ht (fun σ1 a1 b1 d1 => ?_)
  refine c_put4 c2 (by omega) a1 (fun σ2 a2 b2 d2 => ?_)
  refine c_put4 c3 (by omega) a2 (fun σ3 a3 b3 d3 => ?_)
  refine c_put4 c4 (by omega) a3 (fun σ4 a4 b4 d4 => ?_)
  refine c_put4 c5 (by omega) a4 (fun σ5 a5 b5 d5 => ?_)
  rw [a5, show t + 4 + 4 + 4 + 4 + 4 = t + 20 by omega]
  refine hq (by omega) σ5 (by rw [a5]; omega) (fun j hj => ?_) (fun k hk => ?_)
  · rw [b5 j (by omega), b4 j (by omega), b3 j (by omega), b2 j (by omega), b1 j hj]
  · unfold fw
    by_cases k1 : k < 4
    · rw [if_pos k1, b5 _ (by omega), b4 _ (by omega), b3 _ (by omega), b2 _ (by omega), d1 k k1, Nat.mod_eq_of_lt k1]
    · rw [if_neg k1]
      by_cases k2 : k < 8
      · rw [if_pos k2, b5 _ (by omega), b4 _ (by omega), b3 _ (by omega)]
        have := d2 (k - 4) (by omega)
        rw [show (t + 4 + ((k - 4 : Nat) : Int)).toNat = (t + k).toNat by omega] at this
        rw [this, show k % 4 = k - 4 by omega]
      · rw [if_neg k2]
        by_cases k3 : k < 12
        · rw [if_pos k3, b5 _ (by omega), b4 _ (by omega)]
          have := d3 (k - 8) (by omega)
          rw [show (t + 4 + 4 + ((k - 8 : Nat) : Int)).toNat = (t + k).toNat by omega] at this
          rw [this, show k % 4 = k - 8 by omega]
        · rw [if_neg k3]
          by_cases k4 : k < 16
          · rw [if_pos k4, b5 _ (by omega)]
            have := d4 (k - 12) (by omega)
            rw [show (t + 4 + 4 + 4 + ((k - 12 : Nat) : Int)).toNat = (t + k).toNat by omega] at this
            rw [this, show k % 4 = k - 12 by omega]
          · rw [if_neg k4]
            have := d5 (k - 16) (by omega)
            rw [show (t + 4 + 4 + 4 + 4 + ((k - 16 : Nat) : Int)).toNat = (t + k).toNat by omega] at this
            rw [this, show k % 4 = k - 16 by omega]
theorem r_feed_l {x1 x2 x3 x4 x5 : Int} (c1 : C32 x1) (c2 : C32 x2) (c3 : C32 x3) (c4 : C32 x4) (c5 : C32 x5) {Q : Int → St → Prop} {t : Int} {τ0 : St} (h0 : 0 ≤ t ∧ t ≤ 980) : ∀ (d : Nat) (i : Nat) (τ : St) (n : Nat), i + d = 20 → 21 ≤ n + i → τ 0 17 = t → (∀ k : Nat, k < 5 → τ 13 k = fw x1 x2 x3 x4 x5 (4 * k)) → (∀ j : Nat, (j : Int) < t → τ 12 j = τ0 12 j) → (∀ k : Nat, k < i → τ 12 (t + k).toNat = sby (bt (fw x1 x2 x3 x4 x5 k) (k % 4))) →
    (∀ τ1 : St, τ1 0 17 = t + 20 → (∀ j : Nat, (j : Int) < t → τ1 12 j = τ0 12 j) → (∀ k : Nat, k < 20 → τ1 12 (t + k).toNat = sby (bt (fw x1 x2 x3 x4 x5 k) (k % 4))) → Q (t + 20) τ1) → wp_X12_feed_l55 Q n (i : Int) τ := by
  intro d
  induction d with
  | zero =>
    intro i τ n hi hn ht h5 hl hk hq
    have : i = 20 := by omega
    subst this
    obtain ⟨n, rfl⟩ : ∃ k, n = k + 1 := ⟨n - 1, by omega⟩
    unfold wp_X12_feed_l55
    refine ⟨fun _ τ1 e1 => ?_, fun h => absurd h (by omega)⟩
    rw [ht, w32_of (by omega) (by omega)] at e1
    rw [show τ1 0 17 = t + 20 by rw [e1, upS_s]]
    refine hq τ1 (by rw [e1, upS_s]) (fun j hj => ?_) (fun k hk1 => ?_)
    · rw [e1, upS_k (by decide)]; exact hl j hj
    · rw [e1, upS_k (by decide)]; exact hk k hk1
  | succ d ih =>
    intro i τ n hi hn ht h5 hl hk hq
    obtain ⟨n, rfl⟩ : ∃ k, n = k + 1 := ⟨n - 1, by omega⟩
    unfold wp_X12_feed_l55
    have ed : b_div (i : Int) 4 = ((i / 4 : Nat) : Int) := by rw [b_div_eq (by omega) (by omega) (by omega) (by omega)]; omega
    have er : b_rem (i : Int) 4 = ((i % 4 : Nat) : Int) := by rw [b_rem_eq (by omega) (by omega) (by omega) (by omega)]; omega
    rw [ed, er, ht]
    rw [w32_of (x := t + (i : Int)) (by omega) (by omega), w32_of (x := 8 * ((i % 4 : Nat) : Int)) (by omega) (by omega), w32_of (x := 24 - 8 * ((i % 4 : Nat) : Int)) (by omega) (by omega)]
    refine ⟨fun h => absurd h (by omega), fun _ => ⟨by omega, by omega, fun τ1 e1 v ev => ?_⟩⟩
    have ev : v = ((i + 1 : Nat) : Int) := by rw [ev, w32_of (by omega) (by omega)]; push_cast; omega
    rw [ev]
    have h13 : τ 13 (((i / 4 : Nat) : Int)).toNat = fw x1 x2 x3 x4 x5 i := by
      rw [show (((i / 4 : Nat) : Int)).toNat = i / 4 by omega, h5 _ (by omega)]
      unfold fw
      have : 4 * (i / 4) < 4 ↔ i < 4 := by omega
      have h8 : 4 * (i / 4) < 8 ↔ i < 8 := by omega
      have h12 : 4 * (i / 4) < 12 ↔ i < 12 := by omega
      have h16 : 4 * (i / 4) < 16 ↔ i < 16 := by omega
      simp only [this, h8, h12, h16]
    have cfw : C32 (fw x1 x2 x3 x4 x5 i) := by
      unfold fw
      split
      · exact c1
      · split
        · exact c2
        · split
          · exact c3
          · split
            · exact c4
            · exact c5
    rw [h13, bt_m cfw (i := i % 4) (by omega) rfl] at e1
    refine ih (i + 1) τ1 n (by omega) (by omega) (by rw [e1, upS_k (by decide)]; exact ht) (fun k hk1 => by rw [e1, upS_k (by decide)]; exact h5 k hk1) (fun j hj => ?_) (fun k hk1 => ?_) hq
    · rw [e1, upS_j (by omega)]; exact hl j hj
    · rw [e1]
      by_cases hki : k = i
      · subst hki; rw [upS_s]
      · rw [upS_j (by omega)]; exact hk k (by omega)
theorem r_feed {x1 x2 x3 x4 x5 : Int} (c1 : C32 x1) (c2 : C32 x2) (c3 : C32 x3) (c4 : C32 x4) (c5 : C32 x5) {Q : Int → St → Prop} {t : Int} {τ : St} (h0 : 0 ≤ t ∧ t ≤ 1000) (ht : τ 0 17 = t) (hn : 980 < t → Q (-1) τ)
    (hq : t ≤ 980 → ∀ τ1 : St, τ1 0 17 = t + 20 → (∀ j : Nat, (j : Int) < t → τ1 12 j = τ 12 j) → (∀ k : Nat, k < 20 → τ1 12 (t + k).toNat = sby (bt (fw x1 x2 x3 x4 x5 k) (k % 4))) → Q (t + 20) τ1) : wp_X12_feed x1 x2 x3 x4 x5 τ Q := by
  unfold wp_X12_feed
  rw [ht, w32_of (by omega) (by omega)]
  refine ⟨fun h τ1 e1 τ2 e2 τ3 e3 τ4 e4 τ5 e5 => ?_, fun h => hn (by omega)⟩
  have h12 : ∀ j, τ5 12 j = τ 12 j := fun j => by rw [e5, upS_k (by decide), e4, upS_k (by decide), e3, upS_k (by decide), e2, upS_k (by decide), e1, upS_k (by decide)]
  refine r_feed_l (τ0 := τ) c1 c2 c3 c4 c5 (by omega) 20 0 τ5 bigN rfl (by unfold bigN; omega) (by rw [e5, upS_k (by decide), e4, upS_k (by decide), e3, upS_k (by decide), e2, upS_k (by decide), e1, upS_k (by decide)]; exact ht) (fun k hk => ?_) (fun j _ => h12 j) (fun k hk => by omega) (hq (by omega))
  rw [e5, e4, e3, e2, e1]
  match k, hk with
  | 0, _ => rfl
  | 1, _ => rfl
  | 2, _ => rfl
  | 3, _ => rfl
  | 4, _ => rfl
section OPS
variable {Cc : Bool → St → St → Prop}
theorem s_feed (hC : CcI Cc) : Step_feed (Inv Cc) := by
  rintro b σ τ ⟨ρ, hW, hVC, hVR, hc⟩ x1 x2 x3 x4 x5 c1 c2 c3 c4 c5
  have hI : Inv Cc b σ τ := ⟨ρ, hW, hVC, hVR, hc⟩
  obtain ⟨⟨w1, w2, w3⟩, wo, wg, wb, ws⟩ := hW
  obtain ⟨⟨t1, t2⟩, vo, vf, vg, vb, vs⟩ := hVC
  obtain ⟨⟨u1, u2⟩, uo, uf, ug, ub, us⟩ := hVR
  refine mf_X11_feed (Q := fun r σ1 => (980 < ρ 0 0 ∧ r = -1 ∧ σ1 = σ) ∨ (ρ 0 0 ≤ 980 ∧ r = ρ 0 0 + 20 ∧ σ1 0 1 = ρ 0 0 + 20 ∧ (∀ j : Nat, (j : Int) < ρ 0 0 → σ1 1 j = σ 1 j) ∧ (∀ k : Nat, k < 20 → σ1 1 (ρ 0 0 + k).toNat = bt (fw x1 x2 x3 x4 x5 k) (k % 4)))) (fun r σ1 h f => ?_) Fr.rf (c_feed c1 c2 c3 c4 c5 ⟨w1, w2⟩ t1 (fun h => Or.inl ⟨h, rfl, rfl⟩) (fun h σ1 a1 a2 a3 => Or.inr ⟨h, rfl, a1, a2, a3⟩))
  refine mf_X12_feed (Q := fun r1 τ1 => (980 < ρ 0 0 ∧ r1 = -1 ∧ τ1 = τ) ∨ (ρ 0 0 ≤ 980 ∧ r1 = ρ 0 0 + 20 ∧ τ1 0 17 = ρ 0 0 + 20 ∧ (∀ j : Nat, (j : Int) < ρ 0 0 → τ1 12 j = τ 12 j) ∧ (∀ k : Nat, k < 20 → τ1 12 (ρ 0 0 + k).toNat = sby (bt (fw x1 x2 x3 x4 x5 k) (k % 4))))) (fun r1 τ1 h1 f1 => ?_) Fr.rf (r_feed c1 c2 c3 c4 c5 ⟨w1, w2⟩ u1 (fun h => Or.inl ⟨h, rfl, rfl⟩) (fun h σ1 a1 a2 a3 => Or.inr ⟨h, rfl, a1, a2, a3⟩))
  rcases h with ⟨g0, rfl, rfl⟩ | ⟨g0, rfl, g1, g2, g3⟩
  · rcases h1 with ⟨k0, rfl, rfl⟩ | ⟨k0, -⟩
    · exact ⟨rfl, hI⟩
    · omega
  · rcases h1 with ⟨k0, -⟩ | ⟨k0, rfl, k1, k2, k3⟩
    · omega
    refine ⟨rfl, fun a b => if a = 0 ∧ b = 0 then ρ 0 0 + 20 else if a = 1 ∧ ρ 0 0 ≤ (b : Int) then bt (fw x1 x2 x3 x4 x5 (b - (ρ 0 0).toNat)) ((b - (ρ 0 0).toNat) % 4) else ρ a b, ?_, ?_, ?_, ?_⟩
    · refine ⟨⟨?_, ?_, fun j hj => ?_⟩, wo, wg, wb, ws⟩
      · show 0 ≤ ρ 0 0 + 20; omega
      · show ρ 0 0 + 20 ≤ 1000; omega
      · by_cases hj2 : ρ 0 0 ≤ (j : Int)
        · simp only [hj2, and_true, if_true]
          exact bt_r _ _
        · simp only [hj2, and_false, if_false]
          exact w3 j (by omega)
    · refine ⟨⟨?_, fun j hj => ?_⟩, vo.fr f ⟨rfl, fun _ => rfl⟩, vf.fr f ⟨rfl, rfl⟩, vg.fr f ⟨rfl, fun _ => rfl, fun _ => rfl, fun _ => rfl, fun _ => rfl, fun _ => rfl, fun _ => rfl⟩, vb.fr f ⟨rfl, rfl, rfl, fun _ => rfl, fun _ => rfl⟩, vs.fr f ⟨rfl, fun _ => rfl⟩⟩
      · rw [g1]; rfl
      · have hj : (j : Int) < ρ 0 0 + 20 := hj
        by_cases hj2 : ρ 0 0 ≤ (j : Int)
        · simp only [hj2, and_true, if_true]
          have := g3 (j - (ρ 0 0).toNat) (by omega)
          rw [show (ρ 0 0 + ((j - (ρ 0 0).toNat : Nat) : Int)).toNat = j by omega] at this
          exact this
        · simp only [hj2, and_false, if_false]
          rw [g2 j (by omega)]
          exact t2 j (by omega)
    · refine ⟨⟨?_, fun j hj => ?_⟩, uo.fr f1 ⟨rfl, fun _ => rfl⟩, uf.fr f1 ⟨rfl, rfl⟩, ug.fr f1 ⟨rfl, rfl, fun _ => rfl, fun _ => rfl, fun _ => rfl, fun _ => rfl, fun _ => rfl⟩, ub.fr f1 ⟨rfl, rfl, rfl, fun _ => rfl, fun _ => rfl⟩, us.fr f1 ⟨rfl, fun _ => rfl⟩⟩
      · rw [k1]; rfl
      · have hj : (j : Int) < ρ 0 0 + 20 := hj
        by_cases hj2 : ρ 0 0 ≤ (j : Int)
        · simp only [hj2, and_true, if_true]
          have := k3 (j - (ρ 0 0).toNat) (by omega)
          rw [show (ρ 0 0 + ((j - (ρ 0 0).toNat : Nat) : Int)).toNat = j by omega] at this
          exact this
        · simp only [hj2, and_false, if_false]
          rw [k2 j (by omega)]
          exact u2 j (by omega)
    · refine hC b σ σ1 ρ _ hc (cK_of (by decide) (by decide) f) (fun k j hk => ?_)
      have e1 : ¬ (k = 0 ∧ j = 0) := by rintro ⟨rfl, rfl⟩; cases hk
      have e2 : ¬ (k = 1 ∧ ρ 0 0 ≤ (j : Int)) := by rintro ⟨rfl, -⟩; cases hk
      simp only [e1, e2, if_false]
end OPS
