/-! the class's numbers by cost: those of an item stop where all of them together reach B0 -/
noncomputable def nn (ρ : St) (q c : Nat) : Int := if sumN (ct ρ q) c < B0 then min B0 (ct ρ q c) else 0
theorem nn_r {ρ : St} (hg : Wg ρ) (q c : Nat) : sR (nn ρ q c) := by
  unfold nn
  by_cases h : sumN (ct ρ q) c < B0
  · rw [if_pos h]; exact sat_r (ct_n hg q c)
  · rw [if_neg h]; unfold sR B0; omega
theorem nn_z {ρ : St} {q c : Nat} (h : ct ρ q c = 0) : nn ρ q c = 0 := by
  unfold nn
  rw [h]
  by_cases h : sumN (ct ρ q) c < B0
  · rw [if_pos h]; unfold B0; decide
  · rw [if_neg h]
theorem nn_0 {ρ : St} {q : Nat} : nn ρ q 0 = 0 := nn_z ct_0
theorem nn_y {ρ : St} {q c : Nat} (h : sumN (ct ρ q) c < B0) : nn ρ q c = min B0 (ct ρ q c) := by unfold nn; rw [if_pos h]
theorem nn_s {ρ : St} (hg : Wg ρ) {q c : Nat} : min B0 (sumN (ct ρ q) (c + 1)) = min B0 (min B0 (sumN (ct ρ q) c) + nn ρ q c) := by
  have h1 := ct_n hg q c
  have h2 := sumN_nn (f := ct ρ q) c (fun k _ => ct_n hg q k)
  show min B0 (sumN (ct ρ q) c + ct ρ q c) = _
  unfold nn
  generalize sumN (ct ρ q) c = x at *
  generalize ct ρ q c = y at *
  unfold B0
  by_cases h : x < 1000000000000001
  · rw [if_pos h]; omega
  · rw [if_neg h]; omega
theorem sat_mul {a b : Int} (ha : 1 ≤ a) (hb : 1 ≤ b) : min B0 (min B0 a * min B0 b) = min B0 (a * b) := by
  have h0 : 0 < B0 := by unfold B0; decide
  by_cases h1 : a ≤ B0
  · by_cases h2 : b ≤ B0
    · rw [show min B0 a = a by omega, show min B0 b = b by omega]
    · rw [show min B0 a = a by omega, show min B0 b = B0 by omega]
      have e1 : 1 * B0 ≤ a * B0 := Int.mul_le_mul_of_nonneg_right ha (by omega)
      have e2 : 1 * b ≤ a * b := Int.mul_le_mul_of_nonneg_right ha (by omega)
      omega
  · have e1 : B0 * 1 ≤ B0 * min B0 b := Int.mul_le_mul_of_nonneg_left (by omega) (by omega)
    have e2 : a * 1 ≤ a * b := Int.mul_le_mul_of_nonneg_left hb (by omega)
    rw [show min B0 a = B0 by omega]
    omega
theorem tpn_r {ρ : St} (hg : Wg ρ) (x : Int) (c : Nat) : sR (tp (nn ρ) x c) := by
  unfold tp
  by_cases h0 : x < 0
  · rw [if_pos h0]
    by_cases h1 : c = 0
    · rw [if_pos h1]; unfold sR B0; omega
    · rw [if_neg h1]; unfold sR B0; omega
  · rw [if_neg h0]; exact nn_r hg _ _
theorem tpn_y {ρ : St} {x : Int} {c : Nat} (h : sumN (tp (ct ρ) x) c < B0) : tp (nn ρ) x c = min B0 (tp (ct ρ) x c) := by
  by_cases h0 : x < 0
  · unfold tp
    rw [if_pos h0, if_pos h0]
    by_cases h1 : c = 0
    · rw [if_pos h1]; unfold B0; decide
    · rw [if_neg h1]; unfold B0; decide
  · have e : tp (ct ρ) x = ct ρ x.toNat := funext (fun c => by unfold tp; rw [if_neg h0])
    rw [e] at h ⊢
    rw [← nn_y h]; unfold tp; rw [if_neg h0]
theorem tpn_z {ρ : St} {x : Int} {c : Nat} (h : tp (ct ρ) x c = 0) : tp (nn ρ) x c = 0 := by
  unfold tp at *
  by_cases h0 : x < 0
  · rw [if_pos h0] at *; exact h
  · rw [if_neg h0] at *; exact nn_z h
/-- as long as the whole is below B0, products of its parts are right -/
theorem nn_key {ρ : St} (hg : Wg ρ) {q : Nat} {k : Cs} (hk : k ∈ cI ρ q) {c x : Nat} (hlt : sumN (ct ρ q) c < B0) (hc : prN ρ k ≤ c) (hx : x ≤ c - prN ρ k) : min B0 (tp (nn ρ) k.2.2.1 x * tp (nn ρ) k.2.2.2 (c - prN ρ k - x)) = min B0 (tp (ct ρ) k.2.2.1 x * tp (ct ρ) k.2.2.2 (c - prN ρ k - x)) := by
  have a1 := tpc_n hg k.2.2.1 x
  have a2 := tpc_n hg k.2.2.2 (c - prN ρ k - x)
  by_cases z1 : tp (ct ρ) k.2.2.1 x = 0
  · rw [z1, tpn_z z1, Int.zero_mul, Int.zero_mul]
  by_cases z2 : tp (ct ρ) k.2.2.2 (c - prN ρ k - x) = 0
  · rw [z2, tpn_z z2, Int.mul_zero, Int.mul_zero]
  have d1 := (ct_dom hg hk hc hx).1 (by omega)
  have d2 := (ct_dom hg hk hc (x := c - prN ρ k - x) (by omega)).2 (by rw [show c - prN ρ k - (c - prN ρ k - x) = x by omega]; omega)
  rw [tpn_y (Int.lt_of_le_of_lt d1 hlt), tpn_y (Int.lt_of_le_of_lt d2 hlt)]
  exact sat_mul (by omega) (by omega)
theorem sumN_sat {f g : Nat → Int} : ∀ n, (∀ k, k < n → 0 ≤ f k ∧ 0 ≤ g k ∧ min B0 (f k) = min B0 (g k)) → min B0 (sumN f n) = min B0 (sumN g n)
  | 0, _ => rfl
  | n + 1, h => by
    have ih := sumN_sat n (fun k hk => h k (by omega))
    have h1 := sumN_nn (f := f) n (fun k hk => (h k (by omega)).1)
    have h2 := sumN_nn (f := g) n (fun k hk => (h k (by omega)).2.1)
    obtain ⟨h3, h4, h5⟩ := h n (by omega)
    show min B0 (sumN f n + f n) = min B0 (sumN g n + g n)
    generalize sumN f n = a at *
    generalize sumN g n = b at *
    generalize f n = x at *
    generalize g n = y at *
    unfold B0 at *
    omega
theorem cv_key {ρ : St} (hg : Wg ρ) {q : Nat} {k : Cs} (hk : k ∈ cI ρ q) {c : Nat} (hlt : sumN (ct ρ q) c < B0) (hc : prN ρ k ≤ c) : min B0 (cv (tp (nn ρ) k.2.2.1) (tp (nn ρ) k.2.2.2) (c - prN ρ k)) = min B0 (cwt ρ (ct ρ) c k) := by
  unfold cwt
  rw [if_pos hc]
  exact sumN_sat _ (fun x hx => ⟨Int.mul_nonneg (tpn_r hg _ _).1 (tpn_r hg _ _).1, Int.mul_nonneg (tpc_n hg _ _) (tpc_n hg _ _), nn_key hg hk hlt hc (by omega)⟩)
theorem cv_r {f g : Nat → Int} {d : Nat} (h0 : g 0 = 1) (h : ∀ x, x ≠ 0 → g x = 0) : cv f g d = f d := by
  unfold cv
  rw [sumN_one (a := d) _ (by omega) (fun x hx hne => by rw [h (d - x) (by omega), Int.mul_zero]), Nat.sub_self, h0, Int.mul_one]
theorem cv_l {f g : Nat → Int} {d : Nat} (h0 : f 0 = 1) (h : ∀ x, x ≠ 0 → f x = 0) : cv f g d = g d := by
  unfold cv
  rw [sumN_one (a := 0) _ (by omega) (fun x hx hne => by rw [h x hne, Int.zero_mul]), Nat.sub_zero, h0, Int.one_mul]
theorem tp_neg {w : Nat → Nat → Int} {x : Int} (h : x < 0) : tp w x 0 = 1 ∧ ∀ c, c ≠ 0 → tp w x c = 0 := by
  unfold tp
  rw [if_pos h]
  exact ⟨if_pos rfl, fun c hc => by rw [if_pos h, if_neg hc]⟩
theorem tp_pos {w : Nat → Nat → Int} {x : Int} (h : ¬ x < 0) : tp w x = w x.toNat := funext (fun c => by unfold tp; rw [if_neg h])
/-! what the class has counted of an item -/
def Taq (ρ σ : St) (q k : Nat) : Prop := (∀ c, c ≤ k → σ 83 (301 * q + c) = nn ρ q c) ∧ σ 79 q = min B0 (sumN (ct ρ q) (k + 1)) ∧ (0 ≤ σ 78 q ∧ σ 78 q ≤ (k : Int) ∧ ∀ c : Nat, c ≤ k → nn ρ q c ≠ 0 → (c : Int) ≤ σ 78 q)
def KN (ρ σ : St) (x : Int) (c : Nat) : Prop := 0 ≤ x → ∃ k, c ≤ k ∧ k ≤ 300 ∧ Taq ρ σ x.toNat k
/-- the least of an item against its numbers -/
theorem ct_low {ρ σ : St} (hg : Wg ρ) (hL : LL ρ < 9) (hw : Lw ρ σ) {q c : Nat} (hq : q < 12 * spN (LL ρ)) (h : ct ρ q c ≠ 0) : hPt ρ (q : Int) ∧ 0 ≤ σ 37 q ∧ σ 37 q ≤ (c : Int) := by
  have e : q = 12 * (q / 12) + q % 12 := by omega
  have ha := Nat.mod_lt q (show 12 > 0 by decide)
  rw [e] at h
  have t := ct_te hg hL (by omega) ha h
  have l := hw (q / 12) (q % 12) (by omega) ha
  rw [← e] at l
  rcases l with ⟨-, z⟩ | ⟨z1, -, -, z2⟩
  · exact absurd t (z _)
  · refine ⟨?_, z1, z2 _ t⟩
    rw [e, hPt_it ha]
    exact ⟨_, t⟩
theorem low_1 {ρ σ : St} (hg : Wg ρ) (hL : LL ρ < 9) (hw : Lw ρ σ) {q : Nat} (hq : q < 12 * spN (LL ρ)) (h : hPt ρ (q : Int)) : 1 ≤ σ 37 q ∧ σ 37 q ≤ 353430 := by
  have e : q = 12 * (q / 12) + q % 12 := by omega
  have ha := Nat.mod_lt q (show 12 > 0 by decide)
  have l := hw (q / 12) (q % 12) (by omega) ha
  rw [← e] at l
  rw [e, hPt_it ha] at h
  obtain ⟨c, hc⟩ := h
  rcases l with ⟨-, z⟩ | ⟨z1, z3, z2, -⟩
  · exact absurd hc (z _)
  · refine ⟨?_, z3⟩
    obtain ⟨n, hn⟩ := z2
    obtain ⟨r, r1, r2, r3, rr, -⟩ := Te.cases_on n hn (by omega)
    have hp := (hg.2.2 r r1).2.2.2.1
    rcases rr with ⟨-, c1, t1, e1⟩ | ⟨-, m, c1, c2, -, -, t1, t2, e1⟩
    · have := TP.nn jok_add hg _ t1
      have e2 : σ 37 q = ρ 6 r + c1 := e1
      omega
    · have := TP.nn jok_add hg _ t1
      have := TP.nn jok_add hg _ t2
      have e2 : σ 37 q = ρ 6 r + (c1 + c2) := e1
      omega
theorem c_pairs {ρ σ : St} (hg : Wg ρ) (hL : LL ρ < 9) (hw : Lw ρ σ) {f g d k1 k2 : Nat} (hf : f < 12 * spN (LL ρ)) (hg2 : g < 12 * spN (LL ρ)) (hf1 : hPt ρ (f : Int)) (hg1 : hPt ρ (g : Int)) (hd : d ≤ 300) (h1 : Taq ρ σ f k1) (h2 : Taq ρ σ g k2) (hk1 : d ≤ k1 ∧ k1 ≤ 300) (hk2 : d ≤ k2 ∧ k2 ≤ 300) {Q : Int → St → Prop} (hq : Q (min B0 (cv (nn ρ f) (nn ρ g) d)) σ) : wp_X8_countPairs (f : Int) (g : Int) (d : Int) σ Q := by
  have h3 := sp_3 _ hL
  have l1 := low_1 hg hL hw hf hf1
  have l2 := low_1 hg hL hw hg2 hg1
  obtain ⟨a1, a2, a3, a4, a5⟩ := h1
  obtain ⟨b1, b2, b3, b4, b5⟩ := h2
  have nf : ∀ x, nn ρ f x ≠ 0 → σ 37 f ≤ (x : Int) := fun x hx => (ct_low hg hL hw hf (fun z => hx (nn_z z))).2.2
  have ng : ∀ x, nn ρ g x ≠ 0 → σ 37 g ≤ (x : Int) := fun x hx => (ct_low hg hL hw hg2 (fun z => hx (nn_z z))).2.2
  unfold wp_X8_countPairs
  rw [Int.toNat_natCast, Int.toNat_natCast]
  refine ⟨by omega, by omega, fun v1 e1 => ⟨by omega, by omega, fun v2 e2 => ?_⟩⟩
  rw [w32_of (by omega) (by omega)] at e1 e2
  have zt : ∀ x, x ≤ d → ((x : Int) < v1 ∨ v2 < (x : Int)) → nn ρ f x * nn ρ g (d - x) = 0 := by
    intro x hx ho
    by_cases z1 : nn ρ f x = 0
    · rw [z1, Int.zero_mul]
    by_cases z2 : nn ρ g (d - x) = 0
    · rw [z2, Int.mul_zero]
    exfalso
    have c1 := nf x z1
    have c2 := ng (d - x) z2
    have c3 := a5 x (by omega) z1
    have c4 := b5 (d - x) (by omega) z2
    omega
  have tn : ∀ x, 0 ≤ nn ρ f x * nn ρ g (d - x) := fun x => Int.mul_nonneg (nn_r hg _ _).1 (nn_r hg _ _).1
  have lp : ∀ (e x : Nat) (n : Nat), (x : Int) + e = v2 + 1 → v1 ≤ (x : Int) → e < n → wp_X8_countPairs_l51 Q n (f : Int) (g : Int) (d : Int) v2 (min B0 (sumN (fun x => nn ρ f x * nn ρ g (d - x)) x)) (x : Int) σ := by
    intro e
    induction e with
    | zero =>
      intro x n hx hv hn
      obtain ⟨n, rfl⟩ := suc_n hn
      unfold wp_X8_countPairs_l51
      refine ⟨fun _ => ?_, fun w => absurd (by omega) w⟩
      have : cv (nn ρ f) (nn ρ g) d = sumN (fun x => nn ρ f x * nn ρ g (d - x)) x := by
        unfold cv
        rw [show d + 1 = x + (d + 1 - x) by omega, sumN_app, sumN_none (f := fun a => nn ρ f (x + a) * nn ρ g (d - (x + a))) (fun t ht => zt (x + t) (by omega) (Or.inr (by omega))), Int.add_zero]
      rw [this] at hq; exact hq
    | succ e ih =>
      intro x n hx hv hn
      obtain ⟨n, rfl⟩ := suc_n hn
      have sn := sumN_nn (f := fun x => nn ρ f x * nn ρ g (d - x)) x (fun k _ => tn k)
      have nx : ∀ y, y = min B0 (sumN (fun x => nn ρ f x * nn ρ g (d - x)) (x + 1)) → wp_X8_countPairs_b107 Q (wp_X8_countPairs_l51 Q n) (f : Int) (g : Int) (d : Int) v2 y (x : Int) σ := by
        intro y ey
        unfold wp_X8_countPairs_b107
        intro v ev
        rw [ev, w32_of (by omega) (by omega), ey]
        exact ih (x + 1) n (by push_cast at hx ⊢; omega) (by omega) (by omega)
      have st : sumN (fun x => nn ρ f x * nn ρ g (d - x)) (x + 1) = sumN (fun x => nn ρ f x * nn ρ g (d - x)) x + nn ρ f x * nn ρ g (d - x) := rfl
      have t0 := tn x
      unfold wp_X8_countPairs_l51
      push_cast at hx
      rw [w32_of (x := (f : Int) * 301) (by omega) (by omega), w32_of (x := (f : Int) * 301 + (x : Int)) (by omega) (by omega), show ((f : Int) * 301 + (x : Int)).toNat = 301 * f + x by omega, a1 x (by omega)]
      rw [w32_of (x := (g : Int) * 301) (by omega) (by omega), w32_of (x := (g : Int) * 301 + (d : Int)) (by omega) (by omega), w32_of (x := (g : Int) * 301 + (d : Int) - (x : Int)) (by omega) (by omega), show ((g : Int) * 301 + (d : Int) - (x : Int)).toNat = 301 * g + (d - x) by omega, b1 (d - x) (by omega)]
      refine ⟨fun w => absurd w (by omega), fun _ => ⟨by omega, fun v3 e3 => ?_⟩⟩
      rw [e3]
      refine ⟨fun z => nx _ ?_, fun z => ⟨by omega, c_multiply (nn_r hg _ _) (nn_r hg _ _) (c_add (sat_r sn) (sat_r t0) (nx _ ?_))⟩⟩
      · rw [st, z, Int.zero_mul, Int.add_zero]
      · rw [st]
        generalize sumN (fun x => nn ρ f x * nn ρ g (d - x)) x = A at *
        generalize nn ρ f x * nn ρ g (d - x) = t at *
        unfold B0; omega
  by_cases hle : v1 ≤ v2 + 1
  · have := lp (v2 + 1 - v1).toNat v1.toNat bigN (by omega) (by omega) (by unfold bigN; omega)
    rw [sumN_none (fun t ht => zt t (by omega) (Or.inl (by omega))), show ((v1.toNat : Nat) : Int) = v1 by omega, show min B0 0 = (0 : Int) by unfold B0; decide] at this
    exact this
  · obtain ⟨n, hn⟩ := suc_n (show 0 < bigN by unfold bigN; omega)
    rw [hn]
    unfold wp_X8_countPairs_l51
    refine ⟨fun _ => ?_, fun w => absurd (by omega) w⟩
    have : cv (nn ρ f) (nn ρ g) d = 0 := sumN_none (fun t ht => zt t (by omega) (by omega))
    rw [this, show min B0 0 = (0 : Int) by unfold B0; decide] at hq
    exact hq
