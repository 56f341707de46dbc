/-! a tree as text; the class writes it -/
def xT (ρ : St) (F : Fo) : Nat → Nat → Nat → List Int
  | 0, _, _ => []
  | n + 1, q, k => 40 :: (65 + ρ 3 (cq ρ q (F.2 q k).2.1).1.toNat) :: 32 :: ((if cf ρ q (F.2 q k).2.1 < 0 then [97 + ρ 4 (cq ρ q (F.2 q k).2.1).1.toNat - 100] else xT ρ F n (cf ρ q (F.2 q k).2.1).toNat (F.2 q k).2.2.1) ++ ((if ρ 5 (cq ρ q (F.2 q k).2.1).1.toNat = -1 then [] else 32 :: (if cg ρ q (F.2 q k).2.1 < 0 then [97 + ρ 5 (cq ρ q (F.2 q k).2.1).1.toNat - 100] else xT ρ F n (cg ρ q (F.2 q k).2.1).toNat (F.2 q k).2.2.2)) ++ [41]))
theorem xT_fu {ρ : St} {F : Fo} {D : Nat → Prop} (hF : ClF ρ F D) : ∀ (n m q k : Nat), D q → k < F.1 q → (F.2 q k).1.toNat ≤ n → (F.2 q k).1.toNat ≤ m → xT ρ F n q k = xT ρ F m q k
  | 0, m, q, k, hq, hk, h1, h2 => by have := ((hF q hq).1 k hk).2; omega
  | n + 1, 0, q, k, hq, hk, h1, h2 => by have := ((hF q hq).1 k hk).2; omega
  | n + 1, m + 1, q, k, hq, hk, h1, h2 => by
    have cz := ((hF q hq).1 k hk).1
    have sub := hF.sub hq cz
    obtain ⟨z1, z2, z3, z4⟩ := cz
    obtain ⟨a1, a2, a3⟩ := (hF q hq).2.2 _ z1
    have part : ∀ (p : Int) (x : Nat) (l : List Int), (0 ≤ p → D p.toNat) → x < hsF F p → scF F p x < (F.2 q k).1 → (if p < 0 then l else xT ρ F n p.toNat x) = (if p < 0 then l else xT ρ F m p.toNat x) := by
      intro p x l hp hx hlt
      by_cases h0 : p < 0
      · rw [if_pos h0, if_pos h0]
      · rw [if_neg h0, if_neg h0]
        rw [hsF_pos (by omega)] at hx
        rw [scF_pos (by omega)] at hlt
        have := ((hF _ (hp (by omega))).1 x hx).2
        exact xT_fu hF n m _ x (hp (by omega)) hx (by omega) (by omega)
    unfold xT
    rw [part _ _ _ a1 z2 sub.2.1, part _ _ _ a2 z3 sub.2.2]
def XT (ρ : St) (F : Fo) (q k : Nat) : List Int := xT ρ F (F.2 q k).1.toNat q k
def XTp (ρ : St) (F : Fo) (p : Int) (x : Nat) (c : Int) : List Int := if p < 0 then [97 + c - 100] else XT ρ F p.toNat x
theorem XT_eq {ρ : St} {F : Fo} {D : Nat → Prop} (hF : ClF ρ F D) {q k : Nat} (hq : D q) (hk : k < F.1 q) : XT ρ F q k = 40 :: (65 + ρ 3 (cq ρ q (F.2 q k).2.1).1.toNat) :: 32 :: (XTp ρ F (cf ρ q (F.2 q k).2.1) (F.2 q k).2.2.1 (ρ 4 (cq ρ q (F.2 q k).2.1).1.toNat) ++ ((if ρ 5 (cq ρ q (F.2 q k).2.1).1.toNat = -1 then [] else 32 :: XTp ρ F (cg ρ q (F.2 q k).2.1) (F.2 q k).2.2.2 (ρ 5 (cq ρ q (F.2 q k).2.1).1.toNat)) ++ [41])) := by
  have cz := ((hF q hq).1 k hk).1
  have sub := hF.sub hq cz
  obtain ⟨z1, z2, z3, z4⟩ := cz
  obtain ⟨a1, a2, a3⟩ := (hF q hq).2.2 _ z1
  obtain ⟨n, hn⟩ : ∃ n, (F.2 q k).1.toNat = n + 1 := ⟨(F.2 q k).1.toNat - 1, by omega⟩
  have part : ∀ (p : Int) (x : Nat) (c : Int), (0 ≤ p → D p.toNat) → x < hsF F p → scF F p x < (F.2 q k).1 → (if p < 0 then [97 + c - 100] else xT ρ F n p.toNat x) = XTp ρ F p x c := by
    intro p x c hp hx hlt
    unfold XTp XT
    by_cases h0 : p < 0
    · rw [if_pos h0, if_pos h0]
    · rw [if_neg h0, if_neg h0]
      rw [hsF_pos (by omega)] at hx
      rw [scF_pos (by omega)] at hlt
      exact xT_fu hF n _ _ x (hp (by omega)) hx (by omega) (Nat.le_refl _)
  unfold XT
  rw [hn]
  unfold xT
  rw [part _ _ _ a1 z2 sub.2.1, part _ _ _ a2 z3 sub.2.2]
/-- an entry's rule, and what its parts are -/
theorem en_rule {ρ : St} (hg : Wg ρ) (hL : LL ρ < 9) {F : Fo} {D : Nat → Prop} (hF : ClF ρ F D) (hD : ∀ q, D q → q < 12 * spN (LL ρ)) {q k : Nat} (hq : D q) (hk : k < F.1 q) : ∃ r : Nat, (cq ρ q (F.2 q k).2.1).1 = (r : Int) ∧ (r : Int) < ρ 0 4 ∧ r < 40 ∧ ρ 8 r = 0 ∧ ρ 3 r = ((q % 12 : Nat) : Int) ∧ 1 ≤ lnq ρ q ∧ lnq ρ q ≤ 8 ∧ (cf ρ q (F.2 q k).2.1 < 0 → 100 ≤ ρ 4 r ∧ ρ 4 r < 126) ∧ (0 ≤ cf ρ q (F.2 q k).2.1 → 0 ≤ ρ 4 r ∧ ρ 4 r < 12) ∧ (ρ 5 r = -1 → cg ρ q (F.2 q k).2.1 = -1 ∧ cm ρ q (F.2 q k).2.1 = -1 ∧ (0 ≤ cf ρ q (F.2 q k).2.1 → lnq ρ (cf ρ q (F.2 q k).2.1).toNat = lnq ρ q)) ∧ (ρ 5 r ≠ -1 → (cg ρ q (F.2 q k).2.1 < 0 → 100 ≤ ρ 5 r ∧ ρ 5 r < 126) ∧ (0 ≤ cg ρ q (F.2 q k).2.1 → 0 ≤ ρ 5 r ∧ ρ 5 r < 12) ∧ ∃ l1 l2 : Nat, 1 ≤ l1 ∧ 1 ≤ l2 ∧ l1 + l2 = lnq ρ q ∧ (0 ≤ cf ρ q (F.2 q k).2.1 → lnq ρ (cf ρ q (F.2 q k).2.1).toNat = l1) ∧ (0 ≤ cg ρ q (F.2 q k).2.1 → lnq ρ (cg ρ q (F.2 q k).2.1).toNat = l2)) := by
  have z1 := ((hF q hq).1 k hk).1.1
  have hqs := hD q hq
  have hsq : q / 12 < spN (LL ρ) := by omega
  have eq : q = 12 * (q / 12) + q % 12 := by omega
  have qs := sp_s hL hsq
  have kind := cs_kind hg hL (show q % 12 < 12 by omega) hsq (t := (F.2 q k).2.1) (by rw [← eq]; exact z1)
  rw [← eq] at kind
  obtain ⟨r, hr, h8, h3, hc, -, -, f1, g1, kind⟩ := kind
  have hr40 := hg.2.1
  have hp1 := (hg.2.2 r hr).2.1
  have hp2 := (hg.2.2 r hr).2.2.1
  have el : lnq ρ q = spF (LL ρ) (q / 12) - spB (LL ρ) (q / 12) := rfl
  refine ⟨r, hc, hr, by omega, h8, h3, by omega, by omega, ?_⟩
  rcases kind with ⟨h5, e1, e2, n1, e4, kk⟩ | ⟨h5, m, m1, m2, e1, n1, n2, e2, e3, e4, e5⟩
  · refine ⟨fun h => ?_, fun h => ?_, fun _ => ⟨e1, e2, fun h => ?_⟩, fun h => absurd h5 h⟩
    · unfold isPart at hp1
      rcases kk with ⟨k1, k2⟩ | ⟨b, b1, b2, b3⟩ <;> omega
    · rcases kk with ⟨k1, k2⟩ | ⟨b, b1, b2, b3⟩ <;> omega
    · rcases kk with ⟨k1, k2⟩ | ⟨b, b1, b2, b3⟩
      · omega
      · rw [b3, Int.toNat_natCast]; unfold lnq; rw [show (12 * (q / 12) + b) / 12 = q / 12 by omega]
  · have la : 1 ≤ m - spB (LL ρ) (q / 12) ∧ 1 ≤ spF (LL ρ) (q / 12) - m ∧ m - spB (LL ρ) (q / 12) + (spF (LL ρ) (q / 12) - m) = lnq ρ q ∧ m ≤ LL ρ := by clear e4 e5; omega
    have c1 := pv_item hL hp1 (i := spB (LL ρ) (q / 12)) (j := m) ⟨m1, la.2.2.2⟩ n1
    have c2 := pv_item hL (hp2.resolve_left h5) (i := m) (j := spF (LL ρ) (q / 12)) ⟨m2, qs.2.1⟩ n2
    have hp2' := hp2.resolve_left h5
    refine ⟨fun h => ?_, fun h => ?_, fun h => absurd h h5, fun _ => ⟨fun h => ?_, fun h => ?_, m - spB (LL ρ) (q / 12), spF (LL ρ) (q / 12) - m, la.1, la.2.1, la.2.2.1, fun h => ?_, fun h => ?_⟩⟩
    · unfold isPart at hp1
      rw [e2] at h
      have := c1.2.2 h
      clear c1 c2 e4 e5
      omega
    · obtain ⟨b, b1, b2, b3⟩ := e4 h; clear c1 c2 e4 e5; omega
    · unfold isPart at hp2'
      rw [e3] at h
      have := c2.2.2 h
      clear c1 c2 e4 e5
      omega
    · obtain ⟨b, b1, b2, b3⟩ := e5 h; clear c1 c2 e4 e5; omega
    · obtain ⟨b, b1, b2, b3⟩ := e4 h
      have := sp_a hL (i := spB (LL ρ) (q / 12)) (j := m) ⟨m1, la.2.2.2⟩
      rw [b3, Int.toNat_natCast]
      unfold lnq
      rw [show (12 * spA (LL ρ) (spB (LL ρ) (q / 12)) m + b) / 12 = spA (LL ρ) (spB (LL ρ) (q / 12)) m by omega, this.2.1, this.2.2]
    · obtain ⟨b, b1, b2, b3⟩ := e5 h
      have := sp_a hL (i := m) (j := spF (LL ρ) (q / 12)) ⟨m2, qs.2.1⟩
      rw [b3, Int.toNat_natCast]
      unfold lnq
      rw [show (12 * spA (LL ρ) m (spF (LL ρ) (q / 12)) + b) / 12 = spA (LL ρ) m (spF (LL ρ) (q / 12)) by omega, this.2.1, this.2.2]
theorem xT_len {ρ : St} (hg : Wg ρ) (hL : LL ρ < 9) {F : Fo} {D : Nat → Prop} (hF : ClF ρ F D) (hD : ∀ q, D q → q < 12 * spN (LL ρ)) : ∀ (n q k : Nat), D q → k < F.1 q → (xT ρ F n q k).length + 1 ≤ 4 * sN ρ F n q k + 2 * lnq ρ q
  | 0, q, k, hq, hk => by
    obtain ⟨r, -, -, -, -, -, l1, -⟩ := en_rule hg hL hF hD hq hk
    show 0 + 1 ≤ _
    omega
  | n + 1, q, k, hq, hk => by
    obtain ⟨r, hc, -, -, -, -, l1, -, p1, p2, un, bi⟩ := en_rule hg hL hF hD hq hk
    have pg := part_gd hF hq hk
    have ih := xT_len hg hL hF hD n
    have A : ∀ l, 1 ≤ l → (0 ≤ cf ρ q (F.2 q k).2.1 → lnq ρ (cf ρ q (F.2 q k).2.1).toNat = l) → ∀ c : Int, (if cf ρ q (F.2 q k).2.1 < 0 then [97 + c - 100] else xT ρ F n (cf ρ q (F.2 q k).2.1).toNat (F.2 q k).2.2.1).length + 1 ≤ 4 * (if cf ρ q (F.2 q k).2.1 < 0 then 0 else sN ρ F n (cf ρ q (F.2 q k).2.1).toNat (F.2 q k).2.2.1) + 2 * l := by
      intro l hl he c
      by_cases h0 : cf ρ q (F.2 q k).2.1 < 0
      · rw [if_pos h0, if_pos h0]; simp; omega
      · rw [if_neg h0, if_neg h0, ← he (by omega)]
        exact ih _ _ (pg.1 (by omega)).1 (pg.1 (by omega)).2
    have B : ∀ l, 1 ≤ l → (0 ≤ cg ρ q (F.2 q k).2.1 → lnq ρ (cg ρ q (F.2 q k).2.1).toNat = l) → ∀ c : Int, (if cg ρ q (F.2 q k).2.1 < 0 then [97 + c - 100] else xT ρ F n (cg ρ q (F.2 q k).2.1).toNat (F.2 q k).2.2.2).length + 1 ≤ 4 * (if cg ρ q (F.2 q k).2.1 < 0 then 0 else sN ρ F n (cg ρ q (F.2 q k).2.1).toNat (F.2 q k).2.2.2) + 2 * l := by
      intro l hl he c
      by_cases h0 : cg ρ q (F.2 q k).2.1 < 0
      · rw [if_pos h0, if_pos h0]; simp; omega
      · rw [if_neg h0, if_neg h0, ← he (by omega)]
        exact ih _ _ (pg.2 (by omega)).1 (pg.2 (by omega)).2
    unfold xT sN
    rw [hc, Int.toNat_natCast]
    by_cases h5 : ρ 5 r = -1
    · obtain ⟨u1, -, u3⟩ := un h5
      have a := A (lnq ρ q) l1 u3 (ρ 4 r)
      rw [if_pos h5, u1, if_pos (c := (-1 : Int) < 0) (by decide)]
      simp only [List.length_cons, List.length_append, List.length_nil]
      omega
    · obtain ⟨-, -, l2, l3, b1, b2, b3, b4, b5⟩ := bi h5
      have a := A l2 b1 b4 (ρ 4 r)
      have b := B l3 b2 b5 (ρ 5 r)
      rw [if_neg h5]
      simp only [List.length_cons, List.length_append, List.length_nil]
      omega
theorem XT_len {ρ : St} (hg : Wg ρ) (hL : LL ρ < 9) {F : Fo} {D : Nat → Prop} (hF : ClF ρ F D) (hT : ∀ q, D q → SgF ρ F q) (hD : ∀ q, D q → q < 12 * spN (LL ρ)) {q k : Nat} (hq : D q) (hk : k < F.1 q) : (XT ρ F q k).length ≤ 1455 := by
  have h := xT_len hg hL hF hD (F.2 q k).1.toNat q k hq hk
  have := sN_360 hg hL hF hT hD (n := (F.2 q k).1.toNat) hq hk
  obtain ⟨r, -, -, -, -, -, -, l2, -⟩ := en_rule hg hL hF hD hq hk
  unfold XT
  omega
/-! the class -/
def OU (σ : St) (O : List Int) : Prop := σ 68 9 = (O.length : Int) ∧ ∀ i (h : i < O.length), σ 2 i = O[i]
theorem c_put {σ : St} {O : List Int} (h : OU σ O) (hl : O.length < 2048) {c : Int} {Q : Int → St → Prop} (hq : ∀ σ1, OU σ1 (O ++ [c]) → (∀ k, k ≠ 2 → k ≠ 68 → σ1 k = σ k) → (∀ j, j ≠ 9 → σ1 68 j = σ 68 j) → Q 0 σ1) : wp_X10_put_c2 c σ Q := by
  obtain ⟨h1, h2⟩ := h
  unfold wp_X10_put_c2
  rw [h1, Int.toNat_natCast]
  refine ⟨fun w => absurd w (by omega), fun _ => ⟨by omega, fun σ1 e1 σ2 e2 => ?_⟩⟩
  have a1 : σ1 68 9 = (O.length : Int) := by rw [e1, upS_k (by decide)]; exact h1
  rw [a1, w32_of (by omega) (by omega)] at e2
  refine hq σ2 ⟨by rw [e2, upS_s, List.length_append]; push_cast; rfl, fun i hi => ?_⟩ (fun k k1 k2 => by rw [e2, upS_k k2, e1, upS_k k1]) (fun j hj => by rw [e2, upS_j hj, e1, upS_k (by decide)])
  rw [e2, upS_k (by decide), e1]
  rw [List.length_append, List.length_singleton] at hi
  by_cases e : i = O.length
  · subst e
    rw [upS_s, List.getElem_append_right (Nat.le_refl _)]
    simp
  · rw [upS_j e, List.getElem_append_left (by omega)]
    exact h2 i (by omega)
def z0 (v : Int) : Int × Int := (v, 0)
def cdP (p : Int) (x : Nat) (c : Int) : Int := if p < 0 then -(97 + c - 100) else ((16 * p.toNat + x : Nat) : Int)
theorem c_pushPart {σ : St} {S : List Int} (h : KS σ (S.map z0)) (hl : S.length + 2 < 2560) {p : Int} {x : Nat} {c r : Int} (hr : (p < 0 ∧ r = -1) ∨ (0 ≤ p ∧ r = ((16 * p.toNat + x : Nat) : Int))) (hc : p < 0 → 100 ≤ c ∧ c < 126) {Q : Int → St → Prop} (hq : ∀ σ1, KS σ1 ((-32 :: cdP p x c :: S).map z0) → (∀ k, k ≠ 68 → k ≠ 69 → k ≠ 70 → σ1 k = σ k) → (∀ j, j ≠ 6 → σ1 68 j = σ 68 j) → Q 0 σ1) : wp_X10_pushPart r c σ Q := by
  have go : ∀ v, v = cdP p x c → wp_X10_pushPart_b17 Q v σ := by
    intro v ev
    unfold wp_X10_pushPart_b17
    refine c_push h (by rw [List.length_map]; omega) (fun σ1 K1 k1 j1 => c_push K1 (by rw [List.length_cons, List.length_map]; omega) (fun σ2 K2 k2 j2 => hq σ2 ?_ (fun k a1 a2 a3 => (k2 k a1 a2 a3).trans (k1 k a1 a2 a3)) (fun j hj => (j2 j hj).trans (j1 j hj))))
    rw [ev] at K2; exact K2
  unfold wp_X10_pushPart
  refine ⟨fun h0 => go _ ?_, fun h0 => go _ ?_⟩
  · rcases hr with ⟨g1, g2⟩ | ⟨g1, g2⟩
    · have := hc g1
      unfold cdP
      rw [if_pos g1, w32_of (x := 97 + c) (by omega) (by omega), w32_of (x := 97 + c - 100) (by omega) (by omega), w32_of (by omega) (by omega)]
    · omega
  · rcases hr with ⟨g1, g2⟩ | ⟨g1, g2⟩
    · omega
    · unfold cdP
      rw [if_neg (by omega)]; exact g2
def rnd (ρ : St) (F : Fo) (v : Int) : List Int := if v < 0 then [-v] else XT ρ F (v.toNat / 16) (v.toNat % 16)
def gdC (ρ σ : St) (F : Fo) (v : Int) : Prop := (v < 0 ∧ -128 < v) ∨ ∃ q k, k < 16 ∧ v = ((16 * q + k : Nat) : Int) ∧ fD ρ σ q ∧ k < F.1 q
theorem rnd_tree {ρ : St} {F : Fo} {q k : Nat} (h : k < 16) : rnd ρ F ((16 * q + k : Nat) : Int) = XT ρ F q k := by
  unfold rnd
  rw [if_neg (by omega), Int.toNat_natCast, show (16 * q + k) / 16 = q by omega, show (16 * q + k) % 16 = k by omega]
theorem rnd_cd {ρ : St} {F : Fo} {p : Int} {x : Nat} {c : Int} (hc : p < 0 → 100 ≤ c ∧ c < 126) (hx : 0 ≤ p → x < 16) : rnd ρ F (cdP p x c) = XTp ρ F p x c := by
  unfold cdP XTp
  by_cases h : p < 0
  · have := hc h
    rw [if_pos h, if_pos h]
    unfold rnd
    rw [if_pos (by omega), Int.neg_neg]
  · rw [if_neg h, if_neg h, rnd_tree (hx (by omega))]
theorem rnd_1 {ρ σ : St} {F : Fo} (hF : FoF ρ σ F) {v : Int} (h : gdC ρ σ F v) : 1 ≤ (rnd ρ F v).length := by
  rcases h with ⟨h1, h2⟩ | ⟨q, k, h1, h2, h3, h4⟩
  · unfold rnd; rw [if_pos h1]; exact Nat.le_refl _
  · rw [h2, rnd_tree h1, XT_eq hF.2.1 h3 h4]; simp
theorem rnd_ln {ρ σ : St} {F : Fo} (hF : FoF ρ σ F) : ∀ S : List Int, (∀ v, v ∈ S → gdC ρ σ F v) → S.length ≤ (S.flatMap (rnd ρ F)).length
  | [], _ => Nat.zero_le _
  | v :: S, h => by
    have a := rnd_1 hF (h v (List.mem_cons_self ..))
    have b := rnd_ln hF S (fun w hw => h w (List.mem_cons_of_mem _ hw))
    rw [List.flatMap_cons, List.length_append, List.length_cons]; omega
theorem c_open {ρ σ : St} (hg : Wg ρ) (hL : LL ρ < 9) (hB : Bt ρ σ) {F : Fo} (hF : FoF ρ σ F) {q k : Nat} (hq : fD ρ σ q) (hk : k < F.1 q) {O S : List Int} (hO : OU σ O) (hS : KS σ (S.map z0)) (lO : O.length + 2 < 2048) (lS : S.length + 6 < 2560) {Q : Int → St → Prop} (hQ : ∀ (σ1 : St) (O1 S1 : List Int), OU σ1 O1 → KS σ1 (S1.map z0) → O1.length = O.length + 2 → O1 ++ S1.flatMap (rnd ρ F) = O ++ (XT ρ F q k ++ S.flatMap (rnd ρ F)) → (∀ v, v ∈ S1 → v ∈ S ∨ gdC ρ σ F v) → (∀ k, k ≠ 2 → k ≠ 68 → k ≠ 69 → k ≠ 70 → σ1 k = σ k) → Q 0 σ1) : wp_X10_open_c2 ((16 * q + k : Nat) : Int) σ Q := by
  obtain ⟨r, hc, hr, h40, h8, h3, l1, -, p1, p1', un, bi⟩ := en_rule hg hL hF.2.1 (fun p hp => hp.1) hq hk
  have pg := part_gd hF.2.1 hq hk
  obtain ⟨i1, i2, i3, i4, i5, i6, i7, i8, i9, -⟩ := id_info hg hL hB hF (e := (q, k, 0)) ⟨hq, hk⟩
  have i7' : σ 56 (16 * q + k) = (((PL ρ q).length + (F.2 q k).2.1 : Nat) : Int) := i7
  have i9' : σ 29 ((PL ρ q).length + (F.2 q k).2.1) = (r : Int) := i9.trans hc
  have i1' : 16 * q + k < 6912 := i1
  have i8' : (PL ρ q).length + (F.2 q k).2.1 < 3360 := i8
  obtain ⟨k1, k2, k3, k4, k5, k6⟩ := hB.1.2.2.1.1.2 r hr
  obtain ⟨-, -, -, c4⟩ := hF.2.2.1 q hq
  obtain ⟨-, -, -, x16, y16⟩ := c4 k hk
  have hh := w_head hg hr
  unfold wp_X10_open_c2
  rw [Int.toNat_natCast, i7', Int.toNat_natCast, i9']
  refine ⟨by omega, by omega, fun v1 e1 => ?_⟩
  subst e1
  refine c_put hO (by omega) (fun σ3 O3 a3 j3 => ⟨by omega, ?_⟩)
  rw [Int.toNat_natCast, a3 15 (by decide) (by decide), k1, w32_of (by omega) (by omega)]
  refine c_put O3 (by rw [List.length_append, List.length_singleton]; omega) (fun σ5 O5 a5 j5 => ?_)
  have K5 : KS σ5 (S.map z0) := by
    obtain ⟨g1, g2⟩ := hS
    refine ⟨by rw [j5 6 (by decide), j3 6 (by decide)]; exact g1, ?_⟩
    rw [a5 69 (by decide) (by decide), a3 69 (by decide) (by decide), a5 70 (by decide) (by decide), a3 70 (by decide) (by decide)]; exact g2
  refine c_push K5 (by rw [List.length_map]; omega) (fun σ7 K7 a7 j7 => ⟨by omega, ?_⟩)
  have b7 : ∀ i, i ≠ 2 → i ≠ 68 → i ≠ 69 → i ≠ 70 → σ7 i = σ i := fun i u1 u2 u3 u4 => by rw [a7 i u2 u3 u4, a5 i u1 u2, a3 i u1 u2]
  have O7 : OU σ7 (O ++ [40] ++ [65 + ρ 3 r]) := by
    obtain ⟨g1, g2⟩ := O5
    refine ⟨by rw [j7 9 (by decide)]; exact g1, ?_⟩
    rw [a7 2 (by decide) (by decide) (by decide)]; exact g2
  rw [b7 17 (by decide) (by decide) (by decide) (by decide), k3]
  have Bx : ∀ σx : St, (∀ i, i ≠ 2 → i ≠ 68 → i ≠ 69 → i ≠ 70 → σx i = σ i) → Bt ρ σx ∧ FoF ρ σx F ∧ fD ρ σx q := fun σx ex => ⟨hB.ext (by rw [ex 14 (by decide) (by decide) (by decide) (by decide)]) (fun i i1 i2 => ex i (by omega) (by omega) (by omega) (by omega)) (fun i i1 i2 => ex i (by omega) (by omega) (by omega) (by omega)) (by rw [ex 24 (by decide) (by decide) (by decide) (by decide)]; simp), hF.ext (fun i i1 i2 => ex i (by omega) (by omega) (by omega) (by omega)), by unfold fD; rw [ex 60 (by decide) (by decide) (by decide) (by decide)]; exact hq⟩
  have gp1 : ∀ c, (cf ρ q (F.2 q k).2.1 < 0 → 100 ≤ c ∧ c < 126) → gdC ρ σ F (cdP (cf ρ q (F.2 q k).2.1) (F.2 q k).2.2.1 c) := fun c hcc => by
    unfold cdP
    split
    · next h0 => have := hcc h0; exact Or.inl ⟨by omega, by omega⟩
    · next h0 => exact Or.inr ⟨_, _, x16, rfl, (pg.1 (by omega)).1, (pg.1 (by omega)).2⟩
  have gp2 : ∀ c, (cg ρ q (F.2 q k).2.1 < 0 → 100 ≤ c ∧ c < 126) → gdC ρ σ F (cdP (cg ρ q (F.2 q k).2.1) (F.2 q k).2.2.2 c) := fun c hcc => by
    unfold cdP
    split
    · next h0 => have := hcc h0; exact Or.inl ⟨by omega, by omega⟩
    · next h0 => exact Or.inr ⟨_, _, y16, rfl, (pg.2 (by omega)).1, (pg.2 (by omega)).2⟩
  have m32 : gdC ρ σ F (-32) := Or.inl ⟨by decide, by decide⟩
  have m41 : gdC ρ σ F (-41) := Or.inl ⟨by decide, by decide⟩
  have r32 : rnd ρ F (-32) = [32] := by unfold rnd; rw [if_pos (by decide)]; rfl
  have r41 : rnd ρ F (-41) = [41] := by unfold rnd; rw [if_pos (by decide)]; rfl
  -- the first part, at last
  have left : ∀ (σx : St) (R : List Int), (∀ i, i ≠ 2 → i ≠ 68 → i ≠ 69 → i ≠ 70 → σx i = σ i) → OU σx (O ++ [40] ++ [65 + ρ 3 r]) → KS σx ((R ++ S).map z0) → R.length ≤ 3 → R.flatMap (rnd ρ F) = (if ρ 5 r = -1 then [] else 32 :: XTp ρ F (cg ρ q (F.2 q k).2.1) (F.2 q k).2.2.2 (ρ 5 r)) ++ [41] → (∀ v, v ∈ R → gdC ρ σ F v) → wp_X10_open_c2_b83 Q ((16 * q + k : Nat) : Int) (r : Int) σx := by
    intro σx R ex Ox Kx lR fR gR
    obtain ⟨Bx1, Fx1, qx⟩ := Bx σx ex
    unfold wp_X10_open_c2_b83
    have fin : ∀ rr : Int, ((cf ρ q (F.2 q k).2.1 < 0 ∧ rr = -1) ∨ (0 ≤ cf ρ q (F.2 q k).2.1 ∧ rr = ((16 * (cf ρ q (F.2 q k).2.1).toNat + (F.2 q k).2.2.1 : Nat) : Int))) → (0 ≤ (r : Int) ∧ (r : Int) < 40) ∧ wp_X10_pushPart rr (σx 16 ((r : Int)).toNat) σx (fun r14 σ15 => Q 0 σ15) := by
      intro rr hrr
      refine ⟨by omega, ?_⟩
      rw [Int.toNat_natCast, ex 16 (by decide) (by decide) (by decide) (by decide), k2]
      refine c_pushPart Kx (by rw [List.length_append]; omega) hrr p1 (fun σ1 K1 b1 j1 => hQ σ1 (O ++ [40] ++ [65 + ρ 3 r]) (-32 :: cdP (cf ρ q (F.2 q k).2.1) (F.2 q k).2.2.1 (ρ 4 r) :: (R ++ S)) ?_ K1 (by simp) ?_ (fun v hv => ?_) (fun i u1 u2 u3 u4 => by rw [b1 i u2 u3 u4]; exact ex i u1 u2 u3 u4))
      · obtain ⟨g1, g2⟩ := Ox
        refine ⟨by rw [j1 9 (by decide)]; exact g1, ?_⟩
        rw [b1 2 (by decide) (by decide) (by decide)]; exact g2
      · rw [XT_eq hF.2.1 hq hk, List.flatMap_cons, List.flatMap_cons, List.flatMap_append, r32, rnd_cd p1 (fun _ => x16), fR, hc, Int.toNat_natCast]
        simp only [List.append_assoc, List.cons_append, List.nil_append]
      · rw [List.mem_cons, List.mem_cons, List.mem_append] at hv
        rcases hv with rfl | rfl | hv | hv
        · exact Or.inr m32
        · exact Or.inr (gp1 _ p1)
        · exact Or.inr (gR v hv)
        · exact Or.inl hv
    exact c_leftTree hg hL Bx1 Fx1 qx hk (fun h => fin _ (Or.inl ⟨h, rfl⟩)) (fun h => fin _ (Or.inr ⟨h, rfl⟩))
  refine ⟨fun h5 => ?_, fun h5 => ?_⟩
  · refine left σ7 [-41] b7 O7 K7 (by decide) ?_ (fun v hv => ?_)
    · rw [if_pos h5, List.flatMap_cons, List.flatMap_nil, r41]; rfl
    · rw [List.mem_singleton] at hv; rw [hv]; exact m41
  · obtain ⟨p2, -, -⟩ := bi h5
    obtain ⟨B7, F7, q7⟩ := Bx σ7 b7
    have fin : ∀ rr : Int, ((cg ρ q (F.2 q k).2.1 < 0 ∧ rr = -1) ∨ (0 ≤ cg ρ q (F.2 q k).2.1 ∧ rr = ((16 * (cg ρ q (F.2 q k).2.1).toNat + (F.2 q k).2.2.2 : Nat) : Int))) → (0 ≤ (r : Int) ∧ (r : Int) < 40) ∧ wp_X10_pushPart rr (σ7 17 ((r : Int)).toNat) σ7 (fun r10 σ11 => wp_X10_open_c2_b83 Q ((16 * q + k : Nat) : Int) (r : Int) σ11) := by
      intro rr hrr
      refine ⟨by omega, ?_⟩
      rw [Int.toNat_natCast, b7 17 (by decide) (by decide) (by decide) (by decide), k3]
      refine c_pushPart (S := -41 :: S) K7 (by rw [List.length_cons]; omega) hrr p2 (fun σ11 K11 b11 j11 => ?_)
      refine left σ11 [-32, cdP (cg ρ q (F.2 q k).2.1) (F.2 q k).2.2.2 (ρ 5 r), -41] (fun i u1 u2 u3 u4 => by rw [b11 i u2 u3 u4]; exact b7 i u1 u2 u3 u4) ?_ K11 (by simp) ?_ (fun v hv => ?_)
      · obtain ⟨g1, g2⟩ := O7
        refine ⟨by rw [j11 9 (by decide)]; exact g1, ?_⟩
        rw [b11 2 (by decide) (by decide) (by decide)]; exact g2
      · rw [if_neg h5, List.flatMap_cons, List.flatMap_cons, List.flatMap_cons, List.flatMap_nil, r32, r41, rnd_cd p2 (fun _ => y16)]
        simp only [List.append_assoc, List.cons_append, List.nil_append, List.append_nil]
      · rw [List.mem_cons, List.mem_cons, List.mem_singleton] at hv
        rcases hv with rfl | rfl | rfl
        · exact m32
        · exact gp2 _ p2
        · exact m41
    exact c_rightTree hg hL B7 F7 q7 hk (fun h => fin _ (Or.inl ⟨h, rfl⟩)) (fun h => fin _ (Or.inr ⟨h, rfl⟩))
theorem c_write {ρ σ : St} (hg : Wg ρ) (hL : LL ρ < 9) (hB : Bt ρ σ) {F : Fo} (hF : FoF ρ σ F) {q k : Nat} (hq : fD ρ σ q) (hk : k < F.1 q) {Q : Int → St → Prop} (hQ : ∀ σ1, (∀ i (h : i < (XT ρ F q k).length), σ1 2 i = (XT ρ F q k)[i]) → (∀ k, k ≠ 2 → k ≠ 68 → k ≠ 69 → k ≠ 70 → σ1 k = σ k) → Q ((XT ρ F q k).length : Int) σ1) : wp_X10_write_c2 ((16 * q + k : Nat) : Int) σ Q := by
  have hlen := XT_len hg hL hF.2.1 (fun p hp => (hF.2.2.2.2.1 p hp).sg) (fun p hp => hp.1) hq hk
  have k16 : k < 16 := by have := (hF.2.2.1 q hq).2.1; omega
  have Bx : ∀ σx : St, (∀ i, i ≠ 2 → i ≠ 68 → i ≠ 69 → i ≠ 70 → σx i = σ i) → Bt ρ σx ∧ FoF ρ σx F ∧ ∀ p, fD ρ σx p ↔ fD ρ σ p := fun σx ex => ⟨hB.ext (by rw [ex 14 (by decide) (by decide) (by decide) (by decide)]) (fun i i1 i2 => ex i (by omega) (by omega) (by omega) (by omega)) (fun i i1 i2 => ex i (by omega) (by omega) (by omega) (by omega)) (by rw [ex 24 (by decide) (by decide) (by decide) (by decide)]; simp), hF.ext (fun i i1 i2 => ex i (by omega) (by omega) (by omega) (by omega)), fun p => by unfold fD; rw [ex 60 (by decide) (by decide) (by decide) (by decide)]⟩
  have gx : ∀ σx : St, (∀ i, i ≠ 2 → i ≠ 68 → i ≠ 69 → i ≠ 70 → σx i = σ i) → ∀ v, gdC ρ σx F v ↔ gdC ρ σ F v := fun σx ex v => by
    unfold gdC fD; rw [ex 60 (by decide) (by decide) (by decide) (by decide)]
  have lp : ∀ (d : Nat) (σ' : St) (O S : List Int) (x n : Nat), (XT ρ F q k).length ≤ O.length + d → d < n → x ≤ O.length → (∀ i, i ≠ 2 → i ≠ 68 → i ≠ 69 → i ≠ 70 → σ' i = σ i) → OU σ' O → KS σ' (S.map z0) → O ++ S.flatMap (rnd ρ F) = XT ρ F q k → (∀ v, v ∈ S → gdC ρ σ F v) → wp_X10_write_c2_l18 Q n (x : Int) σ' := by
    intro d
    induction d with
    | zero =>
      intro σ' O S x n hd hn hx ex hO hS hT hgd
      obtain ⟨n, rfl⟩ := suc_n hn
      have hl := congrArg List.length hT
      rw [List.length_append] at hl
      have := rnd_ln hF S hgd
      have hS0 : S = [] := List.eq_nil_of_length_eq_zero (by omega)
      subst hS0
      have e6 : σ' 68 6 = 0 := hS.1
      rw [List.flatMap_nil, List.append_nil] at hT
      unfold wp_X10_write_c2_l18
      rw [e6, hO.1]
      subst hT
      exact ⟨fun w => absurd w (by omega), fun _ => ⟨fun _ => hQ σ' hO.2 ex, fun w => absurd (by decide) w⟩⟩
    | succ d ih =>
      intro σ' O S x n hd hn hx ex hO hS hT hgd
      obtain ⟨n, rfl⟩ := suc_n hn
      have hl := congrArg List.length hT
      rw [List.length_append] at hl
      have ls := rnd_ln hF S hgd
      unfold wp_X10_write_c2_l18
      cases S with
      | nil =>
        have e6 : σ' 68 6 = 0 := hS.1
        rw [List.flatMap_nil, List.append_nil] at hT
        rw [e6, hO.1]
        subst hT
        exact ⟨fun w => absurd w (by omega), fun _ => ⟨fun _ => hQ σ' hO.2 ex, fun w => absurd (by decide) w⟩⟩
      | cons v S =>
        obtain ⟨s1, s2, s3, s4⟩ := hS
        rw [List.map_cons, List.length_cons, List.length_map] at s1
        rw [List.length_map] at s2
        rw [List.length_cons] at ls
        rw [List.flatMap_cons] at hT hl ls
        rw [List.length_append] at hl ls
        have gv := hgd v (List.mem_cons_self ..)
        have r1 := rnd_1 hF gv
        rw [s1]
        refine ⟨fun w => absurd w (by omega), fun _ => ⟨fun w => absurd w (by push_cast at w; omega), fun _ σ5 e5 => ?_⟩⟩
        rw [w32_of (by push_cast; omega) (by push_cast; omega), show ((S.length + 1 : Nat) : Int) - 1 = (S.length : Int) by push_cast; omega] at e5
        have c6 : σ5 68 6 = (S.length : Int) := by rw [e5, upS_s]
        rw [c6, Int.toNat_natCast, show σ5 69 S.length = v by rw [e5, upS_k (by decide)]; exact s2]
        have ex5 : ∀ i, i ≠ 2 → i ≠ 68 → i ≠ 69 → i ≠ 70 → σ5 i = σ i := fun i u1 u2 u3 u4 => by rw [e5, upS_k u2]; exact ex i u1 u2 u3 u4
        have O5 : OU σ5 O := ⟨by rw [e5, upS_j (by decide)]; exact hO.1, by rw [e5, upS_k (by decide)]; exact hO.2⟩
        have K5 : KS σ5 (S.map z0) := ⟨by rw [c6, List.length_map], by rw [e5, upS_k (by decide), upS_k (by decide)]; exact s4⟩
        refine ⟨by omega, fun v6 e6 => ?_⟩
        subst e6
        unfold wp_X10_write_c2_b76
        rw [show w32 ((x : Int) + 1) = ((x + 1 : Nat) : Int) by rw [w32_of (by omega) (by omega)]; push_cast; rfl]
        have gS : ∀ w, w ∈ S → gdC ρ σ F w := fun w hw => hgd w (List.mem_cons_of_mem _ hw)
        rcases gv with ⟨g1, g2⟩ | ⟨p, l, g1, g2, g3, g4⟩
        · refine ⟨fun w => absurd w (by omega), fun _ => ?_⟩
          have hr : rnd ρ F v6 = [-v6] := by unfold rnd; rw [if_pos g1]
          rw [w32_of (by omega) (by omega)]
          refine c_put O5 (by omega) (fun σ10 O10 a10 j10 v11 e11 => ?_)
          rw [e11]
          refine ih σ10 (O ++ [-v6]) S (x + 1) n (by rw [List.length_append, List.length_singleton]; omega) (by omega) (by rw [List.length_append, List.length_singleton]; omega) (fun i u1 u2 u3 u4 => by rw [a10 i u1 u2]; exact ex5 i u1 u2 u3 u4) O10 ⟨by rw [j10 6 (by decide)]; exact K5.1, by rw [a10 69 (by decide) (by decide), a10 70 (by decide) (by decide)]; exact K5.2⟩ ?_ gS
          rw [← hT, hr, List.append_assoc]
        · refine ⟨fun _ => ?_, fun w => absurd (by omega) w⟩
          obtain ⟨B5, F5, q5⟩ := Bx σ5 ex5
          have hr : rnd ρ F v6 = XT ρ F p l := by rw [g2, rnd_tree g1]
          have xl : 5 ≤ (rnd ρ F v6).length := by
            rw [hr, XT_eq hF.2.1 g3 g4]
            have : ∀ (pp : Int) (xx : Nat) (cc : Int), (0 ≤ pp → fD ρ σ pp.toNat ∧ xx < F.1 pp.toNat) → 1 ≤ (XTp ρ F pp xx cc).length := fun pp xx cc hp => by
              unfold XTp
              split
              · exact Nat.le_refl _
              · next h0 => rw [XT_eq hF.2.1 (hp (by omega)).1 (hp (by omega)).2]; simp
            have := this _ (F.2 p l).2.2.1 (ρ 4 (cq ρ p (F.2 p l).2.1).1.toNat) (part_gd hF.2.1 g3 g4).1
            simp only [List.length_cons, List.length_append, List.length_nil]
            omega
          rw [g2]
          refine c_open hg hL B5 F5 ((q5 p).2 g3) g4 O5 K5 (by omega) (by omega) (fun σ8 O8 S8 u1 u2 u3 u4 u5 u6 v11 e11 => ?_)
          rw [e11]
          refine ih σ8 O8 S8 (x + 1) n (by omega) (by omega) (by omega) (fun i w1 w2 w3 w4 => by rw [u6 i w1 w2 w3 w4]; exact ex5 i w1 w2 w3 w4) u1 u2 ?_ (fun w hw => ?_)
          · rw [u4, ← hT, hr]
          · rcases u5 w hw with h | h
            · exact gS w h
            · exact (gx σ5 ex5 w).1 h
  unfold wp_X10_write_c2
  intro σ1 e1 σ2 e2
  refine c_push (S := []) (σ := σ2) ⟨by rw [e2, upS_s]; rfl, trivial⟩ (by decide) (fun σ4 K4 k4 j4 => ?_)
  refine lp (XT ρ F q k).length σ4 [] [((16 * q + k : Nat) : Int)] 0 bigN (by omega) (by unfold bigN; omega) (by omega) (fun i u1 u2 u3 u4 => by rw [k4 i u2 u3 u4, e2, upS_k u2, e1, upS_k u2]) ⟨by rw [j4 9 (by decide), e2, upS_j (by decide), e1, upS_s]; rfl, fun i hi => absurd hi (by simp)⟩ K4 ?_ (fun v hv => ?_)
  · rw [List.flatMap_cons, List.flatMap_nil, rnd_tree k16]; simp
  · rw [List.mem_singleton] at hv
    exact Or.inr ⟨q, k, k16, hv, hq, hk⟩
