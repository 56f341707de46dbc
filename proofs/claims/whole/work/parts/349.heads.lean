/-! whether there are trees: hT; what a frame keeps; heads, without -/
def hT (ρ : St) (p i j : Int) : Prop := ∃ c, Te ρ jA p i j c
theorem tp_gen {g g1 : St} {J J' : Int → Int → Int} (h0 : g1 0 4 = g 0 4) (h3 : ∀ r : Nat, (r : Int) < g 0 4 → g1 3 r = g 3 r ∧ g1 4 r = g 4 r ∧ g1 5 r = g 5 r ∧ g1 8 r = g 8 r) (hl : ∀ j : Nat, g1 11 j = g 11 j) : ∀ (k : Nat) {p i j c : Int}, TP g J k p i j c → ∃ c', TP g1 J' k p i j c'
  | 0, p, i, j, c, h => ⟨0, h.1, h.2.1, by rw [hl]; exact h.2.2.1, rfl⟩
  | k + 1, p, i, j, c, h => by
    rcases h with h | ⟨r, hr, h8, hp, ⟨h5, c1, hc1, -⟩ | ⟨h5, m, c1, c2, hm1, hm2, hc1, hc2, -⟩⟩
    · obtain ⟨c', h'⟩ := tp_gen h0 h3 hl k h
      exact ⟨c', Or.inl h'⟩
    · obtain ⟨q3, q4, q5, q8⟩ := h3 r hr
      obtain ⟨c', h'⟩ := tp_gen h0 h3 hl k hc1
      rw [← q4] at h'
      exact ⟨_, Or.inr ⟨r, by rw [h0]; exact hr, by rw [q8]; exact h8, by rw [q3]; exact hp, Or.inl ⟨by rw [q5]; exact h5, c', h', rfl⟩⟩⟩
    · obtain ⟨q3, q4, q5, q8⟩ := h3 r hr
      obtain ⟨c', h'⟩ := tp_gen h0 h3 hl k hc1
      obtain ⟨d', g'⟩ := tp_gen h0 h3 hl k hc2
      rw [← q4] at h'
      rw [← q5] at g'
      exact ⟨_, Or.inr ⟨r, by rw [h0]; exact hr, by rw [q8]; exact h8, by rw [q3]; exact hp, Or.inr ⟨by rw [q5]; exact h5, m, c', d', hm1, hm2, h', g', rfl⟩⟩⟩
theorem tp_any {g : St} {J J' : Int → Int → Int} {k : Nat} {p i j c : Int} (h : TP g J k p i j c) : ∃ c', TP g J' k p i j c' := tp_gen rfl (fun _ _ => ⟨rfl, rfl, rfl, rfl⟩) (fun _ => rfl) k h
theorem hT.low {ρ σ : St} (hg : Wg ρ) (hw : Lw ρ σ) {s a : Nat} (hs : s < spN (LL ρ)) (ha : a < 12) : σ 37 (12 * s + a) ≤ 0 ↔ ¬ hT ρ (a : Int) (spB (LL ρ) s : Nat) (spF (LL ρ) s : Nat) := by
  rcases hw s a hs ha with ⟨e, h⟩ | ⟨h0, h1, ht, h2⟩
  · rw [e]; exact ⟨fun _ ⟨c, hc⟩ => h c hc, fun _ => by decide⟩
  · have := Te.pos jokA hg (by omega) ht
    exact ⟨fun q => by omega, fun q => absurd ⟨_, ht⟩ q⟩
theorem hT.lowI {ρ σ : St} (hg : Wg ρ) (hL : LL ρ < 9) (hw : Lw ρ σ) {x1 x2 x3 : Int} (h : isItm ρ x1 x2 x3) : σ 37 (itN ρ x1 x2 x3) ≤ 0 ↔ ¬ hT ρ x1 x2 x3 := by
  obtain ⟨h1, h2, h3, h4⟩ := h
  have hij : x2.toNat < x3.toNat ∧ x3.toNat ≤ LL ρ := ⟨by omega, by unfold LL; omega⟩
  have q := sp_a (L := LL ρ) hL hij
  have a := hT.low hg hw q.1 (a := x1.toNat) (by omega)
  rw [q.2.1, q.2.2, show ((x1.toNat : Nat) : Int) = x1 by omega, show ((x2.toNat : Nat) : Int) = x2 by omega, show ((x3.toNat : Nat) : Int) = x3 by omega] at a
  exact a
theorem Lo.hT {ρ : St} {p i j v : Int} (h : Lo ρ jA p i j v 1000000000) : v < 1000000000 ↔ hT ρ p i j := by
  rcases h with ⟨e, h⟩ | ⟨e, h, -⟩
  · exact ⟨fun q => by omega, fun ⟨c, hc⟩ => absurd hc (h c)⟩
  · exact ⟨fun _ => ⟨_, h⟩, fun _ => e⟩
theorem r_has2 {ρ τ : St} (ha : LA ρ τ) (h8 : ρ 0 8 ≤ 8) {a i j : Int} (h : isItm ρ a i j) {Q : Int → St → Prop} (hno : ¬ hT ρ a i j → Q 0 τ) (hyes : hT ρ a i j → Q 1 τ) : wp_X12_has a i j τ Q := by
  obtain ⟨h1, h2, h3, h4⟩ := h
  have k := (ha.2 a i j h1.1 h1.2 h2 h3 h4).hT
  unfold wp_X12_has
  refine r_item h1 (by omega) ⟨it_r h1 (by omega), fun hf => hno (fun q => ?_), fun hf => hyes ?_⟩
  · have := k.mpr q; unfold rl at this; omega
  · exact k.mp (by unfold rl; omega)
theorem vp_lo {ρ τ : St} (hg : Wg ρ) (ha : LA ρ τ) {p i j : Int} (hp : isPart p) (hi : 0 ≤ i ∧ i < j ∧ j ≤ ρ 0 8) : Lo ρ jA p i j (VP ρ τ p i j) 1000000000 := by
  by_cases h : p < 100
  · rw [VP_lab h]
    unfold isPart at hp
    exact ha.2 p i j (by omega) (by omega) hi.1 hi.2.1 hi.2.2
  · exact lo_letter hg (by omega)
theorem r_fits2 {ρ τ : St} (hg : Wg ρ) (ha : LA ρ τ) (h8 : ρ 0 8 ≤ 8) {p i j : Int} (hp : isPart p) (hi : 0 ≤ i ∧ i < j ∧ j ≤ ρ 0 8) {Q : Int → St → Prop} (hno : ¬ hT ρ p i j → Q 0 τ) (hyes : hT ρ p i j → Q 1 τ) : wp_X12_fits p i j τ Q := by
  have k := (vp_lo hg ha hp hi).hT
  refine r_fits ha.1 hp hi h8 ?_
  by_cases hv : VP ρ τ p i j < 1000000000
  · rw [if_pos hv]; exact hyes (k.mp hv)
  · rw [if_neg hv]; exact hno (fun q => hv (k.mpr q))
theorem c_has2 {ρ σ : St} (hg : Wg ρ) (hL : LL ρ < 9) (hw : Lw ρ σ) {s a : Nat} (hs : s < spN (LL ρ)) (ha : a < 12) {Q : Int → St → Prop} (hno : ¬ hT ρ (a : Int) (spB (LL ρ) s : Nat) (spF (LL ρ) s : Nat) → Q 0 σ) (hyes : hT ρ (a : Int) (spB (LL ρ) s : Nat) (spF (LL ρ) s : Nat) → Q 1 σ) : wp_X1_has ((12 * s + a : Nat) : Int) σ Q := by
  have k := hT.low hg hw hs ha
  have := sp_3 _ hL
  unfold wp_X1_has
  rw [Int.toNat_natCast]
  refine ⟨by omega, fun h => hno (k.mp h), fun h => hyes (Classical.byContradiction fun q => h (k.mpr q))⟩
theorem Bt.ext {ρ σ σ1 : St} (h : Bt ρ σ) (e0 : σ1 14 0 = σ 14 0) (e1 : ∀ k, 15 ≤ k → k ≤ 20 → σ1 k = σ k) (e2 : ∀ k, 25 ≤ k → k ≤ 35 → σ1 k = σ k) (e3 : σ1 24 2 = σ 24 2 ∧ σ1 24 3 = σ 24 3 ∧ σ1 24 12 = σ 24 12 ∧ σ1 24 14 = σ 24 14 ∧ σ1 24 16 = σ 24 16 ∧ σ1 24 17 = σ 24 17) : Bt ρ σ1 := by
  obtain ⟨a2, a3, a12, a14, a16, a17⟩ := e3
  unfold Bt Bs CA FC SpL GL2 VCs VCg at *
  rw [e0, a2, a3, a12, a14, a16, a17, e1 15 (by decide) (by decide), e1 16 (by decide) (by decide), e1 17 (by decide) (by decide), e1 18 (by decide) (by decide), e1 19 (by decide) (by decide), e1 20 (by decide) (by decide), e2 25 (by decide) (by decide), e2 26 (by decide) (by decide), e2 27 (by decide) (by decide), e2 28 (by decide) (by decide), e2 29 (by decide) (by decide), e2 30 (by decide) (by decide), e2 31 (by decide) (by decide), e2 32 (by decide) (by decide), e2 33 (by decide) (by decide), e2 34 (by decide) (by decide), e2 35 (by decide) (by decide)]
  exact h
def okB (A : List Nat) (F : List (Nat × Nat)) : Bool := okL [15, 16, 17, 18, 19, 20, 25, 26, 27, 28, 29, 30, 31, 32, 33, 34, 35] [(14, 0), (24, 2), (24, 3), (24, 12), (24, 14), (24, 16), (24, 17)] A F
theorem Bt.frB {A : List Nat} {F : List (Nat × Nat)} {ρ σ σ1 : St} (f : Fr (mkS A F) σ σ1) (h : okB A F = true) (v : Bt ρ σ) : Bt ρ σ1 := by
  have a := fun (k : Nat) hk => (funext (fun j => f.at (okL_a h (k := k) hk j)) : σ1 k = σ k)
  have g := fun {k j : Nat} hk => f.at (okL_f h (k := k) (j := j) hk)
  refine v.ext (g (by decide)) (fun k h1 h2 => a k ?_) (fun k h1 h2 => a k ?_) ⟨g (by decide), g (by decide), g (by decide), g (by decide), g (by decide), g (by decide)⟩
  · have : k = 15 ∨ k = 16 ∨ k = 17 ∨ k = 18 ∨ k = 19 ∨ k = 20 := by omega
    rcases this with e | e | e | e | e | e <;> subst e <;> decide
  · have : k = 25 ∨ k = 26 ∨ k = 27 ∨ k = 28 ∨ k = 29 ∨ k = 30 ∨ k = 31 ∨ k = 32 ∨ k = 33 ∨ k = 34 ∨ k = 35 := by omega
    rcases this with e | e | e | e | e | e | e | e | e | e | e <;> subst e <;> decide
theorem LA.frB {A : List Nat} {F : List (Nat × Nat)} {g τ τ1 : St} (f : Fr (mkS A F) τ τ1) (h : okL [1, 2, 3, 4, 14, 15] [(0, 1), (0, 28), (0, 27)] A F = true) (v : LA g τ) : LA g τ1 := by
  have a := fun (k : Nat) hk => (funext (fun j => f.at (okL_a h (k := k) hk j)) : τ1 k = τ k)
  have q := fun {k j : Nat} hk => f.at (okL_f h (k := k) (j := j) hk)
  unfold LA RG rl at *
  rw [q (k := 0) (j := 1) (by decide), q (k := 0) (j := 28) (by decide), q (k := 0) (j := 27) (by decide), a 1 (by decide), a 2 (by decide), a 3 (by decide), a 4 (by decide), a 14 (by decide), a 15 (by decide)]
  exact v
/-! heads -/
theorem c_start {ρ σ : St} (vg : VCg σ ρ) {Q : Int → St → Prop} (h0 : ρ 0 4 = 0 → Q (-1) σ) (h1 : 0 < ρ 0 4 → Q (ρ 3 0) σ) (hn : 0 ≤ ρ 0 4) : wp_X4_start σ Q := by
  unfold wp_X4_start
  rw [vg.1]
  refine ⟨fun h => ?_, fun h => h0 (by omega)⟩
  rw [show σ 15 (Int.toNat 0) = ρ 3 0 from (vg.2 0 (by show (0 : Int) < ρ 0 4; omega)).1]
  exact h1 (by omega)
theorem r_start {ρ τ : St} (e0 : τ 0 1 = ρ 0 4) (e1 : 0 < ρ 0 4 → τ 1 0 = ρ 3 0) {Q : Int → St → Prop} (h0 : ρ 0 4 = 0 → Q (-1) τ) (h1 : 0 < ρ 0 4 → Q (ρ 3 0) τ) (hn : 0 ≤ ρ 0 4) : wp_X12_start τ Q := by
  unfold wp_X12_start
  rw [e0]
  refine ⟨fun h => ?_, fun h => h0 (by omega)⟩
  rw [show τ 1 (Int.toNat 0) = ρ 3 0 from e1 (by omega)]
  exact h1 (by omega)
def hdP (ρ : St) (m : Nat) (x : Int) : Prop := P32 x ∧ ∀ k : Nat, tb x k = true ↔ (0 < ρ 0 4 ∧ 1 ≤ k ∧ k < m ∧ hT ρ (ρ 3 0) 0 (k : Int))
theorem hdP.no {ρ : St} {m : Nat} {x : Int} (h : hdP ρ m x) (hn : ¬ hT ρ (ρ 3 0) 0 (m : Int)) : hdP ρ (m + 1) x := by
  refine ⟨h.1, fun k => (h.2 k).trans ⟨fun ⟨a, b, c, d⟩ => ⟨a, b, by omega, d⟩, fun ⟨a, b, c, d⟩ => ⟨a, b, ?_, d⟩⟩⟩
  by_cases e : k = m
  · subst e; exact absurd d hn
  · omega
theorem hdP.yes {ρ : St} {m : Nat} {x : Int} (h : hdP ρ m x) (h0 : 0 < ρ 0 4) (hm : 1 ≤ m ∧ m < 31) (hy : hT ρ (ρ 3 0) 0 (m : Int)) : hdP ρ (m + 1) (b_or x (b_shl 1 (m : Int))) := by
  rw [b_shl_1 m hm.2]
  refine ⟨b_or_p h.1 (pow31 hm.2), fun k => ?_⟩
  rw [tb_or h.1 (pow31 hm.2), tb_pow, Bool.or_eq_true, h.2 k, decide_eq_true_iff]
  constructor
  · rintro (⟨a, b, c, d⟩ | e)
    · exact ⟨a, b, by omega, d⟩
    · subst e; exact ⟨h0, hm.1, by omega, hy⟩
  · rintro ⟨a, b, c, d⟩
    by_cases e : m = k
    · exact Or.inr e
    · exact Or.inl ⟨a, b, by omega, d⟩
theorem hdP.zero {ρ : St} : hdP ρ 1 0 := ⟨⟨by decide, by decide⟩, fun k => by rw [tb_0]; exact ⟨fun h => (by cases h), fun ⟨_, b, c, _⟩ => (by omega)⟩⟩
theorem hdP.none {ρ : St} {m n : Nat} {x : Int} (h : hdP ρ m x) (h0 : ρ 0 4 = 0) : hdP ρ n x := ⟨h.1, fun k => (h.2 k).trans ⟨fun q => absurd q.1 (by omega), fun q => absurd q.1 (by omega)⟩⟩
theorem hdP.uniq {ρ : St} {m : Nat} {x y : Int} (h : hdP ρ m x) (h2 : hdP ρ m y) : x = y := by
  refine tb_ext h.1.1 h2.1.1 (fun k => ?_)
  have : tb x k = true ↔ tb y k = true := (h.2 k).trans (h2.2 k).symm
  cases e : tb x k <;> cases e2 : tb y k <;> simp_all
/-- the state before: what is known of chart and low -/
def KL (ρ σ : St) : Prop := VCg σ ρ ∧ VCs σ ρ ∧ (σ 24 17 = 0 ∨ Bt ρ σ) ∧ (σ 36 7 = 0 ∨ (σ 36 7 = 1 ∧ Lw ρ σ))
theorem KL.of {ρ σ : St} (h : Bt ρ σ) (h7 : σ 36 7 = 1) (hw : Lw ρ σ) : KL ρ σ := ⟨h.1.2.2.1.1, h.1.1, Or.inr h, Or.inr ⟨h7, hw⟩⟩
theorem KL.bt {ρ σ σ1 : St} (h : KL ρ σ) (hB : Bt ρ σ1) (f : Fr S_X0_build σ σ1) : KL ρ σ1 := by
  refine ⟨hB.1.2.2.1.1, hB.1.1, Or.inr hB, ?_⟩
  have e7 : σ1 36 7 = σ 36 7 := f.at rfl
  have e37 : σ1 37 = σ 37 := funext (fun j => f.at rfl)
  rw [e7]; unfold Lw; rw [e37]; exact h.2.2.2
theorem c_heads {ρ : St} (hW : WW ρ) {σ0 : St} {Q : Int → St → Prop} (hq : ∀ r σ1, hdP ρ (LL ρ + 1) r → (σ1 = σ0 ∨ (Bt ρ σ1 ∧ σ1 36 7 = 1 ∧ Lw ρ σ1)) → Q r σ1) : ∀ (d m : Nat) (x : Int) (σ : St) (n : Nat), m + d = LL ρ + 1 → 1 ≤ m → d < n → hdP ρ m x → KL ρ σ → (σ = σ0 ∨ (Bt ρ σ ∧ σ 36 7 = 1 ∧ Lw ρ σ)) → wp_X11_heads_l4 Q n x (m : Int) σ := by
  have hg := hW.2.2.1
  have h8 := hW.2.2.2.2.2.1
  have h80 := hW.2.2.2.2.1
  have hL : LL ρ < 9 := by unfold LL; omega
  have eL : ((LL ρ : Nat) : Int) = ρ 0 8 := by unfold LL; omega
  intro d
  induction d with
  | zero =>
    intro m x σ n hm h1 hn hx hk hs
    obtain ⟨n, rfl⟩ := suc_n hn
    unfold wp_X11_heads_l4
    rw [hk.2.1.1]
    refine ⟨fun _ => hq x σ ?_ hs, fun q => absurd (by omega) q⟩
    rw [show LL ρ + 1 = m by omega]; exact hx
  | succ d ih =>
    intro m x σ n hm h1 hn hx hk hs
    obtain ⟨n, rfl⟩ := suc_n hn
    unfold wp_X11_heads_l4
    rw [hk.2.1.1, hk.1.1]
    refine ⟨fun q => absurd q (by omega), fun _ => ⟨fun q => hq x σ (hx.none (by have := hg.1; omega)) hs, fun q0 => c_start hk.1 (fun q => absurd q (by omega)) (fun _ => ?_) hg.1⟩⟩
    have hr := (hg.2.2 0 (by show (0 : Int) < ρ 0 4; omega)).1
    have hi : isItm ρ (ρ 3 0) 0 (m : Int) := ⟨hr, by omega, by omega, by omega⟩
    refine c_itemOf hW hk.1 hk.2.1 hk.2.2.1 (fun h => absurd hi h) (fun _ σ1 hB f => ⟨fun q => absurd q (by omega), fun _ => ?_⟩)
    have hk1 := hk.bt hB f
    refine c_lowestOf hW hk1.1 hk1.2.1 hk1.2.2.1 hk1.2.2.2 (itN_r hL hi).2 (fun σ2 b1 b2 b3 => ?_)
    have key := hT.lowI hg hL b3 hi
    refine ⟨fun q => ?_, fun q v ev => ?_⟩
    · unfold wp_X11_heads_b60
      intro v8 e8
      rw [w32_of (by omega) (by omega), show (m : Int) + 1 = ((m + 1 : Nat) : Int) by omega] at e8
      rw [e8]
      exact ih (m + 1) x σ2 n (by omega) (by omega) (by omega) (hx.no (key.mp q)) (KL.of b1 b2 b3) (Or.inr ⟨b1, b2, b3⟩)
    · unfold wp_X11_heads_b60
      intro v8 e8
      rw [w32_of (by omega) (by omega), show (m : Int) + 1 = ((m + 1 : Nat) : Int) by omega] at e8
      rw [e8, ev]
      exact ih (m + 1) _ σ2 n (by omega) (by omega) (by omega) (hx.yes (by omega) (by omega) (Classical.byContradiction fun w => q (key.mpr w))) (KL.of b1 b2 b3) (Or.inr ⟨b1, b2, b3⟩)
theorem r_heads {ρ : St} (hW : WW ρ) {τ : St} (ha : LA ρ τ) {Q : Int → St → Prop} (hq : ∀ r, hdP ρ (LL ρ + 1) r → Q r τ) : ∀ (d m : Nat) (x : Int) (n : Nat), m + d = LL ρ + 1 → 1 ≤ m → d < n → hdP ρ m x → wp_X12_heads_l8 Q n x (m : Int) τ := by
  have hg := hW.2.2.1
  have h8 := hW.2.2.2.2.2.1
  have h80 := hW.2.2.2.2.1
  have hL : LL ρ < 9 := by unfold LL; omega
  have eL : ((LL ρ : Nat) : Int) = ρ 0 8 := by unfold LL; omega
  intro d
  induction d with
  | zero =>
    intro m x n hm h1 hn hx
    obtain ⟨n, rfl⟩ := suc_n hn
    unfold wp_X12_heads_l8
    rw [ha.1.2.2.1]
    refine ⟨fun _ => hq x ?_, fun q => absurd (by omega) q⟩
    rw [show LL ρ + 1 = m by omega]; exact hx
  | succ d ih =>
    intro m x n hm h1 hn hx
    obtain ⟨n, rfl⟩ := suc_n hn
    unfold wp_X12_heads_l8
    rw [ha.1.2.2.1, ha.1.1]
    refine ⟨fun q => absurd q (by omega), fun _ => ⟨fun q => hq x (hx.none (by have := hg.1; omega)), fun q0 => r_start ha.1.1 (fun q => (ha.1.2.2.2.1 0 (by show (0 : Int) < ρ 0 4; omega)).1) (fun q => absurd q (by omega)) (fun _ => ?_) hg.1⟩⟩
    have hr := (hg.2.2 0 (by show (0 : Int) < ρ 0 4; omega)).1
    have hi : isItm ρ (ρ 3 0) 0 (m : Int) := ⟨hr, by omega, by omega, by omega⟩
    refine r_has2 ha h8 hi (fun hn => ⟨fun _ => ?_, fun q => absurd rfl q⟩) (fun hy => ⟨fun q => absurd q (by decide), fun _ => ?_⟩)
    · unfold wp_X12_heads_b44
      intro v7 e7 v8 e8
      rw [w32_of (by omega) (by omega), show (m : Int) + 1 = ((m + 1 : Nat) : Int) by omega] at e8
      have e0 : b_or x 0 = x := by rw [b_or_n hx.1 ⟨by decide, by decide⟩]; have := hx.1.1; simp; omega
      rw [e0] at e7
      rw [e8, e7]
      exact ih (m + 1) x n (by omega) (by omega) (by omega) (hx.no hn)
    · unfold wp_X12_heads_b44
      intro v7 e7 v8 e8
      rw [w32_of (by omega) (by omega), show (m : Int) + 1 = ((m + 1 : Nat) : Int) by omega] at e8
      rw [e8, e7]
      exact ih (m + 1) _ n (by omega) (by omega) (by omega) (hx.yes (by omega) (by omega) hy)
/-! without -/
theorem c_wholeItem {ρ σ : St} (hW : WW ρ) (hk : KL ρ σ) {Q : Int → St → Prop} (hno : (ρ 0 4 = 0 ∨ ρ 0 8 = 0) → ∀ r, r < 0 → Q r σ) (hyes : isItm ρ (ρ 3 0) 0 (ρ 0 8) → 0 < ρ 0 4 → ∀ σ1, Bt ρ σ1 → Fr S_X0_build σ σ1 → Q (itN ρ (ρ 3 0) 0 (ρ 0 8) : Nat) σ1) : wp_X11_wholeItem σ Q := by
  have hg := hW.2.2.1
  have h80 := hW.2.2.2.2.1
  have h4 := hg.1
  unfold wp_X11_wholeItem
  rw [hk.1.1]
  refine ⟨fun h => c_start hk.1 (fun q => absurd q h) (fun q => ?_) hg.1, fun h => hno (Or.inl (by omega)) _ (by decide)⟩
  rw [hk.2.1.1]
  have hr := (hg.2.2 0 (by show (0 : Int) < ρ 0 4; omega)).1
  refine c_itemOf hW hk.1 hk.2.1 hk.2.2.1 (fun q => hno (Or.inr ?_) _ (by decide)) (fun hi σ1 hB f => hyes hi (by omega) σ1 hB f)
  unfold isItm at q; omega
theorem c_without {ρ σ : St} (hW : WW ρ) (hk : KL ρ σ) {x1 : Int} {Q : Int → St → Prop} (hno : ¬ (0 ≤ x1 ∧ x1 < ρ 0 4) → Q (-2) σ) (hz : (0 ≤ x1 ∧ x1 < ρ 0 4) → ρ 0 8 = 0 → Q (-1) σ) (hyes : (0 ≤ x1 ∧ x1 < ρ 0 4) → isItm ρ (ρ 3 0) 0 (ρ 0 8) → ∀ σ1 v, Bt ρ σ1 → LoC (gO ρ x1) jA (ρ 3 0) 0 (ρ 0 8) v → Q v σ1) : wp_X11_without x1 σ Q := by
  have hg := hW.2.2.1
  have h8 := hW.2.2.2.2.2.1
  have h80 := hW.2.2.2.2.1
  have hL : LL ρ < 9 := by unfold LL; omega
  have eL : ((LL ρ : Nat) : Int) = ρ 0 8 := by unfold LL; omega
  unfold wp_X11_without
  refine c_knows ?_
  rw [hk.1.1]
  by_cases hx : 0 ≤ x1 ∧ x1 < ρ 0 4
  rotate_left
  · rw [if_neg hx]
    exact ⟨fun q => absurd rfl q, fun _ => hno hx⟩
  rw [if_pos hx]
  refine ⟨fun _ => c_wholeItem hW hk (fun h r hr => ⟨fun q => absurd q (by omega), fun _ => hz hx (by omega)⟩) (fun hi _ σ1 hB f => ⟨fun _ => ?_, fun q => absurd (by omega) q⟩), fun q => absurd (by decide) q⟩
  unfold wp_X1_lowestWithout
  refine c_build hW hB.1.2.2.1.1 hB.1.1 (Or.inr hB) (fun σ2 hB2 => c_fill39 hg hL hB2 (fun σ3 hB3 hD => ⟨by have := (itN_r hL hi).2; omega, ?_⟩))
  rw [Int.toNat_natCast]
  refine hyes hx hi σ3 _ hB3 ?_
  have hij : (0 : Nat) < LL ρ ∧ LL ρ ≤ LL ρ := ⟨by have := hi.2.2.1; omega, by omega⟩
  have q := sp_a (L := LL ρ) hL hij
  have a := hD (spA (LL ρ) 0 (LL ρ)) (ρ 3 0).toNat q.1 (by have := hi.1; omega)
  rw [q.2.1, q.2.2, jY1, show (((ρ 3 0).toNat : Nat) : Int) = ρ 3 0 by have := hi.1; omega, eL] at a
  exact a
theorem r_leastOfAll {g τ : St} (hg : Wg g) (ha : LA g τ) (h8 : 0 ≤ g 0 8 ∧ g 0 8 ≤ 8) {Q : Int → St → Prop} (hno : (g 0 4 = 0 ∨ g 0 8 = 0) → Q (-1) τ) (hyes : 0 < g 0 4 → 0 < g 0 8 → Q (if rl τ (g 3 0) 0 (g 0 8) < 1000000000 then rl τ (g 3 0) 0 (g 0 8) else -1) τ) : wp_X12_leastOfAll τ Q := by
  have h4 := hg.1
  unfold wp_X12_leastOfAll wp_X12_leastOfAll_b30
  rw [ha.1.2.2.1, ha.1.1]
  refine ⟨fun h => hno (Or.inr h), fun h => ⟨fun h2 => hno (Or.inl h2), fun h2 => ?_⟩⟩
  have es : 0 < g 0 4 → τ 1 0 = g 3 0 := fun q => (ha.1.2.2.2.1 0 (by show (0 : Int) < g 0 4; omega)).1
  have hr := (hg.2.2 0 (by show (0 : Int) < g 0 4; omega)).1
  have hy := hyes (by omega) (by omega)
  refine r_start ha.1.1 es (fun q => absurd q h2) (fun _ => ?_) hg.1
  rw [ha.1.2.2.1]
  unfold wp_X12_has
  refine r_item hr (by omega) ⟨it_r hr (by omega), fun q => ⟨fun q => absurd rfl q, fun _ => ?_⟩, fun q => ⟨fun _ => r_start ha.1.1 es (fun q => absurd q h2) (fun _ => ?_) hg.1, fun q => absurd (by decide) q⟩⟩
  · rw [if_neg (by unfold rl; omega)] at hy; exact hy
  · rw [ha.1.2.2.1]
    rw [if_pos (by unfold rl; omega)] at hy
    exact r_item hr (by omega) ⟨it_r hr (by omega), hy⟩
theorem osum_or {ρ : St} (hg : Wg ρ) {x1 : Int} (hx : 0 ≤ x1 ∧ x1 < ρ 0 4) : l_or (osum (ρ 8) (ρ 0 4).toNat) (l_shl 1 x1) = osum (gO ρ x1 8) (gO ρ x1 0 4).toNat := by
  have r40 := hg.2.1
  have hv : (1 : Int) = 0 ∨ (1 : Int) = 1 := Or.inr rfl
  have P0 := w_out hg
  have P1 : P64 (osum (upS ρ 8 x1.toNat 1 8) (ρ 0 4).toNat) := w_out (hg.up8 (r := x1.toNat) hv)
  rw [gO_k (k := 0) (by decide)]
  unfold gO
  rw [if_neg (by omega)]
  conv => lhs; rw [show x1 = (x1.toNat : Int) by omega]
  rw [l_shl_1 _ (by omega)]
  have hp := pow63 (k := x1.toNat) (by omega)
  refine tb_ext (l_or_p P0 hp).1 P1.1 (fun k => ?_)
  rw [tb_lor P0 hp, tb_pow, osum_up hg (r := x1.toNat) (by omega) hv]
  by_cases hk : k = x1.toNat
  · simp [hk]
  · have : ¬ (x1.toNat = k) := fun q => hk q.symm
    simp [hk, this]
theorem r_without {ρ τ : St} (hW : WW ρ) (hV : VR τ ρ) {x1 : Int} {Q : Int → St → Prop} (hno : ¬ (0 ≤ x1 ∧ x1 < ρ 0 4) → Q (-2) τ) (hz : (0 ≤ x1 ∧ x1 < ρ 0 4) → ρ 0 8 = 0 → ∀ τ1, Q (-1) τ1) (hyes : (0 ≤ x1 ∧ x1 < ρ 0 4) → 0 < ρ 0 8 → ∀ τ1 v, Lo (gO ρ x1) jA (ρ 3 0) 0 (ρ 0 8) v 1000000000 → Q (if v < 1000000000 then v else -1) τ1) : wp_X12_without x1 τ Q := by
  have hg := hW.2.2.1
  have h8 := hW.2.2.2.2.2.1
  have h80 := hW.2.2.2.2.1
  have g1 := hV.2.2.2.1.1
  unfold wp_X12_without
  refine r_isRule g1 ⟨hg.1, hg.2.1⟩ ?_
  by_cases hx : 0 ≤ x1 ∧ x1 < ρ 0 4
  rotate_left
  · rw [if_neg hx]
    exact ⟨fun q => absurd rfl q, fun _ => hno hx⟩
  rw [if_pos hx]
  refine ⟨fun _ => ?_, fun q => absurd (by decide) q⟩
  refine mf_X12_looks (Q := fun _ τ1 => LA ρ τ1) (fun r τ1 ha f => ?_) Fr.rf (r_looks hW hV (fun _ h => h))
  have hV1 : VR τ1 ρ := VR.frB f (by decide) hV
  rw [hV1.2.2.2.1.2.1, osum_or hg hx]
  have eg : ∀ k, k ≠ 8 → gO ρ x1 k = ρ k := fun k h => gO_k h
  refine r_laysLeast (g := gO ρ x1) (gO_W hg) (by rw [eg 0 (by decide)]; exact ⟨h80, h8⟩) ?_ rfl (fun τ2 ha2 => ?_)
  · obtain ⟨v1, v2, v3, v4, v5⟩ := ha.1
    unfold RH
    rw [eg 0 (by decide), eg 3 (by decide), eg 4 (by decide), eg 5 (by decide), eg 6 (by decide), eg 11 (by decide)]
    exact ⟨v1, v3, v4, v5⟩
  · refine r_leastOfAll (gO_W hg) ha2 (by rw [eg 0 (by decide)]; exact ⟨h80, h8⟩) (fun q => ?_) (fun q1 q2 => ?_)
    · rw [eg 0 (by decide)] at q
      exact hz hx (by omega) τ2
    · rw [eg 0 (by decide)] at q2 ⊢
      rw [eg 3 (by decide)]
      have hr := (hg.2.2 0 (by show (0 : Int) < ρ 0 4; omega)).1
      refine hyes hx q2 τ2 _ (ha2.2 (ρ 3 0) 0 (ρ 0 8) hr.1 hr.2 (by omega) q2 (by rw [eg 0 (by decide)]; omega))
def CcB (Cc : Bool → St → St → Prop) : Prop := ∀ b σ σ1 ρ, Cc b σ ρ → Bt ρ σ1 → Fr S_X11_without σ σ1 → Cc b σ1 ρ
section OPS
variable {Cc : Bool → St → St → Prop}
theorem CcL.kl (hC : CcL Cc) {b : Bool} {σ ρ : St} (v : VC σ ρ) (h : Cc b σ ρ) : KL ρ σ := ⟨v.2.2.2.1, v.2.2.2.2.2, (hC.1 b σ ρ h).1, (hC.1 b σ ρ h).2⟩
theorem s_heads (hC : CcL Cc) : Step_heads (Inv Cc) := by
  rintro b σ τ ⟨ρ, hW, hVC, hVR, hc⟩
  have hk := hC.kl hVC hc
  refine mf_X11_heads (Q := fun r σ1 => hdP ρ (LL ρ + 1) r ∧ (σ1 = σ ∨ (Bt ρ σ1 ∧ σ1 36 7 = 1 ∧ Lw ρ σ1))) (fun r σ1 h f => ?_) Fr.rf (by
    unfold wp_X11_heads
    exact c_heads hW (fun r σ1 a b => ⟨a, b⟩) (LL ρ) 1 0 σ bigN (by omega) (by omega) (by have := hW.2.2.2.2.2.1; unfold LL bigN; omega) hdP.zero hk (Or.inl rfl))
  refine mf_X12_heads (Q := fun r1 _ => hdP ρ (LL ρ + 1) r1) (fun r1 τ1 h1 f1 => ?_) Fr.rf (by
    unfold wp_X12_heads
    exact r_looks hW hVR (fun τ1 ha => r_heads hW ha (fun r1 h => h) (LL ρ) 1 0 bigN (by omega) (by omega) (by have := hW.2.2.2.2.2.1; unfold LL bigN; omega) hdP.zero))
  refine ⟨h.1.uniq h1, ρ, hW, VC.frB f (by decide) hVC, VR.frB f1 (by decide) hVR, ?_⟩
  rcases h.2 with e | ⟨e1, e2, e3⟩
  · rw [e]; exact hc
  · exact hC.2 b σ σ1 ρ hc e1 ⟨e2, e3⟩ f
theorem s_without (hC : CcL Cc) (hB : CcB Cc) : Step_without (Inv Cc) := by
  rintro b σ τ ⟨ρ, hW, hVC, hVR, hc⟩ x1 c1
  have hk := hC.kl hVC hc
  refine mf_X11_without (Q := fun r σ1 => (¬ (0 ≤ x1 ∧ x1 < ρ 0 4) ∧ r = -2 ∧ σ1 = σ) ∨ ((0 ≤ x1 ∧ x1 < ρ 0 4) ∧ ρ 0 8 = 0 ∧ r = -1 ∧ σ1 = σ) ∨ ((0 ≤ x1 ∧ x1 < ρ 0 4) ∧ isItm ρ (ρ 3 0) 0 (ρ 0 8) ∧ Bt ρ σ1 ∧ LoC (gO ρ x1) jA (ρ 3 0) 0 (ρ 0 8) r)) (fun r σ1 h f => ?_) Fr.rf (c_without hW hk (fun h => Or.inl ⟨h, rfl, rfl⟩) (fun h h2 => Or.inr (Or.inl ⟨h, h2, rfl, rfl⟩)) (fun h h2 σ1 v h3 h4 => Or.inr (Or.inr ⟨h, h2, h3, h4⟩)))
  refine mf_X12_without (Q := fun r _ => (¬ (0 ≤ x1 ∧ x1 < ρ 0 4) ∧ r = -2) ∨ ((0 ≤ x1 ∧ x1 < ρ 0 4) ∧ ρ 0 8 = 0 ∧ r = -1) ∨ ((0 ≤ x1 ∧ x1 < ρ 0 4) ∧ 0 < ρ 0 8 ∧ ∃ v, Lo (gO ρ x1) jA (ρ 3 0) 0 (ρ 0 8) v 1000000000 ∧ r = (if v < 1000000000 then v else -1))) (fun r1 τ1 h1 f1 => ?_) Fr.rf (r_without hW hVR (fun h => Or.inl ⟨h, rfl⟩) (fun h h2 τ1 => Or.inr (Or.inl ⟨h, h2, rfl⟩)) (fun h h2 τ1 v h3 => Or.inr (Or.inr ⟨h, h2, v, h3, rfl⟩)))
  have hR : VR τ1 ρ := VR.frB f1 (by decide) hVR
  have hS : VC σ1 ρ := VC.frB f (by decide) hVC
  rcases h with ⟨g0, rfl, rfl⟩ | ⟨g0, g1, rfl, rfl⟩ | ⟨g0, g1, g2, g3⟩
  · rcases h1 with ⟨k0, rfl⟩ | ⟨k0, -⟩ | ⟨k0, -⟩
    · exact ⟨rfl, ρ, hW, hVC, hR, hc⟩
    · exact absurd k0 g0
    · exact absurd k0 g0
  · rcases h1 with ⟨k0, -⟩ | ⟨k0, k1, rfl⟩ | ⟨k0, k1, -⟩
    · exact absurd g0 k0
    · exact ⟨rfl, ρ, hW, hVC, hR, hc⟩
    · omega
  · rcases h1 with ⟨k0, -⟩ | ⟨k0, k1, -⟩ | ⟨k0, k1, v, k2, rfl⟩
    · exact absurd g0 k0
    · have := g1.2.2.1; omega
    · exact ⟨lo_agree g3 k2, ρ, hW, hS, hR, hB b σ σ1 ρ hc g2 f⟩
end OPS
