/-! all spans in the reference -/
theorem lo_letter {g τ : St} {J : Int → Int → Int} (hg : Wg g) {p k l : Int} (hp : 100 ≤ p) : Lo g J p k l (VP g τ p k l) 1000000000 := by
  by_cases hc : l = k + 1 ∧ g 11 k.toNat = p - 100
  · rw [VP_yes hp hc]
    exact Or.inr ⟨by omega, (Te.letter_iff hg hp).2 ⟨hc.1, hc.2, rfl⟩, fun c h => by have := (Te.letter_iff hg hp).1 h; omega⟩
  · rw [VP_no hp hc]
    exact Or.inl ⟨rfl, fun c h => hc (by have := (Te.letter_iff hg hp).1 h; exact ⟨this.1, this.2.1⟩)⟩
/-- spans shorter than n, and those of length n that begin before i, are done; the rest are untouched -/
def LD (g τ : St) (n i : Int) : Prop := RG τ g ∧ ∀ a k l : Int, 0 ≤ a → a < 12 → 0 ≤ k → k < l → l ≤ g 0 8 → ((l - k < n ∨ (l - k = n ∧ k < i)) → Lo g jA a k l (rl τ a k l) 1000000000) ∧ (¬ (l - k < n ∨ (l - k = n ∧ k < i)) → rl τ a k l = 1000000000)
def LA (g τ : St) : Prop := RG τ g ∧ ∀ a k l : Int, 0 ≤ a → a < 12 → 0 ≤ k → k < l → l ≤ g 0 8 → Lo g jA a k l (rl τ a k l) 1000000000
theorem r_l42 {g : St} (hg : Wg g) (hs8 : g 0 8 ≤ 8) {Q : Int → St → Prop} {K : Int → St → Prop} {n : Int} (hn : 1 ≤ n ∧ n ≤ g 0 8) : ∀ (d : Nat) (i : Int) (τ : St) (f : Nat), 0 ≤ i → i + n + d = g 0 8 + 1 → d < f → LD g τ n i → (∀ τ1, LD g τ1 (n + 1) 0 → K (n + 1) τ1) → wp_X12_laysLeast_l42 Q K f n i τ := by
  intro d
  induction d with
  | zero =>
    intro i τ f h0 hd hf hl hk
    obtain ⟨f, rfl⟩ := suc_n hf
    unfold wp_X12_laysLeast_l42
    rw [w32_of (x := i + n) (by omega) (by omega), hl.1.2.2.1]
    refine ⟨fun _ v ev => ?_, fun h => absurd h (by omega)⟩
    rw [ev, w32_of (by omega) (by omega)]
    refine hk τ ⟨hl.1, fun a k l a0 a1 k0 kl lg => ⟨fun h => (hl.2 a k l a0 a1 k0 kl lg).1 (by omega), fun h => (hl.2 a k l a0 a1 k0 kl lg).2 (by omega)⟩⟩
  | succ d ih =>
    intro i τ f h0 hd hf hl hk
    obtain ⟨f, rfl⟩ := suc_n hf
    unfold wp_X12_laysLeast_l42
    rw [w32_of (x := i + n) (by omega) (by omega), hl.1.2.2.1]
    refine ⟨fun h => absurd h (by push_cast at hd; omega), fun _ => r_laysSpan hg hs8 (by push_cast at hd; omega) ?_ hl.1 (fun a a0 a1 => (hl.2 a i (i + n) a0 a1 h0 (by omega) (by push_cast at hd; omega)).2 (by omega)) (fun τ1 s1 hlo v ev => ?_)⟩
    · intro p k l hp h1 h2 h3 h4
      by_cases hp1 : 100 ≤ p
      · exact lo_letter hg hp1
      · rw [VP_lab (by omega)]
        unfold isPart at hp
        exact (hl.2 p k l (by omega) (by omega) (by omega) h2 (by push_cast at hd; omega)).1 (by omega)
    · rw [ev, w32_of (by omega) (by omega)]
      refine ih (i + 1) τ1 f (by omega) (by push_cast at hd; omega) (by omega) ⟨s1.1, fun a k l a0 a1 k0 kl lg => ?_⟩ hk
      by_cases e : k = i ∧ l = i + n
      · obtain ⟨rfl, rfl⟩ := e
        exact ⟨fun _ => hlo a a0 a1, fun h => absurd (by omega) h⟩
      · have e2 : rl τ1 a k l = rl τ a k l := s1.2.1 _ (fun b b0 b1 h => e (by
          have := it_inj ⟨a0, a1⟩ (by omega) ⟨b0, b1⟩ (by push_cast at hd; omega) h
          exact ⟨this.2.1, this.2.2⟩))
        rw [e2]
        have q := hl.2 a k l a0 a1 k0 kl lg
        exact ⟨fun h => q.1 (by omega), fun h => q.2 (by omega)⟩
theorem r_l31 {g : St} (hg : Wg g) (hs8 : 0 ≤ g 0 8 ∧ g 0 8 ≤ 8) {Q : Int → St → Prop} (hq : ∀ τ1, LA g τ1 → Q 0 τ1) : ∀ (d : Nat) (n : Int) (τ : St) (f : Nat), 1 ≤ n → n + d = g 0 8 + 1 → d < f → LD g τ n 0 → wp_X12_laysLeast_l31 Q f n τ := by
  intro d
  induction d with
  | zero =>
    intro n τ f h0 hd hf hl
    obtain ⟨f, rfl⟩ := suc_n hf
    unfold wp_X12_laysLeast_l31
    rw [hl.1.2.2.1]
    exact ⟨fun _ => hq τ ⟨hl.1, fun a k l a0 a1 k0 kl lg => (hl.2 a k l a0 a1 k0 kl lg).1 (by omega)⟩, fun h => absurd h (by omega)⟩
  | succ d ih =>
    intro n τ f h0 hd hf hl
    obtain ⟨f, rfl⟩ := suc_n hf
    unfold wp_X12_laysLeast_l31
    rw [hl.1.2.2.1]
    refine ⟨fun h => absurd h (by push_cast at hd; omega), fun _ => r_l42 hg hs8.2 (by push_cast at hd; omega) (g 0 8 + 1 - n).toNat 0 τ bigN (by omega) (by push_cast at hd; omega) (by unfold bigN; omega) hl (fun τ1 h1 => ih (n + 1) τ1 f (by omega) (by push_cast at hd; omega) (by omega) h1)⟩
theorem r_l7 {g : St} (hg : Wg g) (hs8 : 0 ≤ g 0 8 ∧ g 0 8 ≤ 8) {Q : Int → St → Prop} (hq : ∀ τ1, LA g τ1 → Q 0 τ1) : ∀ (d : Nat) (x : Int) (τ : St) (f : Nat), 0 ≤ x → x + d = 768 → d < f → RG τ g → (∀ k : Nat, (k : Int) < x → τ 15 k = 1000000000) → wp_X12_laysLeast_l7 Q f x τ := by
  intro d
  induction d with
  | zero =>
    intro x τ f h0 hd hf v hz
    obtain ⟨f, rfl⟩ := suc_n hf
    unfold wp_X12_laysLeast_l7
    refine ⟨fun _ => r_l31 hg hs8 hq (g 0 8).toNat 1 τ bigN (by omega) (by omega) (by unfold bigN; omega) ⟨v, fun a k l a0 a1 k0 kl lg => ⟨fun h => absurd h (by omega), fun _ => ?_⟩⟩, fun h => absurd h (by omega)⟩
    have := it_r (i := k) (j := l) ⟨a0, a1⟩ (by omega)
    exact hz _ (by omega)
  | succ d ih =>
    intro x τ f h0 hd hf v hz
    obtain ⟨f, rfl⟩ := suc_n hf
    unfold wp_X12_laysLeast_l7
    refine ⟨fun h => absurd h (by push_cast at hd; omega), fun _ => ⟨by push_cast at hd; omega, fun τ1 e1 w ew => ?_⟩⟩
    rw [ew, w32_of (by push_cast at hd; omega) (by push_cast at hd; omega)]
    refine ih (x + 1) τ1 f (by omega) (by push_cast at hd; omega) (by omega) (by rw [e1]; exact v) (fun k hk => ?_)
    rw [e1]
    by_cases e : k = x.toNat
    · rw [e, upS_s]
    · rw [upS_j e]; exact hz k (by omega)
/-- what laysLeast wants of the store: all but outs -/
def RH (τ g : St) : Prop := τ 0 1 = g 0 4 ∧ τ 0 27 = g 0 8 ∧ (∀ r : Nat, (r : Int) < g 0 4 → τ 1 r = g 3 r ∧ τ 2 r = g 4 r ∧ τ 3 r = g 5 r ∧ τ 4 r = g 6 r) ∧ (∀ j : Nat, (j : Int) < g 0 8 → τ 14 j = g 11 j)
theorem r_laysLeast {g τ : St} (hg : Wg g) (hs8 : 0 ≤ g 0 8 ∧ g 0 8 ≤ 8) (v : RH τ g) {o : Int} (ho : o = osum (g 8) (g 0 4).toNat) {Q : Int → St → Prop} (hq : ∀ τ1, LA g τ1 → Q 0 τ1) : wp_X12_laysLeast o τ Q := by
  unfold wp_X12_laysLeast
  intro τ1 e1
  refine r_l7 hg hs8 hq 768 0 τ1 bigN (by omega) (by omega) (by unfold bigN; omega) ?_ (fun k hk => by omega)
  obtain ⟨v1, v2, v3, v4⟩ := v
  rw [e1]
  exact ⟨v1, by rw [upS_s]; exact ho, v2, v3, v4⟩
theorem r_looks {ρ τ : St} (hW : WW ρ) (hV : VR τ ρ) {Q : Int → St → Prop} (hq : ∀ τ1, LA ρ τ1 → Q 0 τ1) : wp_X12_looks τ Q := by
  obtain ⟨wt, wo, wg, wb, ws0, ws1, ws2⟩ := hW
  obtain ⟨ut, uo, uf, ⟨g1, g2, g3⟩, ub, us0, us1⟩ := hV
  have lp : ∀ (d x : Nat) (σ : St) (f : Nat), (x : Int) + d = ρ 0 8 → d < f → σ 0 27 = ρ 0 8 → σ 0 1 = ρ 0 4 → σ 0 2 = osum (ρ 8) (ρ 0 4).toNat → (∀ r : Nat, (r : Int) < ρ 0 4 → σ 1 r = ρ 3 r ∧ σ 2 r = ρ 4 r ∧ σ 3 r = ρ 5 r ∧ σ 4 r = ρ 6 r) → (∀ j : Nat, (j : Int) < ρ 0 8 → σ 11 j = ρ 11 j) → (∀ j : Nat, j < x → σ 14 j = ρ 11 j) → wp_X12_looks_l10 Q f (x : Int) σ := by
    intro d
    induction d with
    | zero =>
      intro x σ f hd hf a1 a2 a3 a4 a5 a6
      obtain ⟨f, rfl⟩ := suc_n hf
      unfold wp_X12_looks_l10
      rw [a1]
      exact ⟨fun _ => r_laysLeast wg ⟨ws0, ws1⟩ ⟨a2, a1, a4, fun j hj => a6 j (by omega)⟩ a3 (fun τ1 h => hq τ1 h), fun h => absurd h (by omega)⟩
    | succ d ih =>
      intro x σ f hd hf a1 a2 a3 a4 a5 a6
      obtain ⟨f, rfl⟩ := suc_n hf
      unfold wp_X12_looks_l10
      rw [a1]
      refine ⟨fun h => absurd h (by push_cast at hd; omega), fun _ => ⟨by push_cast at hd; omega, by push_cast at hd; omega, fun σ1 e1 v ev => ?_⟩⟩
      rw [ev, w32_of (by omega) (by push_cast at hd; omega), show (x : Int) + 1 = ((x + 1 : Nat) : Int) by omega]
      rw [e1]
      refine ih (x + 1) _ f (by push_cast at hd ⊢; omega) (by omega) a1 a2 a3 a4 a5 (fun j hj => ?_)
      rw [Int.toNat_natCast]
      by_cases e : j = x
      · rw [e, upS_s]; exact a5 x (by push_cast at hd; omega)
      · rw [upS_j e]; exact a6 j (by omega)
  unfold wp_X12_looks
  intro τ1 e1
  rw [e1]
  exact lp (ρ 0 8).toNat 0 _ bigN (by omega) (by unfold bigN; omega) (by rw [upS_s]; exact us0) g1 g2 (fun r hr => by have := g3 r hr; exact ⟨this.1, this.2.1, this.2.2.1, this.2.2.2.1⟩) us1 (fun j hj => by omega)
