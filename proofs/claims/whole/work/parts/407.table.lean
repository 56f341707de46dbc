/-! the table of the text, on both sides -/
theorem j_num2 {ρ σ τ : St} (hT : Wt ρ) {lo hi hi2 : Int} (hl : 0 ≤ lo) (hg : Gdg ρ σ τ → hi = hi2 ∧ hi ≤ 99) (h : JSg ρ σ τ) : ∃ (v w : Int) (σ1 τ1 : St), (∀ Q : Int → St → Prop, Q v σ1 → wp_X6_readNumber lo hi σ Q) ∧ (∀ Q : Int → St → Prop, Q w τ1 → wp_X12_takes lo hi2 τ Q) ∧ ((Gdg ρ σ1 τ1 ∧ v = w ∧ lo ≤ v ∧ v ≤ hi) ∨ BJ ρ σ1 τ1) ∧ FXg σ σ1 ∧ FYg τ τ1 := by
  rcases h with h | h
  · obtain ⟨e, h9⟩ := hg h
    subst e
    obtain ⟨v, w, σ1, τ1, a1, a2, a3, a4, a5⟩ := j_num hT ⟨hl, h9⟩ (Or.inl h)
    refine ⟨v, w, σ1, τ1, a1, a2, ?_, a4, a5⟩
    rcases a3 with a3 | ⟨a3, -⟩
    · exact Or.inl a3
    · exact Or.inr a3
  · obtain ⟨σ1, a1, a2⟩ := cb_num hT h.1 lo hi
    exact ⟨0, lo, σ1, τ, a1, rb_takes h.ne lo hi2, Or.inr (h.go a2), a2.2.2.2, FYg.rf⟩
theorem cb_row11 {ρ σ : St} (h : BCg ρ σ) : ∀ Q : Int → St → Prop, Q 0 σ → wp_X6_readRow_c11 σ Q := by
  intro Q hq
  unfold wp_X6_readRow_c11
  intro v1 e1
  obtain ⟨m0, hm0⟩ := suc_n (n := bigN) (d := 0) (by unfold bigN; omega)
  rw [hm0]
  unfold wp_X6_readRow_c11_l23
  exact ⟨fun _ => hq, fun _ => ⟨fun _ => hq, fun q => absurd h.1 q⟩⟩
theorem rb_row11 {b : Nat} (hb : 2 ≤ b ∧ b ≤ 5) : ∀ (d k : Nat) (τ : St), k + d = b * b → τ 0 24 ≠ 0 → τ 6 1 = b → ∃ τ1 : St, (∀ (Q : Int → St → Prop) (n : Nat), d < n → wp_X12_takesWord_s12 τ1 (fun _ σ19 => wp_X12_readTable_l127 Q bigN 0 σ19) → wp_X12_readTable_l74 Q n (k : Int) τ) ∧ (∀ x, x ≠ 9 → τ1 x = τ x) ∧ FWg τ τ1 := by
  have hbb : b * b ≤ 25 := Nat.mul_le_mul hb.2 hb.2
  have ew : w32 ((b : Int) * (b : Int)) = ((b * b : Nat) : Int) := by
    have : (b : Int) * (b : Int) = ((b * b : Nat) : Int) := by push_cast; rfl
    rw [this, w32_of (by omega) (by omega)]
  intro d
  induction d with
  | zero =>
    intro k τ hk h0 h6
    refine ⟨τ, fun Q n hn h => ?_, fun _ _ => rfl, FWg.rf⟩
    obtain ⟨n, rfl⟩ := suc_n hn
    unfold wp_X12_readTable_l74
    rw [show τ 6 (Int.toNat 1) = b from h6, ew]
    exact ⟨fun _ => h, fun q => absurd (by omega) q⟩
  | succ d ih =>
    intro k τ hk h0 h6
    obtain ⟨τ1, a1, a9, a5⟩ := ih (k + 1) (upS τ 9 (25 + k) 0) (by omega) h0 h6
    refine ⟨τ1, fun Q n hn h => ?_, fun x hx => by rw [a9 x hx, upS_k hx], (FWg.up2 (by decide) (by omega)).tr a5⟩
    obtain ⟨n, rfl⟩ := suc_n hn
    unfold wp_X12_readTable_l74
    rw [show τ 6 (Int.toNat 1) = b from h6, ew]
    refine ⟨fun q => absurd q (by omega), fun _ => rb_takes h0 _ _ _ ?_⟩
    rw [w32_of (x := 25 + (k : Int)) (by omega) (by omega)]
    refine ⟨by omega, fun σ22 e22 v ev => ?_⟩
    rw [w32_of (by omega) (by omega), show (k : Int) + 1 = ((k + 1 : Nat) : Int) by omega] at ev
    rw [ev, e22, show (25 + (k : Int)).toNat = 25 + k by omega]
    exact a1 Q n (by omega) h
theorem j_row11 {ρ : St} (hT : Wt ρ) {b : Nat} (hb : 2 ≤ b ∧ b ≤ 5) : ∀ (d k : Nat) (σ τ : St), k + d = b * b → Gdg ρ σ τ → σ 4 7 = b → τ 6 1 = b → (∀ j, j < k → σ 11 j = τ 9 (25 + j) ∧ 0 ≤ σ 11 j ∧ σ 11 j < b) → ∃ σ1 τ1 : St, (∀ (Q : Int → St → Prop) (n : Nat), d < n → Q 0 σ1 → wp_X6_readRow_c11_l23 Q n ((b * b : Nat) : Int) (k : Int) σ) ∧ (∀ (Q : Int → St → Prop) (n : Nat), d < n → wp_X12_takesWord_s12 τ1 (fun _ σ19 => wp_X12_readTable_l127 Q bigN 0 σ19) → wp_X12_readTable_l74 Q n (k : Int) τ) ∧ ((Gdg ρ σ1 τ1 ∧ ∀ j, j < b * b → σ1 11 j = τ1 9 (25 + j) ∧ 0 ≤ σ1 11 j ∧ σ1 11 j < b) ∨ BJ ρ σ1 τ1) ∧ FZg σ σ1 ∧ FWg τ τ1 ∧ (∀ k, k ≠ 3 → k ≠ 11 → σ1 k = σ k) ∧ (∀ k, k ≠ 0 → k ≠ 9 → τ1 k = τ k) ∧ τ1 0 13 = τ 0 13 := by
  have hbb : b * b ≤ 25 := Nat.mul_le_mul hb.2 hb.2
  have ew : w32 ((b : Int) * (b : Int)) = ((b * b : Nat) : Int) := by
    have : (b : Int) * (b : Int) = ((b * b : Nat) : Int) := by push_cast; rfl
    rw [this, w32_of (by omega) (by omega)]
  intro d
  induction d with
  | zero =>
    intro k σ τ hk hg h4 h6 hr
    refine ⟨σ, τ, fun Q n hn h => ?_, fun Q n hn h => ?_, Or.inl ⟨hg, fun j hj => hr j (by omega)⟩, FZg.rf, FWg.rf, fun _ _ _ => rfl, fun _ _ _ => rfl, rfl⟩
    · obtain ⟨n, rfl⟩ := suc_n hn
      unfold wp_X6_readRow_c11_l23
      exact ⟨fun _ => h, fun q => absurd (by omega) q⟩
    · obtain ⟨n, rfl⟩ := suc_n hn
      unfold wp_X12_readTable_l74
      rw [show τ 6 (Int.toNat 1) = b from h6, ew]
      exact ⟨fun _ => h, fun q => absurd (by omega) q⟩
  | succ d ih =>
    intro k σ τ hk hg h4 h6 hr
    obtain ⟨v, w, σ2, τ2, d1, d2, d3, d4, d5⟩ := j_num2 hT (lo := 0) (hi := w32 (σ 4 7 - 1)) (hi2 := w32 (τ 6 1 - 1)) (by decide) (fun _ => by rw [h4, h6, w32_of (by omega) (by omega)]; omega) (Or.inl hg)
    have f1 : FZg σ (upS σ2 11 k v) := d4.z.tr (FZg.up (by decide))
    have f2 : FWg τ (upS τ2 9 (25 + k) w) := d5.w.tr (FWg.up2 (by decide) (by omega))
    have c4 : upS σ2 11 k v 4 7 = b := by rw [upS_k (by decide), d4.1 4 (by decide)]; exact h4
    have c6 : upS τ2 9 (25 + k) w 6 1 = b := by rw [upS_k (by decide), d5.1 6 (by decide)]; exact h6
    have c13 : upS τ2 9 (25 + k) w 0 13 = τ 0 13 := by rw [upS_k (by decide), d5.2 13 (by decide)]
    have cl : ∀ (Q : Int → St → Prop) (n : Nat), wp_X6_readRow_c11_l23 Q n ((b * b : Nat) : Int) ((k + 1 : Nat) : Int) (upS σ2 11 k v) → wp_X6_readRow_c11_l23 Q (n + 1) ((b * b : Nat) : Int) (k : Int) σ := by
      intro Q n h
      obtain ⟨f, e, kd, hG⟩ := hg
      unfold wp_X6_readRow_c11_l23
      refine ⟨fun q => absurd q (by omega), fun _ => ⟨fun q => absurd hG.2.2.2.2.1 q, fun _ => d1 _ ⟨by omega, fun σ4 e4 v5 e5 => ?_⟩⟩⟩
      rw [w32_of (by omega) (by omega), show (k : Int) + 1 = ((k + 1 : Nat) : Int) by omega] at e5
      rw [e5, e4, Int.toNat_natCast]; exact h
    have rl : ∀ (Q : Int → St → Prop) (n : Nat), wp_X12_readTable_l74 Q n ((k + 1 : Nat) : Int) (upS τ2 9 (25 + k) w) → wp_X12_readTable_l74 Q (n + 1) (k : Int) τ := by
      intro Q n h
      unfold wp_X12_readTable_l74
      rw [show τ 6 (Int.toNat 1) = τ 6 1 from rfl]
      have e66 : w32 (τ 6 1 * τ 6 1) = ((b * b : Nat) : Int) := by rw [h6]; exact ew
      rw [e66]
      refine ⟨fun q => absurd q (by omega), fun _ => d2 _ ?_⟩
      rw [w32_of (x := 25 + (k : Int)) (by omega) (by omega)]
      refine ⟨by omega, fun σ22 e22 v ev => ?_⟩
      rw [w32_of (by omega) (by omega), show (k : Int) + 1 = ((k + 1 : Nat) : Int) by omega] at ev
      rw [ev, e22, show (25 + (k : Int)).toNat = 25 + k by omega]; exact h
    rcases d3 with ⟨g1, g2, g3, g4⟩ | hbj
    · rw [h4, w32_of (by omega) (by omega)] at g4
      obtain ⟨σ1, τ1, a1, a2, a3, a4, a5, a6, a7, a8⟩ := ih (k + 1) (upS σ2 11 k v) (upS τ2 9 (25 + k) w) (by omega) ((Gdg.up (by decide) (by decide)).2 g1) c4 c6 (fun j hj => by
        by_cases e : j = k
        · subst e; rw [upS_s, upS_s]; exact ⟨g2, g3, by omega⟩
        · rw [upS_j e, upS_j (by omega), d4.1 11 (by decide), d5.1 9 (by decide)]; exact hr j (by omega))
      refine ⟨σ1, τ1, fun Q n hn h => ?_, fun Q n hn h => ?_, a3, f1.tr a4, f2.tr a5, fun x h1 h2 => ?_, fun x h1 h2 => ?_, a8.trans c13⟩
      · obtain ⟨n, rfl⟩ := suc_n hn
        exact cl Q n (a1 Q n (by omega) h)
      · obtain ⟨n, rfl⟩ := suc_n hn
        exact rl Q n (a2 Q n (by omega) h)
      · rw [a6 x h1 h2, upS_k h2, d4.1 x h1]
      · rw [a7 x h1 h2, upS_k h2, d5.1 x h1]
    · have hB : BJ ρ (upS σ2 11 k v) (upS τ2 9 (25 + k) w) := hbj.up (by decide) (by decide)
      obtain ⟨τ1, a1, a9, a5⟩ := rb_row11 hb d (k + 1) (upS τ2 9 (25 + k) w) (by omega) hB.ne c6
      refine ⟨upS σ2 11 k v, τ1, fun Q n hn h => ?_, fun Q n hn h => ?_, Or.inr (hB.r (by rw [a9 0 (by decide)]) (by rw [a9 0 (by decide)])), f1, f2.tr a5, fun x h1 h2 => ?_, fun x h1 h2 => ?_, ?_⟩
      · obtain ⟨n, rfl⟩ := suc_n hn
        refine cl Q n ?_
        obtain ⟨n, rfl⟩ := suc_n (n := n) (d := 0) (by omega)
        unfold wp_X6_readRow_c11_l23
        exact ⟨fun _ => h, fun _ => ⟨fun _ => h, fun q => absurd hB.1.1 q⟩⟩
      · obtain ⟨n, rfl⟩ := suc_n hn
        exact rl Q n (a1 Q n (by omega) h)
      · rw [upS_k h2, d4.1 x h1]
      · rw [a9 x h2, upS_k h2, d5.1 x h1]
      · rw [a9 0 (by decide)]; exact c13
theorem cb_row12 {ρ σ : St} (h : BCg ρ σ) : ∀ Q : Int → St → Prop, Q 0 σ → wp_X6_readRow_c12 σ Q := by
  intro Q hq
  unfold wp_X6_readRow_c12
  intro v1 e1
  obtain ⟨m0, hm0⟩ := suc_n (n := bigN) (d := 0) (by unfold bigN; omega)
  rw [hm0]
  unfold wp_X6_readRow_c12_l23
  exact ⟨fun _ => hq, fun _ => ⟨fun _ => hq, fun q => absurd h.1 q⟩⟩
theorem rb_row12 {b : Nat} (hb : 2 ≤ b ∧ b ≤ 5) : ∀ (d k : Nat) (τ : St), k + d = b * b → τ 0 24 ≠ 0 → τ 6 1 = b → ∃ τ1 : St, (∀ (Q : Int → St → Prop) (n : Nat), d < n → Q 0 τ1 → wp_X12_readTable_l127 Q n (k : Int) τ) ∧ (∀ x, x ≠ 10 → τ1 x = τ x) ∧ FWg τ τ1 := by
  have hbb : b * b ≤ 25 := Nat.mul_le_mul hb.2 hb.2
  have ew : w32 ((b : Int) * (b : Int)) = ((b * b : Nat) : Int) := by
    have : (b : Int) * (b : Int) = ((b * b : Nat) : Int) := by push_cast; rfl
    rw [this, w32_of (by omega) (by omega)]
  intro d
  induction d with
  | zero =>
    intro k τ hk h0 h6
    refine ⟨τ, fun Q n hn h => ?_, fun _ _ => rfl, FWg.rf⟩
    obtain ⟨n, rfl⟩ := suc_n hn
    unfold wp_X12_readTable_l127
    rw [show τ 6 (Int.toNat 1) = b from h6, ew]
    exact ⟨fun _ => h, fun q => absurd (by omega) q⟩
  | succ d ih =>
    intro k τ hk h0 h6
    obtain ⟨τ1, a1, a9, a5⟩ := ih (k + 1) (upS τ 10 (25 + k) 0) (by omega) h0 h6
    refine ⟨τ1, fun Q n hn h => ?_, fun x hx => by rw [a9 x hx, upS_k hx], (FWg.up2 (by decide) (by omega)).tr a5⟩
    obtain ⟨n, rfl⟩ := suc_n hn
    unfold wp_X12_readTable_l127
    rw [show τ 6 (Int.toNat 1) = b from h6, ew]
    refine ⟨fun q => absurd q (by omega), fun _ => rb_takes h0 _ _ _ ?_⟩
    rw [w32_of (x := 25 + (k : Int)) (by omega) (by omega)]
    refine ⟨by omega, fun σ22 e22 v ev => ?_⟩
    rw [w32_of (by omega) (by omega), show (k : Int) + 1 = ((k + 1 : Nat) : Int) by omega] at ev
    rw [ev, e22, show (25 + (k : Int)).toNat = 25 + k by omega]
    exact a1 Q n (by omega) h
theorem j_row12 {ρ : St} (hT : Wt ρ) {b : Nat} (hb : 2 ≤ b ∧ b ≤ 5) : ∀ (d k : Nat) (σ τ : St), k + d = b * b → Gdg ρ σ τ → σ 4 7 = b → τ 6 1 = b → (∀ j, j < k → σ 12 j = τ 10 (25 + j) ∧ 0 ≤ σ 12 j ∧ σ 12 j < b) → ∃ σ1 τ1 : St, (∀ (Q : Int → St → Prop) (n : Nat), d < n → Q 0 σ1 → wp_X6_readRow_c12_l23 Q n ((b * b : Nat) : Int) (k : Int) σ) ∧ (∀ (Q : Int → St → Prop) (n : Nat), d < n → Q 0 τ1 → wp_X12_readTable_l127 Q n (k : Int) τ) ∧ ((Gdg ρ σ1 τ1 ∧ ∀ j, j < b * b → σ1 12 j = τ1 10 (25 + j) ∧ 0 ≤ σ1 12 j ∧ σ1 12 j < b) ∨ BJ ρ σ1 τ1) ∧ FZg σ σ1 ∧ FWg τ τ1 ∧ (∀ k, k ≠ 3 → k ≠ 12 → σ1 k = σ k) ∧ (∀ k, k ≠ 0 → k ≠ 10 → τ1 k = τ k) ∧ τ1 0 13 = τ 0 13 := by
  have hbb : b * b ≤ 25 := Nat.mul_le_mul hb.2 hb.2
  have ew : w32 ((b : Int) * (b : Int)) = ((b * b : Nat) : Int) := by
    have : (b : Int) * (b : Int) = ((b * b : Nat) : Int) := by push_cast; rfl
    rw [this, w32_of (by omega) (by omega)]
  intro d
  induction d with
  | zero =>
    intro k σ τ hk hg h4 h6 hr
    refine ⟨σ, τ, fun Q n hn h => ?_, fun Q n hn h => ?_, Or.inl ⟨hg, fun j hj => hr j (by omega)⟩, FZg.rf, FWg.rf, fun _ _ _ => rfl, fun _ _ _ => rfl, rfl⟩
    · obtain ⟨n, rfl⟩ := suc_n hn
      unfold wp_X6_readRow_c12_l23
      exact ⟨fun _ => h, fun q => absurd (by omega) q⟩
    · obtain ⟨n, rfl⟩ := suc_n hn
      unfold wp_X12_readTable_l127
      rw [show τ 6 (Int.toNat 1) = b from h6, ew]
      exact ⟨fun _ => h, fun q => absurd (by omega) q⟩
  | succ d ih =>
    intro k σ τ hk hg h4 h6 hr
    obtain ⟨v, w, σ2, τ2, d1, d2, d3, d4, d5⟩ := j_num2 hT (lo := 0) (hi := w32 (σ 4 7 - 1)) (hi2 := w32 (τ 6 1 - 1)) (by decide) (fun _ => by rw [h4, h6, w32_of (by omega) (by omega)]; omega) (Or.inl hg)
    have f1 : FZg σ (upS σ2 12 k v) := d4.z.tr (FZg.up (by decide))
    have f2 : FWg τ (upS τ2 10 (25 + k) w) := d5.w.tr (FWg.up2 (by decide) (by omega))
    have c4 : upS σ2 12 k v 4 7 = b := by rw [upS_k (by decide), d4.1 4 (by decide)]; exact h4
    have c6 : upS τ2 10 (25 + k) w 6 1 = b := by rw [upS_k (by decide), d5.1 6 (by decide)]; exact h6
    have c13 : upS τ2 10 (25 + k) w 0 13 = τ 0 13 := by rw [upS_k (by decide), d5.2 13 (by decide)]
    have cl : ∀ (Q : Int → St → Prop) (n : Nat), wp_X6_readRow_c12_l23 Q n ((b * b : Nat) : Int) ((k + 1 : Nat) : Int) (upS σ2 12 k v) → wp_X6_readRow_c12_l23 Q (n + 1) ((b * b : Nat) : Int) (k : Int) σ := by
      intro Q n h
      obtain ⟨f, e, kd, hG⟩ := hg
      unfold wp_X6_readRow_c12_l23
      refine ⟨fun q => absurd q (by omega), fun _ => ⟨fun q => absurd hG.2.2.2.2.1 q, fun _ => d1 _ ⟨by omega, fun σ4 e4 v5 e5 => ?_⟩⟩⟩
      rw [w32_of (by omega) (by omega), show (k : Int) + 1 = ((k + 1 : Nat) : Int) by omega] at e5
      rw [e5, e4, Int.toNat_natCast]; exact h
    have rl : ∀ (Q : Int → St → Prop) (n : Nat), wp_X12_readTable_l127 Q n ((k + 1 : Nat) : Int) (upS τ2 10 (25 + k) w) → wp_X12_readTable_l127 Q (n + 1) (k : Int) τ := by
      intro Q n h
      unfold wp_X12_readTable_l127
      rw [show τ 6 (Int.toNat 1) = τ 6 1 from rfl]
      have e66 : w32 (τ 6 1 * τ 6 1) = ((b * b : Nat) : Int) := by rw [h6]; exact ew
      rw [e66]
      refine ⟨fun q => absurd q (by omega), fun _ => d2 _ ?_⟩
      rw [w32_of (x := 25 + (k : Int)) (by omega) (by omega)]
      refine ⟨by omega, fun σ22 e22 v ev => ?_⟩
      rw [w32_of (by omega) (by omega), show (k : Int) + 1 = ((k + 1 : Nat) : Int) by omega] at ev
      rw [ev, e22, show (25 + (k : Int)).toNat = 25 + k by omega]; exact h
    rcases d3 with ⟨g1, g2, g3, g4⟩ | hbj
    · rw [h4, w32_of (by omega) (by omega)] at g4
      obtain ⟨σ1, τ1, a1, a2, a3, a4, a5, a6, a7, a8⟩ := ih (k + 1) (upS σ2 12 k v) (upS τ2 10 (25 + k) w) (by omega) ((Gdg.up (by decide) (by decide)).2 g1) c4 c6 (fun j hj => by
        by_cases e : j = k
        · subst e; rw [upS_s, upS_s]; exact ⟨g2, g3, by omega⟩
        · rw [upS_j e, upS_j (by omega), d4.1 12 (by decide), d5.1 10 (by decide)]; exact hr j (by omega))
      refine ⟨σ1, τ1, fun Q n hn h => ?_, fun Q n hn h => ?_, a3, f1.tr a4, f2.tr a5, fun x h1 h2 => ?_, fun x h1 h2 => ?_, a8.trans c13⟩
      · obtain ⟨n, rfl⟩ := suc_n hn
        exact cl Q n (a1 Q n (by omega) h)
      · obtain ⟨n, rfl⟩ := suc_n hn
        exact rl Q n (a2 Q n (by omega) h)
      · rw [a6 x h1 h2, upS_k h2, d4.1 x h1]
      · rw [a7 x h1 h2, upS_k h2, d5.1 x h1]
    · have hB : BJ ρ (upS σ2 12 k v) (upS τ2 10 (25 + k) w) := hbj.up (by decide) (by decide)
      obtain ⟨τ1, a1, a9, a5⟩ := rb_row12 hb d (k + 1) (upS τ2 10 (25 + k) w) (by omega) hB.ne c6
      refine ⟨upS σ2 12 k v, τ1, fun Q n hn h => ?_, fun Q n hn h => ?_, Or.inr (hB.r (by rw [a9 0 (by decide)]) (by rw [a9 0 (by decide)])), f1, f2.tr a5, fun x h1 h2 => ?_, fun x h1 h2 => ?_, ?_⟩
      · obtain ⟨n, rfl⟩ := suc_n hn
        refine cl Q n ?_
        obtain ⟨n, rfl⟩ := suc_n (n := n) (d := 0) (by omega)
        unfold wp_X6_readRow_c12_l23
        exact ⟨fun _ => h, fun _ => ⟨fun _ => h, fun q => absurd hB.1.1 q⟩⟩
      · obtain ⟨n, rfl⟩ := suc_n hn
        exact rl Q n (a1 Q n (by omega) h)
      · rw [upS_k h2, d4.1 x h1]
      · rw [a9 x h2, upS_k h2, d5.1 x h1]
      · rw [a9 0 (by decide)]; exact c13
theorem Gdg.backz {ρ σ τ σ1 τ1 : St} (h : JSg ρ σ τ) (f : FZg σ σ1) (hg : Gdg ρ σ1 τ1) : Gdg ρ σ τ := by
  rcases h with h | h
  · exact h
  · obtain ⟨x, y, z, hG⟩ := hg
    exact absurd hG.2.2.2.2.1 (f.2.2 h.1.1)
theorem j_tableD {ρ σ τ : St} (hT : Wt ρ) (hg : Gdg ρ σ τ) (h4 : σ 4 0 = 0) (h0 : τ 0 13 = 0) : ∃ σ1 τ1 : St, (∀ Q : Int → St → Prop, Q 0 σ1 → wp_X6_readTable σ Q) ∧ (∀ Q : Int → St → Prop, Q 0 τ1 → wp_X12_readTable τ Q) ∧ ((Gdg ρ σ1 τ1 ∧ DEg σ1 τ1 0 ∧ σ1 4 0 = 0 ∧ τ1 0 13 = 0) ∨ BJ ρ σ1 τ1) ∧ FZg σ σ1 ∧ FWg τ τ1 := by
  obtain ⟨f, e, kd, hG⟩ := id hg
  obtain ⟨σ1, τ1, a1, a2, ⟨f1, e1, kd1, a3, -⟩, a4, a5⟩ := j_adv hT hG
  obtain ⟨v, w, σ2, τ2, b1, b2, b3, b4, b5⟩ := j_num hT (lo := 2) (hi := 5) (σ := σ1) (τ := τ1) ⟨by decide, by decide⟩ (Or.inl ⟨f1, e1, kd1, a3⟩)
  have hw : 2 ≤ w ∧ w ≤ 5 := by
    rcases b3 with ⟨-, g2, g3⟩ | ⟨-, -, g⟩ <;> omega
  have j3 : JSg ρ (upS σ2 4 7 v) (upS τ2 6 1 w) := JSg.up (by decide) (by decide) (by
    rcases b3 with ⟨g, -⟩ | ⟨g, -⟩
    · exact Or.inl g
    · exact Or.inr g)
  have p3 : Gdg ρ (upS σ2 4 7 v) (upS τ2 6 1 w) → v = w := by
    intro hq
    rcases b3 with ⟨-, g2, -⟩ | ⟨g, -⟩
    · exact g2
    · exact (((Gdg.up (by decide) (by decide)).1 hq).ne g).elim
  obtain ⟨σ4, τ4, c1, c2, c3, c4, c5⟩ := j_word_s4 hT j3
  have v4 : σ4 4 7 = v := by rw [c4.1 4 (by decide), upS_s]
  have w4 : τ4 6 1 = w := by rw [c5.1 6 (by decide), upS_s]
  have p4 : Gdg ρ σ4 τ4 → v = w := fun q => p3 (Gdg.back j3 c4 q)
  obtain ⟨v2, w2, σ5, τ5, d1, d2, d3, d4, d5⟩ := j_num2 hT (lo := 0) (hi := w32 (σ4 4 7 - 1)) (hi2 := w32 (τ4 6 1 - 1)) (by decide) (fun q => by rw [v4, w4, p4 q]; exact ⟨rfl, by rw [w32_of (by omega) (by omega)]; omega⟩) c3
  have j6 : JSg ρ (upS σ5 4 8 v2) (upS τ5 7 1 w2) := JSg.up (by decide) (by decide) (by
    rcases d3 with ⟨g, -⟩ | g
    · exact Or.inl g
    · exact Or.inr g)
  have p6 : Gdg ρ (upS σ5 4 8 v2) (upS τ5 7 1 w2) → v = w ∧ v2 = w2 ∧ 0 ≤ v2 ∧ v2 < w := by
    intro hq
    have hq5 := (Gdg.up (by decide) (by decide)).1 hq
    have e1 := p4 (Gdg.back c3 d4 hq5)
    rcases d3 with ⟨-, g2, g3, g4⟩ | g
    · rw [v4, w32_of (by omega) (by omega)] at g4
      exact ⟨e1, g2, g3, by omega⟩
    · exact (hq5.ne g).elim
  obtain ⟨σ7, τ7, e1', e2', e3', e4', e5'⟩ := j_word_s5 hT j6
  have v7 : σ7 4 7 = v := by rw [e4'.1 4 (by decide), upS_j (by decide), d4.1 4 (by decide)]; exact v4
  have w7 : τ7 6 1 = w := by rw [e5'.1 6 (by decide), upS_k (by decide), d5.1 6 (by decide)]; exact w4
  have x7 : σ7 4 8 = v2 := by rw [e4'.1 4 (by decide), upS_s]
  have y7 : τ7 7 1 = w2 := by rw [e5'.1 7 (by decide), upS_s]
  have p7 : Gdg ρ σ7 τ7 → v = w ∧ v2 = w2 ∧ 0 ≤ v2 ∧ v2 < w := fun q => p6 (Gdg.back j6 e4' q)
  obtain ⟨v3, w3, σ8, τ8, g1, g2, g3, g4, g5⟩ := j_num2 hT (σ := σ7) (τ := τ7) (lo := 0) (hi := w32 (σ7 4 7 - 1)) (hi2 := w32 (τ7 6 1 - 1)) (by decide) (fun q => by rw [v7, w7, (p7 q).1]; exact ⟨rfl, by rw [w32_of (by omega) (by omega)]; omega⟩) e3'
  have j9 : JSg ρ (upS σ8 4 9 v3) (upS τ8 8 1 w3) := JSg.up (by decide) (by decide) (by
    rcases g3 with ⟨g, -⟩ | g
    · exact Or.inl g
    · exact Or.inr g)
  have p9 : Gdg ρ (upS σ8 4 9 v3) (upS τ8 8 1 w3) → (v = w ∧ v2 = w2 ∧ 0 ≤ v2 ∧ v2 < w) ∧ v3 = w3 ∧ 0 ≤ v3 ∧ v3 < w := by
    intro hq
    have hq8 := (Gdg.up (by decide) (by decide)).1 hq
    have e1 := p7 (Gdg.back e3' g4 hq8)
    rcases g3 with ⟨-, k2, k3, k4⟩ | g
    · rw [v7, w32_of (by omega) (by omega)] at k4
      exact ⟨e1, k2, k3, by omega⟩
    · exact (hq8.ne g).elim
  obtain ⟨σA, τA, h1', h2', h3', h4', h5'⟩ := j_word_s6 hT j9
  have pA : Gdg ρ σA τA → (v = w ∧ v2 = w2 ∧ 0 ≤ v2 ∧ v2 < w) ∧ v3 = w3 ∧ 0 ≤ v3 ∧ v3 < w := fun q => p9 (Gdg.back j9 h4' q)
  have vA : σA 4 7 = v := by rw [h4'.1 4 (by decide), upS_j (by decide), g4.1 4 (by decide)]; exact v7
  have wA : τA 6 1 = w := by rw [h5'.1 6 (by decide), upS_k (by decide), g5.1 6 (by decide)]; exact w7
  have xA : σA 4 8 = v2 := by rw [h4'.1 4 (by decide), upS_j (by decide), g4.1 4 (by decide)]; exact x7
  have yA : τA 7 1 = w2 := by rw [h5'.1 7 (by decide), upS_k (by decide), g5.1 7 (by decide)]; exact y7
  have zA : σA 4 9 = v3 := by rw [h4'.1 4 (by decide), upS_s]
  have tA : τA 8 1 = w3 := by rw [h5'.1 8 (by decide), upS_s]
  have cA : σA 4 0 = 0 := by rw [h4'.1 4 (by decide), upS_j (by decide), g4.1 4 (by decide), e4'.1 4 (by decide), upS_j (by decide), d4.1 4 (by decide), c4.1 4 (by decide), upS_j (by decide), b4.1 4 (by decide), a4.1 4 (by decide)]; exact h4
  have rA : τA 0 13 = 0 := by rw [h5'.2 13 (by decide), upS_k (by decide), g5.2 13 (by decide), e5'.2 13 (by decide), upS_k (by decide), d5.2 13 (by decide), c5.2 13 (by decide), upS_k (by decide), b5.2 13 (by decide), a5.2 13 (by decide)]; exact h0
  have FA : FZg σ σA := a4.z.tr (b4.z.tr ((FZg.up (by decide)).tr (c4.z.tr (d4.z.tr ((FZg.up (by decide)).tr (e4'.z.tr (g4.z.tr ((FZg.up (by decide)).tr h4'.z))))))))
  have WA : FWg τ τA := a5.w.tr (b5.w.tr ((FWg.up1 (by decide) (by decide)).tr (c5.w.tr (d5.w.tr ((FWg.up1 (by decide) (by decide)).tr (e5'.w.tr (g5.w.tr ((FWg.up1 (by decide) (by decide)).tr h5'.w))))))))
  have clA : ∀ Q : Int → St → Prop, wp_X6_readRow_c11 σA (fun r18 σ19 => wp_X6_passWord_s7 σ19 (fun r20 σ21 => wp_X6_readRow_c12 σ21 (fun r22 σ23 => Q 0 σ23))) → wp_X6_readTable σ Q := by
    intro Q hq
    unfold wp_X6_readTable
    refine a1 _ (b1 _ (fun σ5' e5 => ?_))
    rw [e5]
    refine c1 _ (d1 _ (fun σ10 e10 => ?_))
    rw [e10]
    refine e1' _ (g1 _ (fun σ15 e15 => ?_))
    rw [e15]
    exact h1' _ hq
  have rlA : ∀ Q : Int → St → Prop, wp_X12_readTable_l74 Q bigN 0 τA → wp_X12_readTable τ Q := by
    intro Q hq
    unfold wp_X12_readTable
    refine a2 _ (b2 _ (fun σ5' e5 => ?_))
    rw [e5]
    refine c2 _ (d2 _ (fun σ10 e10 => ?_))
    rw [e10]
    refine e2' _ (g2 _ (fun σ15 e15 => ?_))
    rw [e15]
    exact h2' _ hq
  clear a1 a2 a3 a4 a5 b1 b2 b3 b4 b5 c1 c2 c3 c4 c5 d1 d2 d3 d4 d5 e1' e2' e3' e4' e5' g1 g2 g3 g4 g5 h1' h2' h4' h5' j3 j6 j9 p3 p4 p6 p7 p9
  obtain ⟨b, hb⟩ : ∃ b : Nat, w = (b : Int) := ⟨w.toNat, by omega⟩
  have hb25 : 2 ≤ b ∧ b ≤ 5 := by omega
  have hbb : b * b ≤ 25 := Nat.mul_le_mul hb25.2 hb25.2
  have ebb : (b : Int) * (b : Int) = ((b * b : Nat) : Int) := by push_cast; rfl
  rw [hb] at wA
  rcases h3' with hgA | hbA
  · obtain ⟨⟨q1, q2, q3, q4⟩, q5, q6, q7⟩ := pA hgA
    have vA' : σA 4 7 = b := by omega
    obtain ⟨σB, τB, k1, k2, k3, k4, k5, k6, k7, k8⟩ := j_row11 hT hb25 (b * b) 0 σA τA (by omega) hgA vA' wA (fun j hj => by omega)
    have clB : ∀ Q : Int → St → Prop, wp_X6_passWord_s7 σB (fun r20 σ21 => wp_X6_readRow_c12 σ21 (fun r22 σ23 => Q 0 σ23)) → wp_X6_readTable σ Q := by
      intro Q hq
      refine clA Q ?_
      unfold wp_X6_readRow_c11
      intro v1 e1
      rw [vA', ebb, w32_of (by omega) (by omega), show min ((b * b : Nat) : Int) 25 = ((b * b : Nat) : Int) by omega] at e1
      rw [e1]
      exact k1 _ bigN (by unfold bigN; omega) hq
    have rlB : ∀ Q : Int → St → Prop, wp_X12_takesWord_s12 τB (fun _ σ19 => wp_X12_readTable_l127 Q bigN 0 σ19) → wp_X12_readTable τ Q := fun Q hq => rlA Q (k2 Q bigN (by unfold bigN; omega) hq)
    have jB : JSg ρ σB τB := by
      rcases k3 with ⟨g, -⟩ | g
      · exact Or.inl g
      · exact Or.inr g
    obtain ⟨σC, τC, m1, m2, m3, m4, m5⟩ := j_word_s7 hT jB
    have wC : τC 6 1 = b := by rw [m5.1 6 (by decide), k7 6 (by decide) (by decide)]; exact wA
    have vC : σC 4 7 = b := by rw [m4.1 4 (by decide), k6 4 (by decide) (by decide)]; exact vA'
    rcases m3 with hgC | hbC
    · obtain ⟨σD, τD, n1, n2, n3, n4, n5, n6, n7, n8⟩ := j_row12 hT hb25 (b * b) 0 σC τC (by omega) hgC vC wC (fun j hj => by omega)
      refine ⟨σD, τD, fun Q hq => clB Q (m1 _ ?_), fun Q hq => rlB Q (m2 _ (n2 Q bigN (by unfold bigN; omega) hq)), ?_, FA.tr (k4.tr (m4.z.tr n4)), WA.tr (k5.tr (m5.w.tr n5))⟩
      · unfold wp_X6_readRow_c12
        intro v1 e1
        rw [vC, ebb, w32_of (by omega) (by omega), show min ((b * b : Nat) : Int) 25 = ((b * b : Nat) : Int) by omega] at e1
        rw [e1]
        exact n1 _ bigN (by unfold bigN; omega) hq
      · rcases n3 with ⟨gD, rD⟩ | gD
        · left
          have hgB := Gdg.back jB m4 hgC
          have rB : ∀ j, j < b * b → σB 11 j = τB 9 (25 + j) ∧ 0 ≤ σB 11 j ∧ σB 11 j < b := by
            rcases k3 with ⟨-, g⟩ | g
            · exact g
            · exact (hgB.ne g).elim
          have s4 : σD 4 = σA 4 := by rw [n6 4 (by decide) (by decide), m4.1 4 (by decide), k6 4 (by decide) (by decide)]
          have s11 : σD 11 = σB 11 := by rw [n6 11 (by decide) (by decide), m4.1 11 (by decide)]
          have t9 : τD 9 = τB 9 := by rw [n7 9 (by decide) (by decide), m5.1 9 (by decide)]
          have t678 : ∀ k, 6 ≤ k → k ≤ 8 → τD k = τA k := fun k h1 h2 => by rw [n7 k (by omega) (by omega), m5.1 k (by omega), k7 k (by omega) (by omega)]
          refine ⟨gD, ⟨⟨?_, ?_, ?_, ?_, ?_, ?_, fun j hj => ?_⟩, fun r hr => by omega⟩, ?_, ?_⟩
          · rw [s4, t678 6 (by decide) (by decide), vA', wA]
          · rw [s4, t678 7 (by decide) (by decide), xA, yA]; exact q2
          · rw [s4, t678 8 (by decide) (by decide), zA, tA]; exact q5
          · rw [s4, vA']; omega
          · rw [s4, vA', xA]; omega
          · rw [s4, vA', zA]; omega
          · rw [s4, vA', ebb] at hj
            rw [s4, vA', s11, t9]
            exact ⟨rB j (by omega), rD j (by omega)⟩
          · rw [s4]; exact cA
          · rw [n8, m5.2 13 (by decide), k8]; exact rA
        · exact Or.inr gD
    · obtain ⟨τD, n1, n9, n5⟩ := rb_row12 hb25 (b * b) 0 τC (by omega) hbC.ne wC
      exact ⟨σC, τD, fun Q hq => clB Q (m1 _ (cb_row12 hbC.1 _ hq)), fun Q hq => rlB Q (m2 _ (n1 Q bigN (by unfold bigN; omega) hq)), Or.inr (hbC.r (by rw [n9 0 (by decide)]) (by rw [n9 0 (by decide)])), FA.tr (k4.tr m4.z), WA.tr (k5.tr (m5.w.tr n5))⟩
  · obtain ⟨τB, k1, k9, k5⟩ := rb_row11 hb25 (b * b) 0 τA (by omega) hbA.ne wA
    have hbB : BJ ρ σA τB := hbA.r (by rw [k9 0 (by decide)]) (by rw [k9 0 (by decide)])
    obtain ⟨σC, τC, m1, m2, m3, m4, m5⟩ := j_word_s7 hT (Or.inr hbB)
    have hbC : BJ ρ σC τC := by
      rcases m3 with g | g
      · exact ((Gdg.back (Or.inr hbB) m4 g).ne hbB).elim
      · exact g
    have wC : τC 6 1 = b := by rw [m5.1 6 (by decide), k9 6 (by decide)]; exact wA
    obtain ⟨τD, n1, n9, n5⟩ := rb_row12 hb25 (b * b) 0 τC (by omega) hbC.ne wC
    exact ⟨σC, τD, fun Q hq => clA Q (cb_row11 hbA.1 _ (m1 _ (cb_row12 hbC.1 _ hq))), fun Q hq => rlA Q (k1 Q bigN (by unfold bigN; omega) (m2 _ (n1 Q bigN (by unfold bigN; omega) hq))), Or.inr (hbC.r (by rw [n9 0 (by decide)]) (by rw [n9 0 (by decide)])), FA.tr m4.z, WA.tr (k5.tr (m5.w.tr n5))⟩
