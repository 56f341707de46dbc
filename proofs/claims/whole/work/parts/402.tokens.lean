/-! the grammar's text: tokens, on both sides -/
def isBl (x : Int) : Prop := x = 32 ∨ x = 10
def isSm (x : Int) : Prop := 97 ≤ x ∧ x ≤ 122
def isDg (x : Int) : Prop := 48 ≤ x ∧ x ≤ 57
def RunT (P : Int → Prop) (ρ : St) (b e : Nat) : Prop := b ≤ e ∧ (e : Int) ≤ ρ 0 0 ∧ (∀ k, b ≤ k → k < e → P (ρ 1 k)) ∧ ((e : Int) < ρ 0 0 → ¬ P (ρ 1 e))
theorem runT_ex (P : Int → Prop) {ρ : St} : ∀ (d b : Nat), (b : Int) + d = ρ 0 0 → ∃ e, RunT P ρ b e
  | 0, b, h => ⟨b, Nat.le_refl _, by omega, fun k h1 h2 => by omega, fun h1 => by omega⟩
  | d + 1, b, h => by
    by_cases hp : P (ρ 1 b)
    · obtain ⟨e, h1, h2, h3, h4⟩ := runT_ex P (ρ := ρ) d (b + 1) (by push_cast at h ⊢; omega)
      refine ⟨e, by omega, h2, fun k k1 k2 => ?_, h4⟩
      by_cases hk : k = b
      · rw [hk]; exact hp
      · exact h3 k (by omega) k2
    · exact ⟨b, Nat.le_refl _, by omega, fun k h1 h2 => by omega, fun _ => hp⟩
theorem RunT.step {P : Int → Prop} {ρ : St} {b e : Nat} (h : RunT P ρ b e) (hb : b < e) : RunT P ρ (b + 1) e := ⟨by omega, h.2.1, fun k h1 h2 => h.2.2.1 k (by omega) h2, h.2.2.2⟩
def nvG (cap : Int) (ρ : St) : Nat → Nat → Int → Int
  | 0, _, v => v
  | d + 1, b, v => nvG cap ρ d (b + 1) (min (10 * v + (ρ 1 b - 48)) cap)
def NRl (a b : Int) : Prop := (a = b ∧ 0 ≤ a ∧ a < 9999) ∨ (9999 ≤ a ∧ a ≤ 10000 ∧ b = 9999)
theorem nvG_NRl {ρ : St} : ∀ (d b : Nat) (v w : Int), (∀ k, b ≤ k → k < b + d → isDg (ρ 1 k)) → NRl v w → NRl (nvG 10000 ρ d b v) (nvG 9999 ρ d b w)
  | 0, b, v, w, _, h => h
  | d + 1, b, v, w, hd, h => by
    refine nvG_NRl d (b + 1) _ _ (fun k h1 h2 => hd k (by omega) (by omega)) ?_
    have := hd b (Nat.le_refl _) (by omega)
    unfold isDg at this
    unfold NRl at *
    omega
def TkS (ρ : St) (f e : Nat) (kd : Int) : Prop := f ≤ e ∧ (e : Int) ≤ ρ 0 0 ∧ ((kd = 0 ∧ (f : Int) = ρ 0 0) ∨ (kd = 1 ∧ f < e ∧ ∀ k, f ≤ k → k < e → isSm (ρ 1 k)) ∨ (kd = 2 ∧ f < e) ∨ (kd = 3 ∧ e = f + 1))
def AdvT (ρ : St) (b f e : Nat) (kd : Int) : Prop := RunT isBl ρ b f ∧ ((kd = 0 ∧ (f : Int) = ρ 0 0 ∧ e = f) ∨ (kd = 1 ∧ (f : Int) < ρ 0 0 ∧ isSm (ρ 1 f) ∧ RunT isSm ρ f e) ∨ (kd = 2 ∧ (f : Int) < ρ 0 0 ∧ ¬ isSm (ρ 1 f) ∧ isDg (ρ 1 f) ∧ RunT isDg ρ f e) ∨ (kd = 3 ∧ (f : Int) < ρ 0 0 ∧ ¬ isSm (ρ 1 f) ∧ ¬ isDg (ρ 1 f) ∧ e = f + 1))
theorem advT_ex {ρ : St} {b : Nat} (hb : (b : Int) ≤ ρ 0 0) : ∃ f e kd, AdvT ρ b f e kd := by
  obtain ⟨f, hf⟩ := runT_ex isBl (ρ := ρ) (ρ 0 0 - b).toNat b (by omega)
  by_cases h0 : (f : Int) = ρ 0 0
  · exact ⟨f, f, 0, hf, Or.inl ⟨rfl, h0, rfl⟩⟩
  · have hlt : (f : Int) < ρ 0 0 := by have := hf.2.1; omega
    by_cases h1 : isSm (ρ 1 f)
    · obtain ⟨e, he⟩ := runT_ex isSm (ρ := ρ) (ρ 0 0 - f).toNat f (by omega)
      exact ⟨f, e, 1, hf, Or.inr (Or.inl ⟨rfl, hlt, h1, he⟩)⟩
    · by_cases h2 : isDg (ρ 1 f)
      · obtain ⟨e, he⟩ := runT_ex isDg (ρ := ρ) (ρ 0 0 - f).toNat f (by omega)
        exact ⟨f, e, 2, hf, Or.inr (Or.inr (Or.inl ⟨rfl, hlt, h1, h2, he⟩))⟩
      · exact ⟨f, f + 1, 3, hf, Or.inr (Or.inr (Or.inr ⟨rfl, hlt, h1, h2, rfl⟩))⟩
theorem RunT.pos {P : Int → Prop} {ρ : St} {b e : Nat} (h : RunT P ρ b e) (hb : (b : Int) < ρ 0 0) (hp : P (ρ 1 b)) : b < e := by
  obtain ⟨h1, h2, h3, h4⟩ := h
  by_cases hbe : b = e
  · subst hbe; exact absurd hp (h4 hb)
  · omega
theorem AdvT.tk {ρ : St} {b f e : Nat} {kd : Int} (h : AdvT ρ b f e kd) : TkS ρ f e kd ∧ b ≤ f := by
  obtain ⟨h0, h⟩ := h
  refine ⟨?_, h0.1⟩
  rcases h with ⟨rfl, h1, rfl⟩ | ⟨rfl, h1, h2, h3⟩ | ⟨rfl, h1, h2, h3, h4⟩ | ⟨rfl, h1, h2, h3, rfl⟩
  · exact ⟨Nat.le_refl _, by omega, Or.inl ⟨rfl, h1⟩⟩
  · exact ⟨h3.1, h3.2.1, Or.inr (Or.inl ⟨rfl, h3.pos h1 h2, h3.2.2.1⟩)⟩
  · exact ⟨h4.1, h4.2.1, Or.inr (Or.inr (Or.inl ⟨rfl, h4.pos h1 h3⟩))⟩
  · exact ⟨by omega, by omega, Or.inr (Or.inr (Or.inr ⟨rfl, rfl⟩))⟩
/-- the tape, as each side has it -/
def tpC (ρ σ : St) : Prop := ∀ j : Nat, (j : Int) < ρ 0 0 → σ 1 j = ρ 1 j
def tpR (ρ τ : St) : Prop := ∀ j : Nat, (j : Int) < ρ 0 0 → τ 12 j = sby (ρ 1 j)
def CKx (ρ σ : St) (f e : Nat) (kd : Int) : Prop := σ 3 4 = ρ 0 0 ∧ σ 3 5 = kd ∧ σ 3 6 = f ∧ σ 3 7 = e ∧ tpC ρ σ
def RK (ρ τ : St) (f e : Nat) (kd : Int) : Prop := τ 0 19 = ρ 0 0 ∧ τ 0 21 = f ∧ τ 0 20 = e ∧ tpR ρ τ ∧ (kd = 0 → τ 0 22 = 0) ∧ (kd = 1 → τ 0 22 = 1) ∧ (kd = 2 → τ 0 22 = 2) ∧ (kd = 3 → ((65 ≤ ρ 1 f ∧ ρ 1 f ≤ 76) → τ 0 22 = 3 ∧ τ 0 23 = ρ 1 f - 65) ∧ (¬ (65 ≤ ρ 1 f ∧ ρ 1 f ≤ 76) → (ρ 1 f = 61 ∨ ρ 1 f = 59) → τ 0 22 = 4 ∧ τ 0 23 = ρ 1 f) ∧ (¬ (65 ≤ ρ 1 f ∧ ρ 1 f ≤ 76) → ¬ (ρ 1 f = 61 ∨ ρ 1 f = 59) → τ 0 22 = 5))
theorem q_isBlank {x : Int} {σ : St} {Q : Int → St → Prop} (h1 : isBl x → Q 1 σ) (h0 : ¬ isBl x → Q 0 σ) : wp_X6_isBlank x σ Q := by
  unfold isBl at h1 h0
  unfold wp_X6_isBlank wp_X6_isBlank_b12
  exact ⟨fun h => h1 (Or.inl h), fun h => ⟨fun h2 => h0 (by omega), fun h2 => h1 (by omega)⟩⟩
theorem q_isSmall {x : Int} {σ : St} {Q : Int → St → Prop} (h1 : isSm x → Q 1 σ) (h0 : ¬ isSm x → Q 0 σ) : wp_X6_isSmall x σ Q := by
  unfold isSm at h1 h0
  unfold wp_X6_isSmall wp_X6_isSmall_b16
  exact ⟨fun h => h0 (by omega), fun h => ⟨fun h2 => h0 (by omega), fun h2 => h1 (by omega)⟩⟩
theorem q_isDigit {x : Int} {σ : St} {Q : Int → St → Prop} (h1 : isDg x → Q 1 σ) (h0 : ¬ isDg x → Q 0 σ) : wp_X6_isDigit x σ Q := by
  unfold isDg at h1 h0
  unfold wp_X6_isDigit wp_X6_isDigit_b16
  exact ⟨fun h => h0 (by omega), fun h => ⟨fun h2 => h0 (by omega), fun h2 => h1 (by omega)⟩⟩
theorem g_l0 {ρ : St} (hT : Wt ρ) {e : Nat} : ∀ (d b : Nat) (σ : St), b + d = e → RunT isBl ρ b e → σ 3 7 = b → σ 3 4 = ρ 0 0 → tpC ρ σ → ∃ σ1 : St, (∀ (Q : Int → St → Prop) (n : Nat), d < n → wp_X6_advance_b39 Q σ1 → wp_X6_advance_l0 Q n σ) ∧ σ1 3 7 = e ∧ ∀ k j, ¬ (k = 3 ∧ j = 7) → σ1 k j = σ k j := by
  intro d
  induction d with
  | zero =>
    intro b σ hd hR h7 h4 ht
    refine ⟨σ, fun Q n hn h => ?_, by rw [h7]; omega, fun _ _ _ => rfl⟩
    obtain ⟨n, rfl⟩ := suc_n hn
    unfold wp_X6_advance_l0
    have h1 := hT.2.1
    refine ⟨fun _ => h, fun h2 => ⟨by omega, ?_⟩⟩
    rw [h7, Int.toNat_natCast, ht b (by omega)]
    refine q_isBlank (fun q => absurd q ?_) (fun _ => ⟨fun _ => h, fun q => absurd rfl q⟩)
    have := hR.2.2.2
    rw [show e = b by omega] at this
    exact this (by omega)
  | succ d ih =>
    intro b σ hd hR h7 h4 ht
    have h1 := hT.2.1
    have hb : (b : Int) < ρ 0 0 := by have := hR.2.1; omega
    obtain ⟨σ1, a1, a2, a3⟩ := ih (b + 1) (upS σ 3 7 (w32 (σ 3 7 + 1))) (by omega) (hR.step (by omega)) (by rw [upS_s, h7, w32_of (by omega) (by omega)]; omega) h4 ht
    refine ⟨σ1, fun Q n hn h => ?_, a2, fun k j hkj => ?_⟩
    · obtain ⟨n, rfl⟩ := suc_n hn
      unfold wp_X6_advance_l0
      refine ⟨fun q => absurd q (by omega), fun _ => ⟨by omega, ?_⟩⟩
      conv => arg 1; rw [h7, Int.toNat_natCast, ht b hb]
      refine q_isBlank (fun _ => ⟨fun q => absurd q (by decide), fun _ σ3 e3 => ?_⟩) (fun q => absurd (hR.2.2.1 b (Nat.le_refl _) (by omega)) q)
      rw [e3]; exact a1 Q n (by omega) h
    · rw [a3 k j hkj]
      unfold upS
      rw [if_neg hkj]
theorem g_l91 {ρ : St} (hT : Wt ρ) {e : Nat} : ∀ (d b : Nat) (σ : St), b + d = e → RunT isSm ρ b e → σ 3 7 = b → σ 3 4 = ρ 0 0 → tpC ρ σ → ∃ σ1 : St, (∀ (Q : Int → St → Prop) (n : Nat), d < n → Q 0 σ1 → wp_X6_advance_l91 Q n σ) ∧ σ1 3 7 = e ∧ ∀ k j, ¬ (k = 3 ∧ j = 7) → σ1 k j = σ k j := by
  intro d
  induction d with
  | zero =>
    intro b σ hd hR h7 h4 ht
    refine ⟨σ, fun Q n hn h => ?_, by rw [h7]; omega, fun _ _ _ => rfl⟩
    obtain ⟨n, rfl⟩ := suc_n hn
    unfold wp_X6_advance_l91
    have h1 := hT.2.1
    refine ⟨fun _ => h, fun h2 => ⟨by omega, ?_⟩⟩
    rw [h7, Int.toNat_natCast, ht b (by omega)]
    refine q_isSmall (fun q => absurd q ?_) (fun _ => ⟨fun _ => h, fun q => absurd rfl q⟩)
    have := hR.2.2.2
    rw [show e = b by omega] at this
    exact this (by omega)
  | succ d ih =>
    intro b σ hd hR h7 h4 ht
    have h1 := hT.2.1
    have hb : (b : Int) < ρ 0 0 := by have := hR.2.1; omega
    obtain ⟨σ1, a1, a2, a3⟩ := ih (b + 1) (upS σ 3 7 (w32 (σ 3 7 + 1))) (by omega) (hR.step (by omega)) (by rw [upS_s, h7, w32_of (by omega) (by omega)]; omega) h4 ht
    refine ⟨σ1, fun Q n hn h => ?_, a2, fun k j hkj => ?_⟩
    · obtain ⟨n, rfl⟩ := suc_n hn
      unfold wp_X6_advance_l91
      refine ⟨fun q => absurd q (by omega), fun _ => ⟨by omega, ?_⟩⟩
      conv => arg 1; rw [h7, Int.toNat_natCast, ht b hb]
      refine q_isSmall (fun _ => ⟨fun q => absurd q (by decide), fun _ σ3 e3 => ?_⟩) (fun q => absurd (hR.2.2.1 b (Nat.le_refl _) (by omega)) q)
      rw [e3]; exact a1 Q n (by omega) h
    · rw [a3 k j hkj]
      unfold upS
      rw [if_neg hkj]
theorem g_l150 {ρ : St} (hT : Wt ρ) {e : Nat} : ∀ (d b : Nat) (σ : St), b + d = e → RunT isDg ρ b e → σ 3 7 = b → σ 3 4 = ρ 0 0 → tpC ρ σ → 0 ≤ σ 3 8 ∧ σ 3 8 ≤ 10000 → ∃ σ1 : St, (∀ (Q : Int → St → Prop) (n : Nat), d < n → Q 0 σ1 → wp_X6_advance_l150 Q n σ) ∧ σ1 3 7 = e ∧ σ1 3 8 = nvG 10000 ρ d b (σ 3 8) ∧ ∀ k j, ¬ (k = 3 ∧ (j = 7 ∨ j = 8)) → σ1 k j = σ k j := by
  intro d
  induction d with
  | zero =>
    intro b σ hd hR h7 h4 ht hn8
    refine ⟨σ, fun Q n hn h => ?_, by rw [h7]; omega, rfl, fun _ _ _ => rfl⟩
    obtain ⟨n, rfl⟩ := suc_n hn
    unfold wp_X6_advance_l150
    have h1 := hT.2.1
    refine ⟨fun _ => h, fun h2 => ⟨by omega, ?_⟩⟩
    conv => arg 1; rw [h7, Int.toNat_natCast, ht b (by omega)]
    refine q_isDigit (fun q => absurd q ?_) (fun _ => ⟨fun _ => h, fun q => absurd rfl q⟩)
    have := hR.2.2.2
    rw [show e = b by omega] at this
    exact this (by omega)
  | succ d ih =>
    intro b σ hd hR h7 h4 ht hn8
    have h1 := hT.2.1
    have hb : (b : Int) < ρ 0 0 := by have := hR.2.1; omega
    have hdg := hR.2.2.1 b (Nat.le_refl _) (by omega)
    have hdg' := hdg
    unfold isDg at hdg'
    have ev : min (w32 ((w32 ((w32 ((σ 3 8) * 10)) + (σ 1 ((σ 3 7).toNat)))) - 48)) 10000 = min (10 * σ 3 8 + (ρ 1 b - 48)) 10000 := by
      rw [h7, Int.toNat_natCast, ht b hb, w32_of (x := σ 3 8 * 10) (by omega) (by omega), w32_of (x := σ 3 8 * 10 + ρ 1 b) (by omega) (by omega), w32_of (by omega) (by omega)]
      congr 1; omega
    obtain ⟨σ1, a1, a2, a3, a4⟩ := ih (b + 1) (upS (upS σ 3 8 (min (10 * σ 3 8 + (ρ 1 b - 48)) 10000)) 3 7 ((b : Int) + 1)) (by omega) (hR.step (by omega)) (by rw [upS_s]; omega) h4 ht (by rw [upS_j (by decide), upS_s]; omega)
    refine ⟨σ1, fun Q n hn h => ?_, a2, by rw [a3, upS_j (by decide), upS_s]; rfl, fun k j hkj => ?_⟩
    · obtain ⟨n, rfl⟩ := suc_n hn
      unfold wp_X6_advance_l150
      refine ⟨fun q => absurd q (by omega), fun _ => ⟨by omega, ?_⟩⟩
      conv => arg 1; rw [h7, Int.toNat_natCast, ht b hb]
      refine q_isDigit (fun _ => ⟨fun q => absurd q (by decide), fun _ => ⟨by omega, fun σ17 e17 σ18 e18 => ?_⟩⟩) (fun q => absurd hdg q)
      rw [ev] at e17
      have e7 : σ17 3 7 = b := by rw [e17, upS_j (by decide)]; exact h7
      rw [e7, w32_of (by omega) (by omega), e17] at e18
      rw [e18]; exact a1 Q n (by omega) h
    · rw [a4 k j hkj]
      unfold upS
      rw [if_neg (fun q => hkj ⟨q.1, Or.inl q.2⟩), if_neg (fun q => hkj ⟨q.1, Or.inr q.2⟩)]
theorem g_adv {ρ σ : St} (hT : Wt ρ) {b f e : Nat} {kd : Int} (hA : AdvT ρ b f e kd) (h4 : σ 3 4 = ρ 0 0) (h7 : σ 3 7 = b) (ht : tpC ρ σ) : ∃ σ1 : St, (∀ Q : Int → St → Prop, Q 0 σ1 → wp_X6_advance σ Q) ∧ CKx ρ σ1 f e kd ∧ (kd = 2 → σ1 3 8 = nvG 10000 ρ (e - f) f 0) ∧ ∀ k j, ¬ (k = 3 ∧ 5 ≤ j) → σ1 k j = σ k j := by
  have h1 := hT.2.1
  obtain ⟨hb, hA⟩ := hA
  have hfl := hb.2.1
  obtain ⟨σ1, a1, a2, a3⟩ := g_l0 hT (f - b) b σ (by have := hb.1; omega) hb h7 h4 ht
  have b4 : σ1 3 4 = ρ 0 0 := by rw [a3 3 4 (by decide)]; exact h4
  have bt : tpC ρ σ1 := fun j hj => by rw [a3 1 j (by omega)]; exact ht j hj
  have big : f - b < bigN := by unfold bigN; omega
  rcases hA with ⟨rfl, g1, rfl⟩ | ⟨rfl, g1, g2, g3⟩ | ⟨rfl, g1, g0, g2, g3⟩ | ⟨rfl, g1, g0, g2, rfl⟩
  · refine ⟨upS (upS (upS σ1 3 6 (σ1 3 7)) 3 8 0) 3 5 0, fun Q h => a1 Q bigN big ?_, ⟨?_, ?_, ?_, ?_, ?_⟩, fun q => absurd q (by decide), fun k j hkj => ?_⟩
    · unfold wp_X6_advance_b39
      intro σ4 e4 σ5 e5
      rw [e5, e4]
      refine ⟨fun q => absurd q ?_, fun _ σ14 e14 => by rw [e14]; exact h⟩
      rw [upS_j (by decide), upS_j (by decide), upS_j (by decide), upS_j (by decide), b4, a2]; omega
    · rw [upS_j (by decide), upS_j (by decide), upS_j (by decide)]; exact b4
    · rw [upS_s]
    · rw [upS_j (by decide), upS_j (by decide), upS_s]; exact a2
    · rw [upS_j (by decide), upS_j (by decide), upS_j (by decide)]; exact a2
    · exact bt
    · unfold upS
      rw [if_neg (fun q => hkj ⟨q.1, by omega⟩), if_neg (fun q => hkj ⟨q.1, by omega⟩), if_neg (fun q => hkj ⟨q.1, by omega⟩)]
      exact a3 k j (fun q => hkj ⟨q.1, by omega⟩)
  · obtain ⟨σ2, c1, c2, c3⟩ := g_l91 hT (e - f) f (upS (upS (upS σ1 3 6 (σ1 3 7)) 3 8 0) 3 5 1) (by have := g3.1; omega) g3 (by rw [upS_j (by decide), upS_j (by decide), upS_j (by decide)]; exact a2) (by rw [upS_j (by decide), upS_j (by decide), upS_j (by decide)]; exact b4) bt
    refine ⟨σ2, fun Q h => a1 Q bigN big ?_, ⟨?_, ?_, ?_, c2, ?_⟩, fun q => absurd q (by decide), fun k j hkj => ?_⟩
    · unfold wp_X6_advance_b39
      intro σ4 e4 σ5 e5
      have e7 : σ5 3 7 = f := by rw [e5, upS_j (by decide), e4, upS_j (by decide)]; exact a2
      have e54 : σ5 3 4 = ρ 0 0 := by rw [e5, upS_j (by decide), e4, upS_j (by decide)]; exact b4
      have e51 : σ5 1 f = ρ 1 f := by rw [e5, e4]; exact bt f g1
      refine ⟨fun _ => ⟨by omega, ?_⟩, fun q => absurd (by omega) q⟩
      conv => arg 1; rw [e7, Int.toNat_natCast, e51]
      refine q_isSmall (fun _ => ⟨fun q => absurd q (by decide), fun _ σ13 e13 => ?_⟩) (fun q => absurd g2 q)
      rw [e13, e5, e4]
      exact c1 Q bigN (by have := g3.2.1; unfold bigN; omega) h
    · rw [c3 3 4 (by decide), upS_j (by decide), upS_j (by decide), upS_j (by decide)]; exact b4
    · rw [c3 3 5 (by decide), upS_s]
    · rw [c3 3 6 (by decide), upS_j (by decide), upS_j (by decide), upS_s]; exact a2
    · exact fun j hj => by rw [c3 1 j (by omega)]; exact bt j hj
    · rw [c3 k j (fun q => hkj ⟨q.1, by omega⟩)]
      unfold upS
      rw [if_neg (fun q => hkj ⟨q.1, by omega⟩), if_neg (fun q => hkj ⟨q.1, by omega⟩), if_neg (fun q => hkj ⟨q.1, by omega⟩)]
      exact a3 k j (fun q => hkj ⟨q.1, by omega⟩)
  · obtain ⟨σ2, c1, c2, c8, c3⟩ := g_l150 hT (e - f) f (upS (upS (upS σ1 3 6 (σ1 3 7)) 3 8 0) 3 5 2) (by have := g3.1; omega) g3 (by rw [upS_j (by decide), upS_j (by decide), upS_j (by decide)]; exact a2) (by rw [upS_j (by decide), upS_j (by decide), upS_j (by decide)]; exact b4) bt (by rw [upS_j (by decide), upS_s]; decide)
    refine ⟨σ2, fun Q h => a1 Q bigN big ?_, ⟨?_, ?_, ?_, c2, ?_⟩, fun _ => ?_, fun k j hkj => ?_⟩
    · unfold wp_X6_advance_b39
      intro σ4 e4 σ5 e5
      have e7 : σ5 3 7 = f := by rw [e5, upS_j (by decide), e4, upS_j (by decide)]; exact a2
      have e54 : σ5 3 4 = ρ 0 0 := by rw [e5, upS_j (by decide), e4, upS_j (by decide)]; exact b4
      have e51 : σ5 1 f = ρ 1 f := by rw [e5, e4]; exact bt f g1
      refine ⟨fun _ => ⟨by omega, ?_⟩, fun q => absurd (by omega) q⟩
      conv => arg 1; rw [e7, Int.toNat_natCast, e51]
      refine q_isSmall (fun q => absurd q g0) (fun _ => ⟨fun _ => ⟨by omega, ?_⟩, fun q => absurd rfl q⟩)
      conv => arg 1; rw [e7, Int.toNat_natCast, e51]
      refine q_isDigit (fun _ => ⟨fun q => absurd q (by decide), fun _ σ12 e12 => ?_⟩) (fun q => absurd g2 q)
      rw [e12, e5, e4]
      exact c1 Q bigN (by have := g3.2.1; unfold bigN; omega) h
    · rw [c3 3 4 (by decide), upS_j (by decide), upS_j (by decide), upS_j (by decide)]; exact b4
    · rw [c3 3 5 (by decide), upS_s]
    · rw [c3 3 6 (by decide), upS_j (by decide), upS_j (by decide), upS_s]; exact a2
    · exact fun j hj => by rw [c3 1 j (by omega)]; exact bt j hj
    · rw [c8, upS_j (by decide), upS_s]
    · rw [c3 k j (fun q => hkj ⟨q.1, by omega⟩)]
      unfold upS
      rw [if_neg (fun q => hkj ⟨q.1, by omega⟩), if_neg (fun q => hkj ⟨q.1, by omega⟩), if_neg (fun q => hkj ⟨q.1, by omega⟩)]
      exact a3 k j (fun q => hkj ⟨q.1, by omega⟩)
  · refine ⟨upS (upS (upS (upS σ1 3 6 (σ1 3 7)) 3 8 0) 3 5 3) 3 7 ((f : Int) + 1), fun Q h => a1 Q bigN big ?_, ⟨?_, ?_, ?_, ?_, ?_⟩, fun q => absurd q (by decide), fun k j hkj => ?_⟩
    · unfold wp_X6_advance_b39
      intro σ4 e4 σ5 e5
      have e7 : σ5 3 7 = f := by rw [e5, upS_j (by decide), e4, upS_j (by decide)]; exact a2
      have e54 : σ5 3 4 = ρ 0 0 := by rw [e5, upS_j (by decide), e4, upS_j (by decide)]; exact b4
      have e51 : σ5 1 f = ρ 1 f := by rw [e5, e4]; exact bt f g1
      refine ⟨fun _ => ⟨by omega, ?_⟩, fun q => absurd (by omega) q⟩
      conv => arg 1; rw [e7, Int.toNat_natCast, e51]
      refine q_isSmall (fun q => absurd q g0) (fun _ => ⟨fun _ => ⟨by omega, ?_⟩, fun q => absurd rfl q⟩)
      conv => arg 1; rw [e7, Int.toNat_natCast, e51]
      refine q_isDigit (fun q => absurd q g2) (fun _ => ⟨fun _ σ10 e10 σ11 e11 => ?_, fun q => absurd rfl q⟩)
      have e107 : σ10 3 7 = f := by rw [e10, upS_j (by decide)]; exact e7
      rw [e107, w32_of (by omega) (by omega), e10, e5, e4] at e11
      rw [e11]; exact h
    · rw [upS_j (by decide), upS_j (by decide), upS_j (by decide), upS_j (by decide)]; exact b4
    · rw [upS_j (by decide), upS_s]
    · rw [upS_j (by decide), upS_j (by decide), upS_j (by decide), upS_s]; exact a2
    · rw [upS_s]; omega
    · exact bt
    · unfold upS
      rw [if_neg (fun q => hkj ⟨q.1, by omega⟩), if_neg (fun q => hkj ⟨q.1, by omega⟩), if_neg (fun q => hkj ⟨q.1, by omega⟩), if_neg (fun q => hkj ⟨q.1, by omega⟩)]
      exact a3 k j (fun q => hkj ⟨q.1, by omega⟩)

theorem sby_and {x : Int} (h : 0 ≤ x ∧ x ≤ 255) : b_and (sby x) 255 = x := by
  have hs : C32 (sby x) := by unfold sby C32; split <;> omega
  rw [b_and_255 hs]
  unfold sby
  split <;> omega
theorem h_see {ρ τ : St} (hT : Wt ρ) (h19 : τ 0 19 = ρ 0 0) (ht : tpR ρ τ) {b : Nat} (hb : (b : Int) ≤ ρ 0 0) {Q : Int → St → Prop} (h0 : (b : Int) = ρ 0 0 → Q (-1) τ) (h1 : (b : Int) < ρ 0 0 → Q (ρ 1 b) τ) : wp_X12_see (b : Int) τ Q := by
  have hm := hT.2.1
  unfold wp_X12_see
  rw [h19, Int.toNat_natCast]
  refine ⟨fun q => h0 (by omega), fun q => ⟨by omega, ?_⟩⟩
  rw [ht b (by omega), sby_and (hT.2.2 b (by omega))]
  exact h1 (by omega)
theorem h_l0 {ρ : St} (hT : Wt ρ) {e : Nat} : ∀ (d b : Nat) (τ : St), b + d = e → RunT isBl ρ b e → τ 0 20 = b → τ 0 19 = ρ 0 0 → tpR ρ τ → ∃ τ1 : St, (∀ (Q : Int → St → Prop) (n : Nat), d < n → wp_X12_advance_l0 Q (n - d) τ1 → wp_X12_advance_l0 Q n τ) ∧ τ1 0 20 = e ∧ ∀ k j, ¬ (k = 0 ∧ j = 20) → τ1 k j = τ k j := by
  intro d
  induction d with
  | zero =>
    intro b τ hd hR h7 h4 ht
    exact ⟨τ, fun Q n hn h => h, by rw [h7]; omega, fun _ _ _ => rfl⟩
  | succ d ih =>
    intro b τ hd hR h7 h4 ht
    have h1 := hT.2.1
    have hb : (b : Int) < ρ 0 0 := by have := hR.2.1; omega
    have hbl := hR.2.2.1 b (Nat.le_refl _) (by omega)
    unfold isBl at hbl
    obtain ⟨τ1, a1, a2, a3⟩ := ih (b + 1) (upS τ 0 20 ((b : Int) + 1)) (by omega) (hR.step (by omega)) (by rw [upS_s]; omega) h4 ht
    refine ⟨τ1, fun Q n hn h => ?_, a2, fun k j hkj => ?_⟩
    · obtain ⟨n, rfl⟩ := suc_n hn
      rw [show n + 1 - (d + 1) = n - d by omega] at h
      have go := a1 Q n (by omega) h
      unfold wp_X12_advance_l0 wp_X12_advance_b26
      have ew : w32 (τ 0 20 + 1) = (b : Int) + 1 := by rw [h7, w32_of (by omega) (by omega)]
      conv => arg 1; rw [h7]
      refine h_see hT h4 ht (by omega) (fun q => by omega) (fun _ => ⟨fun _ σ17 e17 => by rw [e17, ew]; exact go, fun q => ?_⟩)
      rw [h7]
      exact h_see hT h4 ht (by omega) (fun q => by omega) (fun _ => ⟨fun q2 => absurd (by omega : ρ 1 b = 10) q2, fun _ σ17 e17 => by rw [e17, ew]; exact go⟩)
    · rw [a3 k j hkj]
      unfold upS
      rw [if_neg hkj]
theorem h_l83 {ρ : St} (hT : Wt ρ) {e : Nat} : ∀ (d b : Nat) (τ : St), b + d = e → RunT isSm ρ b e → τ 0 20 = b → τ 0 19 = ρ 0 0 → tpR ρ τ → ∃ τ1 : St, (∀ (Q : Int → St → Prop) (n : Nat), d < n → Q 0 τ1 → wp_X12_advance_l83 Q n τ) ∧ τ1 0 20 = e ∧ τ1 0 22 = 1 ∧ ∀ k j, ¬ (k = 0 ∧ (j = 20 ∨ j = 22)) → τ1 k j = τ k j := by
  intro d
  induction d with
  | zero =>
    intro b τ hd hR h7 h4 ht
    refine ⟨upS τ 0 22 1, fun Q n hn h => ?_, by rw [upS_j (by decide), h7]; omega, by rw [upS_s], fun k j hkj => by unfold upS; rw [if_neg (fun q => hkj ⟨q.1, Or.inr q.2⟩)]⟩
    obtain ⟨n, rfl⟩ := suc_n hn
    have hbl := hR.2.2.2
    rw [show e = b by omega] at hbl
    unfold isSm at hbl
    have hle := hR.2.1
    unfold wp_X12_advance_l83
    conv => arg 1; rw [h7]
    refine h_see hT h4 ht (by omega) (fun _ => r_in ?_) (fun hb => r_in ?_)
    · rw [if_neg (by omega)]
      exact ⟨fun _ σ e1 => by rw [e1]; exact h, fun q => absurd rfl q⟩
    · rw [if_neg (hbl hb)]
      exact ⟨fun _ σ e1 => by rw [e1]; exact h, fun q => absurd rfl q⟩
  | succ d ih =>
    intro b τ hd hR h7 h4 ht
    have h1 := hT.2.1
    have hb : (b : Int) < ρ 0 0 := by have := hR.2.1; omega
    have hbl := hR.2.2.1 b (Nat.le_refl _) (by omega)
    unfold isSm at hbl
    obtain ⟨τ1, a1, a2, a22, a3⟩ := ih (b + 1) (upS τ 0 20 ((b : Int) + 1)) (by omega) (hR.step (by omega)) (by rw [upS_s]; omega) h4 ht
    refine ⟨τ1, fun Q n hn h => ?_, a2, a22, fun k j hkj => ?_⟩
    · obtain ⟨n, rfl⟩ := suc_n hn
      unfold wp_X12_advance_l83
      have ew : w32 (τ 0 20 + 1) = (b : Int) + 1 := by rw [h7, w32_of (by omega) (by omega)]
      conv => arg 1; rw [h7]
      refine h_see hT h4 ht (by omega) (fun q => by omega) (fun _ => r_in ?_)
      rw [if_pos hbl]
      exact ⟨fun q => absurd q (by decide), fun _ σ e1 => by rw [e1, ew]; exact a1 Q n (by omega) h⟩
    · rw [a3 k j hkj]
      unfold upS
      rw [if_neg (fun q => hkj ⟨q.1, Or.inl q.2⟩)]
theorem h_l144 {ρ : St} (hT : Wt ρ) {e : Nat} : ∀ (d b : Nat) (τ : St), b + d = e → RunT isDg ρ b e → τ 0 20 = b → τ 0 19 = ρ 0 0 → tpR ρ τ → 0 ≤ τ 0 23 ∧ τ 0 23 ≤ 9999 → ∃ τ1 : St, (∀ (Q : Int → St → Prop) (n : Nat), d < n → Q 0 τ1 → wp_X12_advance_l144 Q n τ) ∧ τ1 0 20 = e ∧ τ1 0 22 = 2 ∧ τ1 0 23 = nvG 9999 ρ d b (τ 0 23) ∧ ∀ k j, ¬ (k = 0 ∧ (j = 20 ∨ j = 22 ∨ j = 23)) → τ1 k j = τ k j := by
  intro d
  induction d with
  | zero =>
    intro b τ hd hR h7 h4 ht hv
    refine ⟨upS τ 0 22 2, fun Q n hn h => ?_, by rw [upS_j (by decide), h7]; omega, by rw [upS_s], by rw [upS_j (by decide)]; rfl, fun k j hkj => by unfold upS; rw [if_neg (fun q => hkj ⟨q.1, Or.inr (Or.inl q.2)⟩)]⟩
    obtain ⟨n, rfl⟩ := suc_n hn
    have hbl := hR.2.2.2
    rw [show e = b by omega] at hbl
    unfold isDg at hbl
    have hle := hR.2.1
    unfold wp_X12_advance_l144
    conv => arg 1; rw [h7]
    refine h_see hT h4 ht (by omega) (fun _ => r_in ?_) (fun hb => r_in ?_)
    · rw [if_neg (by omega)]
      exact ⟨fun _ σ e1 => by rw [e1]; exact h, fun q => absurd rfl q⟩
    · rw [if_neg (hbl hb)]
      exact ⟨fun _ σ e1 => by rw [e1]; exact h, fun q => absurd rfl q⟩
  | succ d ih =>
    intro b τ hd hR h7 h4 ht hv
    have h1 := hT.2.1
    have hb : (b : Int) < ρ 0 0 := by have := hR.2.1; omega
    have hbl := hR.2.2.1 b (Nat.le_refl _) (by omega)
    unfold isDg at hbl
    obtain ⟨τ1, a1, a2, a22, a23, a3⟩ := ih (b + 1) (upS (upS τ 0 23 (min (10 * τ 0 23 + (ρ 1 b - 48)) 9999)) 0 20 ((b : Int) + 1)) (by omega) (hR.step (by omega)) (by rw [upS_s]; omega) (by rw [upS_j (by decide), upS_j (by decide)]; exact h4) ht (by rw [upS_j (by decide), upS_s]; omega)
    refine ⟨τ1, fun Q n hn h => ?_, a2, a22, by rw [a23, upS_j (by decide), upS_s]; rfl, fun k j hkj => ?_⟩
    · obtain ⟨n, rfl⟩ := suc_n hn
      unfold wp_X12_advance_l144
      conv => arg 1; rw [h7]
      refine h_see hT h4 ht (by omega) (fun q => by omega) (fun _ => r_in ?_)
      rw [if_pos hbl]
      refine ⟨fun q => absurd q (by decide), fun _ => ?_⟩
      rw [h7]
      refine h_see hT h4 ht (by omega) (fun q => by omega) (fun _ σ28 e28 σ29 e29 => ?_)
      rw [w32_of (x := 10 * τ 0 23) (by omega) (by omega), w32_of (x := 10 * τ 0 23 + ρ 1 b) (by omega) (by omega), w32_of (x := 10 * τ 0 23 + ρ 1 b - 48) (by omega) (by omega), show min 9999 (10 * τ 0 23 + ρ 1 b - 48) = min (10 * τ 0 23 + (ρ 1 b - 48)) 9999 by omega] at e28
      have e20 : σ28 0 20 = b := by rw [e28, upS_j (by decide)]; exact h7
      rw [e20, w32_of (by omega) (by omega), e28] at e29
      rw [e29]; exact a1 Q n (by omega) h
    · rw [a3 k j hkj]
      unfold upS
      rw [if_neg (fun q => hkj ⟨q.1, Or.inl q.2⟩), if_neg (fun q => hkj ⟨q.1, Or.inr (Or.inr q.2)⟩)]
theorem h_b248 {ρ τ : St} {f : Nat} (hn : (65 ≤ ρ 1 f ∧ ρ 1 f ≤ 76) ∨ ¬ (65 ≤ ρ 1 f ∧ ρ 1 f ≤ 76)) {v : Int} (hv1 : (65 ≤ ρ 1 f ∧ ρ 1 f ≤ 76) → v = ρ 1 f - 65) (hv2 : ¬ (65 ≤ ρ 1 f ∧ ρ 1 f ≤ 76) → v = ρ 1 f) : ∃ τ1 : St, (∀ Q : Int → St → Prop, Q 0 τ1 → wp_X12_advance_b248 Q (ρ 1 f) v τ) ∧ ((65 ≤ ρ 1 f ∧ ρ 1 f ≤ 76) → τ1 0 22 = 3 ∧ τ1 0 23 = ρ 1 f - 65) ∧ (¬ (65 ≤ ρ 1 f ∧ ρ 1 f ≤ 76) → (ρ 1 f = 61 ∨ ρ 1 f = 59) → τ1 0 22 = 4 ∧ τ1 0 23 = ρ 1 f) ∧ (¬ (65 ≤ ρ 1 f ∧ ρ 1 f ≤ 76) → ¬ (ρ 1 f = 61 ∨ ρ 1 f = 59) → τ1 0 22 = 5) ∧ ∀ k j, ¬ (k = 0 ∧ (j = 22 ∨ j = 23)) → τ1 k j = τ k j := by
  have fr : ∀ (x : Int) (k j : Nat), ¬ (k = 0 ∧ (j = 22 ∨ j = 23)) → upS (upS τ 0 23 v) 0 22 x k j = τ k j := by
    intro x k j hkj
    unfold upS
    rw [if_neg (fun q => hkj ⟨q.1, Or.inl q.2⟩), if_neg (fun q => hkj ⟨q.1, Or.inr q.2⟩)]
  rcases hn with hn | hn
  · refine ⟨upS (upS τ 0 23 v) 0 22 3, fun Q h => ?_, fun _ => ⟨by rw [upS_s], by rw [upS_j (by decide), upS_s]; exact hv1 hn⟩, fun q => absurd hn q, fun q => absurd hn q, fr 3⟩
    unfold wp_X12_advance_b248 wp_X12_advance_b287
    intro σ18 e18
    refine r_in ?_
    rw [if_pos hn]
    exact ⟨fun q => absurd q (by decide), fun _ σ36 e36 => by rw [e36, e18]; exact h⟩
  · by_cases h2 : ρ 1 f = 61 ∨ ρ 1 f = 59
    · refine ⟨upS (upS τ 0 23 v) 0 22 4, fun Q h => ?_, fun q => absurd q hn, fun _ _ => ⟨by rw [upS_s], by rw [upS_j (by decide), upS_s]; exact hv2 hn⟩, fun _ q => absurd h2 q, fr 4⟩
      unfold wp_X12_advance_b248 wp_X12_advance_b282 wp_X12_advance_b287
      intro σ18 e18
      refine r_in ?_
      rw [if_neg hn]
      exact ⟨fun _ => ⟨fun _ σ36 e36 => by rw [e36, e18]; exact h, fun q => ⟨fun q2 => absurd (by omega : ρ 1 f = 59) q2, fun _ σ36 e36 => by rw [e36, e18]; exact h⟩⟩, fun q => absurd rfl q⟩
    · refine ⟨upS (upS τ 0 23 v) 0 22 5, fun Q h => ?_, fun q => absurd q hn, fun _ q => absurd q h2, fun _ _ => by rw [upS_s], fr 5⟩
      unfold wp_X12_advance_b248 wp_X12_advance_b282 wp_X12_advance_b287
      intro σ18 e18
      refine r_in ?_
      rw [if_neg hn]
      exact ⟨fun _ => ⟨fun q => absurd (Or.inl q) h2, fun _ => ⟨fun _ σ36 e36 => by rw [e36, e18]; exact h, fun q => absurd (Or.inr (by omega)) h2⟩⟩, fun q => absurd rfl q⟩
theorem h_adv {ρ τ : St} (hT : Wt ρ) {b f e : Nat} {kd : Int} (hA : AdvT ρ b f e kd) (h19 : τ 0 19 = ρ 0 0) (h20 : τ 0 20 = b) (ht : tpR ρ τ) : ∃ τ1 : St, (∀ Q : Int → St → Prop, Q 0 τ1 → wp_X12_advance τ Q) ∧ RK ρ τ1 f e kd ∧ (kd = 2 → τ1 0 23 = nvG 9999 ρ (e - f) f 0) ∧ ∀ k j, ¬ (k = 0 ∧ 20 ≤ j ∧ j ≤ 23) → τ1 k j = τ k j := by
  have h1 := hT.2.1
  obtain ⟨hb, hA⟩ := hA
  have hfl := hb.2.1
  obtain ⟨τ1, a1, a2, a3⟩ := h_l0 hT (f - b) b τ (by have := hb.1; omega) hb h20 h19 ht
  have b19 : τ1 0 19 = ρ 0 0 := by rw [a3 0 19 (by decide)]; exact h19
  have bt : tpR ρ τ1 := fun j hj => by rw [a3 12 j (by omega)]; exact ht j hj
  have big : f - b < bigN := by unfold bigN; omega
  have nb := hb.2.2.2
  unfold isBl at nb
  obtain ⟨n, hn⟩ := suc_n (n := bigN - (f - b)) (d := 0) (by omega)
  have c19 : upS τ1 0 21 (τ1 0 20) 0 19 = ρ 0 0 := by rw [upS_j (by decide)]; exact b19
  have ct : tpR ρ (upS τ1 0 21 (τ1 0 20)) := bt
  have c20 : upS τ1 0 21 (τ1 0 20) 0 20 = f := by rw [upS_j (by decide)]; exact a2
  have head : ∀ Q : Int → St → Prop, wp_X12_see (f : Int) (upS τ1 0 21 (τ1 0 20)) (fun r6 σ7 =>
    ((r6 ≠ (-1)) →
    wp_X12_in r6 97 122 σ7 (fun r8 σ9 =>
    ((r8 = 0) →
    wp_X12_in r6 48 57 σ9 (fun r10 σ11 =>
    ((r10 = 0) →
    ∀ σ12 : St, σ12 = upS σ11 0 20 (w32 ((σ11 0 20) + 1)) →
    wp_X12_in r6 65 76 σ12 (fun r13 σ14 =>
    ((r13 = 0) →
    wp_X12_advance_b248 Q r6 r6 σ14) ∧
    (¬ (r13 = 0) →
    wp_X12_advance_b248 Q r6 (w32 (r6 - 65)) σ14))) ∧
    (¬ (r10 = 0) →
    ∀ σ15 : St, σ15 = upS σ11 0 23 0 →
    wp_X12_advance_l144 Q bigN σ15))) ∧
    (¬ (r8 = 0) →
    wp_X12_advance_l83 Q bigN σ9))) ∧
    (¬ (r6 ≠ (-1)) →
    ∀ σ16 : St, σ16 = upS σ7 0 22 0 →
    Q 0 σ16)) → wp_X12_advance τ Q := by
    intro Q h
    unfold wp_X12_advance
    refine a1 Q bigN big ?_
    rw [hn]
    unfold wp_X12_advance_l0
    have go : ∀ r1 : Int, r1 ≠ 32 → r1 ≠ 10 → (∀ σ5 : St, σ5 = upS τ1 0 21 (τ1 0 20) → wp_X12_see (σ5 0 20) σ5 (fun r6 σ7 =>
    ((r6 ≠ (-1)) →
    wp_X12_in r6 97 122 σ7 (fun r8 σ9 =>
    ((r8 = 0) →
    wp_X12_in r6 48 57 σ9 (fun r10 σ11 =>
    ((r10 = 0) →
    ∀ σ12 : St, σ12 = upS σ11 0 20 (w32 ((σ11 0 20) + 1)) →
    wp_X12_in r6 65 76 σ12 (fun r13 σ14 =>
    ((r13 = 0) →
    wp_X12_advance_b248 Q r6 r6 σ14) ∧
    (¬ (r13 = 0) →
    wp_X12_advance_b248 Q r6 (w32 (r6 - 65)) σ14))) ∧
    (¬ (r10 = 0) →
    ∀ σ15 : St, σ15 = upS σ11 0 23 0 →
    wp_X12_advance_l144 Q bigN σ15))) ∧
    (¬ (r8 = 0) →
    wp_X12_advance_l83 Q bigN σ9))) ∧
    (¬ (r6 ≠ (-1)) →
    ∀ σ16 : St, σ16 = upS σ7 0 22 0 →
    Q 0 σ16))) := by
      intro r1 _ _ σ5 e5
      rw [e5, c20]; exact h
    rw [a2]
    refine h_see hT b19 bt hfl (fun _ => ⟨fun q => absurd q (by decide), fun _ => ?_⟩) (fun hlt => ⟨fun q => absurd (Or.inl q) (nb hlt), fun _ => ?_⟩)
    · rw [a2]
      refine h_see hT b19 bt hfl (fun _ => ⟨fun _ σ5 e5 => ?_, fun q => absurd (by decide) q⟩) (fun hlt => by omega)
      exact go (-1) (by decide) (by decide) σ5 e5
    · rw [a2]
      refine h_see hT b19 bt hfl (fun q => by omega) (fun _ => ⟨fun q2 σ5 e5 => ?_, fun q => absurd (Or.inr (by omega)) (nb hlt)⟩)
      exact go (ρ 1 f) (fun q => nb hlt (Or.inl q)) q2 σ5 e5
  have fr1 : ∀ k j, ¬ (k = 0 ∧ 20 ≤ j ∧ j ≤ 23) → upS τ1 0 21 (τ1 0 20) k j = τ k j := by
    intro k j hkj
    unfold upS
    rw [if_neg (fun q => hkj ⟨q.1, by omega⟩)]
    exact a3 k j (fun q => hkj ⟨q.1, by omega⟩)
  have e21 : upS τ1 0 21 (τ1 0 20) 0 21 = f := by rw [upS_s]; exact a2
  generalize upS τ1 0 21 (τ1 0 20) = τ2 at *
  rcases hA with ⟨rfl, g1, rfl⟩ | ⟨rfl, g1, g2, g3⟩ | ⟨rfl, g1, g0, g2, g3⟩ | ⟨rfl, g1, g0, g2, rfl⟩
  · refine ⟨upS τ2 0 22 0, fun Q h => head Q ?_, ⟨?_, ?_, ?_, ct, fun _ => by rw [upS_s], fun q => absurd q (by decide), fun q => absurd q (by decide), fun q => absurd q (by decide)⟩, fun q => absurd q (by decide), fun k j hkj => ?_⟩
    · exact h_see hT c19 ct hfl (fun _ => ⟨fun q => absurd rfl q, fun _ σ16 e16 => by rw [e16]; exact h⟩) (fun q => by omega)
    · rw [upS_j (by decide)]; exact c19
    · rw [upS_j (by decide)]; exact e21
    · rw [upS_j (by decide)]; exact c20
    · unfold upS
      rw [if_neg (fun q => hkj ⟨q.1, by omega⟩)]
      exact fr1 k j hkj
  · obtain ⟨τ3, d1, d2, d22, d3⟩ := h_l83 hT (e - f) f τ2 (by have := g3.1; omega) g3 c20 c19 ct
    have g2' := g2
    unfold isSm at g2'
    refine ⟨τ3, fun Q h => head Q ?_, ⟨?_, ?_, d2, fun j hj => by rw [d3 12 j (by omega)]; exact ct j hj, fun q => absurd q (by decide), fun _ => d22, fun q => absurd q (by decide), fun q => absurd q (by decide)⟩, fun q => absurd q (by decide), fun k j hkj => ?_⟩
    · refine h_see hT c19 ct hfl (fun q => by omega) (fun _ => ⟨fun _ => r_in ?_, fun q => absurd (by omega) q⟩)
      rw [if_pos g2']
      exact ⟨fun q => absurd q (by decide), fun _ => d1 Q bigN (by have := g3.2.1; unfold bigN; omega) h⟩
    · rw [d3 0 19 (by decide)]; exact c19
    · rw [d3 0 21 (by decide)]; exact e21
    · rw [d3 k j (fun q => hkj ⟨q.1, by omega⟩)]; exact fr1 k j hkj
  · obtain ⟨τ3, d1, d2, d22, d23, d3⟩ := h_l144 hT (e - f) f (upS τ2 0 23 0) (by have := g3.1; omega) g3 (by rw [upS_j (by decide)]; exact c20) (by rw [upS_j (by decide)]; exact c19) ct (by rw [upS_s]; decide)
    have g2' := g2
    unfold isDg at g2'
    unfold isSm at g0
    refine ⟨τ3, fun Q h => head Q ?_, ⟨?_, ?_, d2, fun j hj => by rw [d3 12 j (by omega)]; exact ct j hj, fun q => absurd q (by decide), fun q => absurd q (by decide), fun _ => d22, fun q => absurd q (by decide)⟩, fun _ => by rw [d23, upS_s], fun k j hkj => ?_⟩
    · refine h_see hT c19 ct hfl (fun q => by omega) (fun _ => ⟨fun _ => r_in ?_, fun q => absurd (by omega) q⟩)
      rw [if_neg g0]
      refine ⟨fun _ => r_in ?_, fun q => absurd rfl q⟩
      rw [if_pos g2']
      exact ⟨fun q => absurd q (by decide), fun _ σ15 e15 => by rw [e15]; exact d1 Q bigN (by have := g3.2.1; unfold bigN; omega) h⟩
    · rw [d3 0 19 (by decide), upS_j (by decide)]; exact c19
    · rw [d3 0 21 (by decide), upS_j (by decide)]; exact e21
    · rw [d3 k j (fun q => hkj ⟨q.1, by omega⟩)]
      unfold upS
      rw [if_neg (fun q => hkj ⟨q.1, by omega⟩)]
      exact fr1 k j hkj
  · unfold isDg at g2
    unfold isSm at g0
    have hby := hT.2.2 f g1
    obtain ⟨τ3, d1, d2, d3, d4, d5⟩ := h_b248 (ρ := ρ) (f := f) (τ := upS τ2 0 20 ((f : Int) + 1)) (Classical.em _) (v := if 65 ≤ ρ 1 f ∧ ρ 1 f ≤ 76 then ρ 1 f - 65 else ρ 1 f) (fun q => by rw [if_pos q]) (fun q => by rw [if_neg q])
    refine ⟨τ3, fun Q h => head Q ?_, ⟨?_, ?_, ?_, fun j hj => by rw [d5 12 j (by omega)]; exact ct j hj, fun q => absurd q (by decide), fun q => absurd q (by decide), fun q => absurd q (by decide), fun _ => ⟨d2, d3, d4⟩⟩, fun q => absurd q (by decide), fun k j hkj => ?_⟩
    · refine h_see hT c19 ct hfl (fun q => by omega) (fun _ => ⟨fun _ => r_in ?_, fun q => absurd (by omega) q⟩)
      rw [if_neg g0]
      refine ⟨fun _ => r_in ?_, fun q => absurd rfl q⟩
      rw [if_neg g2]
      refine ⟨fun _ σ12 e12 => r_in ?_, fun q => absurd rfl q⟩
      rw [c20, w32_of (by omega) (by omega)] at e12
      have hd := d1 Q h
      by_cases hl : 65 ≤ ρ 1 f ∧ ρ 1 f ≤ 76
      · rw [if_pos hl] at hd ⊢
        refine ⟨fun q => absurd q (by decide), fun _ => ?_⟩
        rw [w32_of (by omega) (by omega), e12]; exact hd
      · rw [if_neg hl] at hd ⊢
        refine ⟨fun _ => ?_, fun q => absurd rfl q⟩
        rw [e12]; exact hd
    · rw [d5 0 19 (by decide), upS_j (by decide)]; exact c19
    · rw [d5 0 21 (by decide), upS_j (by decide)]; exact e21
    · rw [d5 0 20 (by decide), upS_s]; omega
    · rw [d5 k j (fun q => hkj ⟨q.1, by omega⟩)]
      unfold upS
      rw [if_neg (fun q => hkj ⟨q.1, by omega⟩)]
      exact fr1 k j hkj
