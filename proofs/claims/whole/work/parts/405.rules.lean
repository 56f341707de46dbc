/-! a rule of the text, on both sides -/
def DEr (σ τ : St) (r : Nat) : Prop := σ 5 r = τ 1 (40 + r) ∧ σ 6 r = τ 2 (40 + r) ∧ σ 7 r = τ 3 (40 + r) ∧ σ 8 r = τ 4 (40 + r) ∧ σ 9 r = τ 5 (40 + r) ∧ (0 ≤ σ 5 r ∧ σ 5 r < 12) ∧ isPart (σ 6 r) ∧ (σ 7 r = -1 ∨ isPart (σ 7 r)) ∧ (1 ≤ σ 8 r ∧ σ 8 r ≤ 99) ∧ (0 ≤ σ 9 r ∧ σ 9 r < σ 4 7)
def DEb (σ τ : St) : Prop := σ 4 7 = τ 6 1 ∧ σ 4 8 = τ 7 1 ∧ σ 4 9 = τ 8 1 ∧ (2 ≤ σ 4 7 ∧ σ 4 7 ≤ 5) ∧ (0 ≤ σ 4 8 ∧ σ 4 8 < σ 4 7) ∧ (0 ≤ σ 4 9 ∧ σ 4 9 < σ 4 7) ∧ ∀ j : Nat, (j : Int) < σ 4 7 * σ 4 7 → (σ 11 j = τ 9 (25 + j) ∧ 0 ≤ σ 11 j ∧ σ 11 j < σ 4 7) ∧ (σ 12 j = τ 10 (25 + j) ∧ 0 ≤ σ 12 j ∧ σ 12 j < σ 4 7)
def DEg (σ τ : St) (c : Nat) : Prop := DEb σ τ ∧ ∀ r : Nat, r < c → DEr σ τ r
def FZg (σ σ1 : St) : Prop := (∀ k, (k < 3 ∨ 13 < k) → σ1 k = σ k) ∧ σ 3 7 ≤ σ1 3 7 ∧ (σ 3 2 ≠ 0 → σ1 3 2 ≠ 0)
def FWg (τ τ1 : St) : Prop := (∀ k, 10 < k → τ1 k = τ k) ∧ (∀ k j, 1 ≤ k → k ≤ 5 → j < 40 → τ1 k j = τ k j) ∧ (∀ k, 6 ≤ k → k ≤ 8 → τ1 k 0 = τ k 0) ∧ (∀ k j, 9 ≤ k → k ≤ 10 → j < 25 → τ1 k j = τ k j) ∧ (∀ j, (j < 13 ∨ (13 < j ∧ j < 20) ∨ 25 < j) → τ1 0 j = τ 0 j)
theorem FZg.rf {σ : St} : FZg σ σ := ⟨fun _ _ => rfl, Int.le_refl _, fun h => h⟩
theorem FZg.tr {σ σ1 σ2 : St} (h : FZg σ σ1) (h2 : FZg σ1 σ2) : FZg σ σ2 := ⟨fun k hk => (h2.1 k hk).trans (h.1 k hk), Int.le_trans h.2.1 h2.2.1, fun q => h2.2.2 (h.2.2 q)⟩
theorem FXg.z {σ σ1 : St} (h : FXg σ σ1) : FZg σ σ1 := ⟨fun k hk => h.1 k (by omega), h.2.1, h.2.2⟩
theorem FWg.rf {τ : St} : FWg τ τ := ⟨fun _ _ => rfl, fun _ _ _ _ _ => rfl, fun _ _ _ => rfl, fun _ _ _ _ _ => rfl, fun _ _ => rfl⟩
theorem FWg.tr {τ τ1 τ2 : St} (h : FWg τ τ1) (h2 : FWg τ1 τ2) : FWg τ τ2 := ⟨fun k hk => (h2.1 k hk).trans (h.1 k hk), fun k j a b c => (h2.2.1 k j a b c).trans (h.2.1 k j a b c), fun k a b => (h2.2.2.1 k a b).trans (h.2.2.1 k a b), fun k j a b c => (h2.2.2.2.1 k j a b c).trans (h.2.2.2.1 k j a b c), fun j hj => (h2.2.2.2.2 j hj).trans (h.2.2.2.2 j hj)⟩
theorem FYg.w {τ τ1 : St} (h : FYg τ τ1) : FWg τ τ1 := ⟨fun k hk => h.1 k (by omega), fun k j a _ _ => by rw [h.1 k (by omega)], fun k a _ => by rw [h.1 k (by omega)], fun k j a _ _ => by rw [h.1 k (by omega)], fun j hj => h.2 j (by omega)⟩
theorem FZg.up {σ : St} {k j : Nat} {v : Int} (hk : 4 ≤ k ∧ k ≤ 13) : FZg σ (upS σ k j v) := ⟨fun a ha => upS_k (by omega), by rw [upS_k (by omega)]; exact Int.le_refl _, fun q => by rw [upS_k (by omega)]; exact q⟩
theorem FWg.up {τ : St} {k j : Nat} {v : Int} (hk : 1 ≤ k ∧ k ≤ 5) (hj : 40 ≤ j) : FWg τ (upS τ k j v) := by
  refine ⟨fun a ha => upS_k (by omega), fun a b h1 h2 h3 => ?_, fun a h1 h2 => by rw [upS_k (by omega)], fun a b h1 h2 h3 => by rw [upS_k (by omega)], fun b hb => by rw [upS_k (by omega)]⟩
  unfold upS
  rw [if_neg (by omega)]
theorem FWg.up1 {τ : St} {k j : Nat} {v : Int} (hk : 6 ≤ k ∧ k ≤ 8) (hj : j ≠ 0) : FWg τ (upS τ k j v) := by
  refine ⟨fun a ha => upS_k (by omega), fun a b h1 h2 h3 => by rw [upS_k (by omega)], fun a h1 h2 => ?_, fun a b h1 h2 h3 => by rw [upS_k (by omega)], fun b hb => by rw [upS_k (by omega)]⟩
  unfold upS
  rw [if_neg (by omega)]
theorem FWg.up2 {τ : St} {k j : Nat} {v : Int} (hk : 9 ≤ k ∧ k ≤ 10) (hj : 25 ≤ j) : FWg τ (upS τ k j v) := by
  refine ⟨fun a ha => upS_k (by omega), fun a b h1 h2 h3 => by rw [upS_k (by omega)], fun a h1 h2 => by rw [upS_k (by omega)], fun a b h1 h2 h3 => ?_, fun b hb => by rw [upS_k (by omega)]⟩
  unfold upS
  rw [if_neg (by omega)]
theorem FWg.up0 {τ : St} {v : Int} : FWg τ (upS τ 0 13 v) := ⟨fun a ha => upS_k (by omega), fun a b h1 h2 h3 => by rw [upS_k (by omega)], fun a h1 h2 => by rw [upS_k (by omega)], fun a b h1 h2 h3 => by rw [upS_k (by omega)], fun b hb => upS_j (by omega)⟩
/-- drafts are told by cells that reading a token leaves alone -/
theorem DEg.fr {σ τ σ1 τ1 : St} {c : Nat} (h : DEg σ τ c) (hc : c ≤ 40) (f : FXg σ σ1) (g : FYg τ τ1) : DEg σ1 τ1 c := by
  unfold DEg DEb DEr at *
  rw [f.1 4 (by decide), f.1 5 (by decide), f.1 6 (by decide), f.1 7 (by decide), f.1 8 (by decide), f.1 9 (by decide), f.1 11 (by decide), f.1 12 (by decide), g.1 1 (by decide), g.1 2 (by decide), g.1 3 (by decide), g.1 4 (by decide), g.1 5 (by decide), g.1 6 (by decide), g.1 7 (by decide), g.1 8 (by decide), g.1 9 (by decide), g.1 10 (by decide)]
  exact h
/-- writing at rule c leaves the rules before it -/
theorem DEg.put {σ τ : St} {c k l : Nat} {v w : Int} (h : DEg σ τ c) (hk : 5 ≤ k ∧ k ≤ 9) (hl : 1 ≤ l ∧ l ≤ 5) : DEg (upS σ k c v) (upS τ l (40 + c) w) c := by
  have e : ∀ r, r < c → ∀ a, 5 ≤ a → a ≤ 9 → upS σ k c v a r = σ a r := fun r hr a h1 h2 => by unfold upS; rw [if_neg (by omega)]
  have e2 : ∀ r, r < c → ∀ a, upS τ l (40 + c) w a (40 + r) = τ a (40 + r) := fun r hr a => by unfold upS; rw [if_neg (by omega)]
  have e3 : ∀ a, a ≠ k → upS σ k c v a = σ a := fun a ha => upS_k ha
  have e4 : ∀ a, a ≠ l → upS τ l (40 + c) w a = τ a := fun a ha => upS_k ha
  obtain ⟨hb, hr⟩ := h
  refine ⟨?_, fun r hrc => ?_⟩
  · unfold DEb
    rw [e3 4 (by omega), e3 11 (by omega), e3 12 (by omega), e4 6 (by omega), e4 7 (by omega), e4 8 (by omega), e4 9 (by omega), e4 10 (by omega)]
    exact hb
  · unfold DEr
    rw [e r hrc 5 (by decide) (by decide), e r hrc 6 (by decide) (by decide), e r hrc 7 (by decide) (by decide), e r hrc 8 (by decide) (by decide), e r hrc 9 (by decide) (by decide), e2 r hrc, e2 r hrc, e2 r hrc, e2 r hrc, e2 r hrc, e3 4 (by omega)]
    exact hr r hrc
/-- the first fields of rule c -/
def PRh (σ τ : St) (c : Nat) : Prop := σ 5 c = τ 1 (40 + c) ∧ 0 ≤ σ 5 c ∧ σ 5 c < 12
def PRl (σ τ : St) (c : Nat) : Prop := σ 6 c = τ 2 (40 + c) ∧ isPart (σ 6 c)
def PRr (σ τ : St) (c : Nat) : Prop := σ 7 c = τ 3 (40 + c) ∧ (σ 7 c = -1 ∨ isPart (σ 7 c))
def PRp (σ τ : St) (c : Nat) : Prop := σ 8 c = τ 4 (40 + c) ∧ 1 ≤ σ 8 c ∧ σ 8 c ≤ 99
def Gdg (ρ σ τ : St) : Prop := ∃ f e kd, GJ ρ σ τ f e kd
theorem JSg.up {ρ σ τ : St} {k j l m : Nat} {v w : Int} (hk : 4 ≤ k) (hl : 1 ≤ l ∧ l ≤ 10) (h : JSg ρ σ τ) : JSg ρ (upS σ k j v) (upS τ l m w) := by
  have a : ∀ x, x ≠ k → upS σ k j v x = σ x := fun x hx => upS_k hx
  have b : ∀ x, x ≠ l → upS τ l m w x = τ x := fun x hx => upS_k hx
  unfold JSg BJ BCg GJ CKx RK tpC tpR at *
  rw [a 3 (by omega), a 1 (by omega), b 0 (by omega), b 12 (by omega)]
  exact h
theorem Gdg.up {ρ σ τ : St} {k j l m : Nat} {v w : Int} (hk : 4 ≤ k) (hl : 1 ≤ l ∧ l ≤ 10) : Gdg ρ (upS σ k j v) (upS τ l m w) ↔ Gdg ρ σ τ := by
  have a : ∀ x, x ≠ k → upS σ k j v x = σ x := fun x hx => upS_k hx
  have b : ∀ x, x ≠ l → upS τ l m w x = τ x := fun x hx => upS_k hx
  unfold Gdg GJ CKx RK tpC tpR
  rw [a 3 (by omega), a 1 (by omega), b 0 (by omega), b 12 (by omega)]
theorem BCg.up {ρ σ : St} {k j : Nat} {v : Int} (hk : 4 ≤ k) (h : BCg ρ σ) : BCg ρ (upS σ k j v) := by
  have a : ∀ x, x ≠ k → upS σ k j v x = σ x := fun x hx => upS_k hx
  unfold BCg CKx tpC at *
  rw [a 3 (by omega), a 1 (by omega)]
  exact h
theorem BJ.up {ρ σ τ : St} {k j l m : Nat} {v w : Int} (hk : 4 ≤ k) (hl : 1 ≤ l ∧ l ≤ 10) (h : BJ ρ σ τ) : BJ ρ (upS σ k j v) (upS τ l m w) := by
  have a : ∀ x, x ≠ k → upS σ k j v x = σ x := fun x hx => upS_k hx
  have b : ∀ x, x ≠ l → upS τ l m w x = τ x := fun x hx => upS_k hx
  unfold BJ BCg CKx tpC at *
  rw [a 3 (by omega), a 1 (by omega), b 0 (by omega)]
  exact h
theorem Gdg.ne {ρ σ τ : St} (h : Gdg ρ σ τ) (h2 : BJ ρ σ τ) : False := by
  obtain ⟨f, e, kd, h⟩ := h
  exact h2.1.1 h.2.2.2.2.1
/-- the bad way through the class's end of a rule -/
def SZg (ρ σ σ1 : St) : Prop := BCg ρ σ1 ∧ σ1 3 2 = σ 3 2 ∧ σ1 3 3 = σ 3 3 ∧ FZg σ σ1
theorem SBg.z {ρ σ σ1 : St} (h : SBg ρ σ σ1) : SZg ρ σ σ1 := ⟨h.1, h.2.1, h.2.2.1, h.2.2.2.z⟩
theorem SZg.tr {ρ σ σ1 σ2 : St} (h : SZg ρ σ σ1) (h2 : SZg ρ σ1 σ2) : SZg ρ σ σ2 := ⟨h2.1, h2.2.1.trans h.2.1, h2.2.2.1.trans h.2.2.1, h.2.2.2.tr h2.2.2.2⟩
theorem SZg.up {ρ σ : St} {k j : Nat} {v : Int} (hk : 4 ≤ k ∧ k ≤ 13) (h : BCg ρ σ) : SZg ρ σ (upS σ k j v) := ⟨h.up hk.1, by rw [upS_k (by omega)], by rw [upS_k (by omega)], FZg.up hk⟩
theorem BJ.goz {ρ σ τ σ1 : St} (h : BJ ρ σ τ) (h2 : SZg ρ σ σ1) : BJ ρ σ1 τ := ⟨h2.1, by rw [h2.2.1]; exact h.2.1, by rw [h2.2.2.1]; exact h.2.2⟩
theorem BJ.r {ρ σ τ τ1 : St} (h : BJ ρ σ τ) (e1 : τ1 0 24 = τ 0 24) (e2 : τ1 0 25 = τ 0 25) : BJ ρ σ τ1 := ⟨h.1, by rw [e1]; exact h.2.1, by rw [e2]; exact h.2.2⟩
theorem cb_129 {ρ σ : St} (hT : Wt ρ) {c : Nat} (hc : c < 40) (h : BCg ρ σ) : ∃ σ1, (∀ Q : Int → St → Prop, Q 0 σ1 → wp_X6_readRule_b129 Q (c : Int) σ) ∧ SZg ρ σ σ1 := by
  have hA := h.up (k := 9) (j := c) (v := σ 4 9) (by decide)
  have sA := SZg.up (k := 9) (j := c) (v := σ 4 9) (by decide) h
  obtain ⟨h0, f, e, kd, ht, hk⟩ := id hA
  obtain ⟨r, a1, a2, a3⟩ := g_is_s2 hT ht hk
  by_cases hr : r = 0
  · refine ⟨upS (upS σ 9 c (σ 4 9)) 4 0 (w32 ((c : Int) + 1)), fun Q hq => ?_, sA.tr (SZg.up (by decide) hA)⟩
    unfold wp_X6_readRule_b129 wp_X6_readRule_b181
    refine ⟨by omega, fun σ29 e29 => ?_⟩
    rw [Int.toNat_natCast] at e29
    subst e29
    exact a1 _ ⟨fun _ σ37 e37 => by rw [e37]; exact hq, fun q => absurd hr q⟩
  · obtain ⟨σ1, b1, b2⟩ := cb_adv hT hA
    obtain ⟨σ2, d1, d2⟩ := cb_num hT b2.1 0 (w32 (σ1 4 7 - 1))
    refine ⟨upS (upS σ2 9 c 0) 4 0 (w32 ((c : Int) + 1)), fun Q hq => ?_, sA.tr (b2.z.tr (d2.z.tr ((SZg.up (by decide) d2.1).tr (SZg.up (by decide) (d2.1.up (by decide))))))⟩
    unfold wp_X6_readRule_b129 wp_X6_readRule_b181
    refine ⟨by omega, fun σ29 e29 => ?_⟩
    rw [Int.toNat_natCast] at e29
    subst e29
    refine a1 _ ⟨fun q => absurd q hr, fun _ => b1 _ (d1 _ ⟨by omega, fun σ36 e36 σ37 e37 => ?_⟩)⟩
    rw [e37, e36, Int.toNat_natCast]; exact hq
theorem rb_138 {τ : St} (h : τ 0 24 ≠ 0) {c : Nat} (hc : c < 40) : ∃ τ1, (∀ Q : Int → St → Prop, Q 0 τ1 → wp_X12_readRule_b138 Q ((40 + c : Nat) : Int) τ) ∧ τ1 0 24 = τ 0 24 ∧ τ1 0 25 = τ 0 25 ∧ FWg τ τ1 := by
  refine ⟨upS (upS τ 5 (40 + c) (τ 8 1)) 0 13 (w32 (τ 0 13 + 1)), fun Q hq => ?_, rfl, rfl, (FWg.up (by decide) (by omega)).tr FWg.up0⟩
  unfold wp_X12_readRule_b138 wp_X12_readRule_b182
  refine ⟨by omega, fun σ33 e33 => ?_⟩
  rw [Int.toNat_natCast] at e33
  subst e33
  exact h_isB_s15 (τ := upS τ 5 (40 + c) (τ 8 1)) h _ ⟨fun _ σ41 e41 => by rw [e41]; exact hq, fun q => absurd rfl q⟩
theorem j_129 {ρ σ τ : St} (hT : Wt ρ) {c : Nat} (hc : c < 40) (h0 : τ 0 13 = c) (h : JSg ρ σ τ) (hd : Gdg ρ σ τ → DEg σ τ c ∧ PRh σ τ c ∧ PRl σ τ c ∧ PRr σ τ c ∧ PRp σ τ c) : ∃ σ1 τ1 : St, (∀ Q : Int → St → Prop, Q 0 σ1 → wp_X6_readRule_b129 Q (c : Int) σ) ∧ (∀ Q : Int → St → Prop, Q 0 τ1 → wp_X12_readRule_b138 Q ((40 + c : Nat) : Int) τ) ∧ ((Gdg ρ σ1 τ1 ∧ DEg σ1 τ1 (c + 1) ∧ σ1 4 0 = ((c + 1 : Nat) : Int) ∧ τ1 0 13 = ((c + 1 : Nat) : Int)) ∨ BJ ρ σ1 τ1) ∧ FZg σ σ1 ∧ FWg τ τ1 := by
  have bad : BJ ρ σ τ → ∃ σ1 τ1 : St, (∀ Q : Int → St → Prop, Q 0 σ1 → wp_X6_readRule_b129 Q (c : Int) σ) ∧ (∀ Q : Int → St → Prop, Q 0 τ1 → wp_X12_readRule_b138 Q ((40 + c : Nat) : Int) τ) ∧ ((Gdg ρ σ1 τ1 ∧ DEg σ1 τ1 (c + 1) ∧ σ1 4 0 = ((c + 1 : Nat) : Int) ∧ τ1 0 13 = ((c + 1 : Nat) : Int)) ∨ BJ ρ σ1 τ1) ∧ FZg σ σ1 ∧ FWg τ τ1 := by
    intro hb
    obtain ⟨σ1, a1, a2⟩ := cb_129 hT hc hb.1
    obtain ⟨τ1, b1, b2, b3, b4⟩ := rb_138 hb.ne hc
    exact ⟨σ1, τ1, a1, b1, Or.inr ((hb.goz a2).r b2 b3), a2.2.2.2, b4⟩
  rcases h with hgd | hb
  rotate_left
  · exact bad hb
  obtain ⟨hD, pH, pL, pR, pP⟩ := hd hgd
  have hB := hD.1
  have e9 : σ 4 9 = τ 8 1 := hB.2.2.1
  -- after the element's default
  have hgA : Gdg ρ (upS σ 9 c (σ 4 9)) (upS τ 5 (40 + c) (τ 8 1)) := (Gdg.up (by decide) (by decide)).2 hgd
  have hDA : DEg (upS σ 9 c (σ 4 9)) (upS τ 5 (40 + c) (τ 8 1)) c := hD.put (by decide) (by decide)
  have fin : ∀ σ' τ' : St, Gdg ρ σ' τ' → DEg σ' τ' c → PRh σ' τ' c → PRl σ' τ' c → PRr σ' τ' c → PRp σ' τ' c → (σ' 9 c = τ' 5 (40 + c) ∧ 0 ≤ σ' 9 c ∧ σ' 9 c < σ' 4 7) → τ' 0 13 = c → (Gdg ρ (upS σ' 4 0 (w32 ((c : Int) + 1))) (upS τ' 0 13 (w32 (τ' 0 13 + 1))) ∧ DEg (upS σ' 4 0 (w32 ((c : Int) + 1))) (upS τ' 0 13 (w32 (τ' 0 13 + 1))) (c + 1) ∧ upS σ' 4 0 (w32 ((c : Int) + 1)) 4 0 = ((c + 1 : Nat) : Int) ∧ upS τ' 0 13 (w32 (τ' 0 13 + 1)) 0 13 = ((c + 1 : Nat) : Int)) := by
    intro σ' τ' g1 g2 g3 g4 g5 g6 g7 g8
    refine ⟨?_, ⟨?_, fun r hr => ?_⟩, ?_, ?_⟩
    · exact g1
    · exact g2.1
    · by_cases e : r = c
      · subst e
        exact ⟨g3.1, g4.1, g5.1, g6.1, g7.1, g3.2, g4.2, g5.2, g6.2, g7.2⟩
      · exact g2.2 r (by omega)
    · rw [upS_s, w32_of (by omega) (by omega)]; omega
    · rw [upS_s, g8, w32_of (by omega) (by omega)]; omega
  obtain ⟨f, e, kd, hG⟩ := id hgA
  obtain ⟨r, a1, a2, a3, -⟩ := j_is_s2 hT hG.1 hG.2.1 hG.2.2.1 hG.2.2.2.2.2.1
  by_cases hr : r = 0
  · refine ⟨_, _, fun Q hq => ?_, fun Q hq => ?_, Or.inl (fin _ _ hgA hDA pH pL pR pP ⟨?_, ?_⟩ h0), (FZg.up (by decide)).tr (FZg.up (by decide)), (FWg.up (by decide) (by omega)).tr FWg.up0⟩
    · unfold wp_X6_readRule_b129 wp_X6_readRule_b181
      refine ⟨by omega, fun σ29 e29 => ?_⟩
      rw [Int.toNat_natCast] at e29
      subst e29
      exact a1 _ ⟨fun _ σ37 e37 => by rw [e37]; exact hq, fun q => absurd hr q⟩
    · unfold wp_X12_readRule_b138 wp_X12_readRule_b182
      refine ⟨by omega, fun σ33 e33 => ?_⟩
      rw [Int.toNat_natCast] at e33
      subst e33
      exact a2 _ ⟨fun _ σ41 e41 => by rw [e41]; exact hq, fun q => absurd hr q⟩
    · rw [upS_s, upS_s]; exact e9
    · rw [upS_s]; exact hB.2.2.2.2.2.1
  · obtain ⟨σ1, τ1, b1, b2, b3, b4, b5⟩ := j_adv hT hG
    have hB1 : DEg σ1 τ1 c := hDA.fr (by omega) b4 b5
    have eb : σ1 4 7 = τ1 6 1 := hB1.1.1
    obtain ⟨v, w, σ2, τ2, d1, d2, d3, d4, d5⟩ := j_num hT (lo := 0) (hi := w32 (σ1 4 7 - 1)) (σ := σ1) (τ := τ1) ⟨by decide, by have := hB1.1.2.2.2.1; rw [w32_of (by omega) (by omega)]; omega⟩ (by obtain ⟨f1, e1, kd1, b3, -⟩ := b3; exact Or.inl ⟨f1, e1, kd1, b3⟩)
    have r3 : τ2 0 13 = c := by rw [d5.2 13 (by decide), b5.2 13 (by decide)]; exact h0
    have hc1 : ∀ Q : Int → St → Prop, Q 0 (upS (upS σ2 9 c v) 4 0 (w32 ((c : Int) + 1))) → wp_X6_readRule_b129 Q (c : Int) σ := by
      intro Q hq
      unfold wp_X6_readRule_b129 wp_X6_readRule_b181
      refine ⟨by omega, fun σ29 e29 => ?_⟩
      rw [Int.toNat_natCast] at e29
      subst e29
      refine a1 _ ⟨fun q => absurd q hr, fun _ => b1 _ (d1 _ ⟨by omega, fun σ36 e36 σ37 e37 => ?_⟩)⟩
      rw [e37, e36, Int.toNat_natCast]; exact hq
    have hc2 : ∀ Q : Int → St → Prop, Q 0 (upS (upS τ2 5 (40 + c) w) 0 13 (w32 (τ2 0 13 + 1))) → wp_X12_readRule_b138 Q ((40 + c : Nat) : Int) τ := by
      intro Q hq
      unfold wp_X12_readRule_b138 wp_X12_readRule_b182
      refine ⟨by omega, fun σ33 e33 => ?_⟩
      rw [Int.toNat_natCast] at e33
      subst e33
      refine a2 _ ⟨fun q => absurd q hr, fun _ => b2 _ ?_⟩
      have e6 : τ1 6 (Int.toNat 1) = σ1 4 7 := eb.symm
      rw [e6]
      refine d2 _ ⟨by omega, fun σ40 e40 σ41 e41 => ?_⟩
      rw [e41, e40, Int.toNat_natCast]; exact hq
    have f1 : FZg σ (upS (upS σ2 9 c v) 4 0 (w32 ((c : Int) + 1))) := (FZg.up (by decide)).tr (b4.z.tr (d4.z.tr ((FZg.up (by decide)).tr (FZg.up (by decide)))))
    have f2 : FWg τ (upS (upS τ2 5 (40 + c) w) 0 13 (w32 (τ2 0 13 + 1))) := (FWg.up (by decide) (by omega)).tr (b5.w.tr (d5.w.tr ((FWg.up (by decide) (by omega)).tr FWg.up0)))
    refine ⟨_, _, hc1, hc2, ?_, f1, f2⟩
    rcases d3 with ⟨g1, g2, g3, g4⟩ | ⟨g1, -, -⟩
    · left
      have hD2 : DEg σ2 τ2 c := hB1.fr (by omega) d4 d5
      have fr1 : ∀ k, k ≠ 3 → k ≠ 9 → σ2 k = σ k := fun k h1 h2 => by rw [d4.1 k h1, b4.1 k h1, upS_k h2]
      have fr2 : ∀ k, k ≠ 0 → k ≠ 5 → τ2 k = τ k := fun k h1 h2 => by rw [d5.1 k h1, b5.1 k h1, upS_k h2]
      have e4 : σ2 4 7 = σ1 4 7 := by rw [d4.1 4 (by decide)]
      refine fin _ _ ((Gdg.up (by decide) (by decide)).2 g1) (hD2.put (by decide) (by decide)) ?_ ?_ ?_ ?_ ⟨?_, ?_⟩ r3
      · show σ2 5 c = τ2 1 (40 + c) ∧ _
        rw [fr1 5 (by decide) (by decide), fr2 1 (by decide) (by decide)]; exact ⟨pH.1, by show 0 ≤ σ2 5 c ∧ σ2 5 c < 12; rw [fr1 5 (by decide) (by decide)]; exact pH.2⟩
      · show σ2 6 c = τ2 2 (40 + c) ∧ isPart (σ2 6 c)
        rw [fr1 6 (by decide) (by decide), fr2 2 (by decide) (by decide)]; exact pL
      · show σ2 7 c = τ2 3 (40 + c) ∧ (σ2 7 c = -1 ∨ isPart (σ2 7 c))
        rw [fr1 7 (by decide) (by decide), fr2 3 (by decide) (by decide)]; exact pR
      · show σ2 8 c = τ2 4 (40 + c) ∧ (1 ≤ σ2 8 c ∧ σ2 8 c ≤ 99)
        rw [fr1 8 (by decide) (by decide), fr2 4 (by decide) (by decide)]; exact pP
      · rw [upS_s, upS_s]; exact g2
      · rw [upS_s]
        have : upS σ2 9 c v 4 7 = σ2 4 7 := rfl
        rw [this, e4]
        have hb7 := hB1.1.2.2.2.1
        rw [w32_of (by omega) (by omega)] at g4
        omega
    · right
      exact g1.up (k := 9) (j := c) (v := v) (l := 5) (m := 40 + c) (w := w) (by decide) (by decide)
theorem Gdg.back {ρ σ τ σ1 τ1 : St} (h : JSg ρ σ τ) (f : FXg σ σ1) (hg : Gdg ρ σ1 τ1) : Gdg ρ σ τ := by
  rcases h with h | h
  · exact h
  · obtain ⟨x, y, z, hG⟩ := hg
    exact absurd hG.2.2.2.2.1 (f.2.2 h.1.1)
