/-! the whole text, and what grammar does with it -/
def Tend (ρ σ τ : St) : Prop := (Gdg ρ σ τ ∧ ∃ c : Nat, c ≤ 40 ∧ DEg σ τ c ∧ σ 4 0 = c ∧ τ 0 13 = c) ∨ BJ ρ σ τ
theorem j_lines {ρ : St} (hT : Wt ρ) : ∀ (d l : Nat) (σ τ : St), (l : Int) + d = ρ 0 0 + 1 → (((∃ (f e : Nat) (kd : Int), GJ ρ σ τ f e kd ∧ (kd = 0 ∨ l < e)) ∧ ∃ c : Nat, c ≤ 40 ∧ DEg σ τ c ∧ σ 4 0 = c ∧ τ 0 13 = c ∧ (l = 0 → c = 0)) ∨ (BJ ρ σ τ ∧ (l : Int) ≤ ρ 0 0 + 1)) → ∃ σ1 τ1 : St, (∀ (Q : Int → St → Prop) (n : Nat), d < n → Q 0 σ1 → wp_X6_read_l33 Q n (l : Int) σ) ∧ (∀ (Q : Int → St → Prop) (n : Nat), d < n → wp_X12_grammar_b176 Q τ1 → wp_X12_grammar_l110 Q n (if l = 0 then 1 else 0) τ) ∧ Tend ρ σ1 τ1 ∧ FZg σ σ1 ∧ FWg τ τ1 := by
  have h1000 := hT.2.1
  intro d
  induction d with
  | zero =>
    intro l σ τ hd h
    rcases h with ⟨⟨f, e, kd, hG, hp⟩, hc⟩ | ⟨hb, -⟩
    · obtain ⟨c, c1, c2, c3, c4, -⟩ := hc
      have hle := hG.1.2.1
      have hk0 : kd = 0 := by
        rcases hp with h | h
        · exact h
        · omega
      subst hk0
      obtain ⟨tk2, tk1, tk0, tk3⟩ := hG.2.2.1.tok hG.1
      refine ⟨σ, τ, fun Q n hn h => ?_, fun Q n hn h => ?_, Or.inl ⟨⟨f, e, 0, hG⟩, c, c1, c2, c3, c4⟩, FZg.rf, FWg.rf⟩
      · obtain ⟨n, rfl⟩ := suc_n hn
        unfold wp_X6_read_l33
        exact ⟨fun _ => h, fun _ => ⟨fun _ => h, fun q => absurd hG.2.1.2.1 q⟩⟩
      · obtain ⟨n, rfl⟩ := suc_n hn
        unfold wp_X12_grammar_l110
        exact h_goodG hG.2.2.2.2.2.1 ⟨fun q => absurd q (by decide), fun _ => ⟨fun _ => h, fun q => absurd (tk0.2 rfl) q⟩⟩
    · refine ⟨σ, τ, fun Q n hn h => ?_, fun Q n hn h => ?_, Or.inr hb, FZg.rf, FWg.rf⟩
      · obtain ⟨n, rfl⟩ := suc_n hn
        unfold wp_X6_read_l33
        exact ⟨fun _ => h, fun _ => ⟨fun _ => h, fun _ => ⟨fun _ => h, fun q => absurd hb.1.1 q⟩⟩⟩
      · obtain ⟨n, rfl⟩ := suc_n hn
        unfold wp_X12_grammar_l110
        exact h_goodB hb.ne ⟨fun _ => h, fun q => absurd rfl q⟩
  | succ d ih =>
    intro l σ τ hd h
    rcases h with ⟨⟨f, e, kd, hG, hp⟩, hc⟩ | ⟨hb, -⟩
    rotate_left
    · refine ⟨σ, τ, fun Q n hn h => ?_, fun Q n hn h => ?_, Or.inr hb, FZg.rf, FWg.rf⟩
      · obtain ⟨n, rfl⟩ := suc_n hn
        unfold wp_X6_read_l33
        exact ⟨fun _ => h, fun _ => ⟨fun _ => h, fun _ => ⟨fun _ => h, fun q => absurd hb.1.1 q⟩⟩⟩
      · obtain ⟨n, rfl⟩ := suc_n hn
        unfold wp_X12_grammar_l110
        exact h_goodB hb.ne ⟨fun _ => h, fun q => absurd rfl q⟩
    obtain ⟨c, c1, c2, c3, c4, c5⟩ := hc
    have hle := hG.1.2.1
    obtain ⟨tk2, tk1, tk0, tk3⟩ := hG.2.2.1.tok hG.1
    by_cases hk0 : kd = 0
    · subst hk0
      refine ⟨σ, τ, fun Q n hn h => ?_, fun Q n hn h => ?_, Or.inl ⟨⟨f, e, 0, hG⟩, c, c1, c2, c3, c4⟩, FZg.rf, FWg.rf⟩
      · obtain ⟨n, rfl⟩ := suc_n hn
        unfold wp_X6_read_l33
        exact ⟨fun _ => h, fun _ => ⟨fun _ => h, fun q => absurd hG.2.1.2.1 q⟩⟩
      · obtain ⟨n, rfl⟩ := suc_n hn
        unfold wp_X12_grammar_l110
        exact h_goodG hG.2.2.2.2.2.1 ⟨fun q => absurd q (by decide), fun _ => ⟨fun _ => h, fun q => absurd (tk0.2 rfl) q⟩⟩
    have hlt : l < e := by
      rcases hp with h | h
      · exact absurd h hk0
      · exact h
    have h7 : σ 3 7 = e := hG.2.1.2.2.2.1
    -- what stands behind a line's body
    have tail : ∀ σ1 τ1 : St, ((Gdg ρ σ1 τ1 ∧ ∃ c : Nat, c ≤ 40 ∧ DEg σ1 τ1 c ∧ σ1 4 0 = c ∧ τ1 0 13 = c) ∨ BJ ρ σ1 τ1) → FZg σ σ1 → FWg τ τ1 → ∃ σ2 τ2 : St, (∀ (Q : Int → St → Prop) (n : Nat), d < n → Q 0 σ2 → wp_X6_read_b96 Q (wp_X6_read_l33 Q n) (l : Int) σ1) ∧ (∀ (Q : Int → St → Prop) (n : Nat), d < n → wp_X12_grammar_b176 Q τ2 → wp_X12_grammar_b165 Q (wp_X12_grammar_l110 Q n) τ1) ∧ Tend ρ σ2 τ2 ∧ FZg σ σ2 ∧ FWg τ τ2 := by
      intro σ1 τ1 hj f1 f2
      have jj : JSg ρ σ1 τ1 := by
        rcases hj with ⟨g, -⟩ | g
        · exact Or.inl g
        · exact Or.inr g
      obtain ⟨σ2, τ2, a1, a2, a3, a4, a5⟩ := j_sign hT (c := 59) (Or.inr rfl) jj
      obtain ⟨σ3, τ3, b1, b2, b3, b4, b5⟩ := ih (l + 1) σ2 τ2 (by push_cast at hd ⊢; omega) (by
        rcases a3 with ⟨fx, ex, kx, gx, g, hfx⟩ | gx
        · left
          rcases hj with ⟨-, c', d1, d2, d3, d4⟩ | g2
          · refine ⟨⟨fx, ex, kx, gx, ?_⟩, c', d1, d2.fr d1 a4 a5, ?_, ?_, fun q => by omega⟩
            · have := f1.2.1
              rcases gx.1.2.2 with ⟨q, -⟩ | ⟨q, q2, -⟩ | ⟨q, q2⟩ | ⟨q, q2⟩
              · exact Or.inl q
              · right; omega
              · right; omega
              · right; omega
            · rw [a4.1 4 (by decide)]; exact d3
            · rw [a5.2 13 (by decide)]; exact d4
          · obtain ⟨x, y, z, hx⟩ := g
            exact absurd hx.2.2.2.2.1 g2.1.1
        · exact Or.inr ⟨gx, by push_cast; omega⟩)
      refine ⟨σ3, τ3, fun Q n hn h => ?_, fun Q n hn h => ?_, b3, f1.tr (a4.z.tr b4), f2.tr (a5.w.tr b5)⟩
      · unfold wp_X6_read_b96
        refine a1 _ (fun v e => ?_)
        rw [w32_of (by omega) (by omega), show (l : Int) + 1 = ((l + 1 : Nat) : Int) by omega] at e
        rw [e]; exact b1 Q n hn h
      · unfold wp_X12_grammar_b165
        refine a2 _ ?_
        have := b2 Q n hn h
        rw [if_neg (by omega)] at this
        exact this
    have clH : ∀ (Q : Int → St → Prop) (n : Nat), wp_X6_isWord_s0 σ (fun r9 σ10 => ((r9 = 0) → (((l : Int) ≠ 0) → wp_X6_read_b91 Q (wp_X6_read_l33 Q n) (l : Int) σ10) ∧ (¬ ((l : Int) ≠ 0) → wp_X6_isWord_s3 σ10 (fun r11 σ12 => ((r11 = 0) → wp_X6_read_b91 Q (wp_X6_read_l33 Q n) (l : Int) σ12) ∧ (¬ (r11 = 0) → wp_X6_readTable σ12 (fun r13 σ14 => wp_X6_read_b96 Q (wp_X6_read_l33 Q n) (l : Int) σ14))))) ∧ (¬ (r9 = 0) → wp_X6_readRule σ10 (fun r15 σ16 => wp_X6_read_b96 Q (wp_X6_read_l33 Q n) (l : Int) σ16))) → wp_X6_read_l33 Q (n + 1) (l : Int) σ := by
      intro Q n h
      unfold wp_X6_read_l33
      refine ⟨fun q => ?_, fun _ => ⟨fun q => absurd (hG.2.1.2.1.symm.trans q) hk0, fun _ => ⟨fun q => absurd hG.2.2.2.2.1 q, fun _ => h⟩⟩⟩
      rw [hG.2.1.1] at q; omega
    have rlH : ∀ (Q : Int → St → Prop) (n : Nat), ((((if l = 0 then 1 else 0 : Int)) = 0) → wp_X12_grammar_b144 Q (wp_X12_grammar_l110 Q n) τ) ∧ (¬ (((if l = 0 then 1 else 0 : Int)) = 0) → wp_X12_is_s8 τ (fun r14 σ15 => ((r14 = 0) → wp_X12_grammar_b144 Q (wp_X12_grammar_l110 Q n) σ15) ∧ (¬ (r14 = 0) → wp_X12_readTable σ15 (fun r16 σ17 => wp_X12_grammar_b165 Q (wp_X12_grammar_l110 Q n) σ17)))) → wp_X12_grammar_l110 Q (n + 1) (if l = 0 then 1 else 0) τ := by
      intro Q n h
      unfold wp_X12_grammar_l110
      exact h_goodG hG.2.2.2.2.2.1 ⟨fun q => absurd q (by decide), fun _ => ⟨fun q => absurd (tk0.1 q) hk0, fun _ => h⟩⟩
    obtain ⟨r0, a1, a2, a3⟩ := g_is_s0 hT hG.1 hG.2.1
    obtain ⟨r13, b1, b2, b3⟩ := h_is_s13 hT hG.1 hG.2.2.1 hG.2.2.2.2.2.1
    obtain ⟨r3, d1, d2, d3⟩ := g_is_s3 hT hG.1 hG.2.1
    obtain ⟨r8, e1, e2, e3⟩ := h_is_s8 hT hG.1 hG.2.2.1 hG.2.2.2.2.2.1
    rw [← str_0_13] at b3
    rw [← str_3_8] at e3
    have e013 : r13 = r0 := by
      have : r0 ≠ 0 ↔ r13 ≠ 0 := a3.trans b3.symm
      omega
    have e38 : r8 = r3 := by
      have : r3 ≠ 0 ↔ r8 ≠ 0 := d3.trans e3.symm
      omega
    have exc : r0 ≠ 0 → r3 = 0 := fun q => Classical.byContradiction fun q2 => by
      have := (a3.1 q).2.1; have := (d3.1 q2).2.1; omega
    subst e013 e38
    by_cases hr0 : r13 = 0
    · by_cases hl0 : l = 0
      · by_cases hr3 : r8 = 0
        · -- neither word
          obtain ⟨σ1, τ1, u1, u2, u3, u4, u5⟩ := j_fail hG (x := 1) (by decide)
          obtain ⟨σ2, τ2, t1, t2, t3, t4, t5⟩ := tail σ1 τ1 (Or.inr u3) u4.z u5.w
          refine ⟨σ2, τ2, fun Q n hn h => ?_, fun Q n hn h => ?_, t3, t4, t5⟩
          · obtain ⟨n, rfl⟩ := suc_n hn
            unfold wp_X6_read_b91 at clH
            exact clH Q n (a1 _ ⟨fun _ => ⟨fun _ => u1 _ (t1 Q n (by omega) h), fun _ => d1 _ ⟨fun _ => u1 _ (t1 Q n (by omega) h), fun q => absurd hr3 q⟩⟩, fun q => absurd hr0 q⟩)
          · obtain ⟨n, rfl⟩ := suc_n hn
            have b144 : wp_X12_grammar_b144 Q (wp_X12_grammar_l110 Q n) τ := by
              unfold wp_X12_grammar_b144
              exact b1 _ ⟨fun _ => u2 _ (t2 Q n (by omega) h), fun q => absurd hr0 q⟩
            exact rlH Q n ⟨fun _ => b144, fun _ => e1 _ ⟨fun _ => b144, fun q => absurd hr3 q⟩⟩
        · -- a table
          have hc0 := c5 hl0
          subst hc0
          obtain ⟨σ1, τ1, u1, u2, u3, u4, u5⟩ := j_tableD hT ⟨f, e, kd, hG⟩ c3 c4
          obtain ⟨σ2, τ2, t1, t2, t3, t4, t5⟩ := tail σ1 τ1 (by
            rcases u3 with ⟨g1, g2, g3, g4⟩ | g
            · exact Or.inl ⟨g1, 0, by omega, g2, g3, g4⟩
            · exact Or.inr g) u4 u5
          refine ⟨σ2, τ2, fun Q n hn h => ?_, fun Q n hn h => ?_, t3, t4, t5⟩
          · obtain ⟨n, rfl⟩ := suc_n hn
            exact clH Q n (a1 _ ⟨fun _ => ⟨fun q => absurd (by omega) q, fun _ => d1 _ ⟨fun q => absurd q hr3, fun _ => u1 _ (t1 Q n (by omega) h)⟩⟩, fun q => absurd hr0 q⟩)
          · obtain ⟨n, rfl⟩ := suc_n hn
            refine rlH Q n ⟨fun q => absurd q (by rw [if_pos hl0]; decide), fun _ => e1 _ ⟨fun q => absurd q hr3, fun _ => u2 _ (t2 Q n (by omega) h)⟩⟩
      · obtain ⟨σ1, τ1, u1, u2, u3, u4, u5⟩ := j_fail hG (x := 1) (by decide)
        obtain ⟨σ2, τ2, t1, t2, t3, t4, t5⟩ := tail σ1 τ1 (Or.inr u3) u4.z u5.w
        refine ⟨σ2, τ2, fun Q n hn h => ?_, fun Q n hn h => ?_, t3, t4, t5⟩
        · obtain ⟨n, rfl⟩ := suc_n hn
          unfold wp_X6_read_b91 at clH
          exact clH Q n (a1 _ ⟨fun _ => ⟨fun _ => u1 _ (t1 Q n (by omega) h), fun q => absurd (by omega) q⟩, fun q => absurd hr0 q⟩)
        · obtain ⟨n, rfl⟩ := suc_n hn
          refine rlH Q n ⟨fun _ => ?_, fun q => absurd (by rw [if_neg hl0]) q⟩
          unfold wp_X12_grammar_b144
          exact b1 _ ⟨fun _ => u2 _ (t2 Q n (by omega) h), fun q => absurd hr0 q⟩
    · have hr3 := exc hr0
      obtain ⟨σ1, τ1, u1, u2, u3, u4, u5⟩ := j_rule hT c1 c3 c4 ⟨f, e, kd, hG⟩ c2
      obtain ⟨σ2, τ2, t1, t2, t3, t4, t5⟩ := tail σ1 τ1 (by
        rcases u3 with g | ⟨hlt40, g | g⟩
        · exact Or.inr g
        · exact Or.inl ⟨g.1, c + 1, by omega, g.2⟩
        · exact Or.inr g) u4 u5
      refine ⟨σ2, τ2, fun Q n hn h => ?_, fun Q n hn h => ?_, t3, t4, t5⟩
      · obtain ⟨n, rfl⟩ := suc_n hn
        exact clH Q n (a1 _ ⟨fun q => absurd q hr0, fun _ => u1 _ (t1 Q n (by omega) h)⟩)
      · obtain ⟨n, rfl⟩ := suc_n hn
        have b144 : wp_X12_grammar_b144 Q (wp_X12_grammar_l110 Q n) τ := by
          unfold wp_X12_grammar_b144
          exact b1 _ ⟨fun q => absurd q hr0, fun _ => u2 _ (t2 Q n (by omega) h)⟩
        exact rlH Q n ⟨fun _ => b144, fun _ => e1 _ ⟨fun _ => b144, fun q => absurd hr3 q⟩⟩
/-- the start: empty drafts -/
theorem g_clear : ∀ (d k : Nat) (σ : St), k + d = 4 → (∀ j, j < k → σ 11 j = (if j = 0 then 0 else 1) ∧ σ 12 j = (if j = 3 then 1 else 0)) → ∃ σ1 : St, (∀ (Q : Int → St → Prop) (n : Nat), d < n → Q 0 σ1 → wp_X4_clear_d_l22 Q n (k : Int) σ) ∧ (∀ j, j < 4 → σ1 11 j = (if j = 0 then 0 else 1) ∧ σ1 12 j = (if j = 3 then 1 else 0)) ∧ ∀ a, a ≠ 11 → a ≠ 12 → σ1 a = σ a := by
  intro d
  induction d with
  | zero =>
    intro k σ hk h
    refine ⟨σ, fun Q n hn hq => ?_, fun j hj => h j (by omega), fun _ _ _ => rfl⟩
    obtain ⟨n, rfl⟩ := suc_n hn
    unfold wp_X4_clear_d_l22
    exact ⟨fun _ => hq, fun q => absurd (by omega) q⟩
  | succ d ih =>
    intro k σ hk h
    obtain ⟨σ1, a1, a2, a3⟩ := ih (k + 1) (upS (upS σ 11 k (if k = 0 then 0 else 1)) 12 k (if k = 3 then 1 else 0)) (by omega) (fun j hj => by
      by_cases e : j = k
      · subst e; rw [upS_k (by decide), upS_s, upS_s]; exact ⟨rfl, rfl⟩
      · rw [upS_k (by decide), upS_j e, upS_j e, upS_k (by decide)]; exact h j (by omega))
    refine ⟨σ1, fun Q n hn hq => ?_, a2, fun a h1 h2 => by rw [a3 a h1 h2, upS_k h2, upS_k h1]⟩
    obtain ⟨n, rfl⟩ := suc_n hn
    have go := a1 Q n (by omega) hq
    unfold wp_X4_clear_d_l22 wp_X4_clear_d_b41 wp_X4_clear_d_b57
    rw [Int.toNat_natCast, w32_of (x := (k : Int) + 1) (by omega) (by omega), show (k : Int) + 1 = ((k + 1 : Nat) : Int) by omega]
    refine ⟨fun q => absurd q (by omega), fun _ => ⟨fun q => ⟨by omega, fun σ5 e5 => ⟨fun q2 => ⟨by omega, fun σ6 e6 v7 e7 => ?_⟩, fun q2 => ⟨by omega, fun σ6 e6 v7 e7 => ?_⟩⟩⟩, fun q => ⟨by omega, fun σ5 e5 => ⟨fun q2 => ⟨by omega, fun σ6 e6 v7 e7 => ?_⟩, fun q2 => ⟨by omega, fun σ6 e6 v7 e7 => ?_⟩⟩⟩⟩⟩
    · rw [e7, e6, e5]; rw [if_neg (by omega), if_neg (by omega)] at go; exact go
    · rw [e7, e6, e5]; rw [if_neg (by omega), if_pos (by omega)] at go; exact go
    · rw [e7, e6, e5]; rw [if_pos (by omega), if_neg (by omega)] at go; exact go
    · omega
theorem h_clear : ∀ (d k : Nat) (τ : St), k + d = 4 → (∀ j, j < k → τ 9 (25 + j) = (if j = 0 then 0 else 1) ∧ τ 10 (25 + j) = (if j = 3 then 1 else 0)) → ∃ τ1 : St, (∀ (Q : Int → St → Prop) (n : Nat), d < n → wp_X12_advance τ1 (fun _ σ11 => wp_X12_grammar_l110 Q bigN 1 σ11) → wp_X12_grammar_l56 Q n (k : Int) τ) ∧ (∀ j, j < 4 → τ1 9 (25 + j) = (if j = 0 then 0 else 1) ∧ τ1 10 (25 + j) = (if j = 3 then 1 else 0)) ∧ (∀ a, a ≠ 9 → a ≠ 10 → τ1 a = τ a) ∧ FWg τ τ1 := by
  intro d
  induction d with
  | zero =>
    intro k τ hk h
    refine ⟨τ, fun Q n hn hq => ?_, fun j hj => h j (by omega), fun _ _ _ => rfl, FWg.rf⟩
    obtain ⟨n, rfl⟩ := suc_n hn
    unfold wp_X12_grammar_l56
    exact ⟨fun _ => hq, fun q => absurd (by omega) q⟩
  | succ d ih =>
    intro k τ hk h
    obtain ⟨τ1, a1, a2, a3, a4⟩ := ih (k + 1) (upS (upS τ 9 (25 + k) (if k = 0 then 0 else 1)) 10 (25 + k) (if k = 3 then 1 else 0)) (by omega) (fun j hj => by
      by_cases e : j = k
      · subst e; rw [upS_k (by decide), upS_s, upS_s]; exact ⟨rfl, rfl⟩
      · rw [upS_k (by decide), upS_j (by omega), upS_j (by omega), upS_k (by decide)]; exact h j (by omega))
    refine ⟨τ1, fun Q n hn hq => ?_, a2, fun a h1 h2 => by rw [a3 a h1 h2, upS_k h2, upS_k h1], ((FWg.up2 (by decide) (by omega)).tr (FWg.up2 (by decide) (by omega))).tr a4⟩
    obtain ⟨n, rfl⟩ := suc_n hn
    have go := a1 Q n (by omega) hq
    unfold wp_X12_grammar_l56 wp_X12_grammar_b78 wp_X12_grammar_b97
    rw [w32_of (x := (k : Int) + 1) (by omega) (by omega), show (k : Int) + 1 = ((k + 1 : Nat) : Int) by omega, w32_of (x := 25 + (k : Int)) (by omega) (by omega), show (25 + (k : Int)).toNat = 25 + k by omega]
    refine ⟨fun q => absurd q (by omega), fun _ => ⟨fun q => ⟨by omega, fun σ5 e5 => ⟨fun q2 => ⟨by omega, fun σ6 e6 v7 e7 => ?_⟩, fun q2 => ⟨by omega, fun σ6 e6 v7 e7 => ?_⟩⟩⟩, fun q => ⟨by omega, fun σ5 e5 => ⟨fun q2 => ⟨by omega, fun σ6 e6 v7 e7 => ?_⟩, fun q2 => ⟨by omega, fun σ6 e6 v7 e7 => ?_⟩⟩⟩⟩⟩
    · rw [e7, e6, e5]; rw [if_pos (by omega), if_neg (by omega)] at go; exact go
    · omega
    · rw [e7, e6, e5]; rw [if_neg (by omega), if_neg (by omega)] at go; exact go
    · rw [e7, e6, e5]; rw [if_neg (by omega), if_pos (by omega)] at go; exact go
theorem j_read {ρ σ τ : St} (hW : WW ρ) (hVC : VC σ ρ) (hVR : VR τ ρ) : ∃ σ1 τ1 : St, (∀ Q : Int → St → Prop, Q 0 σ1 → wp_X6_read (σ 0 1) σ Q) ∧ (∀ Q : Int → St → Prop, wp_X12_grammar_b176 Q τ1 → wp_X12_grammar τ Q) ∧ Tend ρ σ1 τ1 ∧ (∀ k, (k < 3 ∨ 13 < k) → σ1 k = σ k) ∧ FWg (upS (upS τ 0 19 (τ 0 17)) 0 17 0) τ1 := by
  have hT := hW.1
  obtain ⟨⟨t1, t2⟩, vo, vf, vg, vb, vs⟩ := hVC
  obtain ⟨⟨u1, u2⟩, uo, uf, ug, ub, us⟩ := hVR
  -- the class's start
  obtain ⟨σ6, a1, a2, a3⟩ := g_clear 4 0 (upS (upS (upS (upS (upS (upS (upS (upS σ 3 4 (σ 0 1)) 3 7 0) 3 2 0) 3 3 (-1)) 4 0 0) 4 7 2) 4 8 0) 4 9 1) (by omega) (fun j hj => by omega)
  have s3 : ∀ j, σ6 3 j = upS (upS (upS (upS σ 3 4 (σ 0 1)) 3 7 0) 3 2 0) 3 3 (-1) 3 j := fun j => by rw [a3 3 (by decide) (by decide)]; rfl
  have s4 : ∀ j, σ6 4 j = upS (upS (upS (upS σ 4 0 0) 4 7 2) 4 8 0) 4 9 1 4 j := fun j => by rw [a3 4 (by decide) (by decide)]; rfl
  have so : ∀ k, k ≠ 3 → k ≠ 4 → k ≠ 11 → k ≠ 12 → σ6 k = σ k := fun k h1 h2 h3 h4 => by rw [a3 k h3 h4, upS_k h2, upS_k h2, upS_k h2, upS_k h2, upS_k h1, upS_k h1, upS_k h1, upS_k h1]
  have c34 : σ6 3 4 = ρ 0 0 := by rw [s3]; rw [upS_j (by decide), upS_j (by decide), upS_j (by decide), upS_s]; exact t1
  have c37 : σ6 3 7 = ((0 : Nat) : Int) := by rw [s3]; rw [upS_j (by decide), upS_j (by decide), upS_s]; rfl
  have c32 : σ6 3 2 = 0 := by rw [s3]; rw [upS_j (by decide), upS_s]
  have c33 : σ6 3 3 = -1 := by rw [s3]; rw [upS_s]
  have ct : tpC ρ σ6 := fun j hj => by rw [so 1 (by decide) (by decide) (by decide) (by decide)]; exact t2 j hj
  -- the reference's
  obtain ⟨τ9, b1, b2, b3, b4⟩ := h_clear 4 0 (upS (upS (upS (upS (upS (upS (upS (upS (upS τ 0 19 (τ 0 17)) 0 17 0) 0 20 0) 0 24 0) 0 25 (-1)) 0 13 0) 6 1 2) 7 1 0) 8 1 1) (by omega) (fun j hj => by omega)
  have r0 : ∀ j, τ9 0 j = upS (upS (upS (upS (upS (upS τ 0 19 (τ 0 17)) 0 17 0) 0 20 0) 0 24 0) 0 25 (-1)) 0 13 0 0 j := fun j => by rw [b3 0 (by decide) (by decide)]; rfl
  have d19 : τ9 0 19 = ρ 0 0 := by rw [r0, upS_j (by decide), upS_j (by decide), upS_j (by decide), upS_j (by decide), upS_j (by decide), upS_s]; exact u1
  have d20 : τ9 0 20 = ((0 : Nat) : Int) := by rw [r0, upS_j (by decide), upS_j (by decide), upS_j (by decide), upS_s]; rfl
  have d24 : τ9 0 24 = 0 := by rw [r0, upS_j (by decide), upS_j (by decide), upS_s]
  have d25 : τ9 0 25 = -1 := by rw [r0, upS_j (by decide), upS_s]
  have d13 : τ9 0 13 = 0 := by rw [r0, upS_s]
  have dt : tpR ρ τ9 := fun j hj => by rw [b3 12 (by decide) (by decide)]; exact u2 j hj
  obtain ⟨f1, e1, kd1, hA⟩ := advT_ex (ρ := ρ) (b := 0) hT.1
  obtain ⟨σ8, g1, g2, g3, g4⟩ := g_adv hT hA c34 c37 ct
  obtain ⟨τ11, h1, h2, h3, h4⟩ := h_adv hT hA d19 d20 dt
  have hG : GJ ρ σ8 τ11 f1 e1 kd1 := by
    refine ⟨hA.tk.1, g2, h2, fun q => ?_, ?_, ?_, ?_, ?_⟩
    · rw [g3 q, h3 q]
      refine nvG_NRl _ _ _ _ (fun k x1 x2 => ?_) (Or.inl ⟨rfl, by decide, by decide⟩)
      rcases hA.2 with ⟨w, -⟩ | ⟨w, -⟩ | ⟨-, -, -, -, w⟩ | ⟨w, -⟩
      · omega
      · omega
      · exact w.2.2.1 k x1 (by have := w.1; omega)
      · omega
    · rw [g4 3 2 (by decide)]; exact c32
    · rw [h4 0 24 (by decide)]; exact d24
    · rw [g4 3 3 (by decide)]; exact c33
    · rw [h4 0 25 (by decide)]; exact d25
  have k4 : ∀ k, k ≠ 3 → σ8 k = σ6 k := fun k hk => funext fun j => g4 k j (fun q => hk q.1)
  have l4 : ∀ k, k ≠ 0 → τ11 k = τ9 k := fun k hk => funext fun j => h4 k j (fun q => hk q.1)
  have hDE : DEg σ8 τ11 0 := by
    have x7 : σ8 4 7 = 2 := by rw [k4 4 (by decide), s4, upS_j (by decide), upS_j (by decide), upS_s]
    have x8 : σ8 4 8 = 0 := by rw [k4 4 (by decide), s4, upS_j (by decide), upS_s]
    have x9 : σ8 4 9 = 1 := by rw [k4 4 (by decide), s4, upS_s]
    refine ⟨⟨?_, ?_, ?_, by omega, by omega, by omega, fun j hj => ?_⟩, fun r hr => by omega⟩
    · rw [x7, l4 6 (by decide), b3 6 (by decide) (by decide)]; rfl
    · rw [x8, l4 7 (by decide), b3 7 (by decide) (by decide)]; rfl
    · rw [x9, l4 8 (by decide), b3 8 (by decide) (by decide)]; rfl
    · rw [x7] at hj ⊢
      have hj4 : j < 4 := by omega
      rw [k4 11 (by decide), k4 12 (by decide), l4 9 (by decide), l4 10 (by decide), (a2 j hj4).1, (a2 j hj4).2, (b2 j hj4).1, (b2 j hj4).2]
      refine ⟨⟨rfl, ?_⟩, ⟨rfl, ?_⟩⟩
      · split <;> decide
      · split <;> decide
  have z40 : σ8 4 0 = ((0 : Nat) : Int) := by rw [k4 4 (by decide), s4, upS_j (by decide), upS_j (by decide), upS_j (by decide), upS_s]; rfl
  have z13 : τ11 0 13 = ((0 : Nat) : Int) := by rw [h4 0 13 (by decide), d13]; rfl
  obtain ⟨σ1, τ1, m1, m2, m3, m4, m5⟩ := j_lines hT ((ρ 0 0).toNat + 1) 0 σ8 τ11 (by have := hT.1; push_cast; omega) (Or.inl ⟨⟨f1, e1, kd1, hG, by
    rcases hG.1.2.2 with ⟨q, -⟩ | ⟨q, q2, -⟩ | ⟨q, q2⟩ | ⟨q, q2⟩
    · exact Or.inl q
    · right; omega
    · right; omega
    · right; omega⟩, 0, by omega, hDE, z40, z13, fun _ => rfl⟩)
  have big : (ρ 0 0).toNat + 1 < bigN := by have := hT.2.1; unfold bigN; omega
  refine ⟨σ1, τ1, fun Q hq => ?_, fun Q hq => ?_, m3, fun k hk => ?_, ?_⟩
  · unfold wp_X6_read
    intro q1 w1 q2 w2 q3 w3 q4 w4
    rw [w4, w3, w2, w1]
    unfold wp_X4_clear_d
    intro q5 w5 q6 w6 q7 w7 q8 w8
    rw [w8, w7, w6, w5]
    exact a1 _ bigN (by unfold bigN; omega) (g1 _ (m1 Q bigN big hq))
  · unfold wp_X12_grammar
    intro q1 w1 q2 w2 q3 w3 q4 w4 q5 w5 q6 w6 q7 w7 q8 w8 q9 w9
    rw [w9, w8, w7, w6, w5, w4, w3, w2, w1]
    exact b1 Q bigN (by unfold bigN; omega) (h1 _ (m2 Q bigN big hq))
  · rw [m4.1 k hk, k4 k (by omega), so k (by omega) (by omega) (by omega) (by omega)]
  · refine FWg.tr ?_ m5
    have e0 : ∀ j, (j < 13 ∨ (13 < j ∧ j < 20) ∨ 25 < j) → τ11 0 j = upS (upS τ 0 19 (τ 0 17)) 0 17 0 0 j := fun j hj => by
      rw [h4 0 j (by omega), r0, upS_j (by omega), upS_j (by omega), upS_j (by omega), upS_j (by omega)]
    have eb : FWg (upS (upS (upS (upS (upS (upS (upS (upS (upS τ 0 19 (τ 0 17)) 0 17 0) 0 20 0) 0 24 0) 0 25 (-1)) 0 13 0) 6 1 2) 7 1 0) 8 1 1) τ9 := b4
    refine ⟨fun k hk => ?_, fun k j x1 x2 x3 => ?_, fun k x1 x2 => ?_, fun k j x1 x2 x3 => ?_, e0⟩
    · rw [l4 k (by omega), b3 k (by omega) (by omega), upS_k (by omega), upS_k (by omega), upS_k (by omega), upS_k (by omega), upS_k (by omega), upS_k (by omega), upS_k (by omega)]
    · rw [l4 k (by omega), b3 k (by omega) (by omega), upS_k (by omega), upS_k (by omega), upS_k (by omega), upS_k (by omega), upS_k (by omega), upS_k (by omega), upS_k (by omega)]
    · rw [l4 k (by omega), b3 k (by omega) (by omega)]
      unfold upS
      rw [if_neg (by omega), if_neg (by omega), if_neg (by omega), if_neg (by omega), if_neg (by omega), if_neg (by omega), if_neg (by omega), if_neg (by omega), if_neg (by omega)]
    · rw [l4 k (by omega), eb.2.2.2.1 k j x1 x2 x3, upS_k (by omega), upS_k (by omega), upS_k (by omega), upS_k (by omega), upS_k (by omega), upS_k (by omega), upS_k (by omega)]
