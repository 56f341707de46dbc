/-! the trees kept: spans that have grown -/
def fD (ρ σ : St) (q : Nat) : Prop := q < 12 * spN (LL ρ) ∧ σ 60 (q / 12) = 1
def FoF (ρ σ : St) (F : Fo) : Prop := (∀ s, s < 36 → σ 60 s = 0 ∨ σ 60 s = 1) ∧ ClF ρ F (fD ρ σ) ∧ FRc ρ σ F (fD ρ σ) ∧ RKc ρ σ F (fD ρ σ) ∧ (∀ q, fD ρ σ q → TopP (ltE ρ F q) (CandE ρ F q) (F.1 q) (F.2 q)) ∧ ∀ q, ¬ fD ρ σ q → F.1 q = 0
def FoK (ρ σ : St) : Prop := ∃ F, FoF ρ σ F
theorem FoF.ext {ρ σ σ1 : St} {F : Fo} (e : ∀ k, 55 ≤ k → k ≤ 60 → σ1 k = σ k) (h : FoF ρ σ F) : FoF ρ σ1 F := by
  unfold FoF fD FRc RKc at *
  rw [e 55 (by decide) (by decide), e 56 (by decide) (by decide), e 57 (by decide) (by decide), e 58 (by decide) (by decide), e 59 (by decide) (by decide), e 60 (by decide) (by decide)]
  exact h
theorem FoK.zero {ρ σ : St} (h : ∀ s, s < 36 → σ 60 s = 0) (hL : LL ρ < 9) : FoK ρ σ := by
  have no : ∀ q, ¬ fD ρ σ q := fun q hq => by
    have q3 := sp_3 _ hL
    have := hq.2
    rw [h _ (by have := hq.1; omega)] at this
    exact absurd this (by decide)
  exact ⟨(fun _ => 0, fun _ _ => (0, 0, 0, 0)), fun s hs => Or.inl (h s hs), fun q hq => absurd hq (no q), fun q hq => absurd hq (no q), fun q hq => absurd hq (no q), fun q hq => absurd hq (no q), fun q _ => rfl⟩
theorem LowEq.top {ρ : St} {F F1 : Fo} {D0 : Nat → Prop} {s : Nat} (hF : ClF ρ F D0) (hD : ∀ q, D0 q → q / 12 ≠ s) (h : LowEq F F1 s) {q : Nat} (hq : D0 q) (ht : TopP (ltE ρ F q) (CandE ρ F q) (F.1 q) (F.2 q)) : TopP (ltE ρ F1 q) (CandE ρ F1 q) (F1.1 q) (F1.2 q) := by
  have ex : ExD D0 F F1 := fun p hp => by
    have := h p (hD p hp)
    exact ⟨by omega, fun k _ => this.2 k⟩
  have hn := h q (hD q hq)
  rw [hn.1]
  refine (((ht.cg (L2 := F1.2 q) (fun _ => Iff.rfl) (fun i _ => hn.2 i)).lt2 (fun z w hz hw => ex.lt hF hq hz hw)).cg (fun z => ?_) (fun _ _ => rfl))
  constructor
  · intro hz
    have := (hF q hq).2.2 _ hz.1
    exact (h.cand (fun h0 => hD _ (this.1 h0)) (fun h0 => hD _ (this.2.1 h0))).2 hz
  · intro hz
    have := (hF q hq).2.2 _ hz.1
    exact (h.cand (fun h0 => hD _ (this.1 h0)) (fun h0 => hD _ (this.2.1 h0))).1 hz
theorem ins_lt {ρ : St} (hL : LL ρ < 9) {t x : Nat} (ht : t < spN (LL ρ)) (hx : x < spN (LL ρ)) (hit : insS ρ t x) (hne : t ≠ x) : t < x := by
  have a1 := sp_s hL ht
  have a2 := sp_s hL hx
  unfold insS at hit
  have : ¬ (spF (LL ρ) t - spB (LL ρ) t = spF (LL ρ) x - spB (LL ρ) x) := fun z => hne (by rw [← a1.2.2, ← a2.2.2, show spB (LL ρ) t = spB (LL ρ) x by omega, show spF (LL ρ) t = spF (LL ρ) x by omega])
  have := sp_lt hL ⟨a1.1, a1.2.1⟩ ⟨a2.1, a2.2.1⟩ (Or.inl (by omega))
  rw [a1.2.2, a2.2.2] at this
  exact this
/-- parts of a case that does not go on within the span lie in spans inside -/
theorem base_ins {ρ : St} (hg : Wg ρ) (hL : LL ρ < 9) {s a t : Nat} (ha : a < 12) (hs : s < spN (LL ρ)) (ht : t < (cI ρ (12 * s + a)).length) : 1 ≤ cp ρ (12 * s + a) t ∧ (0 ≤ cf ρ (12 * s + a) t → (cf ρ (12 * s + a) t).toNat < 12 * spN (LL ρ) ∧ insS ρ ((cf ρ (12 * s + a) t).toNat / 12) s) ∧ (0 ≤ cg ρ (12 * s + a) t → (cg ρ (12 * s + a) t).toNat < 12 * spN (LL ρ) ∧ insS ρ ((cg ρ (12 * s + a) t).toNat / 12) s) := by
  obtain ⟨r, hr, h8, h3, hc, hcp, hpr, -, -, kind⟩ := cs_kind hg hL ha hs ht
  have sp := sp_s hL hs
  refine ⟨by omega, ?_⟩
  rcases kind with ⟨h5, e1, e2, -, -, ⟨-, e3⟩ | ⟨b, b1, b2, e3⟩⟩ | ⟨-, m, m1, m2, e1, -, -, -, -, e2, e3⟩
  · rw [e1, e3]; exact ⟨fun h => absurd h (by decide), fun h => absurd h (by decide)⟩
  · rw [e1, e3]
    refine ⟨fun _ => ?_, fun h => absurd h (by decide)⟩
    rw [Int.toNat_natCast, show (12 * s + b) / 12 = s by omega]
    exact ⟨by omega, by unfold insS; omega⟩
  · refine ⟨fun h0 => ?_, fun h0 => ?_⟩
    · obtain ⟨b, b1, -, b2⟩ := e2 h0
      have q := sp_a (L := LL ρ) hL (i := spB (LL ρ) s) (j := m) (by omega)
      rw [b2, Int.toNat_natCast, show (12 * spA (LL ρ) (spB (LL ρ) s) m + b) / 12 = spA (LL ρ) (spB (LL ρ) s) m by omega]
      refine ⟨by omega, ?_⟩
      unfold insS; rw [q.2.1, q.2.2]; omega
    · obtain ⟨b, b1, -, b2⟩ := e3 h0
      have q := sp_a (L := LL ρ) hL (i := m) (j := spF (LL ρ) s) (by omega)
      rw [b2, Int.toNat_natCast, show (12 * spA (LL ρ) m (spF (LL ρ) s) + b) / 12 = spA (LL ρ) m (spF (LL ρ) s) by omega]
      refine ⟨by omega, ?_⟩
      unfold insS; rw [q.2.1, q.2.2]; omega
theorem c_trees {ρ : St} (hg : Wg ρ) (hL : LL ρ < 9) {q : Nat} (hq : q < 12 * spN (LL ρ)) {x2 : Int} {Q : Int → St → Prop} (hQ : ∀ σ1 F, BL ρ σ1 → FoF ρ σ1 F → fD ρ σ1 q → (∀ k : Nat, x2 = (k : Int) → k < F.1 q → Q ((16 * q + k : Nat) : Int) σ1) ∧ ((∀ k : Nat, x2 = (k : Int) → F.1 q ≤ k) → Q (-1) σ1)) : ∀ (d x : Nat) (σ : St) (n : Nat), x + d = q / 12 + 1 → d < n → BL ρ σ → FoK ρ σ → (∀ t, t < x → insS ρ t (q / 12) → σ 60 t = 1) → wp_X3_treeOf_l15 Q n (q : Int) x2 ((q / 12 : Nat) : Int) (x : Int) σ := by
  have h3 := sp_3 _ hL
  have hs : q / 12 < spN (LL ρ) := by omega
  intro d
  induction d with
  | zero =>
    intro x σ n hd hn hb hM h60
    obtain ⟨n, rfl⟩ := suc_n hn
    obtain ⟨F, hF⟩ := hM
    have hfd : fD ρ σ q := ⟨hq, h60 _ (by omega) (by unfold insS; omega)⟩
    obtain ⟨Y, N⟩ := hQ σ F hb hF hfd
    obtain ⟨p1, p2, p3, p4⟩ := hF.2.2.1 q hfd
    unfold wp_X3_treeOf_l15 wp_X3_treeOf_b78
    rw [Int.toNat_natCast, p3]
    refine ⟨fun _ => ⟨fun h => N (fun k e => by omega), fun h => ⟨by omega, fun h2 => ?_, fun h2 => N (fun k e => by omega)⟩⟩, fun w => absurd (by omega) w⟩
    have := Y x2.toNat (by omega) (by omega)
    rw [w32_of (x := (q : Int) * 16) (by omega) (by omega), w32_of (by omega) (by omega), show (q : Int) * 16 + x2 = ((16 * q + x2.toNat : Nat) : Int) by push_cast; omega]
    exact this
  | succ d ih =>
    intro x σ n hd hn hb hM h60
    obtain ⟨n, rfl⟩ := suc_n hn
    have hxs : x < spN (LL ρ) := by omega
    unfold wp_X3_treeOf_l15
    rw [Int.toNat_natCast]
    have nx : ∀ σ1, BL ρ σ1 → FoK ρ σ1 → (∀ t, t < x + 1 → insS ρ t (q / 12) → σ1 60 t = 1) → wp_X3_treeOf_b58 Q (wp_X3_treeOf_l15 Q n) (q : Int) x2 ((q / 12 : Nat) : Int) (x : Int) σ1 := by
      intro σ1 h1 h2 h4
      unfold wp_X3_treeOf_b58
      intro v ev
      rw [ev, w32_of (by omega) (by omega)]
      exact ih (x + 1) σ1 n (by omega) (by omega) h1 h2 h4
    refine ⟨fun w => absurd w (by omega), fun _ => ⟨by omega, fun hy => nx σ hb hM (fun t ht hit => ?_), fun hz => ?_⟩⟩
    · by_cases e : t = x
      · subst e
        obtain ⟨F, hF⟩ := hM
        rcases hF.1 t (by omega) with g | g
        · exact absurd g hy
        · exact g
      · exact h60 t (by omega) hit
    · have hz0 : σ 60 x = 0 := Classical.byContradiction hz
      refine c_isInside hL hb.1 (t := x) hxs hs (fun hi => ⟨fun _ => nx σ hb hM (fun t ht hit => ?_), fun w => absurd rfl w⟩) (fun hi => ⟨fun w => absurd w (by decide), fun _ => ⟨by omega, fun σ6 e6 => ?_⟩⟩)
      · by_cases e : t = x
        · subst e; exact absurd hit hi
        · exact h60 t (by omega) hit
      · obtain ⟨F, hF⟩ := hM
        rw [show b_and 1 1 = 1 by decide, Int.toNat_natCast] at e6
        obtain ⟨f1, f2, f3, f4, f5, f6⟩ := hF
        have hD0 : ∀ p, fD ρ σ p → p < 12 * spN (LL ρ) ∧ p / 12 ≠ x := fun p hp => ⟨hp.1, fun e => by have := hp.2; rw [e, hz0] at this; exact absurd this (by decide)⟩
        have k6 : ∀ k, k ≠ 60 → σ6 k = σ k := fun k hk => by rw [e6, upS_k hk]
        have hG6 : GSt ρ σ6 F (fD ρ σ) := by
          refine ⟨hb.extK (fun k hk => k6 k (by omega)), ?_, ?_⟩
          · unfold FRc at *
            rw [k6 55 (by decide), k6 56 (by decide), k6 57 (by decide), k6 59 (by decide)]; exact f3
          · unfold RKc at *
            rw [k6 58 (by decide)]; exact f4
        refine c_growSpan hg hL (F := F) (D0 := fD ρ σ) hxs hD0 f2 (fun p hp => (f5 p hp).sg) hG6 (fun b hb2 => f6 _ (fun h => (hD0 _ h).2 (by omega))) (fun a ha t ht hbase => ?_) (fun σ8 F1 g1 g2 g3 g4 g5 g6 => ?_)
        · have bi := base_ins hg hL ha hxs ht
          have bl := base_low hg hL ha hxs ht hbase
          refine ⟨fun h0 => ⟨(bi.2.1 h0).1, h60 _ ?_ ((bi.2.1 h0).2.tr hi)⟩, fun h0 => ⟨(bi.2.2 h0).1, h60 _ ?_ ((bi.2.2 h0).2.tr hi)⟩, bi.1⟩
          · exact bl.1 h0
          · exact bl.2 h0
        · have e60 : ∀ t, σ8 60 t = if t = x then 1 else σ 60 t := fun t => by
            rw [g6 60 (by decide), e6]
            by_cases e : t = x
            · subst e; rw [if_pos rfl, upS_s]
            · rw [if_neg e, upS_j e]
          have eD : fD ρ σ8 = dSp (fD ρ σ) x := by
            funext p
            refine propext ⟨fun h => ?_, fun h => ?_⟩
            · by_cases e : p / 12 = x
              · exact Or.inr e
              · refine Or.inl ⟨h.1, ?_⟩
                have := h.2
                rw [e60, if_neg e] at this; exact this
            · rcases h with h | h
              · refine ⟨h.1, ?_⟩
                rw [e60, if_neg (hD0 p h).2]; exact h.2
              · refine ⟨by omega, ?_⟩
                rw [e60, if_pos h]
          refine nx σ8 g1.1 ⟨F1, fun s hs36 => ?_, by rw [eD]; exact g2, by rw [eD]; exact g1.2.1, by rw [eD]; exact g1.2.2, fun p hp => ?_, fun p hp => ?_⟩ (fun t ht hit => ?_)
          · rw [e60]
            by_cases e : s = x
            · rw [if_pos e]; exact Or.inr rfl
            · rw [if_neg e]; exact f1 s hs36
          · rw [eD] at hp
            rcases hp with h | h
            · exact g3.top f2 (fun p hp => (hD0 p hp).2) h (f5 p h)
            · have := g5 (p % 12) (by omega)
              rw [show 12 * x + p % 12 = p by omega] at this
              exact this
          · rw [eD] at hp
            rw [(g3 p (fun e => hp (Or.inr e))).1]
            exact f6 p (fun h => hp (Or.inl h))
          · rw [e60]
            by_cases e : t = x
            · rw [if_pos e]
            · rw [if_neg e]; exact h60 t (by omega) hit
theorem c_treeOf {ρ σ : St} (hW : WW ρ) (vg : VCg σ ρ) (vs : VCs σ ρ) (hb : σ 24 17 = 0 ∨ Bt ρ σ) (hl : σ 36 7 = 0 ∨ (σ 36 7 = 1 ∧ Lw ρ σ)) (hK : FoK ρ σ) {q : Nat} (hq : q < 12 * spN (LL ρ)) {x2 : Int} {Q : Int → St → Prop} (hQ : ∀ σ1 F, BL ρ σ1 → FoF ρ σ1 F → fD ρ σ1 q → (∀ k : Nat, x2 = (k : Int) → k < F.1 q → Q ((16 * q + k : Nat) : Int) σ1) ∧ ((∀ k : Nat, x2 = (k : Int) → F.1 q ≤ k) → Q (-1) σ1)) : wp_X3_treeOf (q : Int) x2 σ Q := by
  have hL : LL ρ < 9 := by have := hW.2.2.2.2.2.1; unfold LL; omega
  have hg := hW.2.2.1
  have h3 := sp_3 _ hL
  unfold wp_X3_treeOf
  refine mf_X1_prepare (σ0 := σ) (Q := fun _ σ1 => Bt ρ σ1 ∧ σ1 36 7 = 1 ∧ Lw ρ σ1) (fun _ σ2 h2 f => ?_) Fr.rf (c_prepare hW vg vs hb hl (fun σ1 a b c => ⟨a, b, c⟩))
  intro v ev
  rw [b_div_eq (by omega) (by omega) (by decide) (by decide), show ((q : Int) / 12) = ((q / 12 : Nat) : Int) by omega] at ev
  rw [ev]
  have k2 : FoK ρ σ2 := by
    obtain ⟨F, hF⟩ := hK
    refine ⟨F, hF.ext (fun k h1 h2 => ?_)⟩
    rcases (by omega : k = 55 ∨ k = 56 ∨ k = 57 ∨ k = 58 ∨ k = 59 ∨ k = 60) with rfl | rfl | rfl | rfl | rfl | rfl <;> exact funext (fun j => f.at rfl)
  exact c_trees hg hL hq hQ (q / 12 + 1) 0 σ2 bigN (by omega) (by unfold bigN; omega) h2 k2 (fun t ht => by omega)
