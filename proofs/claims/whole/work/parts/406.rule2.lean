/-! the parts of a rule, and all of it -/
def Rend (ρ σ1 τ1 : St) (c : Nat) : Prop := (Gdg ρ σ1 τ1 ∧ DEg σ1 τ1 (c + 1) ∧ σ1 4 0 = ((c + 1 : Nat) : Int) ∧ τ1 0 13 = ((c + 1 : Nat) : Int)) ∨ BJ ρ σ1 τ1
theorem PRh.fr {σ τ σ1 τ1 : St} {c : Nat} (h : PRh σ τ c) (e : σ1 5 = σ 5) (e2 : τ1 1 = τ 1) : PRh σ1 τ1 c := by unfold PRh at *; rw [e, e2]; exact h
theorem PRl.fr {σ τ σ1 τ1 : St} {c : Nat} (h : PRl σ τ c) (e : σ1 6 = σ 6) (e2 : τ1 2 = τ 2) : PRl σ1 τ1 c := by unfold PRl at *; rw [e, e2]; exact h
theorem PRr.fr {σ τ σ1 τ1 : St} {c : Nat} (h : PRr σ τ c) (e : σ1 7 = σ 7) (e2 : τ1 3 = τ 3) : PRr σ1 τ1 c := by unfold PRr at *; rw [e, e2]; exact h
theorem JSg.gd {ρ σ τ : St} (h : Gdg ρ σ τ) : JSg ρ σ τ := Or.inl h
theorem j_89 {ρ σ τ : St} (hT : Wt ρ) {c : Nat} (hc : c < 40) (h0 : τ 0 13 = c) (h : JSg ρ σ τ) {v w : Int} (hd : Gdg ρ σ τ → DEg σ τ c ∧ PRh σ τ c ∧ PRl σ τ c ∧ v = w ∧ (v = -1 ∨ isPart v)) : ∃ σ1 τ1 : St, (∀ Q : Int → St → Prop, Q 0 σ1 → wp_X6_readRule_b89 Q (c : Int) v (c : Int) σ) ∧ (∀ Q : Int → St → Prop, Q 0 τ1 → wp_X12_readRule_b104 Q ((40 + c : Nat) : Int) w ((40 + c : Nat) : Int) τ) ∧ Rend ρ σ1 τ1 c ∧ FZg σ σ1 ∧ FWg τ τ1 := by
  have fA : FZg σ (upS (upS σ 7 c v) 8 c 1) := (FZg.up (by decide)).tr (FZg.up (by decide))
  have gA : FWg τ (upS (upS τ 3 (40 + c) w) 4 (40 + c) 1) := (FWg.up (by decide) (by omega)).tr (FWg.up (by decide) (by omega))
  have jA' : JSg ρ (upS (upS σ 7 c v) 8 c 1) (upS (upS τ 3 (40 + c) w) 4 (40 + c) 1) := JSg.up (by decide) (by decide) (JSg.up (by decide) (by decide) h)
  have gdA : Gdg ρ (upS (upS σ 7 c v) 8 c 1) (upS (upS τ 3 (40 + c) w) 4 (40 + c) 1) ↔ Gdg ρ σ τ := (Gdg.up (by decide) (by decide)).trans (Gdg.up (by decide) (by decide))
  have hdA : Gdg ρ σ τ → DEg (upS (upS σ 7 c v) 8 c 1) (upS (upS τ 3 (40 + c) w) 4 (40 + c) 1) c ∧ PRh (upS (upS σ 7 c v) 8 c 1) (upS (upS τ 3 (40 + c) w) 4 (40 + c) 1) c ∧ PRl (upS (upS σ 7 c v) 8 c 1) (upS (upS τ 3 (40 + c) w) 4 (40 + c) 1) c ∧ PRr (upS (upS σ 7 c v) 8 c 1) (upS (upS τ 3 (40 + c) w) 4 (40 + c) 1) c := by
    intro hg
    obtain ⟨d1, d2, d3, d4, d5⟩ := hd hg
    refine ⟨(d1.put (by decide) (by decide)).put (by decide) (by decide), d2.fr rfl rfl, d3.fr rfl rfl, ?_⟩
    have e1 : upS (upS σ 7 c v) 8 c 1 7 c = v := by rw [upS_k (by decide), upS_s]
    have e2 : upS (upS τ 3 (40 + c) w) 4 (40 + c) 1 3 (40 + c) = w := by rw [upS_k (by decide), upS_s]
    unfold PRr
    rw [e1, e2]; exact ⟨d4, d5⟩
  have c8 : upS (upS σ 7 c v) 8 c 1 8 c = 1 := upS_s
  have r4 : upS (upS τ 3 (40 + c) w) 4 (40 + c) 1 4 (40 + c) = 1 := upS_s
  have r13 : upS (upS τ 3 (40 + c) w) 4 (40 + c) 1 0 13 = c := h0
  have cl : ∀ Q : Int → St → Prop, wp_X6_isWord_s1 (upS (upS σ 7 c v) 8 c 1) (fun r22 σ23 => ((r22 = 0) → wp_X6_readRule_b129 Q (c : Int) σ23) ∧ (¬ (r22 = 0) → wp_X6_advance σ23 (fun r24 σ25 => wp_X6_readNumber 1 99 σ25 (fun r26 σ27 => (0 ≤ (c : Int) ∧ (c : Int) < 40) ∧ ∀ σ28 : St, σ28 = upS σ27 8 (c : Int).toNat r26 → wp_X6_readRule_b129 Q (c : Int) σ28)))) → wp_X6_readRule_b89 Q (c : Int) v (c : Int) σ := by
    intro Q hq
    unfold wp_X6_readRule_b89
    refine ⟨by omega, fun σ20 e20 => ⟨by omega, fun σ21 e21 => ?_⟩⟩
    rw [e21, e20, Int.toNat_natCast]; exact hq
  have rl : ∀ Q : Int → St → Prop, wp_X12_is_s14 (upS (upS τ 3 (40 + c) w) 4 (40 + c) 1) (fun r26 σ27 => ((r26 = 0) → wp_X12_readRule_b138 Q ((40 + c : Nat) : Int) σ27) ∧ (¬ (r26 = 0) → wp_X12_advance σ27 (fun r28 σ29 => wp_X12_takes 1 99 σ29 (fun r30 σ31 => (0 ≤ ((40 + c : Nat) : Int) ∧ ((40 + c : Nat) : Int) < 80) ∧ ∀ σ32 : St, σ32 = upS σ31 4 ((40 + c : Nat) : Int).toNat r30 → wp_X12_readRule_b138 Q ((40 + c : Nat) : Int) σ32)))) → wp_X12_readRule_b104 Q ((40 + c : Nat) : Int) w ((40 + c : Nat) : Int) τ := by
    intro Q hq
    unfold wp_X12_readRule_b104
    refine ⟨by omega, fun σ20 e20 => ⟨by omega, fun σ21 e21 => ?_⟩⟩
    rw [e21, e20, Int.toNat_natCast]; exact hq
  generalize upS (upS σ 7 c v) 8 c 1 = σA at *
  generalize upS (upS τ 3 (40 + c) w) 4 (40 + c) 1 = τA at *
  rcases jA' with hgd | hb
  · obtain ⟨f, e, kd, hG⟩ := id hgd
    have hdd := hdA (gdA.1 hgd)
    obtain ⟨r, a1, a2, a3, -⟩ := j_is_s1 hT hG.1 hG.2.1 hG.2.2.1 hG.2.2.2.2.2.1
    by_cases hr : r = 0
    · obtain ⟨σ1, τ1, b1, b2, b3, b4, b5⟩ := j_129 hT hc r13 (JSg.gd hgd) (fun _ => ⟨hdd.1, hdd.2.1, hdd.2.2.1, hdd.2.2.2, by unfold PRp; rw [c8, r4]; decide⟩)
      exact ⟨σ1, τ1, fun Q hq => cl Q (a1 _ ⟨fun _ => b1 Q hq, fun q => absurd hr q⟩), fun Q hq => rl Q (a2 _ ⟨fun _ => b2 Q hq, fun q => absurd hr q⟩), b3, fA.tr b4, gA.tr b5⟩
    · obtain ⟨σ1, τ1, b1, b2, ⟨f1, e1, kd1, b3, -⟩, b4, b5⟩ := j_adv hT hG
      obtain ⟨v1, w1, σ2, τ2, d1, d2, d3, d4, d5⟩ := j_num hT (lo := 1) (hi := 99) (σ := σ1) (τ := τ1) ⟨by decide, by decide⟩ (Or.inl ⟨f1, e1, kd1, b3⟩)
      have fr1 : ∀ k, k ≠ 3 → σ2 k = σA k := fun k h1 => by rw [d4.1 k h1, b4.1 k h1]
      have fr2 : ∀ k, k ≠ 0 → τ2 k = τA k := fun k h1 => by rw [d5.1 k h1, b5.1 k h1]
      have r3 : τ2 0 13 = c := by rw [d5.2 13 (by decide), b5.2 13 (by decide)]; exact r13
      have jB : JSg ρ (upS σ2 8 c v1) (upS τ2 4 (40 + c) w1) := by
        refine JSg.up (by decide) (by decide) ?_
        rcases d3 with ⟨g, -⟩ | ⟨g, -⟩
        · exact Or.inl g
        · exact Or.inr g
      obtain ⟨σ3, τ3, u1, u2, u3, u4, u5⟩ := j_129 hT hc (τ := upS τ2 4 (40 + c) w1) r3 jB (fun hg3 => by
        rcases d3 with ⟨-, g2, g3⟩ | ⟨g, -⟩
        · refine ⟨((hdd.1.fr (by omega) b4 b5).fr (by omega) d4 d5).put (by decide) (by decide), hdd.2.1.fr ?_ ?_, hdd.2.2.1.fr ?_ ?_, hdd.2.2.2.fr ?_ ?_, ?_⟩
          · rw [upS_k (by decide)]; exact fr1 5 (by decide)
          · rw [upS_k (by decide)]; exact fr2 1 (by decide)
          · rw [upS_k (by decide)]; exact fr1 6 (by decide)
          · rw [upS_k (by decide)]; exact fr2 2 (by decide)
          · rw [upS_k (by decide)]; exact fr1 7 (by decide)
          · rw [upS_k (by decide)]; exact fr2 3 (by decide)
          · unfold PRp
            rw [upS_s, upS_s]; exact ⟨g2, g3⟩
        · exact (((Gdg.up (by decide) (by decide)).1 hg3).ne g).elim)
      refine ⟨σ3, τ3, fun Q hq => cl Q (a1 _ ⟨fun q => absurd q hr, fun _ => b1 _ (d1 _ ⟨by omega, fun σ28 e28 => ?_⟩)⟩), fun Q hq => rl Q (a2 _ ⟨fun q => absurd q hr, fun _ => b2 _ (d2 _ ⟨by omega, fun σ28 e28 => ?_⟩)⟩), u3, fA.tr (b4.z.tr (d4.z.tr ((FZg.up (by decide)).tr u4))), gA.tr (b5.w.tr (d5.w.tr ((FWg.up (by decide) (by omega)).tr u5)))⟩
      · rw [e28, Int.toNat_natCast]; exact u1 Q hq
      · rw [e28, Int.toNat_natCast]; exact u2 Q hq
  · obtain ⟨hn, f, e, kd, ht, hk⟩ := id hb.1
    obtain ⟨r, a1, a2, a3⟩ := g_is_s1 hT ht hk
    obtain ⟨τ1, b1, b2, b3, b4⟩ := rb_138 hb.ne hc
    have rr : ∀ Q : Int → St → Prop, Q 0 τ1 → wp_X12_readRule_b104 Q ((40 + c : Nat) : Int) w ((40 + c : Nat) : Int) τ := fun Q hq => rl Q (h_isB_s14 hb.ne _ ⟨fun _ => b1 Q hq, fun q => absurd rfl q⟩)
    by_cases hr : r = 0
    · obtain ⟨σ1, d1, d2⟩ := cb_129 hT hc hb.1
      exact ⟨σ1, τ1, fun Q hq => cl Q (a1 _ ⟨fun _ => d1 Q hq, fun q => absurd hr q⟩), rr, Or.inr ((hb.goz d2).r b2 b3), fA.tr d2.2.2.2, gA.tr b4⟩
    · obtain ⟨σ1, d1, d2⟩ := cb_adv hT hb.1
      obtain ⟨σ2, u1, u2⟩ := cb_num hT d2.1 1 99
      have u3 : SZg ρ σ2 (upS σ2 8 c 0) := SZg.up (by decide) u2.1
      obtain ⟨σ3, w1, w2⟩ := cb_129 hT hc u3.1
      refine ⟨σ3, τ1, fun Q hq => cl Q (a1 _ ⟨fun q => absurd q hr, fun _ => d1 _ (u1 _ ⟨by omega, fun σ28 e28 => ?_⟩)⟩), rr, Or.inr ((hb.goz (d2.z.tr (u2.z.tr (u3.tr w2)))).r b2 b3), fA.tr (d2.z.tr (u2.z.tr (u3.tr w2))).2.2.2, gA.tr b4⟩
      rw [e28, Int.toNat_natCast]; exact w1 Q hq
def twoC (c : Int) (σ : St) (Q : Int → St → Prop) : Prop := wp_X6_isLabel σ (fun r12 σ13 => ((r12 ≠ 0) → wp_X6_readRule_b80 Q c c σ13) ∧ (¬ (r12 ≠ 0) → wp_X6_isLetter σ13 (fun r14 σ15 => ((r14 = 0) → wp_X6_readRule_b89 Q c (-1) c σ15) ∧ (¬ (r14 = 0) → wp_X6_readRule_b80 Q c c σ15))))
def twoR (c : Int) (τ : St) (Q : Int → St → Prop) : Prop := wp_X12_isPart τ (fun r20 σ21 => ((r20 = 0) → wp_X12_readRule_b104 Q c (-1) c σ21) ∧ (¬ (r20 = 0) → wp_X12_readPart σ21 (fun r22 σ23 => wp_X12_readRule_b104 Q c r22 c σ23)))
theorem j_two {ρ σ τ : St} (hT : Wt ρ) {c : Nat} (hc : c < 40) (h0 : τ 0 13 = c) (h : JSg ρ σ τ) (hd : Gdg ρ σ τ → DEg σ τ c ∧ PRh σ τ c ∧ PRl σ τ c) : ∃ σ1 τ1 : St, (∀ Q : Int → St → Prop, Q 0 σ1 → twoC (c : Int) σ Q) ∧ (∀ Q : Int → St → Prop, Q 0 τ1 → twoR ((40 + c : Nat) : Int) τ Q) ∧ Rend ρ σ1 τ1 c ∧ FZg σ σ1 ∧ FWg τ τ1 := by
  unfold twoC twoR wp_X6_readRule_b80
  rcases h with hgd | hb
  · obtain ⟨f, e, kd, hG⟩ := id hgd
    have hdd := hd hgd
    obtain ⟨r1, a1, a2, a3⟩ := g_label hT hG.1 hG.2.1
    obtain ⟨r2, b1, b2, b3⟩ := g_letter hT hG.1 hG.2.1
    obtain ⟨r3, c1, c2, c3⟩ := h_part hT hG.1 hG.2.2.1 hG.2.2.2.2.2.1
    by_cases hr3 : r3 = 0
    · have hr1 : r1 = 0 := Classical.byContradiction fun q => c3.2 (Or.inl (a3.1 q)) hr3
      have hr2 : r2 = 0 := Classical.byContradiction fun q => c3.2 (Or.inr (b3.1 q)) hr3
      obtain ⟨σ1, τ1, u1, u2, u3, u4, u5⟩ := j_89 hT hc h0 (JSg.gd hgd) (v := -1) (w := -1) (fun _ => ⟨hdd.1, hdd.2.1, hdd.2.2, rfl, Or.inl rfl⟩)
      exact ⟨σ1, τ1, fun Q hq => a1 _ ⟨fun q => absurd hr1 q, fun _ => b1 _ ⟨fun _ => u1 Q hq, fun q => absurd hr2 q⟩⟩, fun Q hq => c1 _ ⟨fun _ => u2 Q hq, fun q => absurd hr3 q⟩, u3, u4, u5⟩
    · obtain ⟨v, w, σ2, τ2, d1, d2, d3, d4, d5⟩ := j_part hT (JSg.gd hgd)
      obtain ⟨σ1, τ1, u1, u2, u3, u4, u5⟩ := j_89 (σ := σ2) (τ := τ2) hT hc (by rw [d5.2 13 (by decide)]; exact h0) (v := v) (w := w) (by
        rcases d3 with ⟨g, -⟩ | g
        · exact Or.inl g
        · exact Or.inr g) (fun hg2 => by
        rcases d3 with ⟨-, g1, g2⟩ | g
        · exact ⟨hdd.1.fr (by omega) d4 d5, hdd.2.1.fr (d4.1 5 (by decide)) (d5.1 1 (by decide)), hdd.2.2.fr (d4.1 6 (by decide)) (d5.1 2 (by decide)), g1, Or.inr g2⟩
        · exact (hg2.ne g).elim)
      refine ⟨σ1, τ1, fun Q hq => a1 _ ⟨fun _ => d1 _ (u1 Q hq), fun q => b1 _ ⟨fun q2 => ?_, fun _ => d1 _ (u1 Q hq)⟩⟩, fun Q hq => c1 _ ⟨fun q => absurd q hr3, fun _ => d2 _ (u2 Q hq)⟩, u3, d4.z.tr u4, d5.w.tr u5⟩
      rcases c3.1 hr3 with w | w
      · exact absurd (a3.2 w) q
      · exact absurd q2 (b3.2 w)
  · obtain ⟨hn, f, e, kd, ht, hk⟩ := id hb.1
    obtain ⟨r1, a1, a2, a3⟩ := g_label hT ht hk
    obtain ⟨r2, b1, b2, b3⟩ := g_letter hT ht hk
    by_cases hr : r1 = 0 ∧ r2 = 0
    · obtain ⟨σ1, τ1, u1, u2, u3, u4, u5⟩ := j_89 hT hc h0 (Or.inr hb) (v := -1) (w := -1) (fun q => (q.ne hb).elim)
      exact ⟨σ1, τ1, fun Q hq => a1 _ ⟨fun q => absurd hr.1 q, fun _ => b1 _ ⟨fun _ => u1 Q hq, fun q => absurd hr.2 q⟩⟩, fun Q hq => h_partB hb.ne _ ⟨fun _ => u2 Q hq, fun q => absurd rfl q⟩, u3, u4, u5⟩
    · obtain ⟨v, σ2, d1, d2⟩ := cb_part hT hb.1 0
      have hb2 := hb.go d2
      obtain ⟨σ1, τ1, u1, u2, u3, u4, u5⟩ := j_89 hT hc h0 (Or.inr hb2) (v := v) (w := -1) (fun q => (q.ne hb2).elim)
      refine ⟨σ1, τ1, fun Q hq => a1 _ ⟨fun _ => d1 _ (u1 Q hq), fun q => b1 _ ⟨fun q2 => absurd ⟨by omega, q2⟩ hr, fun _ => d1 _ (u1 Q hq)⟩⟩, fun Q hq => h_partB hb.ne _ ⟨fun _ => u2 Q hq, fun q => absurd rfl q⟩, u3, d2.2.2.2.z.tr u4, u5⟩
theorem JSg.sign {ρ σ1 τ1 σ : St} {P : Prop} (h : (∃ f1 e1 kd1, GJ ρ σ1 τ1 f1 e1 kd1 ∧ P ∧ σ 3 7 ≤ (f1 : Int)) ∨ BJ ρ σ1 τ1) : JSg ρ σ1 τ1 := by
  rcases h with ⟨f, e, kd, h, -⟩ | h
  · exact Or.inl ⟨f, e, kd, h⟩
  · exact Or.inr h
theorem j_68 {ρ σ τ : St} (hT : Wt ρ) {c : Nat} (hc : c < 40) (h0 : τ 0 13 = c) (h : JSg ρ σ τ) (hd : Gdg ρ σ τ → DEg σ τ c ∧ PRh σ τ c) : ∃ σ1 τ1 : St, (∀ Q : Int → St → Prop, Q 0 σ1 → wp_X6_passSign 61 σ (fun r7 σ8 => wp_X6_readPart 0 σ8 (fun r9 σ10 => (0 ≤ (c : Int) ∧ (c : Int) < 40) ∧ ∀ σ11 : St, σ11 = upS σ10 6 (c : Int).toNat r9 → twoC (c : Int) σ11 Q))) ∧ (∀ Q : Int → St → Prop, Q 0 τ1 → wp_X12_readRule_b68 Q ((40 + c : Nat) : Int) τ) ∧ Rend ρ σ1 τ1 c ∧ FZg σ σ1 ∧ FWg τ τ1 := by
  obtain ⟨σ1, τ1, a1, a2, a3, a4, a5⟩ := j_sign hT (c := 61) (Or.inl rfl) h
  have hdS : Gdg ρ σ1 τ1 → Gdg ρ σ τ := by
    intro hg
    rcases a3 with ⟨f1, e1, kd1, -, g, -⟩ | g
    · exact g
    · exact (hg.ne g).elim
  obtain ⟨v, w, σ2, τ2, b1, b2, b3, b4, b5⟩ := j_part hT (JSg.sign a3)
  have fr1 := a4.tr b4
  have fr2 := a5.tr b5
  have hdP : Gdg ρ σ2 τ2 → Gdg ρ σ1 τ1 := fun hg => Gdg.back (JSg.sign a3) b4 hg
  obtain ⟨σ3, τ3, u1, u2, u3, u4, u5⟩ := j_two hT hc (σ := upS σ2 6 c v) (τ := upS τ2 2 (40 + c) w) (by rw [upS_k (by decide), fr2.2 13 (by decide)]; exact h0) (JSg.up (by decide) (by decide) (by
    rcases b3 with ⟨g, -⟩ | g
    · exact Or.inl g
    · exact Or.inr g)) (fun hg => by
    have hg2 := (Gdg.up (by decide) (by decide)).1 hg
    rcases b3 with ⟨-, g1, g2⟩ | g
    · obtain ⟨dd1, dd2⟩ := hd (hdS (hdP hg2))
      refine ⟨(dd1.fr (by omega) fr1 fr2).put (by decide) (by decide), dd2.fr ?_ ?_, ?_⟩
      · rw [upS_k (by decide)]; exact fr1.1 5 (by decide)
      · rw [upS_k (by decide)]; exact fr2.1 1 (by decide)
      · unfold PRl; rw [upS_s, upS_s]; exact ⟨g1, g2⟩
    · exact (hg2.ne g).elim)
  refine ⟨σ3, τ3, fun Q hq => a1 _ (b1 _ ⟨by omega, fun σ11 e11 => ?_⟩), fun Q hq => ?_, u3, fr1.z.tr ((FZg.up (by decide)).tr u4), fr2.w.tr ((FWg.up (by decide) (by omega)).tr u5)⟩
  · rw [e11, Int.toNat_natCast]; exact u1 Q hq
  · unfold wp_X12_readRule_b68
    refine a2 _ (b2 _ ⟨by omega, fun σ19 e19 => ?_⟩)
    rw [e19, Int.toNat_natCast]; exact u2 Q hq
theorem j_rule {ρ σ τ : St} (hT : Wt ρ) {c : Nat} (hc : c ≤ 40) (h4 : σ 4 0 = c) (h0 : τ 0 13 = c) (hg : Gdg ρ σ τ) (hd : DEg σ τ c) : ∃ σ1 τ1 : St, (∀ Q : Int → St → Prop, Q 0 σ1 → wp_X6_readRule σ Q) ∧ (∀ Q : Int → St → Prop, Q 0 τ1 → wp_X12_readRule τ Q) ∧ (BJ ρ σ1 τ1 ∨ (c < 40 ∧ Rend ρ σ1 τ1 c)) ∧ FZg σ σ1 ∧ FWg τ τ1 := by
  obtain ⟨f, e, kd, hG⟩ := id hg
  by_cases h40 : c = 40
  · obtain ⟨σ1, τ1, a1, a2, a3, a4, a5⟩ := j_fail hG (x := 3) (by decide)
    refine ⟨σ1, τ1, fun Q hq => ?_, fun Q hq => ?_, Or.inl a3, a4.z, a5.w⟩
    · unfold wp_X6_readRule
      intro v1 e1
      exact ⟨fun q => absurd q (by omega), fun _ => a1 _ hq⟩
    · unfold wp_X12_readRule wp_X12_readRule_b14
      exact ⟨fun q => absurd (by omega) q, fun _ => a2 _ (h_goodB a3.ne ⟨fun q => absurd rfl q, fun _ => hq⟩)⟩
  · have hlt : c < 40 := by omega
    obtain ⟨σ1, τ1, a1, a2, ⟨f1, e1, kd1, a3, -⟩, a4, a5⟩ := j_adv hT hG
    have r13 : τ1 0 13 = c := by rw [a5.2 13 (by decide)]; exact h0
    have ev : w32 (40 + (c : Int)) = ((40 + c : Nat) : Int) := by rw [w32_of (by omega) (by omega)]; push_cast; omega
    have hd1 : DEg σ1 τ1 c := hd.fr (by omega) a4 a5
    obtain ⟨r1, b1, b2, b3⟩ := g_label hT a3.1 a3.2.1
    obtain ⟨r2, d1, d2, d3⟩ := g_letter hT a3.1 a3.2.1
    obtain ⟨tk2, tk1, tk0, tk3⟩ := a3.2.2.1.tok a3.1
    have cl : ∀ Q : Int → St → Prop, wp_X6_readPart 1 σ1 (fun r4 σ5 => (0 ≤ (c : Int) ∧ (c : Int) < 40) ∧ ∀ σ6 : St, σ6 = upS σ5 5 (c : Int).toNat r4 → wp_X6_passSign 61 σ6 (fun r7 σ8 => wp_X6_readPart 0 σ8 (fun r9 σ10 => (0 ≤ (c : Int) ∧ (c : Int) < 40) ∧ ∀ σ11 : St, σ11 = upS σ10 6 (c : Int).toNat r9 → twoC (c : Int) σ11 Q))) → wp_X6_readRule σ Q := by
      intro Q hq
      unfold wp_X6_readRule
      intro v1 e1
      rw [h4] at e1
      subst e1
      exact ⟨fun _ => a1 _ hq, fun q => absurd (by omega) q⟩
    by_cases hr1 : r1 = 0
    · obtain ⟨σ2, τ2, u1, u2, u3, u4, u5⟩ := j_fail a3 (x := 1) (by decide)
      obtain ⟨σ3, w1, w2⟩ := cb_adv hT u3.1
      have hb3 : BJ ρ (upS σ3 5 c 0) (upS τ2 1 (40 + c) (τ2 0 23)) := (u3.go w2).up (by decide) (by decide)
      obtain ⟨σ4, τ4, v1, v2, v3, v4, v5⟩ := j_68 hT hlt (by rw [upS_k (by decide), u5.2 13 (by decide)]; exact r13) (Or.inr hb3) (fun q => (q.ne hb3).elim)
      refine ⟨σ4, τ4, fun Q hq => cl Q ?_, fun Q hq => ?_, Or.inr ⟨hlt, v3⟩, a4.z.tr (u4.z.tr (w2.2.2.2.z.tr ((FZg.up (by decide)).tr v4))), a5.w.tr (u5.w.tr ((FWg.up (by decide) (by omega)).tr v5))⟩
      · have fin : wp_X6_readPart_b55 (fun r4 σ5 => (0 ≤ (c : Int) ∧ (c : Int) < 40) ∧ ∀ σ6 : St, σ6 = upS σ5 5 (c : Int).toNat r4 → wp_X6_passSign 61 σ6 (fun r7 σ8 => wp_X6_readPart 0 σ8 (fun r9 σ10 => (0 ≤ (c : Int) ∧ (c : Int) < 40) ∧ ∀ σ11 : St, σ11 = upS σ10 6 (c : Int).toNat r9 → twoC (c : Int) σ11 Q))) 0 σ1 := by
          unfold wp_X6_readPart_b55 wp_X6_readPart_b60
          refine u1 _ (w1 _ ⟨by omega, fun σ6 e6 => ?_⟩)
          rw [e6, Int.toNat_natCast]; exact v1 Q hq
        unfold wp_X6_readPart
        refine b1 _ ⟨fun _ => d1 _ ⟨fun _ => fin, fun _ => ⟨fun _ => fin, fun q => absurd (by decide) q⟩⟩, fun q => absurd hr1 q⟩
      · unfold wp_X12_readRule wp_X12_readRule_b14 wp_X12_readRule_b47
        refine ⟨fun _ => h_goodG hG.2.2.2.2.2.1 ⟨fun _ => a2 _ ?_, fun q => absurd (by decide) q⟩, fun q => absurd (by omega) q⟩
        intro v7 e7
        rw [r13, ev] at e7
        subst e7
        refine ⟨fun q => absurd hr1 (b3.2 (tk3.1 q)), fun _ => u2 _ ⟨by omega, fun σ10 e10 => ?_⟩⟩
        rw [e10, Int.toNat_natCast]
        exact h_goodB hb3.ne ⟨fun _ => v2 Q hq, fun q => absurd rfl q⟩
    · have hw := b3.1 hr1
      have hk3 := hw.1
      subst hk3
      have hlt1 : (f1 : Int) < ρ 0 0 := by
        have hle := a3.1.2.1
        rcases a3.1.2.2 with ⟨q, -⟩ | ⟨q, -⟩ | ⟨q, -⟩ | ⟨-, q⟩ <;> omega
      obtain ⟨k4, k5, k6, k7, kt⟩ := a3.2.1
      have h1000 := hT.2.1
      obtain ⟨e22, e23⟩ := (a3.2.2.1.2.2.2.2.2.2.2 rfl).1 hw.2
      have hG1 : GJ ρ σ1 (upS τ1 1 (40 + c) (τ1 0 23)) f1 e1 3 := a3
      obtain ⟨σ2, τ2, u1, u2, ⟨f2, e2, kd2, u3, -⟩, u4, u5⟩ := j_adv hT hG1
      have hJ3 : Gdg ρ (upS σ2 5 c (ρ 1 f1 - 65)) τ2 := ⟨f2, e2, kd2, u3⟩
      obtain ⟨σ4, τ4, v1, v2, v3, v4, v5⟩ := j_68 hT hlt (τ := τ2) (by rw [u5.2 13 (by decide)]; exact r13) (JSg.gd hJ3) (fun _ => by
        refine ⟨⟨?_, fun r hr => ?_⟩, ?_⟩
        · unfold DEb
          rw [u5.1 6 (by decide), u5.1 7 (by decide), u5.1 8 (by decide), u5.1 9 (by decide), u5.1 10 (by decide)]
          rw [show upS σ2 5 c (ρ 1 f1 - 65) 4 = σ2 4 from rfl, show upS σ2 5 c (ρ 1 f1 - 65) 11 = σ2 11 from rfl, show upS σ2 5 c (ρ 1 f1 - 65) 12 = σ2 12 from rfl, u4.1 4 (by decide), u4.1 11 (by decide), u4.1 12 (by decide)]
          exact hd1.1
        · have := hd1.2 r hr
          unfold DEr at *
          rw [u5.1 1 (by decide), u5.1 2 (by decide), u5.1 3 (by decide), u5.1 4 (by decide), u5.1 5 (by decide), upS_j (by omega), upS_j (by omega)]
          rw [show upS σ2 5 c (ρ 1 f1 - 65) 4 = σ2 4 from rfl, show upS σ2 5 c (ρ 1 f1 - 65) 6 = σ2 6 from rfl, show upS σ2 5 c (ρ 1 f1 - 65) 7 = σ2 7 from rfl, show upS σ2 5 c (ρ 1 f1 - 65) 8 = σ2 8 from rfl, show upS σ2 5 c (ρ 1 f1 - 65) 9 = σ2 9 from rfl, u4.1 4 (by decide), u4.1 5 (by decide), u4.1 6 (by decide), u4.1 7 (by decide), u4.1 8 (by decide), u4.1 9 (by decide)]
          exact this
        · unfold PRh
          rw [upS_s, u5.1 1 (by decide), upS_s, e23]
          exact ⟨rfl, by omega, by omega⟩)
      refine ⟨σ4, τ4, fun Q hq => cl Q ?_, fun Q hq => ?_, Or.inr ⟨hlt, v3⟩, a4.z.tr (u4.z.tr ((FZg.up (by decide)).tr v4)), a5.w.tr ((FWg.up (by decide) (by omega)).tr (u5.w.tr v5))⟩
      · unfold wp_X6_readPart wp_X6_readPart_b60
        refine b1 _ ⟨fun q => absurd q hr1, fun _ => ⟨by rw [k6]; omega, fun v6 e6 => u1 _ ⟨by omega, fun σ6 e66 => ?_⟩⟩⟩
        rw [k6, Int.toNat_natCast, kt f1 hlt1, w32_of (by omega) (by omega)] at e6
        rw [e66, e6, Int.toNat_natCast]; exact v1 Q hq
      · unfold wp_X12_readRule wp_X12_readRule_b14 wp_X12_readRule_b47
        refine ⟨fun _ => h_goodG hG.2.2.2.2.2.1 ⟨fun _ => a2 _ ?_, fun q => absurd (by decide) q⟩, fun q => absurd (by omega) q⟩
        intro v7 e7
        rw [r13, ev] at e7
        subst e7
        refine ⟨fun _ => ⟨by omega, fun σ10 e10 => ?_⟩, fun q => absurd e22 q⟩
        rw [e10, Int.toNat_natCast]
        exact h_goodG (τ := upS τ1 1 (40 + c) (τ1 0 23)) a3.2.2.2.2.2.1 ⟨fun q => absurd q (by decide), fun _ => u2 _ (v2 Q hq)⟩
