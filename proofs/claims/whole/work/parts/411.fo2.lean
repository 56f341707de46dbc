/-! the first sixteen of a set; one more; only one forest is such -/
theorem TopP.ins {lt : En → En → Prop} (htr : ∀ a b c, lt a b → lt b c → lt a c) {P : En → Prop} {n : Nat} {L : Nat → En} (h : TopP lt P n L) {z : En} {p : Nat} (hp : p ≤ n) (h16 : p < 16) (hlo : ∀ i, i < p → lt (L i) z) (hhi : ∀ i, p ≤ i → i < n → lt z (L i)) : TopP lt (fun w => P w ∨ w = z) (min (n + 1) 16) (fun i => if i < p then L i else if i = p then z else L (i - 1)) := by
  obtain ⟨h1, h2, h3, h4⟩ := h
  refine ⟨by omega, fun i hi => ?_, fun i j hij hj => ?_, fun w hw => ?_⟩
  · show P (if i < p then L i else if i = p then z else L (i - 1)) ∨ (if i < p then L i else if i = p then z else L (i - 1)) = z
    by_cases g : i < p
    · rw [if_pos g]; exact Or.inl (h2 i (by omega))
    · rw [if_neg g]
      by_cases g2 : i = p
      · rw [if_pos g2]; exact Or.inr rfl
      · rw [if_neg g2]; exact Or.inl (h2 (i - 1) (by omega))
  · show lt (if i < p then L i else if i = p then z else L (i - 1)) (if j < p then L j else if j = p then z else L (j - 1))
    by_cases g : j < p
    · rw [if_pos g, if_pos (by omega)]; exact h3 i j hij (by omega)
    · rw [if_neg g]
      by_cases g2 : j = p
      · rw [if_pos g2, if_pos (by omega)]; exact hlo i (by omega)
      · rw [if_neg g2]
        by_cases g3 : i < p
        · rw [if_pos g3]; exact h3 i (j - 1) (by omega) (by omega)
        · rw [if_neg g3]
          by_cases g4 : i = p
          · rw [if_pos g4]; exact hhi (j - 1) (by omega) (by omega)
          · rw [if_neg g4]; exact h3 (i - 1) (j - 1) (by omega) (by omega)
  · have all : ∀ w, (n = 16 ∧ lt (L 15) w) → (min (n + 1) 16 = 16 ∧ ∀ i, i < 16 → lt (if i < p then L i else if i = p then z else L (i - 1)) w) := by
      rintro w ⟨e, g⟩
      have lz : lt z w := htr _ _ _ (hhi 15 (by omega) (by omega)) g
      have lo : ∀ i, i ≤ 15 → lt (L i) w := fun i hi => by
        by_cases e2 : i = 15
        · rw [e2]; exact g
        · exact htr _ _ _ (h3 i 15 (by omega) (by omega)) g
      refine ⟨by omega, fun i hi => ?_⟩
      by_cases g1 : i < p
      · rw [if_pos g1]; exact lo i (by omega)
      · rw [if_neg g1]
        by_cases g2 : i = p
        · rw [if_pos g2]; exact lz
        · rw [if_neg g2]; exact lo (i - 1) (by omega)
    rcases hw with hw | hw
    · rcases h4 w hw with ⟨i, hi, e⟩ | ⟨e, g⟩
      · by_cases g : i < p
        · exact Or.inl ⟨i, by omega, by show (if i < p then L i else if i = p then z else L (i - 1)) = w; rw [if_pos g]; exact e⟩
        · by_cases g2 : i + 1 < 16
          · refine Or.inl ⟨i + 1, by omega, ?_⟩
            show (if i + 1 < p then L (i + 1) else if i + 1 = p then z else L (i + 1 - 1)) = w
            rw [if_neg (by omega), if_neg (by omega)]; exact e
          · have ei : i = 15 := by omega
            subst ei
            have en : n = 16 := by omega
            refine Or.inr ⟨by omega, fun i hi => ?_⟩
            rw [← e]
            show lt (if i < p then L i else if i = p then z else L (i - 1)) (L 15)
            by_cases g1 : i < p
            · rw [if_pos g1]; exact h3 i 15 (by omega) (by omega)
            · rw [if_neg g1]
              by_cases g2 : i = p
              · rw [if_pos g2]; exact hhi 15 (by omega) (by omega)
              · rw [if_neg g2]; exact h3 (i - 1) 15 (by omega) (by omega)
      · exact Or.inr (all w ⟨e, g 15 (by omega)⟩)
    · refine Or.inl ⟨p, by omega, ?_⟩
      show (if p < p then L p else if p = p then z else L (p - 1)) = w
      rw [if_neg (by omega), if_pos rfl]; exact hw.symm
theorem TopP.more {lt : En → En → Prop} {P P2 : En → Prop} {n : Nat} {L : Nat → En} (h : TopP lt P n L) (hs : ∀ w, P w → P2 w) (hm : ∀ w, P2 w → ¬ P w → n = 16 ∧ ∀ i, i < 16 → lt (L i) w) : TopP lt P2 n L := by
  obtain ⟨h1, h2, h3, h4⟩ := h
  refine ⟨h1, fun i hi => hs _ (h2 i hi), h3, fun w hw => ?_⟩
  by_cases hp : P w
  · exact h4 w hp
  · exact Or.inr (hm w hw hp)
theorem TopP.cg {lt : En → En → Prop} {P P2 : En → Prop} {n : Nat} {L L2 : Nat → En} (h : TopP lt P n L) (hs : ∀ w, P w ↔ P2 w) (hL : ∀ i, i < n → L2 i = L i) : TopP lt P2 n L2 := by
  obtain ⟨h1, h2, h3, h4⟩ := h
  refine ⟨h1, fun i hi => by rw [hL i hi]; exact (hs _).1 (h2 i hi), fun i j hij hj => by rw [hL i (by omega), hL j hj]; exact h3 i j hij hj, fun w hw => ?_⟩
  rcases h4 w ((hs w).2 hw) with ⟨i, hi, e⟩ | ⟨e, g⟩
  · exact Or.inl ⟨i, hi, by rw [hL i hi]; exact e⟩
  · exact Or.inr ⟨e, fun i hi => by rw [hL i (by omega)]; exact g i hi⟩
theorem TopP.nil {lt : En → En → Prop} {P : En → Prop} {L : Nat → En} (h : ∀ w, ¬ P w) : TopP lt P 0 L := ⟨by omega, fun i hi => by omega, fun i j _ hj => by omega, fun w hw => absurd hw (h w)⟩
/-- trees that cost less than c are the same in both -/
def AgF (D : Nat → Prop) (F G : Fo) (c : Int) : Prop := ∀ q, D q → ∀ k, k < F.1 q → (F.2 q k).1 < c → k < G.1 q ∧ G.2 q k = F.2 q k
theorem AgF.fln {ρ : St} {F G : Fo} {D : Nat → Prop} (h : ClF ρ F D) {c : Int} (ha : AgF D F G c) : ∀ (n q k l : Nat), D q → k < F.1 q → l < F.1 q → (F.2 q k).1 < c → (F.2 q l).1 < c → FLn ρ F n q k l → FLn ρ G n q k l
  | 0, q, k, l, _, _, _, _, _, h0 => h0
  | n + 1, q, k, l, hq, hk, hl, ck, cl, hf => by
    have ih := AgF.fln (ρ := ρ) h ha n
    have ek := (ha q hq k hk ck).2
    have el := (ha q hq l hl cl).2
    have sk := h.sub hq ((h q hq).1 k hk).1
    have sl := h.sub hq ((h q hq).1 l hl).1
    obtain ⟨k1, k2, k3, k4⟩ := ((h q hq).1 k hk).1
    obtain ⟨l1, l2, l3, l4⟩ := ((h q hq).1 l hl).1
    obtain ⟨a1, a2, a3⟩ := (h q hq).2.2 _ k1
    unfold FLn at hf ⊢
    rw [ek, el]
    rcases hf with g | ⟨g, ⟨g1, g2⟩ | ⟨g1, g2, g3⟩⟩
    · exact Or.inl g
    · refine Or.inr ⟨g, Or.inl ⟨g1, ?_⟩⟩
      rw [← g] at l2 sl
      by_cases h0 : cf ρ q (F.2 q k).2.1 < 0
      · rw [hsF_neg h0] at k2 l2; omega
      · rw [hsF_pos (by omega)] at k2 l2
        have x1 := sk.2.1
        have x2 := sl.2.1
        rw [scF_pos (by omega)] at x1 x2
        exact ih _ _ _ (a1 (by omega)) k2 l2 (by omega) (by omega) g2
    · refine Or.inr ⟨g, Or.inr ⟨g1, g2, ?_⟩⟩
      rw [← g] at l3 sl
      by_cases h0 : cg ρ q (F.2 q k).2.1 < 0
      · rw [hsF_neg h0] at k3 l3; omega
      · rw [hsF_pos (by omega)] at k3 l3
        have x1 := sk.2.2
        have x2 := sl.2.2
        rw [scF_pos (by omega)] at x1 x2
        exact ih _ _ _ (a2 (by omega)) k3 l3 (by omega) (by omega) g3
theorem AgF.sc {F G : Fo} {D : Nat → Prop} {c : Int} (ha : AgF D F G c) {p : Int} (hp : 0 ≤ p → D p.toNat) {x : Nat} (h : x < hsF F p) (hc : scF F p x < c) : x < hsF G p ∧ scF G p x = scF F p x := by
  by_cases h0 : p < 0
  · rw [hsF_neg h0] at *; rw [scF_neg h0, scF_neg h0]; exact ⟨h, rfl⟩
  · rw [hsF_pos (by omega)] at h
    rw [scF_pos (by omega)] at hc
    rw [hsF_pos (by omega), scF_pos (by omega), scF_pos (by omega)]
    have := ha _ (hp (by omega)) x h hc
    exact ⟨this.1, by rw [this.2]⟩
theorem AgF.cand {ρ : St} {F G : Fo} {D : Nat → Prop} (h : ClF ρ F D) {c : Int} (ha : AgF D F G c) {q : Nat} (hq : D q) {z : En} (hz : CandE ρ F q z) (hc : z.1 ≤ c) : CandE ρ G q z := by
  have s := h.sub hq hz
  obtain ⟨k1, k2, k3, k4⟩ := hz
  obtain ⟨a1, a2, a3⟩ := (h q hq).2.2 _ k1
  have b1 := ha.sc a1 k2 (by omega)
  have b2 := ha.sc a2 k3 (by omega)
  exact ⟨k1, b1.1, b2.1, by rw [b1.2, b2.2]; exact k4⟩
theorem AgF.lt {ρ : St} {F G : Fo} {D : Nat → Prop} (h : ClF ρ F D) {c : Int} (ha : AgF D F G c) {q : Nat} (hq : D q) {z w : En} (hz : CandE ρ F q z) (hw : CandE ρ F q w) (hzc : z.1 ≤ c) (hwc : w.1 ≤ c) (hl : ltE ρ F q z w) : ltE ρ G q z w := by
  rcases hl with hl | ⟨e, hl⟩
  · exact Or.inl hl
  · refine Or.inr ⟨e, ?_⟩
    have sk := h.sub hq hz
    have sl := h.sub hq hw
    obtain ⟨k1, k2, k3, k4⟩ := hz
    obtain ⟨l1, l2, l3, l4⟩ := hw
    obtain ⟨a1, a2, a3⟩ := (h q hq).2.2 _ k1
    rcases hl with g | ⟨g, ⟨g1, n, g2⟩ | ⟨g1, g2, n, g3⟩⟩
    · exact Or.inl g
    · refine Or.inr ⟨g, Or.inl ⟨g1, n, ?_⟩⟩
      rw [← g] at l2 sl
      by_cases h0 : cf ρ q z.2.1 < 0
      · rw [hsF_neg h0] at k2 l2; omega
      · rw [hsF_pos (by omega)] at k2 l2
        have x1 := sk.2.1
        have x2 := sl.2.1
        rw [scF_pos (by omega)] at x1 x2
        exact ha.fln h _ _ _ _ (a1 (by omega)) k2 l2 (by omega) (by omega) g2
    · refine Or.inr ⟨g, Or.inr ⟨g1, g2, n, ?_⟩⟩
      rw [← g] at l3 sl
      by_cases h0 : cg ρ q z.2.1 < 0
      · rw [hsF_neg h0] at k3 l3; omega
      · rw [hsF_pos (by omega)] at k3 l3
        have x1 := sk.2.2
        have x2 := sl.2.2
        rw [scF_pos (by omega)] at x1 x2
        exact ha.fln h _ _ _ _ (a2 (by omega)) k3 l3 (by omega) (by omega) g3
theorem fo_step {ρ : St} {F G : Fo} {D : Nat → Prop} (hF : ClF ρ F D) (hG : ClF ρ G D) {c : Int} (h1 : AgF D F G c) (h2 : AgF D G F c) {q : Nat} (hq : D q) (tF : TopP (ltE ρ F q) (CandE ρ F q) (F.1 q) (F.2 q)) (tG : TopP (ltE ρ G q) (CandE ρ G q) (G.1 q) (G.2 q)) : ∀ (k : Nat), k < F.1 q → (F.2 q k).1 ≤ c → k < G.1 q ∧ G.2 q k = F.2 q k := by
  intro k
  induction k using Nat.strongRecOn with
  | ind k ih =>
    intro hk hc
    have cz := ((hF q hq).1 k hk).1
    have czG := h1.cand hF hq cz hc
    have k16 : k < 16 := by have := tF.1; omega
    have claim : k < G.1 q → ltE ρ G q (G.2 q k) (F.2 q k) → False := by
      intro hkG hlt
      have cy := ((hG q hq).1 k hkG).1
      have hyc : (G.2 q k).1 ≤ c := Int.le_trans hlt.le hc
      have cyF := h2.cand hG hq cy hyc
      have ltF := h2.lt hG hq cy czG hyc hc hlt
      rcases tF.2.2.2 _ cyF with ⟨j, hj, e⟩ | ⟨e, g⟩
      · have hjk : j < k := by
          rcases Nat.lt_trichotomy j k with g | g | g
          · exact g
          · subst g; rw [e] at ltF; exact (ltE.irr ltF).elim
          · have := (hF q hq).2.1 k j g hj
            rw [e] at this
            exact (ltE.irr (ltF.tr this)).elim
        have hjc : (F.2 q j).1 ≤ c := by rw [e]; exact hyc
        have r := ih j hjk hj hjc
        have s := (hG q hq).2.1 j k hjk hkG
        rw [r.2, e] at s
        exact ltE.irr s
      · exact ltE.irr (ltF.tr (g k k16))
    rcases tG.2.2.2 _ czG with ⟨l, hl, e⟩ | ⟨e, g⟩
    · rcases Nat.lt_trichotomy l k with g | g | g
      · have r := ih l g (by omega) (Int.le_trans (hF.mono hq (Nat.le_of_lt g) hk) hc)
        have s := (hF q hq).2.1 l k g hk
        rw [← r.2, e] at s
        exact (ltE.irr s).elim
      · subst g; exact ⟨hl, e⟩
      · exfalso
        have s := (hG q hq).2.1 k l g hl
        rw [e] at s
        exact claim (by omega) s
    · exact (claim (by omega) (g k k16)).elim
theorem fo_uniq {ρ : St} {F G : Fo} {D : Nat → Prop} (hF : ClF ρ F D) (hG : ClF ρ G D) {s : Nat} (hlow : ∀ q, D q → q / 12 ≠ s → F.1 q = G.1 q ∧ ∀ k, k < F.1 q → G.2 q k = F.2 q k) (tF : ∀ q, D q → q / 12 = s → TopP (ltE ρ F q) (CandE ρ F q) (F.1 q) (F.2 q)) (tG : ∀ q, D q → q / 12 = s → TopP (ltE ρ G q) (CandE ρ G q) (G.1 q) (G.2 q)) : ∀ q, D q → F.1 q = G.1 q ∧ ∀ k, k < F.1 q → G.2 q k = F.2 q k := by
  have key : ∀ c : Nat, AgF D F G (c : Int) ∧ AgF D G F (c : Int) := by
    intro c
    induction c with
    | zero =>
      exact ⟨fun q hq k hk hc => by have := ((hF q hq).1 k hk).2; omega, fun q hq k hk hc => by have := ((hG q hq).1 k hk).2; omega⟩
    | succ c ih =>
      refine ⟨fun q hq k hk hc => ?_, fun q hq k hk hc => ?_⟩
      · by_cases e : q / 12 = s
        · exact fo_step hF hG ih.1 ih.2 hq (tF q hq e) (tG q hq e) k hk (by omega)
        · have := hlow q hq e
          exact ⟨by omega, this.2 k hk⟩
      · by_cases e : q / 12 = s
        · exact fo_step hG hF ih.2 ih.1 hq (tG q hq e) (tF q hq e) k hk (by omega)
        · have := hlow q hq e
          exact ⟨by omega, (this.2 k (by omega)).symm⟩
  intro q hq
  have a : ∀ k, k < F.1 q → k < G.1 q ∧ G.2 q k = F.2 q k := fun k hk => (key ((F.2 q k).1.toNat + 1)).1 q hq k hk (by omega)
  have b : ∀ k, k < G.1 q → k < F.1 q := fun k hk => ((key ((G.2 q k).1.toNat + 1)).2 q hq k hk (by omega)).1
  refine ⟨?_, fun k hk => (a k hk).2⟩
  rcases Nat.lt_trichotomy (F.1 q) (G.1 q) with g | g | g
  · have := b (F.1 q) g; omega
  · exact g
  · have := (a (G.1 q) g).1; omega
/-! taken one by one, the least first -/
def addF (F : Fo) (q : Nat) (z : En) : Fo := (fun p => if p = q then F.1 q + 1 else F.1 p, fun p k => if p = q ∧ k = F.1 q then z else F.2 p k)
theorem addF_h {F : Fo} {q p : Nat} {z : En} : (addF F q z).1 p = if p = q then F.1 q + 1 else F.1 p := rfl
theorem addF_e {F : Fo} {q p k : Nat} {z : En} : (addF F q z).2 p k = if p = q ∧ k = F.1 q then z else F.2 p k := rfl
theorem addF_ex {F : Fo} {q : Nat} {z : En} {D : Nat → Prop} : ExD D F (addF F q z) := by
  intro p _
  refine ⟨?_, fun k hk => ?_⟩
  · rw [addF_h]; split
    · next e => rw [e]; omega
    · exact Nat.le_refl _
  · rw [addF_e, if_neg (by rintro ⟨rfl, e⟩; omega)]
def inF (F : Fo) (q : Nat) (z : En) : Prop := ∃ k, k < F.1 q ∧ F.2 q k = z
def GrI (ρ : St) (F : Fo) (D : Nat → Prop) (s : Nat) (W : Nat → Prop) (M : Int) : Prop := ClF ρ F D ∧ (∀ a, a < 12 → D (12 * s + a)) ∧ (∀ a, a < 12 → F.1 (12 * s + a) ≤ 16) ∧ (∀ a, a < 12 → ∀ z, CandE ρ F (12 * s + a) z → inF F (12 * s + a) z ∨ ∀ k, k < F.1 (12 * s + a) → ltE ρ F (12 * s + a) (F.2 (12 * s + a) k) z) ∧ (∀ a, a < 12 → W a → ∀ k, k < F.1 (12 * s + a) → (F.2 (12 * s + a) k).1 ≤ M) ∧ (∀ a, a < 12 → W a → F.1 (12 * s + a) < 16 → ∀ z, CandE ρ F (12 * s + a) z → ¬ inF F (12 * s + a) z → M ≤ z.1) ∧ (∀ a, a < 12 → ¬ W a → F.1 (12 * s + a) < 16 → ∀ z, CandE ρ F (12 * s + a) z → inF F (12 * s + a) z) ∧ (∀ a, a < 12 → ¬ W a → ∀ t, t < (cI ρ (12 * s + a)).length → (0 ≤ cf ρ (12 * s + a) t → (cf ρ (12 * s + a) t).toNat / 12 ≠ s) ∧ (0 ≤ cg ρ (12 * s + a) t → (cg ρ (12 * s + a) t).toNat / 12 ≠ s))
theorem addF_new {ρ : St} {F : Fo} {D : Nat → Prop} (h : ClF ρ F D) {qa : Nat} {z : En} (hz : 0 ≤ z.1) {q : Nat} (hq : D q) {w : En} (hw : CandE ρ (addF F qa z) q w) : CandE ρ F q w ∨ z.1 < w.1 := by
  obtain ⟨k1, k2, k3, k4⟩ := hw
  obtain ⟨a1, a2, a3⟩ := (h q hq).2.2 _ k1
  have part : ∀ (p : Int) (x : Nat), (0 ≤ p → D p.toNat) → x < hsF (addF F qa z) p → (x < hsF F p ∧ scF (addF F qa z) p x = scF F p x ∧ 0 ≤ scF F p x) ∨ scF (addF F qa z) p x = z.1 := by
    intro p x hp hx
    by_cases h0 : p < 0
    · rw [hsF_neg h0] at *; rw [scF_neg h0, scF_neg h0]; exact Or.inl ⟨hx, rfl, Int.le_refl _⟩
    · rw [hsF_pos (by omega), addF_h] at hx
      by_cases e : p.toNat = qa ∧ x = F.1 qa
      · right
        rw [scF_pos (by omega), addF_e, if_pos e]
      · left
        have hx2 : x < F.1 p.toNat := by
          split at hx
          · next e2 =>
            rw [e2]
            have : x ≠ F.1 qa := fun q => e ⟨e2, q⟩
            omega
          · exact hx
        rw [hsF_pos (by omega), scF_pos (by omega), scF_pos (by omega), addF_e, if_neg e]
        have := ((h _ (hp (by omega))).1 x hx2).2
        exact ⟨hx2, rfl, by omega⟩
  rcases part _ _ a1 k2 with ⟨x1, x2, x3⟩ | x1
  · rcases part _ _ a2 k3 with ⟨y1, y2, y3⟩ | y1
    · left
      exact ⟨k1, x1, y1, by rw [← x2, ← y2]; exact k4⟩
    · right
      rw [k4, y1, x2]; omega
  · right
    have : 0 ≤ scF (addF F qa z) (cg ρ q w.2.1) w.2.2.2 := by
      rcases part _ _ a2 k3 with ⟨y1, y2, y3⟩ | y1
      · rw [y2]; exact y3
      · rw [y1]; exact hz
    rw [k4, x1]; omega
theorem addF_old {ρ : St} {F : Fo} {qa : Nat} {z : En} {q : Nat} {w : En} (hf : 0 ≤ cf ρ q w.2.1 → (cf ρ q w.2.1).toNat ≠ qa) (hgg : 0 ≤ cg ρ q w.2.1 → (cg ρ q w.2.1).toNat ≠ qa) (hw : CandE ρ (addF F qa z) q w) : CandE ρ F q w := by
  have part : ∀ (p : Int) (x : Nat), (0 ≤ p → p.toNat ≠ qa) → hsF (addF F qa z) p = hsF F p ∧ scF (addF F qa z) p x = scF F p x := by
    intro p x hp
    by_cases h0 : p < 0
    · rw [hsF_neg h0, hsF_neg h0, scF_neg h0, scF_neg h0]; exact ⟨rfl, rfl⟩
    · have hp := hp (by omega)
      rw [hsF_pos (by omega), hsF_pos (by omega), scF_pos (by omega), scF_pos (by omega), addF_h, addF_e, if_neg hp, if_neg (fun q => hp q.1)]
      exact ⟨rfl, rfl⟩
  obtain ⟨k1, k2, k3, k4⟩ := hw
  have A := part _ w.2.2.1 hf
  have B := part _ w.2.2.2 hgg
  rw [A.1] at k2
  rw [B.1] at k3
  rw [A.2, B.2] at k4
  exact ⟨k1, k2, k3, k4⟩
theorem gr_step {ρ : St} {F : Fo} {D : Nat → Prop} {s : Nat} {W : Nat → Prop} {M : Int} (h : GrI ρ F D s W M) {a : Nat} (ha : a < 12) (hWa : W a) (hlt : F.1 (12 * s + a) < 16) {z : En} (hz : CandE ρ F (12 * s + a) z) (hn : ¬ inF F (12 * s + a) z) (hmin : ∀ b, b < 12 → W b → F.1 (12 * s + b) < 16 → ∀ w, CandE ρ F (12 * s + b) w → ¬ inF F (12 * s + b) w → z.1 ≤ w.1) (hmin2 : ∀ w, CandE ρ F (12 * s + a) w → ¬ inF F (12 * s + a) w → w ≠ z → ltE ρ F (12 * s + a) z w) : GrI ρ (addF F (12 * s + a) z) D s W z.1 := by
  obtain ⟨h1, h2, h3, h4, h5, h6, h7, h8⟩ := h
  have hx : ExD D F (addF F (12 * s + a) z) := addF_ex
  have z0 := (h1.sub (h2 a ha) hz).1
  have zM := h6 a ha hWa hlt z hz hn
  have zall : ∀ k, k < F.1 (12 * s + a) → ltE ρ F (12 * s + a) (F.2 (12 * s + a) k) z := by
    rcases h4 a ha z hz with g | g
    · exact absurd g hn
    · exact g
  have le5 : ∀ b, b < 12 → W b → ∀ k, k < (addF F (12 * s + a) z).1 (12 * s + b) → ((addF F (12 * s + a) z).2 (12 * s + b) k).1 ≤ z.1 := by
    intro b hb hWb k hk
    rw [addF_h] at hk
    rw [addF_e]
    split
    · exact Int.le_refl _
    · next e =>
      split at hk
      · next e2 =>
        have : k < F.1 (12 * s + a) := by
          have : k ≠ F.1 (12 * s + a) := fun q => e ⟨e2, q⟩
          omega
        rw [e2]
        have := h5 a ha hWa k this; omega
      · have := h5 b hb hWb k hk; omega
  have inUp : ∀ q w, inF F q w → inF (addF F (12 * s + a) z) q w := by
    rintro q w ⟨k, hk, e⟩
    have hx' : ExD (fun _ => True) F (addF F (12 * s + a) z) := addF_ex
    exact ⟨k, by have := (hx' q trivial).1; omega, by rw [(hx' q trivial).2 k hk]; exact e⟩
  have inz : inF (addF F (12 * s + a) z) (12 * s + a) z := ⟨F.1 (12 * s + a), by rw [addF_h, if_pos rfl]; omega, by rw [addF_e, if_pos ⟨rfl, rfl⟩]⟩
  refine ⟨fun q hq => ⟨fun k hk => ?_, fun k l hkl hl => ?_, (h1 q hq).2.2⟩, h2, fun b hb => ?_, fun b hb w hw => ?_, le5, fun b hb hWb hb16 w hw hnw => ?_, fun b hb hWb hb16 w hw => ?_, h8⟩
  · rw [addF_h] at hk
    rw [addF_e]
    split
    · next e => rw [e.1]; exact ⟨hx.cand h1 (h2 a ha) hz, z0⟩
    · next e =>
      have hk2 : k < F.1 q := by
        split at hk
        · next e2 =>
          have : k ≠ F.1 (12 * s + a) := fun q2 => e ⟨e2, q2⟩
          rw [e2]; omega
        · exact hk
      have := (h1 q hq).1 k hk2
      exact ⟨hx.cand h1 hq this.1, this.2⟩
  · rw [addF_h] at hl
    have hkq : k < F.1 q := by
      split at hl
      · next e2 => rw [e2]; omega
      · omega
    rw [addF_e, addF_e, if_neg (by rintro ⟨rfl, e⟩; omega)]
    split
    · next e =>
      obtain ⟨e1, e2⟩ := e
      subst e1
      exact (hx.lt h1 hq ((h1 _ hq).1 k hkq).1 hz).1 (zall k hkq)
    · next e =>
      have hl2 : l < F.1 q := by
        split at hl
        · next e2 =>
          have : l ≠ F.1 (12 * s + a) := fun q2 => e ⟨e2, q2⟩
          rw [e2]; omega
        · exact hl
      exact (hx.lt h1 hq ((h1 q hq).1 k hkq).1 ((h1 q hq).1 l hl2).1).1 ((h1 q hq).2.1 k l hkl hl2)
  · rw [addF_h]
    split
    · omega
    · exact h3 b hb
  · rcases addF_new h1 (by omega) (h2 b hb) hw with g | g
    · rcases h4 b hb w g with r | r
      · exact Or.inl (inUp _ _ r)
      · by_cases e : b = a
        · subst e
          by_cases ew : w = z
          · rw [ew]; exact Or.inl inz
          · by_cases hi : inF F (12 * s + b) w
            · exact Or.inl (inUp _ _ hi)
            · refine Or.inr (fun k hk => ?_)
              rw [addF_h, if_pos rfl] at hk
              rw [addF_e]
              split
              · exact (hx.lt h1 (h2 b hb) hz g).1 (hmin2 w g hi ew)
              · next e3 =>
                have hk2 : k < F.1 (12 * s + b) := by
                  have : k ≠ F.1 (12 * s + b) := fun q2 => e3 ⟨rfl, q2⟩
                  omega
                exact (hx.lt h1 (h2 b hb) ((h1 _ (h2 b hb)).1 k hk2).1 g).1 (r k hk2)
        · refine Or.inr (fun k hk => ?_)
          rw [addF_h, if_neg (by omega)] at hk
          rw [addF_e, if_neg (by omega)]
          exact (hx.lt h1 (h2 b hb) ((h1 _ (h2 b hb)).1 k hk).1 g).1 (r k hk)
    · by_cases hWb : W b
      · refine Or.inr (fun k hk => Or.inl ?_)
        have := le5 b hb hWb k hk; omega
      · have g8 := h8 b hb hWb w.2.1 hw.1
        have cw := addF_old (fun q => by have := g8.1 q; omega) (fun q => by have := g8.2 q; omega) hw
        have hne : b ≠ a := fun e => hWb (e ▸ hWa)
        rcases h4 b hb w cw with r | r
        · exact Or.inl (inUp _ _ r)
        · refine Or.inr (fun k hk => ?_)
          rw [addF_h, if_neg (by omega)] at hk
          rw [addF_e, if_neg (by omega)]
          exact (hx.lt h1 (h2 b hb) ((h1 _ (h2 b hb)).1 k hk).1 cw).1 (r k hk)
  · rcases addF_new h1 (by omega) (h2 b hb) hw with g | g
    · have hb2 : F.1 (12 * s + b) < 16 := by
        rw [addF_h] at hb16
        split at hb16
        · next e => rw [e]; omega
        · exact hb16
      exact hmin b hb hWb hb2 w g (fun q => hnw (inUp _ _ q))
    · omega
  · have g8 := h8 b hb hWb w.2.1 hw.1
    have cw := addF_old (fun q => by have := g8.1 q; omega) (fun q => by have := g8.2 q; omega) hw
    have hne : b ≠ a := fun e => hWb (e ▸ hWa)
    rw [addF_h, if_neg (by omega)] at hb16
    exact inUp _ _ (h7 b hb hWb hb16 w cw)
theorem gr_end {ρ : St} {F : Fo} {D : Nat → Prop} {s : Nat} {W : Nat → Prop} {M : Int} (h : GrI ρ F D s W M) (he : ∀ b, b < 12 → W b → F.1 (12 * s + b) < 16 → ∀ w, CandE ρ F (12 * s + b) w → inF F (12 * s + b) w) {a : Nat} (ha : a < 12) : TopP (ltE ρ F (12 * s + a)) (CandE ρ F (12 * s + a)) (F.1 (12 * s + a)) (F.2 (12 * s + a)) := by
  obtain ⟨h1, h2, h3, h4, h5, h6, h7, h8⟩ := h
  refine ⟨h3 a ha, fun i hi => ((h1 _ (h2 a ha)).1 i hi).1, (h1 _ (h2 a ha)).2.1, fun w hw => ?_⟩
  by_cases hlt : F.1 (12 * s + a) < 16
  · by_cases hW : W a
    · exact Or.inl (he a ha hW hlt w hw)
    · exact Or.inl (h7 a ha hW hlt w hw)
  · have e : F.1 (12 * s + a) = 16 := by have := h3 a ha; omega
    rcases h4 a ha w hw with g | g
    · exact Or.inl g
    · exact Or.inr ⟨e, fun i hi => g i (by omega)⟩
