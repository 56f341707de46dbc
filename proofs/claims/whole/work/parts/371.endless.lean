/-! the reference's endless items -/
def en (τ : St) (a i j : Int) : Int := τ 16 (it a i j).toNat
def EnP (τ : St) (p i j : Int) : Prop := p < 100 ∧ en τ p i j ≠ 0
theorem r_isEndlessPart {ρ τ : St} {p i j : Int} (hp : isPart p) (hi : 0 ≤ i ∧ i < j ∧ j ≤ 8) {Q : Int → St → Prop} (hno : ¬ EnP τ p i j → Q 0 τ) (hyes : EnP τ p i j → Q 1 τ) : wp_X12_isEndlessPart p i j τ Q := by
  unfold isPart at hp
  unfold wp_X12_isEndlessPart wp_X12_isEndlessPart_b24
  refine ⟨fun h => hno (fun z => by have := z.1; omega), fun h => r_item (by omega) hi ⟨it_r (by omega) hi, fun z => hno (fun w => w.2 z), fun z => hyes ⟨by omega, z⟩⟩⟩
/-- rule r has a case that goes on without end -/
def GO (ρ τ : St) (i j : Int) (r : Nat) : Prop := (ρ 5 r = -1 ∧ hT ρ (ρ 4 r) i j ∧ EnP τ (ρ 4 r) i j) ∨ (ρ 5 r ≠ -1 ∧ ∃ m, i < m ∧ m < j ∧ hT ρ (ρ 4 r) i m ∧ hT ρ (ρ 5 r) m j ∧ (EnP τ (ρ 4 r) i m ∨ EnP τ (ρ 5 r) m j))
theorem r_goesOn {ρ τ : St} (hg : Wg ρ) (ha : LA ρ τ) (hs8 : ρ 0 8 ≤ 8) {i j : Int} (hi : 0 ≤ i ∧ i < j ∧ j ≤ ρ 0 8) {r : Nat} (hr : (r : Int) < ρ 0 4) {Q : Int → St → Prop} (hno : ¬ GO ρ τ i j r → Q 0 τ) (hyes : GO ρ τ i j r → Q 1 τ) : wp_X12_goesOn (r : Int) i j τ Q := by
  have h40 := hg.2.1
  obtain ⟨k1, k2, k3, k4⟩ := ha.1.2.2.2.1 r hr
  obtain ⟨hh, hp1, hp2, -⟩ := hg.2.2 r hr
  have lp : ρ 5 r ≠ -1 → ∀ (d : Nat) (m : Int) (n : Nat), m + d = j → i < m → d < n → (∀ m', i < m' → m' < m → ¬ (hT ρ (ρ 4 r) i m' ∧ hT ρ (ρ 5 r) m' j ∧ (EnP τ (ρ 4 r) i m' ∨ EnP τ (ρ 5 r) m' j))) → wp_X12_goesOn_l51 Q n (r : Int) i j m τ := by
    intro h5 d
    have hp2 := hp2.resolve_left h5
    induction d with
    | zero =>
      intro m n hd hm hn hz
      obtain ⟨n, rfl⟩ := suc_n hn
      unfold wp_X12_goesOn_l51
      refine ⟨fun _ => hno (fun z => ?_), fun w => absurd (by omega) w⟩
      rcases z with z | ⟨-, m', a1, a2, a3, a4, a5⟩
      · exact h5 z.1
      · exact hz m' a1 (by omega) ⟨a3, a4, a5⟩
    | succ d ih =>
      intro m n hd hm hn hz
      obtain ⟨n, rfl⟩ := suc_n hn
      have hmj : m < j := by push_cast at hd; omega
      have nx : ¬ (hT ρ (ρ 4 r) i m ∧ hT ρ (ρ 5 r) m j ∧ (EnP τ (ρ 4 r) i m ∨ EnP τ (ρ 5 r) m j)) → wp_X12_goesOn_b123 Q (wp_X12_goesOn_l51 Q n) (r : Int) i j m τ := by
        intro h
        unfold wp_X12_goesOn_b123
        intro v ev
        rw [ev, w32_of (by omega) (by omega)]
        refine ih (m + 1) n (by push_cast at hd; omega) (by omega) (by omega) (fun m' a1 a2 => ?_)
        by_cases e : m' = m
        · subst e; exact h
        · exact hz m' a1 (by omega)
      unfold wp_X12_goesOn_l51
      rw [Int.toNat_natCast, k2]
      refine ⟨fun w => absurd w (by omega), fun _ => ⟨by omega, r_fits2 hg ha hs8 hp1 (by omega) (fun h => ⟨fun _ => nx (fun z => h z.1), fun z => absurd rfl z⟩) (fun y1 => ⟨fun z => absurd z (by decide), fun _ => ⟨by omega, ?_⟩⟩)⟩⟩
      rw [k3]
      refine r_fits2 hg ha hs8 hp2 (by omega) (fun h => ⟨fun _ => nx (fun z => h z.2.1), fun z => absurd rfl z⟩) (fun y2 => ⟨fun z => absurd z (by decide), fun _ => ⟨by omega, ?_⟩⟩)
      rw [k2]
      refine r_isEndlessPart (ρ := ρ) hp1 (by omega) (fun h => ⟨fun z => absurd rfl z, fun _ => ⟨by omega, ?_⟩⟩) (fun h => ⟨fun _ => hyes (Or.inr ⟨h5, m, hm, hmj, y1, y2, Or.inl h⟩), fun z => absurd (by decide) z⟩)
      rw [k3]
      exact r_isEndlessPart (ρ := ρ) hp2 (by omega) (fun h2 => ⟨fun _ => nx (fun z => by rcases z.2.2 with w | w; exact h w; exact h2 w), fun z => absurd rfl z⟩) (fun h2 => ⟨fun z => absurd z (by decide), fun _ => hyes (Or.inr ⟨h5, m, hm, hmj, y1, y2, Or.inr h2⟩)⟩)
  unfold wp_X12_goesOn wp_X12_goesOn_b44
  rw [Int.toNat_natCast, k3, k2]
  refine ⟨by omega, fun h5 v ev => ?_, fun h5 => ⟨by omega, ?_⟩⟩
  · rw [ev, w32_of (by omega) (by omega)]
    exact lp h5 (j - (i + 1)).toNat (i + 1) bigN (by omega) (by omega) (by unfold bigN; omega) (fun m' a1 a2 => by omega)
  · have h5 : ρ 5 r = -1 := by omega
    refine r_fits2 hg ha hs8 hp1 hi (fun h => ⟨fun _ => hno (fun z => ?_), fun z => absurd rfl z⟩) (fun y1 => ⟨fun z => absurd z (by decide), fun _ => ⟨by omega, ?_⟩⟩)
    · rcases z with z | z
      · exact h z.2.1
      · exact z.1 h5
    · rw [k2]
      refine r_isEndlessPart (ρ := ρ) hp1 (by omega) (fun h => ⟨fun _ => hno (fun z => ?_), fun z => absurd rfl z⟩) (fun h => ⟨fun z => absurd z (by decide), fun _ => hyes (Or.inl ⟨h5, y1, h⟩)⟩)
      rcases z with z | z
      · exact h z.2.2
      · exact z.1 h5
/-- a span's flags as far as they are set -/
def SE (ρ τ0 τ : St) (i j : Int) : Prop := LA ρ τ ∧ (∀ k : Nat, (∀ a : Int, 0 ≤ a → a < 12 → k ≠ (it a i j).toNat) → τ 16 k = τ0 16 k) ∧ (∀ a : Int, 0 ≤ a → a < 12 → en τ a i j = 0 ∨ (en τ a i j = 1 ∧ ¬ FN ρ (itN ρ a i j))) ∧ τ 17 = τ0 17
theorem SE.mark {ρ τ0 τ : St} {i j a : Int} (h : SE ρ τ0 τ i j) (hs8 : ρ 0 8 ≤ 8) (hI : isItm ρ a i j) (hn : ¬ FN ρ (itN ρ a i j)) : SE ρ τ0 (upS τ 16 (it a i j).toNat 1) i j := by
  obtain ⟨h1, h2, h3, h4⟩ := h
  have hi := hI.2
  refine ⟨h1, fun k hk => ?_, fun b b0 b1 => ?_, ?_⟩
  · rw [upS_j (hk a hI.1.1 hI.1.2)]; exact h2 k hk
  · unfold en
    by_cases e : (it b i j).toNat = (it a i j).toNat
    · have := (it_inj ⟨b0, b1⟩ (by omega) hI.1 (by omega) e).1
      rw [e, upS_s, this]; exact Or.inr ⟨rfl, hn⟩
    · rw [upS_j e]; exact h3 b b0 b1
  · rw [upS_k (by decide)]; exact h4
/-- shorter spans inside are right -/
def eOk (ρ τ : St) (a k l : Int) : Prop := (en τ a k l = 0 ∧ FQ ρ (12 * (l - k).toNat) (itN ρ a k l)) ∨ (en τ a k l = 1 ∧ ¬ FN ρ (itN ρ a k l))
def HE (ρ τ : St) (i j : Int) : Prop := ∀ a k l : Int, 0 ≤ a → a < 12 → i ≤ k → k < l → l ≤ j → l - k < j - i → eOk ρ τ a k l
theorem HE.se {ρ τ0 τ : St} {i j : Int} (hi : 0 ≤ i ∧ i < j ∧ j ≤ 8) (h : HE ρ τ0 i j) (s : SE ρ τ0 τ i j) : HE ρ τ i j := by
  intro a k l h0 h1 h2 h3 h4 h5
  have := h a k l h0 h1 h2 h3 h4 h5
  have e : en τ a k l = en τ0 a k l := by
    refine s.2.1 _ (fun b b0 b1 e => ?_)
    have := it_inj ⟨h0, h1⟩ (by omega) ⟨b0, b1⟩ hi e
    omega
  unfold eOk at *
  rw [e]; exact this
/-- a case of rule r, as the class has it -/
theorem case1 {ρ : St} (hg : Wg ρ) (hL : LL ρ < 9) (h80 : 0 ≤ ρ 0 8) {a : Nat} {r : Nat} (ha : a < 12) (hr : (r : Int) < ρ 0 4) (h8 : ρ 8 r = 0) (h3 : ρ 3 r = (a : Int)) {i j : Nat} (hi : i < j ∧ j ≤ LL ρ) (h5 : ρ 5 r = -1) (ht : hT ρ (ρ 4 r) i j) : ∃ c ∈ cI ρ (12 * spA (LL ρ) i j + a), fullC ρ c ∧ c.2.2.1 = pv ρ (ρ 4 r) i j ∧ c.2.2.2 = -1 := by
  have q := sp_a (L := LL ρ) hL hi
  have hp := (hg.2.2 r hr).2.1
  have hv := (hPt_pv hg hL hp hi).2 ht
  refine ⟨((r : Int), -1, pv ρ (ρ 4 r) i j, -1), (mem_cI ha).2 ⟨r, by omega, inA_iff.2 ⟨h3, h8⟩, ?_⟩, ⟨hv.2, Or.inl (by show (-1 : Int) < 0; decide)⟩, rfl, rfl⟩
  rw [q.2.1, q.2.2]
  exact mem_cC.2 (Or.inl ⟨h5, hv.1, rfl⟩)
theorem case2 {ρ : St} (hg : Wg ρ) (hL : LL ρ < 9) (h80 : 0 ≤ ρ 0 8) {a : Nat} {r : Nat} (ha : a < 12) (hr : (r : Int) < ρ 0 4) (h8 : ρ 8 r = 0) (h3 : ρ 3 r = (a : Int)) {i m j : Nat} (hi : i < m ∧ m < j ∧ j ≤ LL ρ) (h5 : ρ 5 r ≠ -1) (h1 : hT ρ (ρ 4 r) i m) (h2 : hT ρ (ρ 5 r) m j) : ∃ c ∈ cI ρ (12 * spA (LL ρ) i j + a), fullC ρ c ∧ c.2.2.1 = pv ρ (ρ 4 r) i m ∧ c.2.2.2 = pv ρ (ρ 5 r) m j := by
  have q := sp_a (L := LL ρ) hL (i := i) (j := j) (by omega)
  have hp := (hg.2.2 r hr).2.1
  have hp2 := (hg.2.2 r hr).2.2.1.resolve_left h5
  have v1 := (hPt_pv hg hL hp (i := i) (j := m) (by omega)).2 h1
  have v2 := (hPt_pv hg hL hp2 (i := m) (j := j) (by omega)).2 h2
  refine ⟨((r : Int), (m : Int), pv ρ (ρ 4 r) i m, pv ρ (ρ 5 r) m j), (mem_cI ha).2 ⟨r, by omega, inA_iff.2 ⟨h3, h8⟩, ?_⟩, ⟨v1.2, v2.2⟩, rfl, rfl⟩
  rw [q.2.1, q.2.2]
  exact mem_cC.2 (Or.inr ⟨h5, m, by omega, by omega, v1.1, v2.1, rfl⟩)
theorem pv_itN {ρ : St} {p : Int} {i j : Nat} (hp : 0 ≤ p ∧ p < 12) : pv ρ p i j = ((itN ρ p i j : Nat) : Int) := by
  rw [pv_lab (by omega)]
  unfold itN
  rw [Int.toNat_natCast, Int.toNat_natCast]
  push_cast; omega
/-- what goes on has no end -/
theorem go_nf {ρ τ0 τ : St} (hg : Wg ρ) (hL : LL ρ < 9) (h80 : 0 ≤ ρ 0 8) {i j : Nat} (hi : i < j ∧ j ≤ LL ρ) (hH : HE ρ τ0 i j) (s : SE ρ τ0 τ i j) {r : Nat} (hr : (r : Int) < ρ 0 4) (h8 : ρ 8 r = 0) (h : GO ρ τ i j r) : ¬ FN ρ (itN ρ (ρ 3 r) i j) := by
  have hh := (hg.2.2 r hr).1
  have hp1 := (hg.2.2 r hr).2.1
  have hp2 := (hg.2.2 r hr).2.2.1
  have hs8 : LL ρ ≤ 8 := by omega
  have H := hH.se (by omega) s
  unfold isPart at hp1
  have eN : itN ρ (ρ 3 r) i j = 12 * spA (LL ρ) i j + (ρ 3 r).toNat := by unfold itN; rw [Int.toNat_natCast, Int.toNat_natCast]
  intro hf
  rw [eN] at hf
  rcases h with ⟨h5, t1, e1⟩ | ⟨h5, m, m1, m2, t1, t2, e⟩
  · obtain ⟨c, hc, hfu, c1, c2⟩ := case1 hg hL h80 (a := (ρ 3 r).toNat) (by omega) hr h8 (by omega) hi h5 t1
    have fc := (FN_iff.1 hf c hc hfu).1
    rw [c1, pv_itN (by have := e1.1; omega), Int.toNat_natCast] at fc
    rcases s.2.2.1 (ρ 4 r) (by have := e1.1; omega) (by have := e1.1; omega) with z | z
    · exact e1.2 z
    · exact z.2 (fc (by omega))
  · have em : m = ((m.toNat : Nat) : Int) := by omega
    rw [em] at t1 t2 e m1 m2
    obtain ⟨c, hc, hfu, c1, c2⟩ := case2 hg hL h80 (a := (ρ 3 r).toNat) (by omega) hr h8 (by omega) (i := i) (m := m.toNat) (j := j) (by omega) h5 t1 t2
    have hp2 := hp2.resolve_left h5
    unfold isPart at hp2
    have fc := FN_iff.1 hf c hc hfu
    rcases e with e | e
    · have f1 := fc.1
      rw [c1, pv_itN (by have := e.1; omega), Int.toNat_natCast] at f1
      rcases H (ρ 4 r) i m.toNat (by have := e.1; omega) (by have := e.1; omega) (by omega) (by omega) (by omega) (by omega) with z | z
      · exact e.2 z.1
      · exact z.2 (f1 (by omega))
    · have f1 := fc.2
      rw [c2, pv_itN (by have := e.1; omega), Int.toNat_natCast] at f1
      rcases H (ρ 5 r) m.toNat j (by have := e.1; omega) (by have := e.1; omega) (by omega) (by omega) (by omega) (by omega) with z | z
      · exact e.2 z.1
      · exact z.2 (f1 (by omega))
/-- closed: what isn't marked is finite -/
theorem se_fin {ρ τ0 τ : St} (hg : Wg ρ) (hL : LL ρ < 9) (h80 : 0 ≤ ρ 0 8) {i j : Nat} (hi : i < j ∧ j ≤ LL ρ) (hH : HE ρ τ0 i j) (s : SE ρ τ0 τ i j) (hring : ∀ a : Nat, a < 12 → PT (Ed ρ (spA (LL ρ) i j)) 12 a a → en τ a i j ≠ 0) (hc : ∀ r : Nat, (r : Int) < ρ 0 4 → ρ 8 r = 0 → en τ (ρ 3 r) i j = 0 → ¬ GO ρ τ i j r) : ∀ a : Int, 0 ≤ a → a < 12 → eOk ρ τ a i j := by
  have q := sp_a (L := LL ρ) hL hi
  have H := hH.se (by omega) s
  have key := unm_fin hg hL q.1 (U := fun a => en τ a i j = 0) (K := 12 * (j - i - 1)) (fun a ha hu c hcm hf hgo => ?_) (fun a b ha hb hu he => ?_) (fun a ha hu hr => hring a ha hr hu)
  · intro a h0 h1
    have eN : itN ρ a i j = 12 * spA (LL ρ) i j + a.toNat := by unfold itN; rw [Int.toNat_natCast, Int.toNat_natCast]
    rcases s.2.2.1 a h0 h1 with z | z
    · refine Or.inl ⟨z, ?_⟩
      have := key a.toNat (by omega) (by rw [show ((a.toNat : Nat) : Int) = a by omega]; exact z)
      rw [eN, show 12 * ((j : Int) - (i : Int)).toNat = 12 * (j - i - 1) + 12 by omega]
      exact this
    · exact Or.inr z
  · obtain ⟨r, r1, r2, r3, r4, hh⟩ := cI_info ha hcm
    have hp1 := (hg.2.2 r r1).2.1
    have hp2 := (hg.2.2 r r1).2.2.1
    have hhd := (hg.2.2 r r1).1
    rw [q.2.1, q.2.2] at hh
    have ngo := hc r r1 r2 (by rw [r3]; exact hu)
    rcases hh with ⟨h5, h6, h7, h8, h9⟩ | ⟨h5, m, h6, h7, h8, h9, h10, h11, h12⟩
    · refine ⟨fun z => absurd ⟨h7, z⟩ hgo, fun z => by omega⟩
    · have hp2 := hp2.resolve_left h5
      have t1 := (hPt_pv hg hL hp1 (i := i) (j := m) (by omega)).1 ⟨h8, by rw [← h11]; exact hf.1⟩
      have t2 := (hPt_pv hg hL hp2 (i := m) (j := j) (by omega)).1 ⟨h9, by rw [← h12]; exact hf.2⟩
      have ne : ∀ e, (EnP τ (ρ 4 r) i m ∨ EnP τ (ρ 5 r) m j) → e := fun e z => absurd (Or.inr ⟨h5, (m : Int), by omega, by omega, t1, t2, z⟩) ngo
      unfold isPart at hp1 hp2
      refine ⟨fun z => ?_, fun z => ?_⟩
      · rw [h11] at z ⊢
        have hl : ρ 4 r < 100 := by
          refine Classical.byContradiction (fun y => ?_)
          by_cases hcc : m = i + 1 ∧ ρ 11 i = ρ 4 r - 100
          · rw [pv_yes (by omega) hcc] at z; exact absurd z (by decide)
          · rw [pv_no (by omega) hcc] at z; exact absurd z (by decide)
        rw [pv_itN (by omega), Int.toNat_natCast]
        rcases H (ρ 4 r) i m (by omega) (by omega) (by omega) (by omega) (by omega) (by omega) with y | y
        · exact y.2.to (by omega)
        · exact ne _ (Or.inl ⟨hl, by rw [y.1]; decide⟩)
      · rw [h12] at z ⊢
        have hl : ρ 5 r < 100 := by
          refine Classical.byContradiction (fun y => ?_)
          by_cases hcc : j = m + 1 ∧ ρ 11 m = ρ 5 r - 100
          · rw [pv_yes (by omega) hcc] at z; exact absurd z (by decide)
          · rw [pv_no (by omega) hcc] at z; exact absurd z (by decide)
        rw [pv_itN (by omega), Int.toNat_natCast]
        rcases H (ρ 5 r) m j (by omega) (by omega) (by omega) (by omega) (by omega) (by omega) with y | y
        · exact y.2.to (by omega)
        · exact ne _ (Or.inr ⟨hl, by rw [y.1]; decide⟩)
  · obtain ⟨r, r1, r2, r3, r4, r5, r6⟩ := he
    have ngo := hc r r1 r2 (by rw [r3]; exact hu)
    show en τ b i j = 0
    refine Classical.byContradiction (fun z => ngo (Or.inl ⟨r4, ?_, by rw [r5]; omega, by rw [r5]; exact z⟩))
    have hI : isItm ρ (b : Int) (i : Int) (j : Int) := ⟨by omega, by omega, by omega, by unfold LL at hi; omega⟩
    rw [r5, ← hPt_itN hL hI]
    unfold itN
    rw [Int.toNat_natCast, Int.toNat_natCast, Int.toNat_natCast]
    exact r6
