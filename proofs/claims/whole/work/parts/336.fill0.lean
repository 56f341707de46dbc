/-! rows of costs in the class -/
theorem te_smallY {g : St} (hg : Wg g) (y : Int) : ∀ (L : Nat) {p i j c : Int}, Te g (jY y) p i j c → j - i ≤ L → ∃ c', c' ≤ bdS L ∧ Te g (jY y) p i j c' := by
  have hJ := jokY y
  have hle : ∀ a b : Int, 0 ≤ a → 0 ≤ b → jY y a b ≤ a + b := by
    intro a b h1 h2
    by_cases hy : y = 0
    · subst hy; rw [jY_0]; omega
    · rw [jY_1 hy]; omega
  intro L
  induction L with
  | zero =>
    rintro p i j c ⟨k, h⟩ hl
    have := TP.lt k h; omega
  | succ L ih =>
    rintro p i j c ⟨k, h⟩ hl
    have hb0 := bdS_nn L
    obtain ⟨n, hn, hst⟩ := grow12p (s := fun n a => ∃ c, c ≤ 2 * bdS L + 99 + 99 * (n : Int) ∧ Te g (jY y) (a : Int) i j c) (fun n a ha h => by
      obtain ⟨c, hc, ht⟩ := h
      exact ⟨c, by push_cast; omega, ht⟩)
    have key : ∀ (k a : Nat) (c : Int), a < 12 → TP g (jY y) k (a : Int) i j c → ∃ c, c ≤ 2 * bdS L + 99 + 99 * (n : Int) ∧ Te g (jY y) (a : Int) i j c := by
      intro k
      induction k with
      | zero => intro a c ha h; have := h.1; omega
      | succ k ihk =>
        intro a c ha h
        rcases h with h | ⟨r, hr, h8, h3, ⟨h5, c1, hc1, rfl⟩ | ⟨h5, m, c1, c2, hi, hj, hc1, hc2, rfl⟩⟩
        · exact ihk a c ha h
        · have hw := hg.2.2 r hr
          have hp := hw.2.1
          unfold isPart at hp
          by_cases hl : 100 ≤ g 4 r
          · have h0 := (Te.letter_iff hg hl).1 ⟨k, hc1⟩
            refine ⟨_, ?_, h3 ▸ Te.single hr h8 h5 ⟨k, hc1⟩⟩
            have := hle (g 6 r) c1 (by omega) (by omega)
            omega
          · obtain ⟨c', hc', ht'⟩ := ihk (g 4 r).toNat c1 (by omega) (by rw [show (((g 4 r).toNat : Nat) : Int) = g 4 r by omega]; exact hc1)
            rw [show (((g 4 r).toNat : Nat) : Int) = g 4 r by omega] at ht'
            refine hst a ha ⟨_, ?_, h3 ▸ Te.single hr h8 h5 ht'⟩
            have := hle (g 6 r) c' (by omega) (Te.nn hJ hg ht')
            push_cast; omega
        · have hw := hg.2.2 r hr
          obtain ⟨a1, b1, t1⟩ := ih ⟨k, hc1⟩ (by push_cast at hl; omega)
          obtain ⟨a2, b2, t2⟩ := ih ⟨k, hc2⟩ (by push_cast at hl; omega)
          refine ⟨_, ?_, h3 ▸ Te.pair hr h8 h5 hi hj t1 t2⟩
          have n1 := Te.nn hJ hg t1
          have n2 := Te.nn hJ hg t2
          have n3 := hJ.1 a1 a2 n1
          have := hle a1 a2 n1 n2
          have := hle (g 6 r) (jY y a1 a2) (by omega) (by omega)
          omega
    by_cases hp : 100 ≤ p
    · have h0 := (Te.letter_iff hg hp).1 ⟨k, h⟩
      exact ⟨c, by unfold bdS; omega, k, h⟩
    · have hp2 : 0 ≤ p ∧ p < 12 := by
        obtain ⟨r, hr, h8, h3, -⟩ := Te.cases_on k h (by omega)
        have := w_head hg hr; omega
      obtain ⟨c', hc', ht'⟩ := key k p.toNat c (by omega) (by rw [show ((p.toNat : Nat) : Int) = p by omega]; exact h)
      rw [show ((p.toNat : Nat) : Int) = p by omega] at ht'
      exact ⟨c', by unfold bdS; omega, ht'⟩
/-- ρ with rule o left out -/
def gO (ρ : St) (o : Int) : St := if o < 0 then ρ else upS ρ 8 o.toNat 1
theorem gO_k {ρ : St} {o : Int} {k : Nat} (h : k ≠ 8) : gO ρ o k = ρ k := by
  unfold gO; split
  · rfl
  · exact upS_k h
theorem gO_8 {ρ : St} {o : Int} {r : Nat} : gO ρ o 8 r = 0 ↔ ρ 8 r = 0 ∧ (r : Int) ≠ o := by
  unfold gO
  by_cases h : o < 0
  · rw [if_pos h]
    exact ⟨fun q => ⟨q, by omega⟩, fun q => q.1⟩
  · rw [if_neg h]
    by_cases e : r = o.toNat
    · subst e; rw [upS_s]
      exact ⟨fun q => absurd q (by decide), fun q => absurd (by omega) q.2⟩
    · rw [upS_j e]
      exact ⟨fun q => ⟨q, by omega⟩, fun q => q.1⟩
theorem gO_W {ρ : St} {o : Int} (h : Wg ρ) : Wg (gO ρ o) := by
  obtain ⟨h1, h2, h3⟩ := h
  refine ⟨by rw [gO_k (by decide)]; exact h1, by rw [gO_k (by decide)]; exact h2, fun r hr => ?_⟩
  rw [gO_k (by decide)] at hr
  obtain ⟨q1, q2, q3, q4, q5, q6⟩ := h3 r hr
  rw [gO_k (k := 3) (by decide), gO_k (k := 4) (by decide), gO_k (k := 5) (by decide), gO_k (k := 6) (by decide), gO_k (k := 7) (by decide), gO_k (k := 0) (by decide)]
  refine ⟨q1, q2, q3, q4, q5, ?_⟩
  unfold gO
  by_cases h : o < 0
  · rw [if_pos h]; exact q6
  · rw [if_neg h]
    by_cases e : r = o.toNat
    · subst e; rw [upS_s]; exact Or.inr rfl
    · rw [upS_j e]; exact q6
/-- the least cost, or none, as the class keeps it -/
def LoC (g : St) (J : Int → Int → Int) (p i j v : Int) : Prop := (v = -1 ∧ ∀ c, ¬ Te g J p i j c) ∨ (0 ≤ v ∧ v ≤ 353430 ∧ Te g J p i j v ∧ ∀ c, Te g J p i j c → v ≤ c)
def DR (ρ g : St) (J : Int → Int → Int) (f : Nat → Int) (s0 : Nat) : Prop := ∀ s a : Nat, s < s0 → a < 12 → LoC g J (a : Int) (spB (LL ρ) s : Nat) (spF (LL ρ) s : Nat) (f (12 * s + a))
def pw (f : Nat → Int) (x : Int) : Int := if x < 0 then 0 else f x.toNat
theorem DR.part {ρ g : St} {J : Int → Int → Int} {f : Nat → Int} {s0 : Nat} (hg : Wg g) (e11 : ∀ k, g 11 k = ρ 11 k) (hL : LL ρ < 9) (h : DR ρ g J f s0) {p : Int} (hp : isPart p) {i j : Nat} (hi : i < j ∧ j ≤ LL ρ) (hs : spA (LL ρ) i j < s0) : (pv ρ p i j = -2 → ∀ c, ¬ Te g J p i j c) ∧ (pv ρ p i j ≠ -2 → LoC g J p i j (pw f (pv ρ p i j))) := by
  have q := sp_a hL hi
  unfold isPart at hp
  by_cases hp1 : 100 ≤ p
  · by_cases hc : j = i + 1 ∧ ρ 11 i = p - 100
    · rw [pv_yes hp1 hc]
      refine ⟨fun h => absurd h (by decide), fun _ => Or.inr ?_⟩
      have e0 : pw f (-1) = 0 := by unfold pw; rw [if_pos (by decide)]
      rw [e0]
      exact ⟨by decide, by decide, (Te.letter_iff hg hp1).2 ⟨by omega, by rw [Int.toNat_natCast, e11]; exact hc.2, rfl⟩, fun c hc => by have := (Te.letter_iff hg hp1).1 hc; omega⟩
    · rw [pv_no hp1 hc]
      refine ⟨fun _ c ht => hc ?_, fun h => absurd rfl h⟩
      have := (Te.letter_iff hg hp1).1 ht
      rw [Int.toNat_natCast, e11] at this
      exact ⟨by omega, this.2.1⟩
  · rw [pv_lab (by omega)]
    refine ⟨fun h => by omega, fun _ => ?_⟩
    have e : pw f (((spA (LL ρ) i j * 12 : Nat) : Int) + p) = f (12 * spA (LL ρ) i j + p.toNat) := by
      unfold pw
      rw [if_neg (by omega)]
      congr 1; omega
    rw [e]
    have := h (spA (LL ρ) i j) p.toNat hs (by omega)
    rw [q.2.1, q.2.2, show ((p.toNat : Nat) : Int) = p by omega] at this
    exact this
/-- case c doesn't come below v -/
def cov (ρ : St) (y o : Int) (f : Nat → Int) (c : Int × Int × Int × Int) (v : Int) : Prop := c.1 ≠ o → ¬ (c.2.1 = -1 ∧ 0 ≤ c.2.2.1) → 0 ≤ pw f c.2.2.1 → 0 ≤ pw f c.2.2.2 → 0 ≤ v ∧ v ≤ jY y (ρ 6 c.1.toNat) (jY y (pw f c.2.2.1) (pw f c.2.2.2))
def snd1 (ρ : St) (y o : Int) (a s : Nat) (v : Int) : Prop := v = -1 ∨ (0 ≤ v ∧ v ≤ 706959 ∧ Te (gO ρ o) (jY y) (a : Int) (spB (LL ρ) s : Nat) (spF (LL ρ) s : Nat) v)
/-- what a case of an item is, and what it gives -/
theorem case_ok {ρ : St} (hg : Wg ρ) (hL : LL ρ < 9) {y o : Int} {f : Nat → Int} {s a : Nat} (ha : a < 12) (hs : s < spN (LL ρ)) (hD : DR ρ (gO ρ o) (jY y) f s) {c : Int × Int × Int × Int} (hc : c ∈ cI ρ (12 * s + a)) : (0 ≤ c.1 ∧ c.1 < ρ 0 4) ∧ c.2.2.1 < 432 ∧ c.2.2.2 < 432 ∧ -1 ≤ c.2.2.1 ∧ -1 ≤ c.2.2.2 ∧ (c.1 ≠ o → ¬ (c.2.1 = -1 ∧ 0 ≤ c.2.2.1) → 0 ≤ pw f c.2.2.1 → 0 ≤ pw f c.2.2.2 → pw f c.2.2.1 ≤ 353430 ∧ pw f c.2.2.2 ≤ 353430 ∧ Te (gO ρ o) (jY y) (a : Int) (spB (LL ρ) s : Nat) (spF (LL ρ) s : Nat) (jY y (ρ 6 c.1.toNat) (jY y (pw f c.2.2.1) (pw f c.2.2.2)))) := by
  rw [mem_cI ha] at hc
  obtain ⟨r, hr, hi, hc⟩ := hc
  have hr4 : (r : Int) < ρ 0 4 := by omega
  unfold inA at hi
  rw [Bool.and_eq_true, decide_eq_true_iff, decide_eq_true_iff] at hi
  obtain ⟨hh, hp1, hp2, hpr, -⟩ := hg.2.2 r hr4
  have qs := sp_s hL hs
  have q3 := sp_3 _ hL
  have hg' := gO_W (o := o) hg
  have e11 : ∀ k, gO ρ o 11 k = ρ 11 k := fun k => by rw [gO_k (by decide)]
  have hr' : (r : Int) < gO ρ o 0 4 := by rw [gO_k (by decide)]; exact hr4
  have bnd : ∀ (p : Int) (i j : Nat), isPart p → i < j ∧ j ≤ LL ρ → pv ρ p i j < 432 ∧ -2 ≤ pv ρ p i j := by
    intro p i j hp hij
    have q := sp_a hL hij
    unfold isPart at hp
    by_cases h1 : 100 ≤ p
    · unfold pv; rw [if_pos h1]; split <;> omega
    · rw [pv_lab (by omega)]; omega
  rw [mem_cC] at hc
  rcases hc with ⟨h5, hne, rfl⟩ | ⟨h5, m, hm1, hm2, hn1, hn2, rfl⟩
  · have b1 := bnd (ρ 4 r) _ _ hp1 ⟨qs.1, qs.2.1⟩
    refine ⟨⟨by show (0 : Int) ≤ (r : Int); omega, hr4⟩, b1.1, by show (-1 : Int) < 432; decide, by show -1 ≤ pv _ _ _ _; omega, Int.le_refl (-1), fun h1 h2 h3 h4 => ?_⟩
    have hlt : pv ρ (ρ 4 r) (spB (LL ρ) s) (spF (LL ρ) s) < 0 := by
      refine Int.not_le.1 (fun h => h2 ⟨rfl, h⟩)
    have e1 : pv ρ (ρ 4 r) (spB (LL ρ) s) (spF (LL ρ) s) = -1 := by omega
    have e0 : pw f (-1) = 0 := by unfold pw; rw [if_pos (by decide)]
    show pw f (pv ρ (ρ 4 r) (spB (LL ρ) s) (spF (LL ρ) s)) ≤ _ ∧ _
    simp only [e1, e0]
    refine ⟨by decide, by decide, ?_⟩
    have hl : 100 ≤ ρ 4 r := by
      refine Int.not_lt.1 (fun h => ?_)
      rw [pv_lab (by omega)] at e1
      unfold isPart at hp1; omega
    have hcc : spF (LL ρ) s = spB (LL ρ) s + 1 ∧ ρ 11 (spB (LL ρ) s) = ρ 4 r - 100 := by
      refine Classical.byContradiction (fun h => ?_)
      rw [pv_no hl h] at e1; exact absurd e1 (by decide)
    have j00 : jY y 0 0 = 0 := by
      by_cases hy : y = 0
      · subst hy; rw [jY_0]; decide
      · rw [jY_1 hy]; decide
    rw [j00]
    have t0 : Te (gO ρ o) (jY y) (gO ρ o 4 r) (spB (LL ρ) s : Nat) (spF (LL ρ) s : Nat) 0 := by
      rw [gO_k (k := 4) (by decide)]
      exact (Te.letter_iff hg' hl).2 ⟨by omega, by rw [Int.toNat_natCast, e11]; exact hcc.2, rfl⟩
    have t1 := Te.single hr' (gO_8.2 ⟨hi.2, h1⟩) (by rw [gO_k (by decide)]; exact h5) t0
    rw [gO_k (k := 3) (by decide), gO_k (k := 6) (by decide), hi.1] at t1
    show Te _ _ _ _ _ (jY y (ρ 6 ((r : Int).toNat)) 0)
    rw [Int.toNat_natCast]; exact t1
  · have hp2 : isPart (ρ 5 r) := by rcases hp2 with h | h; exact absurd h h5; exact h
    have b1 := bnd (ρ 4 r) _ _ hp1 ⟨hm1, by omega⟩
    have b2 := bnd (ρ 5 r) _ _ hp2 ⟨hm2, qs.2.1⟩
    refine ⟨⟨by show (0 : Int) ≤ (r : Int); omega, hr4⟩, b1.1, b2.1, by show -1 ≤ pv _ _ _ _; omega, by show -1 ≤ pv _ _ _ _; omega, fun h1 h2 h3 h4 => ?_⟩
    have lt_of : ∀ {k l : Nat}, k < l → l ≤ LL ρ → l - k < spF (LL ρ) s - spB (LL ρ) s → spA (LL ρ) k l < s := by
      intro k l h1 h2 h3
      have := sp_lt hL ⟨h1, h2⟩ ⟨qs.1, qs.2.1⟩ (Or.inl h3)
      rw [qs.2.2] at this; exact this
    have l1 := (hD.part hg' e11 hL hp1 ⟨hm1, by omega⟩ (lt_of hm1 (by omega) (by omega))).2 hn1
    have l2 := (hD.part hg' e11 hL hp2 ⟨hm2, qs.2.1⟩ (lt_of hm2 qs.2.1 (by omega))).2 hn2
    have h3 : 0 ≤ pw f (pv ρ (ρ 4 r) (spB (LL ρ) s) m) := h3
    have h4 : 0 ≤ pw f (pv ρ (ρ 5 r) m (spF (LL ρ) s)) := h4
    rcases l1 with ⟨l1, -⟩ | ⟨-, l1b, l1, -⟩
    · omega
    rcases l2 with ⟨l2, -⟩ | ⟨-, l2b, l2, -⟩
    · omega
    refine ⟨l1b, l2b, ?_⟩
    have t := Te.pair (i := ((spB (LL ρ) s : Nat) : Int)) (j := ((spF (LL ρ) s : Nat) : Int)) (m := (m : Int)) hr' (gO_8.2 ⟨hi.2, h1⟩) (by rw [gO_k (by decide)]; exact h5) (by omega) (by omega) (by rw [gO_k (k := 4) (by decide)]; exact l1) (by rw [gO_k (k := 5) (by decide)]; exact l2)
    rw [gO_k (k := 3) (by decide), gO_k (k := 6) (by decide), hi.1] at t
    show Te _ _ _ _ _ (jY y (ρ 6 ((r : Int).toNat)) _)
    rw [Int.toNat_natCast]; exact t
