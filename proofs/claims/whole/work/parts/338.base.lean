/-! a span's rows: base, then turns -/
def vF (x : Int) : Int := if x < 0 then 1000000000 else x
theorem vF_n {x : Int} (h : 0 ≤ x) : vF x = x := by unfold vF; rw [if_neg (by omega)]
theorem vF_m {x : Int} (h : x < 0) : vF x = 1000000000 := by unfold vF; rw [if_pos h]
/-- all that isn't one label is laid -/
def bsO (ρ : St) (y o : Int) (a s : Nat) (v : Int) : Prop := ∀ r : Nat, (r : Int) < ρ 0 4 → gO ρ o 8 r = 0 → ρ 3 r = (a : Int) → (ρ 5 r = -1 → 100 ≤ ρ 4 r → ∀ c1, Te (gO ρ o) (jY y) (ρ 4 r) (spB (LL ρ) s : Nat) (spF (LL ρ) s : Nat) c1 → 0 ≤ v ∧ v ≤ jY y (ρ 6 r) c1) ∧ (ρ 5 r ≠ -1 → ∀ m c1 c2 : Int, ((spB (LL ρ) s : Nat) : Int) < m → m < ((spF (LL ρ) s : Nat) : Int) → Te (gO ρ o) (jY y) (ρ 4 r) (spB (LL ρ) s : Nat) m c1 → Te (gO ρ o) (jY y) (ρ 5 r) m (spF (LL ρ) s : Nat) c2 → 0 ≤ v ∧ v ≤ jY y (ρ 6 r) (jY y c1 c2))
theorem base_ok {ρ : St} (hg : Wg ρ) (hL : LL ρ < 9) {y o : Int} {f : Nat → Int} {s a : Nat} (ha : a < 12) (hs : s < spN (LL ρ)) (hD : DR ρ (gO ρ o) (jY y) f s) {v : Int} (hc : ∀ c ∈ cI ρ (12 * s + a), cov ρ y o f c v) : bsO ρ y o a s v := by
  intro r hr h8 h3
  rw [gO_8] at h8
  have qs := sp_s hL hs
  have hg' := gO_W (o := o) hg
  have e11 : ∀ k, gO ρ o 11 k = ρ 11 k := fun k => by rw [gO_k (by decide)]
  obtain ⟨hh, hp1, hp2, hpr, -⟩ := hg.2.2 r hr
  have hin : inA ρ a r = true := by unfold inA; rw [decide_eq_true h3, decide_eq_true h8.1]; rfl
  have e0 : pw f (-1) = 0 := by unfold pw; rw [if_pos (by decide)]
  have j00 : jY y 0 0 = 0 := by
    by_cases hy : y = 0
    · subst hy; rw [jY_0]; decide
    · rw [jY_1 hy]; decide
  refine ⟨fun h5 hl c1 ht => ?_, fun h5 m c1 c2 hm1 hm2 t1 t2 => ?_⟩
  · have q := (Te.letter_iff hg' hl).1 ht
    rw [Int.toNat_natCast, e11] at q
    have ep : pv ρ (ρ 4 r) (spB (LL ρ) s) (spF (LL ρ) s) = -1 := pv_yes hl ⟨by omega, q.2.1⟩
    have hm : ((r : Int), -1, -1, -1) ∈ cI ρ (12 * s + a) := by
      rw [mem_cI ha]
      refine ⟨r, by omega, hin, ?_⟩
      rw [mem_cC]
      exact Or.inl ⟨h5, by rw [ep]; decide, by rw [ep]⟩
    have := hc _ hm h8.2 (fun hx => absurd (show (0 : Int) ≤ -1 from hx.2) (by decide)) (by show 0 ≤ pw f (-1); rw [e0]; decide) (by show 0 ≤ pw f (-1); rw [e0]; decide)
    have h2 : 0 ≤ v ∧ v ≤ jY y (ρ 6 ((r : Int).toNat)) (jY y (pw f (-1)) (pw f (-1))) := this
    rw [e0, j00, Int.toNat_natCast] at h2
    rw [q.2.2]; exact h2
  · have hp2 : isPart (ρ 5 r) := by rcases hp2 with h | h; exact absurd h h5; exact h
    have lt_of : ∀ {k l : Nat}, k < l → l ≤ LL ρ → l - k < spF (LL ρ) s - spB (LL ρ) s → spA (LL ρ) k l < s := by
      intro k l h1 h2 h3
      have := sp_lt hL ⟨h1, h2⟩ ⟨qs.1, qs.2.1⟩ (Or.inl h3)
      rw [qs.2.2] at this; exact this
    obtain ⟨m, rfl⟩ : ∃ k : Nat, m = (k : Int) := ⟨m.toNat, by omega⟩
    have w1 : spB (LL ρ) s < m := by omega
    have w2 : m < spF (LL ρ) s := by omega
    have l1 := hD.part hg' e11 hL hp1 (i := spB (LL ρ) s) (j := m) ⟨w1, by omega⟩ (lt_of w1 (by omega) (by omega))
    have l2 := hD.part hg' e11 hL hp2 (i := m) (j := spF (LL ρ) s) ⟨w2, qs.2.1⟩ (lt_of w2 qs.2.1 (by omega))
    have n1 : pv ρ (ρ 4 r) (spB (LL ρ) s) m ≠ -2 := fun h => l1.1 h _ t1
    have n2 : pv ρ (ρ 5 r) m (spF (LL ρ) s) ≠ -2 := fun h => l2.1 h _ t2
    have hm : ((r : Int), (m : Int), pv ρ (ρ 4 r) (spB (LL ρ) s) m, pv ρ (ρ 5 r) m (spF (LL ρ) s)) ∈ cI ρ (12 * s + a) := by
      rw [mem_cI ha]
      refine ⟨r, by omega, hin, ?_⟩
      rw [mem_cC]
      exact Or.inr ⟨h5, m, w1, w2, n1, n2, rfl⟩
    have k1 := l1.2 n1
    have k2 := l2.2 n2
    rcases k1 with ⟨-, k1⟩ | ⟨p1, -, -, u1⟩
    · exact absurd t1 (k1 _)
    rcases k2 with ⟨-, k2⟩ | ⟨p2, -, -, u2⟩
    · exact absurd t2 (k2 _)
    have := hc _ hm h8.2 (fun hx => by have h1 : (m : Int) = -1 := hx.1; omega) p1 p2
    have h2 : 0 ≤ v ∧ v ≤ jY y (ρ 6 ((r : Int).toNat)) (jY y (pw f (pv ρ (ρ 4 r) (spB (LL ρ) s) m)) (pw f (pv ρ (ρ 5 r) m (spF (LL ρ) s)))) := this
    rw [Int.toNat_natCast] at h2
    refine ⟨h2.1, Int.le_trans h2.2 ?_⟩
    exact (jokY y).2.2 _ _ _ _ (Int.le_refl _) ((jokY y).2.2 _ _ _ _ (u1 _ t1) (u2 _ t2))
/-- te_final, for rows that are followed for thirteen turns only -/
theorem te_final13 {g : St} {J : Int → Int → Int} (hJ : Jok J) (hg : Wg g) {i j : Int} {R : Nat → Nat → Int} (hm : ∀ n a, n < 13 → a < 12 → R (n + 1) a ≤ R n a)
    (h0 : ∀ (r : Nat), (r : Int) < g 0 4 → g 8 r = 0 → g 5 r = -1 → 100 ≤ g 4 r → ∀ c1, Te g J (g 4 r) i j c1 → R 0 (g 3 r).toNat ≤ J (g 6 r) c1)
    (h2 : ∀ (r : Nat), (r : Int) < g 0 4 → g 8 r = 0 → g 5 r ≠ -1 → ∀ m c1 c2, i < m → m < j → Te g J (g 4 r) i m c1 → Te g J (g 5 r) m j c2 → R 0 (g 3 r).toNat ≤ J (g 6 r) (J c1 c2))
    (h1 : ∀ (n r : Nat), n < 13 → (r : Int) < g 0 4 → g 8 r = 0 → g 5 r = -1 → g 4 r < 12 → ∀ c1, R n (g 4 r).toNat ≤ c1 → R (n + 1) (g 3 r).toNat ≤ J (g 6 r) c1)
    {a : Nat} (ha : a < 12) {c : Int} (hc : Te g J (a : Int) i j c) : R 13 a ≤ c := by
  have dn : ∀ (d m a : Nat), m + d ≤ 13 → a < 12 → R (m + d) a ≤ R m a := by
    intro d
    induction d with
    | zero => intro m a _ _; exact Int.le_refl _
    | succ d ih => intro m a h ha; have := ih m a (by omega) ha; have := hm (m + d) a (by omega) ha; rw [show m + (d + 1) = m + d + 1 by omega]; omega
  obtain ⟨s, hs, hst⟩ := grow12p (s := fun n a => ∀ c, Te g J (a : Int) i j c → R (min n 13) a ≤ c) (fun n k hk h c hc => by
    have := h c hc
    by_cases hn : n < 13
    · have := hm n k hn hk
      rw [show min n 13 = n by omega] at *
      rw [show min (n + 1) 13 = n + 1 by omega]; omega
    · rw [show min (n + 1) 13 = min n 13 by omega]; omega)
  rw [show min (s + 1) 13 = s + 1 by omega, show min s 13 = s by omega] at hst
  have key : ∀ (v : Nat) (k a : Nat) (c : Int), a < 12 → c.toNat < v → TP g J k (a : Int) i j c → R s a ≤ c := by
    intro v
    induction v with
    | zero => intro k a c _ h; omega
    | succ v ihv =>
      intro k
      induction k with
      | zero => intro a c ha hv h; have := h.1; omega
      | succ k ihk =>
        intro a c ha hv h
        rcases h with h | ⟨r, hr, h8, h3, ⟨h5, c1, hc1, rfl⟩ | ⟨h5, m, c1, c2, hi, hj, hc1, hc2, rfl⟩⟩
        · exact ihk a c ha hv h
        · have hw := hg.2.2 r hr
          have ea : (g 3 r).toNat = a := by omega
          by_cases hl : 100 ≤ g 4 r
          · have q1 := h0 r hr h8 h5 hl c1 ⟨k, hc1⟩
            have q2 := dn s 0 a (by omega) ha
            rw [ea] at q1
            rw [Nat.zero_add] at q2
            omega
          · have hp := hw.2.1
            unfold isPart at hp
            have n1 := TP.nn hJ hg k hc1
            have n2 := hJ.1 (g 6 r) c1 (by omega)
            have q1 := ihk (g 4 r).toNat c1 (by omega) (by omega) (by rw [show (((g 4 r).toNat : Nat) : Int) = g 4 r by omega]; exact hc1)
            have q2 := h1 s r hs hr h8 h5 (by omega) c1 q1
            rw [ea] at q2
            by_cases hex : ∃ c', c' < J (g 6 r) c1 ∧ Te g J (a : Int) i j c'
            · obtain ⟨c', hlt, k', hk'⟩ := hex
              have n3 := TP.nn hJ hg k' hk'
              have := ihv k' a c' ha (by omega) hk'
              omega
            · refine hst a ha (fun c' hc' => ?_) _ ⟨k + 1, Or.inr ⟨r, hr, h8, h3, Or.inl ⟨h5, c1, hc1, rfl⟩⟩⟩
              have : ¬ c' < J (g 6 r) c1 := fun h => hex ⟨c', h, hc'⟩
              omega
        · have hw := hg.2.2 r hr
          have ea : (g 3 r).toNat = a := by omega
          have q1 := h2 r hr h8 h5 m c1 c2 hi hj ⟨k, hc1⟩ ⟨k, hc2⟩
          have q2 := dn s 0 a (by omega) ha
          rw [ea] at q1
          rw [Nat.zero_add] at q2
          omega
  obtain ⟨k, hk⟩ := hc
  have q := key (c.toNat + 1) k a c ha (by omega) hk
  have q2 := dn (13 - s) s a (by omega) ha
  rw [show s + (13 - s) = 13 by omega] at q2
  omega
