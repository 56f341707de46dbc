/-! trees over a span, by their depth: g is numbered as ρ (rules in 0 4, 3 .. 6, 8; letters in 0 8, 11); J joins costs (+ or max) -/
def TP (g : St) (J : Int → Int → Int) : Nat → Int → Int → Int → Int → Prop
  | 0, p, i, j, c => 100 ≤ p ∧ j = i + 1 ∧ g 11 i.toNat = p - 100 ∧ c = 0
  | k + 1, p, i, j, c => TP g J k p i j c ∨ ∃ r : Nat, (r : Int) < g 0 4 ∧ g 8 r = 0 ∧ g 3 r = p ∧ ((g 5 r = -1 ∧ ∃ c1, TP g J k (g 4 r) i j c1 ∧ c = J (g 6 r) c1) ∨ (g 5 r ≠ -1 ∧ ∃ m c1 c2, i < m ∧ m < j ∧ TP g J k (g 4 r) i m c1 ∧ TP g J k (g 5 r) m j c2 ∧ c = J (g 6 r) (J c1 c2)))
def Te (g : St) (J : Int → Int → Int) (p i j c : Int) : Prop := ∃ k, TP g J k p i j c
theorem TP.up {g : St} {J : Int → Int → Int} {p i j c : Int} {k : Nat} (h : TP g J k p i j c) : ∀ d, TP g J (k + d) p i j c
  | 0 => h
  | d + 1 => Or.inl (h.up d)
theorem TP.to {g : St} {J : Int → Int → Int} {p i j c : Int} {k n : Nat} (h : TP g J k p i j c) (hn : k ≤ n) : TP g J n p i j c := by
  have := h.up (n - k); rwa [show k + (n - k) = n by omega] at this
theorem Te.letter {g : St} {J : Int → Int → Int} {p i : Int} (h : 100 ≤ p) (hw : g 11 i.toNat = p - 100) : Te g J p i (i + 1) 0 := ⟨0, h, rfl, hw, rfl⟩
theorem Te.single {g : St} {J : Int → Int → Int} {i j c : Int} {r : Nat} (hr : (r : Int) < g 0 4) (h8 : g 8 r = 0) (h5 : g 5 r = -1) (h : Te g J (g 4 r) i j c) : Te g J (g 3 r) i j (J (g 6 r) c) := by
  obtain ⟨k, hk⟩ := h
  exact ⟨k + 1, Or.inr ⟨r, hr, h8, rfl, Or.inl ⟨h5, c, hk, rfl⟩⟩⟩
theorem Te.pair {g : St} {J : Int → Int → Int} {i m j c1 c2 : Int} {r : Nat} (hr : (r : Int) < g 0 4) (h8 : g 8 r = 0) (h5 : g 5 r ≠ -1) (hi : i < m) (hj : m < j) (h : Te g J (g 4 r) i m c1) (h2 : Te g J (g 5 r) m j c2) : Te g J (g 3 r) i j (J (g 6 r) (J c1 c2)) := by
  obtain ⟨k, hk⟩ := h
  obtain ⟨k2, hk2⟩ := h2
  exact ⟨k + k2 + 1, Or.inr ⟨r, hr, h8, rfl, Or.inr ⟨h5, m, c1, c2, hi, hj, hk.to (by omega), hk2.to (by omega), rfl⟩⟩⟩
/-- how costs join: no less than each, and no less with more -/
def Jok (J : Int → Int → Int) : Prop := (∀ a b : Int, 0 ≤ a → b ≤ J a b) ∧ (∀ a b : Int, 0 ≤ b → a ≤ J a b) ∧ (∀ a b c d : Int, a ≤ c → b ≤ d → J a b ≤ J c d)
theorem jok_add : Jok (fun a b => a + b) := ⟨fun a b h => by show b ≤ a + b; omega, fun a b h => by show a ≤ a + b; omega, fun a b c d h1 h2 => by show a + b ≤ c + d; omega⟩
theorem jok_max : Jok (fun a b => max a b) := ⟨fun a b h => by show b ≤ max a b; omega, fun a b h => by show a ≤ max a b; omega, fun a b c d h1 h2 => by show max a b ≤ max c d; omega⟩
theorem TP.nn {g : St} {J : Int → Int → Int} (hJ : Jok J) (hg : Wg g) : ∀ (k : Nat) {p i j c : Int}, TP g J k p i j c → 0 ≤ c
  | 0, p, i, j, c, h => by have := h.2.2.2; omega
  | k + 1, p, i, j, c, h => by
    rcases h with h | ⟨r, hr, h8, h3, ⟨h5, c1, hc1, rfl⟩ | ⟨h5, m, c1, c2, hi, hj, hc1, hc2, rfl⟩⟩
    · exact TP.nn hJ hg k h
    · have h1 := TP.nn hJ hg k hc1
      have h2 := (hg.2.2 r hr).2.2.2.1
      have := hJ.1 (g 6 r) c1 (by omega)
      omega
    · have h1 := TP.nn hJ hg k hc1
      have h4 := TP.nn hJ hg k hc2
      have h2 := (hg.2.2 r hr).2.2.2.1
      have := hJ.1 (g 6 r) (J c1 c2) (by omega)
      have := hJ.1 c1 c2 h1
      omega
theorem Te.nn {g : St} {J : Int → Int → Int} (hJ : Jok J) (hg : Wg g) {p i j c : Int} (h : Te g J p i j c) : 0 ≤ c := by
  obtain ⟨k, hk⟩ := h; exact TP.nn hJ hg k hk
theorem TP.lt {g : St} {J : Int → Int → Int} : ∀ (k : Nat) {p i j c : Int}, TP g J k p i j c → i < j
  | 0, p, i, j, c, h => by have := h.2.1; omega
  | k + 1, p, i, j, c, h => by
    rcases h with h | ⟨r, hr, h8, h3, ⟨h5, c1, hc1, rfl⟩ | ⟨h5, m, c1, c2, hi, hj, hc1, hc2, rfl⟩⟩
    · exact TP.lt k h
    · exact TP.lt k hc1
    · omega
/-- the case of a tree: letter and pairs; or one label -/
theorem Te.cases_on {g : St} {J : Int → Int → Int} : ∀ (k : Nat) {p i j c : Int}, TP g J k p i j c → p < 100 → ∃ r : Nat, (r : Int) < g 0 4 ∧ g 8 r = 0 ∧ g 3 r = p ∧ ((g 5 r = -1 ∧ ∃ c1, TP g J (k - 1) (g 4 r) i j c1 ∧ c = J (g 6 r) c1) ∨ (g 5 r ≠ -1 ∧ ∃ m c1 c2, i < m ∧ m < j ∧ TP g J (k - 1) (g 4 r) i m c1 ∧ TP g J (k - 1) (g 5 r) m j c2 ∧ c = J (g 6 r) (J c1 c2))) ∧ 0 < k
  | 0, p, i, j, c, h, hp => by have := h.1; omega
  | k + 1, p, i, j, c, h, hp => by
    rcases h with h | ⟨r, hr, h8, h3, h⟩
    · obtain ⟨r, hr, h8, h3, hh, hk⟩ := Te.cases_on k h hp
      refine ⟨r, hr, h8, h3, ?_, by omega⟩
      rcases hh with ⟨h5, c1, hc1, e⟩ | ⟨h5, m, c1, c2, hi, hj, hc1, hc2, e⟩
      · exact Or.inl ⟨h5, c1, hc1.to (by omega), e⟩
      · exact Or.inr ⟨h5, m, c1, c2, hi, hj, hc1.to (by omega), hc2.to (by omega), e⟩
    · exact ⟨r, hr, h8, h3, h, by omega⟩
theorem grow12p {s : Nat → Nat → Prop} (hm : ∀ n k, k < 12 → s n k → s (n + 1) k) : ∃ n, n < 13 ∧ ∀ k, k < 12 → s (n + 1) k → s n k := by
  obtain ⟨n, hn, he⟩ := grow12 (s := fun n k => @decide (s n k) (Classical.propDecidable _)) (fun n k hk h => @decide_eq_true _ (Classical.propDecidable _) (hm n k hk (@of_decide_eq_true _ (Classical.propDecidable _) h)))
  refine ⟨n, hn, fun k hk h => ?_⟩
  have h1 := he k hk
  rw [@decide_eq_true _ (Classical.propDecidable _) h] at h1
  exact @of_decide_eq_true _ (Classical.propDecidable _) h1.symm
/-- rows that sink turn by turn: after twelve turns none is above a tree's cost -/
theorem te_final {g : St} {J : Int → Int → Int} (hJ : Jok J) (hg : Wg g) {i j : Int} {R : Nat → Nat → Int} (hm : ∀ n a, a < 12 → R (n + 1) a ≤ R n a)
    (h0 : ∀ (r : Nat), (r : Int) < g 0 4 → g 8 r = 0 → g 5 r = -1 → 100 ≤ g 4 r → ∀ c1, Te g J (g 4 r) i j c1 → R 0 (g 3 r).toNat ≤ J (g 6 r) c1)
    (h2 : ∀ (r : Nat), (r : Int) < g 0 4 → g 8 r = 0 → g 5 r ≠ -1 → ∀ m c1 c2, i < m → m < j → Te g J (g 4 r) i m c1 → Te g J (g 5 r) m j c2 → R 0 (g 3 r).toNat ≤ J (g 6 r) (J c1 c2))
    (h1 : ∀ (n r : Nat), (r : Int) < g 0 4 → g 8 r = 0 → g 5 r = -1 → g 4 r < 12 → ∀ c1, R n (g 4 r).toNat ≤ c1 → R (n + 1) (g 3 r).toNat ≤ J (g 6 r) c1)
    {n : Nat} (hn : 12 ≤ n) {a : Nat} (ha : a < 12) {c : Int} (hc : Te g J (a : Int) i j c) : R n a ≤ c := by
  have dn : ∀ (d m a : Nat), a < 12 → R (m + d) a ≤ R m a := by
    intro d
    induction d with
    | zero => intro m a _; exact Int.le_refl _
    | succ d ih => intro m a ha; have := ih m a ha; have := hm (m + d) a ha; rw [show m + (d + 1) = m + d + 1 by omega]; omega
  obtain ⟨s, hs, hst⟩ := grow12p (s := fun n a => ∀ c, Te g J (a : Int) i j c → R n a ≤ c) (fun n k hk h c hc => by have := h c hc; have := hm n k hk; omega)
  have key : ∀ (v : Nat) (k a : Nat) (c : Int), a < 12 → c.toNat < v → TP g J k (a : Int) i j c → R s a ≤ c := by
    intro v
    induction v with
    | zero => intro k a c _ h; omega
    | succ v ihv =>
      intro k
      induction k with
      | zero => intro a c ha hv h; have := h.1; omega
      | succ k ihk =>
        intro a c ha hv h
        rcases h with h | ⟨r, hr, h8, h3, ⟨h5, c1, hc1, rfl⟩ | ⟨h5, m, c1, c2, hi, hj, hc1, hc2, rfl⟩⟩
        · exact ihk a c ha hv h
        · have hw := hg.2.2 r hr
          have ea : (g 3 r).toNat = a := by omega
          by_cases hl : 100 ≤ g 4 r
          · have q1 := h0 r hr h8 h5 hl c1 ⟨k, hc1⟩
            have q2 := dn s 0 a ha
            rw [ea] at q1
            rw [Nat.zero_add] at q2
            omega
          · have hp := hw.2.1
            unfold isPart at hp
            have n1 := TP.nn hJ hg k hc1
            have n2 := hJ.1 (g 6 r) c1 (by omega)
            have q1 := ihk (g 4 r).toNat c1 (by omega) (by omega) (by rw [show (((g 4 r).toNat : Nat) : Int) = g 4 r by omega]; exact hc1)
            have q2 := h1 s r hr h8 h5 (by omega) c1 q1
            rw [ea] at q2
            by_cases hex : ∃ c', c' < J (g 6 r) c1 ∧ Te g J (a : Int) i j c'
            · obtain ⟨c', hlt, k', hk'⟩ := hex
              have n3 := TP.nn hJ hg k' hk'
              have := ihv k' a c' ha (by omega) hk'
              omega
            · refine hst a ha (fun c' hc' => ?_) _ ⟨k + 1, Or.inr ⟨r, hr, h8, h3, Or.inl ⟨h5, c1, hc1, rfl⟩⟩⟩
              have : ¬ c' < J (g 6 r) c1 := fun h => hex ⟨c', h, hc'⟩
              omega
        · have hw := hg.2.2 r hr
          have ea : (g 3 r).toNat = a := by omega
          have q1 := h2 r hr h8 h5 m c1 c2 hi hj ⟨k, hc1⟩ ⟨k, hc2⟩
          have q2 := dn s 0 a ha
          rw [ea] at q1
          rw [Nat.zero_add] at q2
          omega
  obtain ⟨k, hk⟩ := hc
  have q := key (c.toNat + 1) k a c ha (by omega) hk
  have q2 := dn (n - s) s a ha
  rw [show s + (n - s) = n by omega] at q2
  omega
/-- the least cost, or none: told by F -/
def Lo (g : St) (J : Int → Int → Int) (p i j v F : Int) : Prop := (v = F ∧ ∀ c, ¬ Te g J p i j c) ∨ (v < F ∧ Te g J p i j v ∧ ∀ c, Te g J p i j c → v ≤ c)
theorem Lo.uniq {g : St} {J : Int → Int → Int} {p i j v w F : Int} (h : Lo g J p i j v F) (h2 : Lo g J p i j w F) : v = w := by
  rcases h with ⟨a, b⟩ | ⟨a, b, c⟩
  · rcases h2 with ⟨a2, b2⟩ | ⟨a2, b2, c2⟩
    · omega
    · exact absurd b2 (b w)
  · rcases h2 with ⟨a2, b2⟩ | ⟨a2, b2, c2⟩
    · exact absurd b (b2 v)
    · have := c w b2; have := c2 v b; omega
theorem Lo.ext {g g1 : St} {J : Int → Int → Int} (h0 : g1 0 4 = g 0 4) (h3 : ∀ r : Nat, (r : Int) < g 0 4 → g1 3 r = g 3 r ∧ g1 4 r = g 4 r ∧ g1 5 r = g 5 r ∧ g1 6 r = g 6 r ∧ g1 8 r = g 8 r) (hl : ∀ j : Nat, (j : Int) < g 0 8 → g1 11 j = g 11 j) : ∀ (k : Nat) {p i j c : Int}, 0 ≤ i → j ≤ g 0 8 → TP g J k p i j c → TP g1 J k p i j c
  | 0, p, i, j, c, hi, hj, h => by
    obtain ⟨a, b, c, d⟩ := h
    exact ⟨a, b, by rw [hl _ (by omega)]; exact c, d⟩
  | k + 1, p, i, j, c, hi, hj, h => by
    rcases h with h | ⟨r, hr, h8, e3, h⟩
    · exact Or.inl (Lo.ext h0 h3 hl k hi hj h)
    · obtain ⟨q3, q4, q5, q6, q8⟩ := h3 r hr
      refine Or.inr ⟨r, by rw [h0]; exact hr, by rw [q8]; exact h8, by rw [q3]; exact e3, ?_⟩
      rw [q4, q5, q6]
      rcases h with ⟨h5, c1, hc1, e⟩ | ⟨h5, m, c1, c2, hm1, hm2, hc1, hc2, e⟩
      · exact Or.inl ⟨h5, c1, Lo.ext h0 h3 hl k hi hj hc1, e⟩
      · exact Or.inr ⟨h5, m, c1, c2, hm1, hm2, Lo.ext h0 h3 hl k hi (by omega) hc1, Lo.ext h0 h3 hl k (by omega) hj hc2, e⟩
