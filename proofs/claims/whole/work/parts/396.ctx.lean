/-! trees with one letter changed: a context, and the leaf in its hole -/
/-- a context of the whole (label A over 0 N) with a hole at part p over i j, of depth at most k -/
def CX (g : St) (A N : Int) : Nat → Int → Int → Int → Int → Prop
  | 0, p, i, j, c => p = A ∧ i = 0 ∧ j = N ∧ c = 0
  | k + 1, p, i, j, c => CX g A N k p i j c ∨ ∃ r : Nat, (r : Int) < g 0 4 ∧ g 8 r = 0 ∧ ((g 5 r = -1 ∧ g 4 r = p ∧ ∃ c0, CX g A N k (g 3 r) i j c0 ∧ c = c0 + g 6 r) ∨ (g 5 r ≠ -1 ∧ g 4 r = p ∧ ∃ j2 c0 c2, j < j2 ∧ CX g A N k (g 3 r) i j2 c0 ∧ Te g jA (g 5 r) j j2 c2 ∧ c = c0 + g 6 r + c2) ∨ (g 5 r ≠ -1 ∧ g 5 r = p ∧ ∃ i0 c0 c1, i0 < i ∧ CX g A N k (g 3 r) i0 j c0 ∧ Te g jA (g 4 r) i0 i c1 ∧ c = c0 + g 6 r + c1))
theorem CX.in {g : St} {A N : Int} (hN : 0 < N) : ∀ (k : Nat) {p i j c : Int}, CX g A N k p i j c → i < j → 0 ≤ i ∧ j ≤ N
  | 0, p, i, j, c, h, _ => by obtain ⟨-, h1, h2, -⟩ := h; omega
  | k + 1, p, i, j, c, h, hij => by
    rcases h with h | ⟨r, -, -, ⟨-, -, c0, h1, -⟩ | ⟨-, -, j2, c0, c2, h0, h1, -, -⟩ | ⟨-, -, i0, c0, c1, h0, h1, -, -⟩⟩
    · exact CX.in hN k h hij
    · exact CX.in hN k h1 hij
    · have := CX.in hN k h1 (by omega); omega
    · have := CX.in hN k h1 (by omega); omega
/-- a tree does not read letters outside of its span -/
theorem TP.loc {g : St} {q : Nat} {x : Int} : ∀ (k : Nat) {p i j c : Int}, 0 ≤ i → ¬ (i ≤ (q : Int) ∧ (q : Int) < j) → (TP g jA k p i j c ↔ TP (upS g 11 q x) jA k p i j c)
  | 0, p, i, j, c, h0, hn => by
    have e0 : ∀ n, j = i + 1 → n = i.toNat → upS g 11 q x 11 n = g 11 n := fun n hj hn2 => upS_j (by omega)
    constructor
    · rintro ⟨h1, h2, h3, h4⟩
      exact ⟨h1, h2, by rw [e0 _ h2 rfl]; exact h3, h4⟩
    · rintro ⟨h1, h2, h3, h4⟩
      rw [e0 _ h2 rfl] at h3
      exact ⟨h1, h2, h3, h4⟩
  | k + 1, p, i, j, c, h0, hn => by
    have ih := @TP.loc g q x k
    have e : ∀ (n : Nat), n ≠ 11 → upS g 11 q x n = g n := fun n hn => upS_k hn
    unfold TP
    rw [e 0 (by decide), e 8 (by decide), e 3 (by decide), e 5 (by decide), e 4 (by decide), e 6 (by decide)]
    constructor
    · rintro (h | ⟨r, r1, r2, r3, ⟨h5, c1, h1, h2⟩ | ⟨h5, m, c1, c2, m1, m2, h1, h2, h3⟩⟩)
      · exact Or.inl ((ih h0 hn).1 h)
      · exact Or.inr ⟨r, r1, r2, r3, Or.inl ⟨h5, c1, (ih h0 hn).1 h1, h2⟩⟩
      · exact Or.inr ⟨r, r1, r2, r3, Or.inr ⟨h5, m, c1, c2, m1, m2, (ih h0 (by omega)).1 h1, (ih (by omega) (by omega)).1 h2, h3⟩⟩
    · rintro (h | ⟨r, r1, r2, r3, ⟨h5, c1, h1, h2⟩ | ⟨h5, m, c1, c2, m1, m2, h1, h2, h3⟩⟩)
      · exact Or.inl ((ih h0 hn).2 h)
      · exact Or.inr ⟨r, r1, r2, r3, Or.inl ⟨h5, c1, (ih h0 hn).2 h1, h2⟩⟩
      · exact Or.inr ⟨r, r1, r2, r3, Or.inr ⟨h5, m, c1, c2, m1, m2, (ih h0 (by omega)).2 h1, (ih (by omega) (by omega)).2 h2, h3⟩⟩
theorem Te.loc {g : St} {q : Nat} {x p i j c : Int} (h0 : 0 ≤ i) (hn : ¬ (i ≤ (q : Int) ∧ (q : Int) < j)) : Te g jA p i j c ↔ Te (upS g 11 q x) jA p i j c := ⟨fun ⟨k, h⟩ => ⟨k, (TP.loc k h0 hn).1 h⟩, fun ⟨k, h⟩ => ⟨k, (TP.loc k h0 hn).2 h⟩⟩
/-- from a tree in a hole down to the leaf at q -/
theorem CX.down {g : St} {A N : Int} {q : Nat} {x : Int} : ∀ (k : Nat) {p i j c : Int}, TP (upS g 11 q x) jA k p i j c → 0 ≤ i → i ≤ (q : Int) → (q : Int) < j → ∀ {n : Nat} {c0 : Int}, CX g A N n p i j c0 → ∃ n2, CX g A N n2 (100 + x) (q : Int) ((q : Int) + 1) (c0 + c)
  | 0, p, i, j, c, h, h0, h1, h2, n, c0, hc => by
    obtain ⟨a1, a2, a3, a4⟩ := h
    have ei : i = (q : Int) := by omega
    rw [ei, Int.toNat_natCast, upS_s] at a3
    refine ⟨n, ?_⟩
    rw [show (100 : Int) + x = p by omega, show (q : Int) + 1 = j by omega, show (q : Int) = i by omega, a4, Int.add_zero]
    exact hc
  | k + 1, p, i, j, c, h, h0, h1, h2, n, c0, hc => by
    have e : ∀ (n : Nat), n ≠ 11 → upS g 11 q x n = g n := fun n hn => upS_k hn
    unfold TP at h
    rw [e 0 (by decide), e 8 (by decide), e 3 (by decide), e 5 (by decide), e 4 (by decide), e 6 (by decide)] at h
    rcases h with h | ⟨r, r1, r2, r3, ⟨h5, c1, t1, e1⟩ | ⟨h5, m, c1, c2, m1, m2, t1, t2, e1⟩⟩
    · exact CX.down k h h0 h1 h2 hc
    · have e1 : c = g 6 r + c1 := e1
      obtain ⟨n2, hn⟩ := CX.down k t1 h0 h1 h2 (n := n + 1) (c0 := c0 + g 6 r) (Or.inr ⟨r, r1, r2, Or.inl ⟨h5, rfl, c0, by rw [r3]; exact hc, rfl⟩⟩)
      exact ⟨n2, by rw [e1, ← Int.add_assoc]; exact hn⟩
    · have e1 : c = g 6 r + (c1 + c2) := e1
      by_cases hm : (q : Int) < m
      · have s2 : Te g jA (g 5 r) m j c2 := (Te.loc (x := x) (q := q) (by omega) (by omega)).2 ⟨k, t2⟩
        obtain ⟨n2, hn⟩ := CX.down k t1 h0 h1 hm (n := n + 1) (c0 := c0 + g 6 r + c2) (Or.inr ⟨r, r1, r2, Or.inr (Or.inl ⟨h5, rfl, j, c0, c2, m2, by rw [r3]; exact hc, s2, rfl⟩)⟩)
        exact ⟨n2, by rw [show c0 + c = c0 + g 6 r + c2 + c1 by omega]; exact hn⟩
      · have s1 : Te g jA (g 4 r) i m c1 := (Te.loc (x := x) (q := q) h0 (by omega)).2 ⟨k, t1⟩
        obtain ⟨n2, hn⟩ := CX.down k t2 (by omega) (by omega) h2 (n := n + 1) (c0 := c0 + g 6 r + c1) (Or.inr ⟨r, r1, r2, Or.inr (Or.inr ⟨h5, rfl, i, c0, c1, m1, by rw [r3]; exact hc, s1, rfl⟩)⟩)
        exact ⟨n2, by rw [show c0 + c = c0 + g 6 r + c1 + c2 by omega]; exact hn⟩
/-- from a context and a tree in its hole up to the whole -/
theorem CX.fill {g : St} {A N : Int} (hN : 0 < N) {q : Nat} {x : Int} : ∀ (n : Nat) {p i j c0 c : Int}, CX g A N n p i j c0 → i ≤ (q : Int) → (q : Int) < j → Te (upS g 11 q x) jA p i j c → Te (upS g 11 q x) jA A 0 N (c0 + c)
  | 0, p, i, j, c0, c, h, _, _, ht => by
    obtain ⟨rfl, rfl, rfl, rfl⟩ := h
    rw [Int.zero_add]; exact ht
  | n + 1, p, i, j, c0, c, h, h1, h2, ht => by
    have e : ∀ (n : Nat), n ≠ 11 → upS g 11 q x n = g n := fun n hn => upS_k hn
    rcases h with h | ⟨r, r1, r2, ⟨h5, rfl, d0, hc, rfl⟩ | ⟨h5, rfl, j2, d0, d2, hj, hc, hs, rfl⟩ | ⟨h5, rfl, i0, d0, d1, hi0, hc, hs, rfl⟩⟩
    · exact CX.fill hN n h h1 h2 ht
    · have t := Te.single (g := upS g 11 q x) (J := jA) (r := r) (i := i) (j := j) (c := c) (by rw [e 0 (by decide)]; exact r1) (by rw [e 8 (by decide)]; exact r2) (by rw [e 5 (by decide)]; exact h5) (by rw [e 4 (by decide)]; exact ht)
      rw [e 3 (by decide), e 6 (by decide)] at t
      have := CX.fill hN n hc h1 h2 t
      rw [show d0 + g 6 r + c = d0 + jA (g 6 r) c by unfold jA; omega]; exact this
    · have ri := CX.in hN n hc (by omega)
      have t := Te.pair (g := upS g 11 q x) (J := jA) (r := r) (i := i) (m := j) (j := j2) (c1 := c) (c2 := d2) (by rw [e 0 (by decide)]; exact r1) (by rw [e 8 (by decide)]; exact r2) (by rw [e 5 (by decide)]; exact h5) (by omega) hj (by rw [e 4 (by decide)]; exact ht) (by rw [e 5 (by decide)]; exact (Te.loc (by omega) (by omega)).1 hs)
      rw [e 3 (by decide), e 6 (by decide)] at t
      have := CX.fill hN n hc h1 (by omega) t
      rw [show d0 + g 6 r + d2 + c = d0 + jA (g 6 r) (jA c d2) by unfold jA; omega]; exact this
    · have ri := CX.in hN n hc (by omega)
      have t := Te.pair (g := upS g 11 q x) (J := jA) (r := r) (i := i0) (m := i) (j := j) (c1 := d1) (c2 := c) (by rw [e 0 (by decide)]; exact r1) (by rw [e 8 (by decide)]; exact r2) (by rw [e 5 (by decide)]; exact h5) hi0 (by omega) (by rw [e 4 (by decide)]; exact (Te.loc (by omega) (by omega)).1 hs) (by rw [e 5 (by decide)]; exact ht)
      rw [e 3 (by decide), e 6 (by decide)] at t
      have := CX.fill hN n hc (by omega) h2 t
      rw [show d0 + g 6 r + d1 + c = d0 + jA (g 6 r) (jA d1 c) by unfold jA; omega]; exact this
/-- a tree of the whole with letter x at q is a context with its hole at that leaf -/
theorem ctx_iff {g : St} {A N : Int} (hN : 0 < N) {q : Nat} (hq : (q : Int) < N) {x c : Int} (hx : 0 ≤ x) : Te (upS g 11 q x) jA A 0 N c ↔ ∃ n, CX g A N n (100 + x) (q : Int) ((q : Int) + 1) c := by
  constructor
  · rintro ⟨k, h⟩
    obtain ⟨n, hn⟩ := CX.down k h (Int.le_refl _) (by omega) hq (n := 0) (c0 := 0) ⟨rfl, rfl, rfl, rfl⟩
    rw [Int.zero_add] at hn
    exact ⟨n, hn⟩
  · rintro ⟨n, h⟩
    have leaf : Te (upS g 11 q x) jA (100 + x) (q : Int) ((q : Int) + 1) 0 := ⟨0, by omega, rfl, by rw [Int.toNat_natCast, upS_s]; omega, rfl⟩
    have := CX.fill hN n h (Int.le_refl _) (by omega) leaf
    rw [Int.add_zero] at this; exact this
