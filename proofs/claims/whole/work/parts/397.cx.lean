/-! contexts of the whole, of any depth; rows that settle after thirteen turns -/
def Cx (ρ : St) (p i j c : Int) : Prop := ∃ k, CX ρ (ρ 3 0) (ρ 0 8) k p i j c
theorem Cx.root {ρ : St} : Cx ρ (ρ 3 0) 0 (ρ 0 8) 0 := ⟨0, rfl, rfl, rfl, rfl⟩
theorem Cx.one {ρ : St} {r : Nat} {i j c : Int} (hr : (r : Int) < ρ 0 4) (h8 : ρ 8 r = 0) (h5 : ρ 5 r = -1) (h : Cx ρ (ρ 3 r) i j c) : Cx ρ (ρ 4 r) i j (c + ρ 6 r) := by
  obtain ⟨k, hk⟩ := h
  exact ⟨k + 1, Or.inr ⟨r, hr, h8, Or.inl ⟨h5, rfl, c, hk, rfl⟩⟩⟩
theorem Cx.fst {ρ : St} {r : Nat} {i m j c c2 : Int} (hr : (r : Int) < ρ 0 4) (h8 : ρ 8 r = 0) (h5 : ρ 5 r ≠ -1) (hm : m < j) (h : Cx ρ (ρ 3 r) i j c) (h2 : Te ρ jA (ρ 5 r) m j c2) : Cx ρ (ρ 4 r) i m (c + ρ 6 r + c2) := by
  obtain ⟨k, hk⟩ := h
  exact ⟨k + 1, Or.inr ⟨r, hr, h8, Or.inr (Or.inl ⟨h5, rfl, j, c, c2, hm, hk, h2, rfl⟩)⟩⟩
theorem Cx.snd {ρ : St} {r : Nat} {i m j c c1 : Int} (hr : (r : Int) < ρ 0 4) (h8 : ρ 8 r = 0) (h5 : ρ 5 r ≠ -1) (hm : i < m) (h : Cx ρ (ρ 3 r) i j c) (h1 : Te ρ jA (ρ 4 r) i m c1) : Cx ρ (ρ 5 r) m j (c + ρ 6 r + c1) := by
  obtain ⟨k, hk⟩ := h
  exact ⟨k + 1, Or.inr ⟨r, hr, h8, Or.inr (Or.inr ⟨h5, rfl, i, c, c1, hm, hk, h1, rfl⟩)⟩⟩
theorem CX.inv {ρ : St} {A N : Int} : ∀ (k : Nat) {p i j c : Int}, CX ρ A N k p i j c → (p = A ∧ i = 0 ∧ j = N ∧ c = 0) ∨ ∃ r : Nat, (r : Int) < ρ 0 4 ∧ ρ 8 r = 0 ∧ ((ρ 5 r = -1 ∧ ρ 4 r = p ∧ ∃ c0, (∃ k, CX ρ A N k (ρ 3 r) i j c0) ∧ c = c0 + ρ 6 r) ∨ (ρ 5 r ≠ -1 ∧ ρ 4 r = p ∧ ∃ j2 c0 c2, j < j2 ∧ (∃ k, CX ρ A N k (ρ 3 r) i j2 c0) ∧ Te ρ jA (ρ 5 r) j j2 c2 ∧ c = c0 + ρ 6 r + c2) ∨ (ρ 5 r ≠ -1 ∧ ρ 5 r = p ∧ ∃ i0 c0 c1, i0 < i ∧ (∃ k, CX ρ A N k (ρ 3 r) i0 j c0) ∧ Te ρ jA (ρ 4 r) i0 i c1 ∧ c = c0 + ρ 6 r + c1))
  | 0, p, i, j, c, h => Or.inl h
  | k + 1, p, i, j, c, h => by
    rcases h with h | ⟨r, r1, r2, ⟨h5, h4, c0, h1, h2⟩ | ⟨h5, h4, j2, c0, c2, h0, h1, h2, h3⟩ | ⟨h5, h4, i0, c0, c1, h0, h1, h2, h3⟩⟩
    · exact CX.inv k h
    · exact Or.inr ⟨r, r1, r2, Or.inl ⟨h5, h4, c0, ⟨k, h1⟩, h2⟩⟩
    · exact Or.inr ⟨r, r1, r2, Or.inr (Or.inl ⟨h5, h4, j2, c0, c2, h0, ⟨k, h1⟩, h2, h3⟩)⟩
    · exact Or.inr ⟨r, r1, r2, Or.inr (Or.inr ⟨h5, h4, i0, c0, c1, h0, ⟨k, h1⟩, h2, h3⟩)⟩
theorem Cx.inv {ρ : St} {p i j c : Int} (h : Cx ρ p i j c) : (p = ρ 3 0 ∧ i = 0 ∧ j = ρ 0 8 ∧ c = 0) ∨ ∃ r : Nat, (r : Int) < ρ 0 4 ∧ ρ 8 r = 0 ∧ ((ρ 5 r = -1 ∧ ρ 4 r = p ∧ ∃ c0, Cx ρ (ρ 3 r) i j c0 ∧ c = c0 + ρ 6 r) ∨ (ρ 5 r ≠ -1 ∧ ρ 4 r = p ∧ ∃ j2 c0 c2, j < j2 ∧ Cx ρ (ρ 3 r) i j2 c0 ∧ Te ρ jA (ρ 5 r) j j2 c2 ∧ c = c0 + ρ 6 r + c2) ∨ (ρ 5 r ≠ -1 ∧ ρ 5 r = p ∧ ∃ i0 c0 c1, i0 < i ∧ Cx ρ (ρ 3 r) i0 j c0 ∧ Te ρ jA (ρ 4 r) i0 i c1 ∧ c = c0 + ρ 6 r + c1)) := by
  obtain ⟨k, hk⟩ := h
  exact CX.inv k hk
theorem CX.nn {ρ : St} (hg : Wg ρ) {A N : Int} : ∀ (k : Nat) {p i j c : Int}, CX ρ A N k p i j c → 0 ≤ c
  | 0, p, i, j, c, h => by have := h.2.2.2; omega
  | k + 1, p, i, j, c, h => by
    rcases h with h | ⟨r, r1, r2, ⟨h5, h4, c0, h1, h2⟩ | ⟨h5, h4, j2, c0, c2, h0, h1, h2, h3⟩ | ⟨h5, h4, i0, c0, c1, h0, h1, h2, h3⟩⟩
    · exact CX.nn hg k h
    · have := CX.nn hg k h1; have := (hg.2.2 r r1).2.2.2.1; omega
    · have := CX.nn hg k h1; have := (hg.2.2 r r1).2.2.2.1; have := Te.nn jokA hg h2; omega
    · have := CX.nn hg k h1; have := (hg.2.2 r r1).2.2.2.1; have := Te.nn jokA hg h2; omega
theorem Cx.nn {ρ : St} (hg : Wg ρ) {p i j c : Int} (h : Cx ρ p i j c) : 0 ≤ c := by
  obtain ⟨k, hk⟩ := h; exact CX.nn hg k hk
theorem Cx.in {ρ : St} (hN : 0 < ρ 0 8) {p i j c : Int} (h : Cx ρ p i j c) (hij : i < j) : 0 ≤ i ∧ j ≤ ρ 0 8 := by
  obtain ⟨k, hk⟩ := h; exact CX.in hN k hk hij
theorem fin13 {T : Nat → Int → Prop} {K : Nat → Nat → Int → Prop} (hm : ∀ n a c, n < 13 → a < 12 → K n a c → K (n + 1) a c) (hu : ∀ n a c c', K n a c → c ≤ c' → K n a c') (hT : ∀ a c, a < 12 → T a c → 0 ≤ c ∧ (K 0 a c ∨ ∃ b c1, b < 12 ∧ c1 < c ∧ T b c1 ∧ ∀ n, n < 13 → K n b c1 → K (n + 1) a c)) {a : Nat} {c : Int} (ha : a < 12) (hc : T a c) : K 13 a c := by
  have up : ∀ (d n a : Nat) (c : Int), n + d ≤ 13 → a < 12 → K n a c → K (n + d) a c := by
    intro d
    induction d with
    | zero => intro n a c _ _ h; exact h
    | succ d ih => intro n a c hn ha h; exact hm (n + d) a c (by omega) ha (ih n a c (by omega) ha h)
  obtain ⟨n, hn, hst⟩ := grow12p (s := fun n a => ∀ c, T a c → K (min n 13) a c) (fun n k hk h c hc => by
    by_cases hn : n < 13
    · have := h c hc
      rw [show min n 13 = n by omega] at this
      rw [show min (n + 1) 13 = n + 1 by omega]
      exact hm n k c hn hk this
    · have := h c hc
      rw [show min n 13 = 13 by omega] at this
      rw [show min (n + 1) 13 = 13 by omega]; exact this)
  simp only [show min n 13 = n by omega, show min (n + 1) 13 = n + 1 by omega] at hst
  have key : ∀ (v a : Nat) (c : Int), a < 12 → c.toNat < v → T a c → K n a c := by
    intro v
    induction v with
    | zero => intro a c _ h; omega
    | succ v ih =>
      intro a c ha hv hc
      obtain ⟨h0, h1⟩ := hT a c ha hc
      rcases h1 with h1 | ⟨b, c1, hb, hlt, htb, hk⟩
      · have := up n 0 a c (by omega) ha h1
        rw [Nat.zero_add] at this; exact this
      · have hb0 := (hT b c1 hb htb).1
        have q := hk n hn (ih b c1 hb (by omega) htb)
        by_cases hex : ∃ c', c' < c ∧ T a c'
        · obtain ⟨c', hl, ht⟩ := hex
          have h0' := (hT a c' ha ht).1
          exact hu n a c' c (ih a c' ha (by omega) ht) (by omega)
        · refine hst a ha (fun c' hc' => ?_) c hc
          have : ¬ c' < c := fun h => hex ⟨c', h, hc'⟩
          exact hu _ a c c' q (by omega)
  have := up (13 - n) n a c (by omega) ha (key (c.toNat + 1) a c ha (by omega) hc)
  rw [show n + (13 - n) = 13 by omega] at this
  exact this
/-- one value is no worse than another; a value covers a cost -/
def vle (u v : Int) : Prop := 0 ≤ v → 0 ≤ u ∧ u ≤ v
def cvr (v c : Int) : Prop := 0 ≤ v ∧ v ≤ c
theorem vle.rf {v : Int} : vle v v := fun h => ⟨h, Int.le_refl _⟩
theorem vle.tr {u v w : Int} (h : vle u v) (h2 : vle v w) : vle u w := fun h0 => by have a := h2 h0; have b := h a.1; omega
theorem cvr.le {u v c : Int} (h : cvr v c) (h2 : vle u v) : cvr u c := by have := h2 h.1; unfold cvr at *; omega
theorem cvr.up {v c c2 : Int} (h : cvr v c) (h2 : c ≤ c2) : cvr v c2 := by unfold cvr at *; omega
theorem c_imp81 {σ : St} {x : Nat} (hx : x < 432) {c : Int} (hc : 0 ≤ c) (hv : σ 81 x = -1 ∨ 0 ≤ σ 81 x) {Q : Int → St → Prop} (hq : ∀ (w f : Int), vle w (σ 81 x) → cvr w c → (w = σ 81 x ∨ w = c) → (f = 0 ∨ f = 1) → (f = 0 → w = σ 81 x) → Q f (upS σ 81 x w)) : wp_X5_improve_c81 (x : Int) c σ Q := by
  unfold wp_X5_improve_c81
  rw [Int.toNat_natCast]
  refine ⟨by omega, fun v1 e1 => c_lesser ⟨by omega, fun σ4 e4 => ⟨by omega, ?_⟩⟩⟩
  subst e1 e4
  rw [upS_s]
  have k : ∀ w, w = lsr (σ 81 x) c → vle w (σ 81 x) ∧ cvr w c ∧ (w = σ 81 x ∨ w = c) := by
    intro w ew
    unfold lsr at ew
    unfold vle cvr
    split at ew <;> omega
  obtain ⟨k1, k2, k3⟩ := k _ rfl
  exact ⟨fun h => hq _ 0 k1 k2 k3 (Or.inl rfl) (fun _ => h), fun h => hq _ 1 k1 k2 k3 (Or.inr rfl) (fun h => absurd h (by decide))⟩
theorem c_imp82 {σ : St} {x : Nat} (hx : x < 208) {c : Int} (hc : 0 ≤ c) (hv : σ 82 x = -1 ∨ 0 ≤ σ 82 x) {Q : Int → St → Prop} (hq : ∀ (w f : Int), vle w (σ 82 x) → cvr w c → (w = σ 82 x ∨ w = c) → Q f (upS σ 82 x w)) : wp_X5_improve_c82 (x : Int) c σ Q := by
  unfold wp_X5_improve_c82
  rw [Int.toNat_natCast]
  refine ⟨by omega, fun v1 e1 => c_lesser ⟨by omega, fun σ4 e4 => ⟨by omega, ?_⟩⟩⟩
  subst e1 e4
  have k : ∀ w, w = lsr (σ 82 x) c → vle w (σ 82 x) ∧ cvr w c ∧ (w = σ 82 x ∨ w = c) := by
    intro w ew
    unfold lsr at ew
    unfold vle cvr
    split at ew <;> omega
  obtain ⟨k1, k2, k3⟩ := k _ rfl
  exact ⟨fun h => hq _ 0 k1 k2 k3, fun h => hq _ 1 k1 k2 k3⟩
