/-! after the turns -/
theorem turns_lo {ρ : St} (hg : Wg ρ) (hL : LL ρ < 9) {y o : Int} {s : Nat} (hs : s < spN (LL ρ)) {H : Nat → Nat → Int} {nn : Nat} (hnn : nn ≤ 13) (hm : ∀ m a, m < nn → a < 12 → H (m + 1) a ≤ H m a) (hu : ∀ m, m < nn → ∀ r ∈ uyL ρ 12, (r : Int) ≠ o → ∀ c1, H m (ρ 4 r).toNat ≤ c1 → H (m + 1) (ρ 3 r).toNat ≤ jY y (ρ 6 r) c1) (hb : ∀ a, a < 12 → ∃ v, bsO ρ y o a s v ∧ H 0 a = vF v) (hst : nn < 13 → 0 < nn ∧ ∀ a, a < 12 → H nn a = H (nn - 1) a) {a : Nat} (ha : a < 12) {c : Int} (hc : Te (gO ρ o) (jY y) (a : Int) (spB (LL ρ) s : Nat) (spF (LL ρ) s : Nat) c) : H nn a ≤ c := by
  have hg' := gO_W (o := o) hg
  have key := te_final13 (jokY y) hg' (R := fun m a => H (min m nn) a) (i := ((spB (LL ρ) s : Nat) : Int)) (j := ((spF (LL ρ) s : Nat) : Int)) (fun m a hm13 ha => ?_) (fun r hr h8 h5 hl c1 ht => ?_) (fun r hr h8 h5 m c1 c2 h1 h2 t1 t2 => ?_) (fun m r hm13 hr h8 h5 hl c1 hle => ?_) ha hc
  · have e : min 13 nn = nn := by omega
    simp only [e] at key; exact key
  · by_cases h : m < nn
    · show H (min (m + 1) nn) a ≤ H (min m nn) a
      rw [show min (m + 1) nn = m + 1 by omega, show min m nn = m by omega]
      exact hm m a h ha
    · show H (min (m + 1) nn) a ≤ H (min m nn) a
      rw [show min (m + 1) nn = nn by omega, show min m nn = nn by omega]
      exact Int.le_refl _
  · rw [gO_k (k := 0) (by decide)] at hr
    rw [gO_k (k := 5) (by decide)] at h5
    rw [gO_k (k := 4) (by decide)] at hl ht
    rw [gO_k (k := 3) (by decide), gO_k (k := 6) (by decide)]
    have hh := w_head hg hr
    obtain ⟨v, h1, h2⟩ := hb (ρ 3 r).toNat (by omega)
    have q := (h1 r hr h8 (by omega)).1 h5 hl c1 ht
    show H (min 0 nn) (ρ 3 r).toNat ≤ _
    rw [show min 0 nn = 0 by omega, h2, vF_n q.1]; exact q.2
  · rw [gO_k (k := 0) (by decide)] at hr
    rw [gO_k (k := 5) (by decide)] at h5 t2
    rw [gO_k (k := 4) (by decide)] at t1
    rw [gO_k (k := 3) (by decide), gO_k (k := 6) (by decide)]
    have hh := w_head hg hr
    obtain ⟨v, q1, q2⟩ := hb (ρ 3 r).toNat (by omega)
    have q := (q1 r hr h8 (by omega)).2 h5 m c1 c2 h1 h2 t1 t2
    show H (min 0 nn) (ρ 3 r).toNat ≤ _
    rw [show min 0 nn = 0 by omega, q2, vF_n q.1]; exact q.2
  · rw [gO_k (k := 0) (by decide)] at hr
    rw [gO_k (k := 5) (by decide)] at h5
    rw [gO_k (k := 4) (by decide)] at hl
    rw [gO_8] at h8
    have hle : H (min m nn) (gO ρ o 4 r).toNat ≤ c1 := hle
    rw [gO_k (k := 4) (by decide)] at hle
    rw [gO_k (k := 3) (by decide), gO_k (k := 6) (by decide)]
    show H (min (m + 1) nn) (ρ 3 r).toNat ≤ _
    have hh := w_head hg hr
    have hp := (hg.2.2 r hr).2.1
    unfold isPart at hp
    have hmem : r ∈ uyL ρ 12 := by
      rw [mem_uyL]
      refine ⟨by omega, (ρ 3 r).toNat, by omega, ?_⟩
      unfold inA unR
      rw [decide_eq_true (by omega : ρ 3 r = (((ρ 3 r).toNat : Nat) : Int)), decide_eq_true h8.1, decide_eq_true h5, decide_eq_true hl]; rfl
    by_cases h : m < nn
    · rw [show min m nn = m by omega] at hle
      rw [show min (m + 1) nn = m + 1 by omega]
      exact hu m h r hmem h8.2 c1 hle
    · rw [show min m nn = nn by omega] at hle
      rw [show min (m + 1) nn = nn by omega]
      obtain ⟨n0, hn⟩ := hst (by omega)
      rw [hn _ (by omega)] at hle
      have := hu (nn - 1) (by omega) r hmem h8.2 c1 hle
      rw [show nn - 1 + 1 = nn by omega] at this
      exact this
theorem row_lo {ρ : St} (hg : Wg ρ) (hL : LL ρ < 9) {y o : Int} {s a : Nat} (hs : s < spN (LL ρ)) {v b : Int} (h1 : v = -1 ∨ (0 ≤ v ∧ v ≤ b ∧ Te (gO ρ o) (jY y) (a : Int) (spB (LL ρ) s : Nat) (spF (LL ρ) s : Nat) v)) (h2 : ∀ c, Te (gO ρ o) (jY y) (a : Int) (spB (LL ρ) s : Nat) (spF (LL ρ) s : Nat) c → vF v ≤ c) : LoC (gO ρ o) (jY y) (a : Int) (spB (LL ρ) s : Nat) (spF (LL ρ) s : Nat) v := by
  have qs := sp_s hL hs
  have sm : ∀ c, Te (gO ρ o) (jY y) (a : Int) (spB (LL ρ) s : Nat) (spF (LL ρ) s : Nat) c → ∃ c', c' ≤ 353430 ∧ Te (gO ρ o) (jY y) (a : Int) (spB (LL ρ) s : Nat) (spF (LL ρ) s : Nat) c' := by
    intro c hc
    rw [← bdS_8]
    exact te_smallY (gO_W hg) y 8 hc (by omega)
  rcases h1 with h1 | ⟨p1, -, p3⟩
  · refine Or.inl ⟨h1, fun c hc => ?_⟩
    obtain ⟨c', hc', ht'⟩ := sm c hc
    have := h2 c' ht'
    rw [vF_m (by omega)] at this
    omega
  · rw [vF_n p1] at h2
    obtain ⟨c', hc', ht'⟩ := sm v p3
    have := h2 c' ht'
    exact Or.inr ⟨p1, by omega, p3, h2⟩
