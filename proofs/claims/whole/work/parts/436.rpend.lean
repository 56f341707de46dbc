/-! what waits, at first: the lists of cases of two parts -/
theorem sumG_at {n : Nat → Nat} {p : Nat} : ∀ B, p < sumG n B → ∃ b k, b < B ∧ k < n b ∧ p = sumG n b + k
  | 0, h => absurd h (Nat.not_lt_zero _)
  | B + 1, h => by
    have h : p < sumG n B + n B := h
    by_cases e : p < sumG n B
    · obtain ⟨b, k, h1, h2⟩ := sumG_at B e
      exact ⟨b, k, by omega, h2⟩
    · exact ⟨B, p - sumG n B, by omega, by omega, by omega⟩
theorem sumG_eq {n : Nat → Nat} {b c k l : Nat} (hk : k < n b) (hl : l < n c) (e : sumG n b + k = sumG n c + l) : b = c ∧ k = l := by
  rcases Nat.lt_trichotomy b c with g | g | g
  · have := sumG_mo (n := n) (b := b) c g; omega
  · subst g; exact ⟨rfl, by omega⟩
  · have := sumG_mo (n := n) (b := c) b g; omega
/-- c nodes wait, none of them taken: E tells label and entry -/
def LPd (ρ τ : St) (F : Fo) (D : Nat → Prop) (s c : Nat) (E : Nat → Nat × En) : Prop := τ 0 59 = (c : Int) ∧ τ 0 55 = -1 ∧ (∀ p, p < c → (E p).1 < 12 ∧ CandE ρ F (12 * s + (E p).1) (E p).2 ∧ PDf ρ D (12 * s + (E p).1) (E p).2.2.1 ∧ NdC ρ τ F (12 * s + (E p).1) (E p).2 (τ 39 p) ∧ τ 39 p < τ 0 54) ∧ ∀ p p', p < c → p' < c → E p = E p' → p = p'
theorem LPd.start {ρ τ τ1 : St} {F : Fo} {D : Nat → Prop} {s N0 : Nat} {P : Nat → En → Prop} (hP : ∀ b, b < 12 → ∀ w, P b w → CandE ρ F (12 * s + b) w ∧ PDf ρ D (12 * s + b) w.2.1) {n : Nat → Nat} {L : Nat → Nat → En} (hB : BPh ρ τ F D s N0 P n L) (m1 : ∀ k, k ≠ 0 → k ≠ 38 → k ≠ 39 → τ1 k = τ k) (m5 : τ1 0 59 = (sumG n 12 : Nat)) (m6 : ∀ c k, c < 12 → k < n c → τ1 39 (sumG n c + k) = ndL ρ τ s c k) (h55 : τ1 0 55 = -1) (h54 : τ1 0 54 = τ 0 54) : ∃ E, LPd ρ τ1 F D s (sumG n 12) E ∧ ∀ b w, b < 12 → ((∃ k, k < n b ∧ L b k = w) ↔ ∃ p, p < sumG n 12 ∧ E p = (b, w)) := by
  obtain ⟨b1, b2, b3, b4, b5, b6⟩ := hB
  have ex : ∀ p, ∃ e : Nat × En, p < sumG n 12 → ∃ b k, b < 12 ∧ k < n b ∧ p = sumG n b + k ∧ e = (b, L b k) := by
    intro p
    by_cases h : p < sumG n 12
    · obtain ⟨b, k, h1, h2, h3⟩ := sumG_at 12 h
      exact ⟨(b, L b k), fun _ => ⟨b, k, h1, h2, h3, rfl⟩⟩
    · exact ⟨(0, (0, 0, 0, 0)), fun g => absurd g h⟩
  obtain ⟨E, hE⟩ := Classical.skolem.1 ex
  have at' : ∀ b k, b < 12 → k < n b → sumG n b + k < sumG n 12 ∧ E (sumG n b + k) = (b, L b k) := by
    intro b k hb hk
    have lt := sumG_mo (n := n) (b := b) 12 hb
    have lt2 : sumG n b + k < sumG n 12 := by omega
    obtain ⟨b', k', h1, h2, h3, h4⟩ := hE _ lt2
    obtain ⟨e1, e2⟩ := sumG_eq hk h2 h3
    subst e1 e2
    exact ⟨lt2, h4⟩
  refine ⟨E, ⟨m5, h55, fun p hp => ?_, fun p p' hp hp' e => ?_⟩, fun b w hb => ⟨?_, ?_⟩⟩
  · obtain ⟨b, k, h1, h2, h3, h4⟩ := hE p hp
    rw [h4]
    have hh := hP b h1 _ ((b3 b h1).1.2.1 k h2)
    refine ⟨h1, hh.1, hh.2, ?_, ?_⟩
    · rw [h3, m6 b k h1 h2]
      exact ((b3 b h1).2.1.2 k h2).eqs (fun i i1 i2 => m1 i (by omega) (by omega) (by omega))
    · rw [h3, m6 b k h1 h2, h54]
      exact ((b3 b h1).2.2 k h2).2
  · obtain ⟨b, k, h1, h2, h3, h4⟩ := hE p hp
    obtain ⟨b', k', g1, g2, g3, g4⟩ := hE p' hp'
    rw [h4, g4, Prod.mk.injEq] at e
    obtain ⟨e1, e2⟩ := e
    subst e1
    have ek : k = k' := by
      rcases Nat.lt_trichotomy k k' with g | g | g
      · have := (b3 b h1).1.2.2.1 k k' g g2
        rw [e2] at this; exact (ltE.irr this).elim
      · exact g
      · have := (b3 b h1).1.2.2.1 k' k g h2
        rw [e2] at this; exact (ltE.irr this).elim
    rw [h3, g3, ek]
  · rintro ⟨k, hk, rfl⟩
    obtain ⟨h1, h2⟩ := at' b k hb hk
    exact ⟨_, h1, h2⟩
  · rintro ⟨p, hp, e⟩
    obtain ⟨b', k, h1, h2, h3, h4⟩ := hE p hp
    rw [h4, Prod.mk.injEq] at e
    obtain ⟨e1, e2⟩ := e
    subst e1
    exact ⟨k, h2, e2⟩
