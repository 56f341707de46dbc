/-! the cases of an item, as the class finds them -/
theorem PL_split {ρ : St} {q : Nat} : ∀ d, ∃ l, PL ρ (q + 1 + d) = PL ρ q ++ (cI ρ q ++ l)
  | 0 => ⟨[], by rw [List.append_nil]; rfl⟩
  | d + 1 => by
    obtain ⟨l, hl⟩ := PL_split (ρ := ρ) (q := q) d
    refine ⟨l ++ cI ρ (q + 1 + d), ?_⟩
    show PL ρ (q + 1 + d) ++ cI ρ (q + 1 + d) = _
    rw [hl, List.append_assoc, List.append_assoc]
theorem PL_3360 {ρ : St} (hg : Wg ρ) (hL : LL ρ < 9) : (PL ρ (12 * spN (LL ρ))).length ≤ 3360 := by
  have h1 := PL_len (ρ := ρ) (spN (LL ρ))
  have h5 := sumL_ub (f := cumR ρ (spN (LL ρ))) (b := 84) (fun r => cumR_le hL (Nat.le_refl _)) (liL ρ 12)
  have h6 := liL_40 hg
  omega
theorem Bt.seg {ρ σ : St} {q t : Nat} (h : Bt ρ σ) (hq : q < 12 * spN (LL ρ)) (ht : t < (cI ρ q).length) : (PL ρ q).length + t < (PL ρ (12 * spN (LL ρ))).length ∧ σ 29 ((PL ρ q).length + t) = (cI ρ q)[t].1 ∧ σ 30 ((PL ρ q).length + t) = (cI ρ q)[t].2.1 ∧ σ 31 ((PL ρ q).length + t) = (cI ρ q)[t].2.2.1 ∧ σ 32 ((PL ρ q).length + t) = (cI ρ q)[t].2.2.2 := by
  obtain ⟨l, hl⟩ := PL_split (ρ := ρ) (q := q) (12 * spN (LL ρ) - (q + 1))
  rw [show q + 1 + (12 * spN (LL ρ) - (q + 1)) = 12 * spN (LL ρ) by omega] at hl
  have hlen : (PL ρ q).length + t < (PL ρ (12 * spN (LL ρ))).length := by rw [hl, List.length_append, List.length_append]; omega
  have e : (PL ρ (12 * spN (LL ρ)))[(PL ρ q).length + t] = (cI ρ q)[t] := by
    refine (List.getElem_of_eq hl hlen).trans ?_
    rw [List.getElem_append_right (by omega)]
    have : (PL ρ q).length + t - (PL ρ q).length = t := by omega
    simp only [this]
    exact List.getElem_append_left ht
  have hc := h.2.1.2 _ hlen
  rw [e] at hc
  exact ⟨hlen, hc⟩
theorem Bt.start {ρ σ : St} {q : Nat} (h : Bt ρ σ) (hq : q ≤ 12 * spN (LL ρ)) : σ 35 q = (PL ρ q).length := h.2.2 q (by omega)
theorem PL_s {ρ : St} {q : Nat} : (PL ρ (q + 1)).length = (PL ρ q).length + (cI ρ q).length := by
  show (PL ρ q ++ cI ρ q).length = _
  rw [List.length_append]
theorem c_caseStart {ρ σ : St} (hL : LL ρ < 9) (h : Bt ρ σ) {q : Nat} (hq : q < 12 * spN (LL ρ)) {Q : Int → St → Prop} (hk : Q ((PL ρ q).length : Nat) σ) : wp_X0_caseStart (q : Int) σ Q := by
  have q3 := sp_3 _ hL
  unfold wp_X0_caseStart
  rw [Int.toNat_natCast, h.start (by omega)]
  exact ⟨by omega, hk⟩
theorem c_caseEnd {ρ σ : St} (hL : LL ρ < 9) (h : Bt ρ σ) {q : Nat} (hq : q < 12 * spN (LL ρ)) {Q : Int → St → Prop} (hk : Q (((PL ρ q).length + (cI ρ q).length : Nat) : Int) σ) : wp_X0_caseEnd (q : Int) σ Q := by
  have q3 := sp_3 _ hL
  unfold wp_X0_caseEnd
  rw [w32_of (by omega) (by omega), show (q : Int) + 1 = ((q + 1 : Nat) : Int) by omega, Int.toNat_natCast, h.start (by omega), PL_s]
  exact ⟨by omega, hk⟩
theorem mem_cOne {r : Nat} {m f s : Int} {c : Int × Int × Int × Int} : c ∈ cOne r m f s ↔ f ≠ -2 ∧ s ≠ -2 ∧ c = ((r : Int), m, f, s) := by
  unfold cOne
  by_cases h : f = -2 ∨ s = -2
  · rw [if_pos h]
    constructor
    · intro hc; cases hc
    · rintro ⟨h1, h2, -⟩
      rcases h with h | h
      · exact absurd h h1
      · exact absurd h h2
  · rw [if_neg h, List.mem_singleton]
    constructor
    · intro hc; exact ⟨fun e => h (Or.inl e), fun e => h (Or.inr e), hc⟩
    · rintro ⟨-, -, hc⟩; exact hc
theorem mem_cB {ρ : St} {r i j : Nat} {c : Int × Int × Int × Int} : ∀ d, c ∈ cB ρ r i j d ↔ ∃ m, i < m ∧ m < i + 1 + d ∧ pv ρ (ρ 4 r) i m ≠ -2 ∧ pv ρ (ρ 5 r) m j ≠ -2 ∧ c = ((r : Int), (m : Int), pv ρ (ρ 4 r) i m, pv ρ (ρ 5 r) m j)
  | 0 => by
    constructor
    · intro h; cases h
    · rintro ⟨m, h1, h2, -⟩; omega
  | d + 1 => by
    unfold cB
    rw [List.mem_append, mem_cB d, mem_cOne]
    constructor
    · rintro (⟨m, h1, h2, h3⟩ | ⟨h1, h2, h3⟩)
      · exact ⟨m, h1, by omega, h3⟩
      · exact ⟨i + 1 + d, by omega, by omega, h1, h2, h3⟩
    · rintro ⟨m, h1, h2, h3⟩
      by_cases e : m = i + 1 + d
      · subst e; exact Or.inr h3
      · exact Or.inl ⟨m, h1, by omega, h3⟩
theorem mem_cC {ρ : St} {r i j : Nat} {c : Int × Int × Int × Int} : c ∈ cC ρ i j r ↔ (ρ 5 r = -1 ∧ pv ρ (ρ 4 r) i j ≠ -2 ∧ c = ((r : Int), -1, pv ρ (ρ 4 r) i j, -1)) ∨ (ρ 5 r ≠ -1 ∧ ∃ m, i < m ∧ m < j ∧ pv ρ (ρ 4 r) i m ≠ -2 ∧ pv ρ (ρ 5 r) m j ≠ -2 ∧ c = ((r : Int), (m : Int), pv ρ (ρ 4 r) i m, pv ρ (ρ 5 r) m j)) := by
  unfold cC
  by_cases h : ρ 5 r = -1
  · rw [if_pos h, mem_cOne]
    constructor
    · rintro ⟨h1, h2, h3⟩; exact Or.inl ⟨h, h1, h3⟩
    · rintro (⟨-, h1, h3⟩ | ⟨h1, -⟩)
      · exact ⟨h1, by decide, h3⟩
      · exact absurd h h1
  · rw [if_neg h, mem_cB]
    constructor
    · rintro ⟨m, h1, h2, h3⟩; exact Or.inr ⟨h, m, h1, by omega, h3⟩
    · rintro (⟨h1, -⟩ | ⟨-, m, h1, h2, h3⟩)
      · exact absurd h1 h
      · exact ⟨m, h1, by omega, h3⟩
theorem mem_cI {ρ : St} {s a : Nat} (ha : a < 12) {c : Int × Int × Int × Int} : c ∈ cI ρ (12 * s + a) ↔ ∃ r, r < (ρ 0 4).toNat ∧ inA ρ a r = true ∧ c ∈ cC ρ (spB (LL ρ) s) (spF (LL ρ) s) r := by
  unfold cI cS
  rw [show (12 * s + a) / 12 = s by omega, show (12 * s + a) % 12 = a by omega, List.mem_flatMap]
  constructor
  · rintro ⟨r, h1, h2⟩
    rw [mem_liA] at h1
    exact ⟨r, h1.1, h1.2, h2⟩
  · rintro ⟨r, h1, h2, h3⟩
    exact ⟨r, by rw [mem_liA]; exact ⟨h1, h2⟩, h3⟩
/-- a part's number: an item of a span within, a letter that fits, or none -/
theorem pv_lab {ρ : St} {p : Int} {i j : Nat} (h : p < 100) : pv ρ p i j = ((spA (LL ρ) i j * 12 : Nat) : Int) + p := by unfold pv; rw [if_neg (by omega)]
theorem pv_yes {ρ : St} {p : Int} {i j : Nat} (h : 100 ≤ p) (hc : j = i + 1 ∧ ρ 11 i = p - 100) : pv ρ p i j = -1 := by unfold pv; rw [if_pos h, if_pos hc]
theorem pv_no {ρ : St} {p : Int} {i j : Nat} (h : 100 ≤ p) (hc : ¬ (j = i + 1 ∧ ρ 11 i = p - 100)) : pv ρ p i j = -2 := by unfold pv; rw [if_pos h, if_neg hc]
theorem c_goesOn {σ : St} {x : Nat} (hx : x < 3360) {Q : Int → St → Prop} (h : Q (if σ 30 x = -1 ∧ 0 ≤ σ 31 x then 1 else 0) σ) : wp_X0_goesOn (x : Int) σ Q := by
  unfold wp_X0_goesOn wp_X0_goesOn_b23
  rw [Int.toNat_natCast]
  refine ⟨by omega, fun h1 => ?_, fun h1 => ⟨by omega, fun h2 => ?_, fun h2 => ?_⟩⟩
  · rw [if_neg (fun hh => h1 hh.1)] at h; exact h
  · rw [if_neg (by omega)] at h; exact h
  · rw [if_pos (by omega)] at h; exact h
/-- how the class joins costs: together or the dearest -/
def jY (y a b : Int) : Int := if y = 0 then max a b else a + b
theorem jY_0 (a b : Int) : jY 0 a b = max a b := by unfold jY; rw [if_pos rfl]
theorem jY_1 {y : Int} (h : y ≠ 0) (a b : Int) : jY y a b = a + b := by unfold jY; rw [if_neg h]
theorem jokY (y : Int) : Jok (jY y) := by
  by_cases hy : y = 0
  · subst hy
    refine ⟨fun a b h => ?_, fun a b h => ?_, fun a b c d h1 h2 => ?_⟩
    · rw [jY_0]; omega
    · rw [jY_0]; omega
    · rw [jY_0, jY_0]; omega
  · refine ⟨fun a b h => ?_, fun a b h => ?_, fun a b c d h1 h2 => ?_⟩
    · rw [jY_1 hy]; omega
    · rw [jY_1 hy]; omega
    · rw [jY_1 hy, jY_1 hy]; omega
theorem c_join {a b y : Int} (ha : 0 ≤ a ∧ a < 500000000) (hb : 0 ≤ b ∧ b < 500000000) {σ : St} {Q : Int → St → Prop} (h : Q (jY y a b) σ) : wp_X1_join a b y σ Q := by
  unfold wp_X1_join
  unfold jY at h
  refine ⟨fun h1 => ?_, fun h1 => ?_⟩
  · rw [if_pos h1] at h; exact h
  · rw [if_neg h1] at h; rw [w32_of (by omega) (by omega)]; exact h
def lsr (a b : Int) : Int := if a = -1 ∨ b < a then b else a
theorem c_lesser {a b : Int} {σ : St} {Q : Int → St → Prop} (h : Q (lsr a b) σ) : wp_X1_lesser a b σ Q := by
  unfold wp_X1_lesser wp_X1_lesser_b10
  unfold lsr at h
  refine ⟨fun h1 => ?_, fun h1 => ⟨fun h2 => ?_, fun h2 => ?_⟩⟩
  · rw [if_pos (Or.inl h1)] at h; exact h
  · rw [if_neg (by omega)] at h; exact h
  · rw [if_pos (by omega)] at h; exact h
