/-! least costs in the reference -/
def jA (a b : Int) : Int := a + b
theorem jokA : Jok jA := jok_add
/-- a letter's only tree -/
theorem Te.letter_iff {g : St} {J : Int → Int → Int} (hg : Wg g) {p i j c : Int} (hp : 100 ≤ p) : Te g J p i j c ↔ (j = i + 1 ∧ g 11 i.toNat = p - 100 ∧ c = 0) := by
  constructor
  · rintro ⟨k, h⟩
    induction k with
    | zero => exact h.2
    | succ k ih =>
      rcases h with h | ⟨r, hr, h8, h3, h⟩
      · exact ih h
      · have := w_head hg hr; omega
  · rintro ⟨h1, h2, h3⟩
    exact ⟨0, hp, h1, h2, h3⟩
def bdS : Nat → Int
  | 0 => 0
  | n + 1 => 2 * bdS n + 1386
theorem bdS_nn : ∀ n, 0 ≤ bdS n
  | 0 => Int.le_refl 0
  | n + 1 => by have := bdS_nn n; unfold bdS; omega
/-- where there is a tree there is a cheap one -/
theorem te_small {g : St} (hg : Wg g) : ∀ (L : Nat) {p i j c : Int}, Te g jA p i j c → j - i ≤ L → ∃ c', c' ≤ bdS L ∧ Te g jA p i j c' := by
  intro L
  induction L with
  | zero =>
    rintro p i j c ⟨k, h⟩ hl
    have := TP.lt k h; omega
  | succ L ih =>
    rintro p i j c ⟨k, h⟩ hl
    have hb0 := bdS_nn L
    obtain ⟨n, hn, hst⟩ := grow12p (s := fun n a => ∃ c, c ≤ 2 * bdS L + 99 + 99 * (n : Int) ∧ Te g jA (a : Int) i j c) (fun n a ha h => by
      obtain ⟨c, hc, ht⟩ := h
      exact ⟨c, by push_cast; omega, ht⟩)
    have key : ∀ (k a : Nat) (c : Int), a < 12 → TP g jA k (a : Int) i j c → ∃ c, c ≤ 2 * bdS L + 99 + 99 * (n : Int) ∧ Te g jA (a : Int) i j c := by
      intro k
      induction k with
      | zero => intro a c ha h; have := h.1; omega
      | succ k ihk =>
        intro a c ha h
        rcases h with h | ⟨r, hr, h8, h3, ⟨h5, c1, hc1, rfl⟩ | ⟨h5, m, c1, c2, hi, hj, hc1, hc2, rfl⟩⟩
        · exact ihk a c ha h
        · have hw := hg.2.2 r hr
          have hp := hw.2.1
          unfold isPart at hp
          by_cases hl : 100 ≤ g 4 r
          · have h0 := (Te.letter_iff hg hl).1 ⟨k, hc1⟩
            refine ⟨_, ?_, h3 ▸ Te.single hr h8 h5 ⟨k, hc1⟩⟩
            unfold jA; omega
          · obtain ⟨c', hc', ht'⟩ := ihk (g 4 r).toNat c1 (by omega) (by rw [show (((g 4 r).toNat : Nat) : Int) = g 4 r by omega]; exact hc1)
            rw [show (((g 4 r).toNat : Nat) : Int) = g 4 r by omega] at ht'
            refine hst a ha ⟨_, ?_, h3 ▸ Te.single hr h8 h5 ht'⟩
            unfold jA; push_cast; omega
        · have hw := hg.2.2 r hr
          obtain ⟨a1, b1, t1⟩ := ih ⟨k, hc1⟩ (by push_cast at hl; omega)
          obtain ⟨a2, b2, t2⟩ := ih ⟨k, hc2⟩ (by push_cast at hl; omega)
          refine ⟨_, ?_, h3 ▸ Te.pair hr h8 h5 hi hj t1 t2⟩
          unfold jA; omega
    by_cases hp : 100 ≤ p
    · have h0 := (Te.letter_iff hg hp).1 ⟨k, h⟩
      exact ⟨c, by unfold bdS; omega, k, h⟩
    · have hp2 : 0 ≤ p ∧ p < 12 := by
        obtain ⟨r, hr, h8, h3, -⟩ := Te.cases_on k h (by omega)
        have := w_head hg hr; omega
      obtain ⟨c', hc', ht'⟩ := key k p.toNat c (by omega) (by rw [show ((p.toNat : Nat) : Int) = p by omega]; exact h)
      rw [show ((p.toNat : Nat) : Int) = p by omega] at ht'
      exact ⟨c', by unfold bdS; omega, ht'⟩
theorem bdS_8 : bdS 8 = 353430 := by decide
theorem bdS_mono : ∀ (n d : Nat), bdS n ≤ bdS (n + d)
  | n, 0 => Int.le_refl _
  | n, d + 1 => by
    have := bdS_mono n d
    have := bdS_nn (n + d)
    show bdS n ≤ 2 * bdS (n + d) + 1386
    omega
theorem te_small8 {g : St} (hg : Wg g) {p i j c : Int} (h : Te g jA p i j c) (hl : j - i ≤ 8) : ∃ c', c' ≤ 353430 ∧ Te g jA p i j c' := by
  rw [← bdS_8]; exact te_small hg 8 h (by omega)
/-- the reference's store as it looks at g -/
def RG (τ g : St) : Prop := τ 0 1 = g 0 4 ∧ τ 0 28 = osum (g 8) (g 0 4).toNat ∧ τ 0 27 = g 0 8 ∧ (∀ r : Nat, (r : Int) < g 0 4 → τ 1 r = g 3 r ∧ τ 2 r = g 4 r ∧ τ 3 r = g 5 r ∧ τ 4 r = g 6 r) ∧ (∀ j : Nat, (j : Int) < g 0 8 → τ 14 j = g 11 j)
def it (a i j : Int) : Int := (a * 8 + i) * 8 + j - 1
theorem it_r {a i j : Int} (ha : 0 ≤ a ∧ a < 12) (hi : 0 ≤ i ∧ i < j ∧ j ≤ 8) : 0 ≤ it a i j ∧ it a i j < 768 := by unfold it; omega
theorem it_inj {a i j b k l : Int} (ha : 0 ≤ a ∧ a < 12) (hi : 0 ≤ i ∧ i < j ∧ j ≤ 8) (hb : 0 ≤ b ∧ b < 12) (hk : 0 ≤ k ∧ k < l ∧ l ≤ 8) (h : (it a i j).toNat = (it b k l).toNat) : a = b ∧ i = k ∧ j = l := by
  have h1 := it_r ha hi
  have h2 := it_r hb hk
  have h3 : it a i j = it b k l := by omega
  have a1 : it a i j / 64 = a := by unfold it; omega
  have b1 : it b k l / 64 = b := by unfold it; omega
  have hab : a = b := by rw [← a1, ← b1, h3]
  subst hab
  have a2 : (it a i j - 64 * a) / 8 = i := by unfold it; omega
  have b2 : (it a k l - 64 * a) / 8 = k := by unfold it; omega
  have hik : i = k := by rw [← a2, ← b2, h3]
  subst hik
  unfold it at h3
  exact ⟨rfl, rfl, by omega⟩
theorem r_item {a i j : Int} {τ : St} {Q : Int → St → Prop} (ha : 0 ≤ a ∧ a < 12) (hi : 0 ≤ i ∧ i < j ∧ j ≤ 8) (h : Q (it a i j) τ) : wp_X12_item a i j τ Q := by
  unfold wp_X12_item
  unfold it at h
  rw [w32_of (x := a * 8) (by omega) (by omega), w32_of (x := a * 8 + i) (by omega) (by omega), w32_of (x := (a * 8 + i) * 8) (by omega) (by omega), w32_of (x := (a * 8 + i) * 8 + j) (by omega) (by omega), w32_of (by omega) (by omega)]
  exact h
def rl (τ : St) (a i j : Int) : Int := τ 15 (it a i j).toNat
def VP (g τ : St) (p i j : Int) : Int := if 100 ≤ p then (if j = i + 1 ∧ g 11 i.toNat = p - 100 then 0 else 1000000000) else rl τ p i j
theorem VP_lab {g τ : St} {p i j : Int} (h : p < 100) : VP g τ p i j = rl τ p i j := by unfold VP; rw [if_neg (by omega)]
theorem VP_yes {g τ : St} {p i j : Int} (h : 100 ≤ p) (hc : j = i + 1 ∧ g 11 i.toNat = p - 100) : VP g τ p i j = 0 := by unfold VP; rw [if_pos h, if_pos hc]
theorem VP_no {g τ : St} {p i j : Int} (h : 100 ≤ p) (hc : ¬ (j = i + 1 ∧ g 11 i.toNat = p - 100)) : VP g τ p i j = 1000000000 := by unfold VP; rw [if_pos h, if_neg hc]
theorem r_fits {g τ : St} (v : RG τ g) {p i j : Int} (hp : isPart p) (hi : 0 ≤ i ∧ i < j ∧ j ≤ g 0 8) (h8 : g 0 8 ≤ 8) {Q : Int → St → Prop} (h : Q (if VP g τ p i j < 1000000000 then 1 else 0) τ) : wp_X12_fits p i j τ Q := by
  unfold wp_X12_fits wp_X12_fits_b30
  unfold isPart at hp
  refine ⟨fun h1 => ?_, fun h1 => ?_⟩
  · rw [VP_lab h1] at h
    refine r_item (by omega) (by omega) ⟨it_r (by omega) (by omega), fun h2 => ?_, fun h2 => ?_⟩
    · rw [if_neg (by unfold rl; omega)] at h; exact h
    · rw [if_pos (by unfold rl; omega)] at h; exact h
  · rw [w32_of (x := i + 1) (by omega) (by omega), w32_of (x := p - 100) (by omega) (by omega)]
    refine ⟨fun h2 => ?_, fun h2 => ⟨by omega, fun h3 => ?_, fun h3 => ?_⟩⟩
    · rw [VP_no (by omega) (fun h => h2 h.1), if_neg (by omega)] at h; exact h
    · rw [v.2.2.2.2 _ (by omega)] at h3
      rw [VP_no (by omega) (fun h => h3 h.2), if_neg (by omega)] at h; exact h
    · rw [v.2.2.2.2 _ (by omega)] at h3
      rw [VP_yes (by omega) ⟨by omega, by omega⟩, if_pos (by omega)] at h; exact h
theorem r_leastPart {g τ : St} {p i j : Int} (hp : isPart p) (hi : 0 ≤ i ∧ i < j ∧ j ≤ g 0 8) (h8 : g 0 8 ≤ 8) (hf : VP g τ p i j < 1000000000) {Q : Int → St → Prop} (h : Q (VP g τ p i j) τ) : wp_X12_leastPart p i j τ Q := by
  unfold wp_X12_leastPart
  unfold isPart at hp
  refine ⟨fun h1 => ?_, fun h1 => ?_⟩
  · rw [VP_lab h1] at h
    exact r_item (by omega) (by omega) ⟨it_r (by omega) (by omega), h⟩
  · by_cases hc : j = i + 1 ∧ g 11 i.toNat = p - 100
    · rw [VP_yes (by omega) hc] at h; exact h
    · rw [VP_no (by omega) hc] at hf; omega
theorem r_lowers {τ : St} {a i j x : Int} (ha : 0 ≤ a ∧ a < 12) (hi : 0 ≤ i ∧ i < j ∧ j ≤ 8) {Q : Int → St → Prop} (h1 : x < rl τ a i j → ∀ τ1, τ1 = upS τ 15 (it a i j).toNat x → Q 1 τ1) (h2 : ¬ x < rl τ a i j → Q 0 τ) : wp_X12_lowers a i j x τ Q := by
  unfold wp_X12_lowers
  refine r_item ha hi ⟨it_r ha hi, fun h => r_item ha hi ⟨it_r ha hi, fun τ1 e => h1 h τ1 e⟩, fun h => h2 h⟩
/-- within the span i j: what is there is right, elsewhere nothing has changed since τ0 -/
def SS (g τ0 τ : St) (i j : Int) : Prop := RG τ g ∧ (∀ k : Nat, (∀ a : Int, 0 ≤ a → a < 12 → k ≠ (it a i j).toNat) → τ 15 k = τ0 15 k) ∧ (∀ a : Int, 0 ≤ a → a < 12 → rl τ a i j = 1000000000 ∨ (rl τ a i j < 1000000000 ∧ Te g jA a i j (rl τ a i j)))
def SLe (i j : Int) (τ τ1 : St) : Prop := ∀ a : Int, 0 ≤ a → a < 12 → rl τ1 a i j ≤ rl τ a i j
theorem SLe.rf {i j : Int} {τ : St} : SLe i j τ τ := fun a _ _ => Int.le_refl _
theorem SLe.tr {i j : Int} {τ τ1 τ2 : St} (h : SLe i j τ τ1) (h2 : SLe i j τ1 τ2) : SLe i j τ τ2 := fun a h0 h1 => Int.le_trans (h2 a h0 h1) (h a h0 h1)
theorem RL_up {τ : St} {a i j b x : Int} (ha : 0 ≤ a ∧ a < 12) (hb : 0 ≤ b ∧ b < 12) (hi : 0 ≤ i ∧ i < j ∧ j ≤ 8) : rl (upS τ 15 (it a i j).toNat x) b i j = if b = a then x else rl τ b i j := by
  unfold rl
  by_cases h : b = a
  · rw [h, upS_s, if_pos rfl]
  · rw [if_neg h, upS_j]
    intro e; exact h (it_inj hb hi ha hi e).1
theorem SS.low {g τ0 τ : St} {i j a x : Int} (h : SS g τ0 τ i j) (ha : 0 ≤ a ∧ a < 12) (hi : 0 ≤ i ∧ i < j ∧ j ≤ 8) (hx : x < rl τ a i j) (ht : Te g jA a i j x) : SS g τ0 (upS τ 15 (it a i j).toNat x) i j ∧ SLe i j τ (upS τ 15 (it a i j).toNat x) ∧ rl (upS τ 15 (it a i j).toNat x) a i j = x := by
  obtain ⟨h1, h2, h3⟩ := h
  refine ⟨⟨h1, fun k hk => ?_, fun b hb0 hb1 => ?_⟩, fun b hb0 hb1 => ?_, ?_⟩
  · rw [upS_j (hk a ha.1 ha.2)]; exact h2 k hk
  · rw [RL_up ha ⟨hb0, hb1⟩ hi]
    by_cases hb : b = a
    · rw [if_pos hb, hb]
      rcases h3 a ha.1 ha.2 with q | q
      · exact Or.inr ⟨by omega, ht⟩
      · exact Or.inr ⟨by omega, ht⟩
    · rw [if_neg hb]; exact h3 b hb0 hb1
  · rw [RL_up ha ⟨hb0, hb1⟩ hi]
    by_cases hb : b = a
    · rw [if_pos hb, hb]; omega
    · rw [if_neg hb]; exact Int.le_refl _
  · rw [RL_up ha ha hi, if_pos rfl]
/-- shorter spans inside i j are done -/
def HS (g τ : St) (i j : Int) : Prop := ∀ p k l : Int, isPart p → i ≤ k → k < l → l ≤ j → l - k < j - i → Lo g jA p k l (VP g τ p k l) 1000000000
theorem HS.ss {g τ0 τ : St} {i j : Int} (hi : 0 ≤ i ∧ i < j ∧ j ≤ 8) (h : HS g τ0 i j) (s : SS g τ0 τ i j) : HS g τ i j := by
  intro p k l hp h1 h2 h3 h4
  have := h p k l hp h1 h2 h3 h4
  have e : VP g τ p k l = VP g τ0 p k l := by
    unfold VP
    by_cases hp1 : 100 ≤ p
    · rw [if_pos hp1, if_pos hp1]
    · rw [if_neg hp1, if_neg hp1]
      unfold isPart at hp
      refine s.2.1 _ (fun a h0 h1 e => ?_)
      have := it_inj (by omega) (by omega) ⟨h0, h1⟩ hi e
      omega
  rw [e]; exact this
theorem Lo.le {g : St} {J : Int → Int → Int} {p i j v F c : Int} (h : Lo g J p i j v F) (hc : Te g J p i j c) : v ≤ c ∧ v < F ∧ Te g J p i j v := by
  rcases h with ⟨-, b⟩ | ⟨a, b, c'⟩
  · exact absurd hc (b c)
  · exact ⟨c' c hc, a, b⟩
theorem Lo.te {g : St} {J : Int → Int → Int} {p i j v F : Int} (h : Lo g J p i j v F) (hv : v < F) : Te g J p i j v := by
  rcases h with ⟨a, b⟩ | ⟨a, b, c'⟩
  · omega
  · exact b
