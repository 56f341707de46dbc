/-! spans of a sentence of L letters: by length, then by where they begin -/
def spO (L n : Nat) : Nat := (n - 1) * (L + 1) - n * (n - 1) / 2
def spN (L : Nat) : Nat := spO L (L + 1)
def spA (L i j : Nat) : Nat := spO L (j - i) + i
def spG (L : Nat) : Nat → Nat → Nat → Nat × Nat
  | 0, n, s => (s, s + n)
  | f + 1, n, s => if s < L + 1 - n then (s, s + n) else spG L f (n + 1) (s - (L + 1 - n))
def spB (L s : Nat) : Nat := (spG L 8 1 s).1
def spF (L s : Nat) : Nat := (spG L 8 1 s).2
theorem all_of {n : Nat} {f : Nat → Bool} (h : (List.range n).all f = true) {k : Nat} (hk : k < n) : f k = true := List.all_eq_true.1 h k (List.mem_range.2 hk)
theorem sp_1b : ((List.range 9).all fun L => (List.range 8).all fun i => (List.range 9).all fun j => !decide (i < j ∧ j ≤ L) || decide (spA L i j < spN L ∧ spB L (spA L i j) = i ∧ spF L (spA L i j) = j)) = true := by decide +kernel
theorem sp_1 {L i j : Nat} (hL : L < 9) (hi : i < 8) (hj : j < 9) (h : i < j ∧ j ≤ L) : spA L i j < spN L ∧ spB L (spA L i j) = i ∧ spF L (spA L i j) = j := by
  have q := all_of (all_of (all_of sp_1b hL) hi) hj
  rw [decide_eq_true h] at q
  simpa using q
theorem sp_2 : ∀ L, L < 9 → ∀ s, s < 36 → s < spN L → spB L s < spF L s ∧ spF L s ≤ L ∧ spA L (spB L s) (spF L s) = s := by decide +kernel
theorem sp_3 : ∀ L, L < 9 → spN L ≤ 36 := by decide +kernel
theorem sp_4 : ∀ L, L < 9 → ∀ n, n < 9 → 1 ≤ n → n ≤ L → spO L (n + 1) = spO L n + (L + 1 - n) := by decide +kernel
theorem sp_5 : ∀ L, L < 9 → spO L 1 = 0 := by decide +kernel
theorem sp_6b : ((List.range 9).all fun L => (List.range 9).all fun n => (List.range 9).all fun m => !decide (1 ≤ n ∧ n < m ∧ m ≤ L) || decide (spO L n + (L + 1 - n) ≤ spO L m)) = true := by decide +kernel
theorem sp_6 {L n m : Nat} (hL : L < 9) (hn : n < 9) (hm : m < 9) (h : 1 ≤ n ∧ n < m ∧ m ≤ L) : spO L n + (L + 1 - n) ≤ spO L m := by
  have q := all_of (all_of (all_of sp_6b hL) hn) hm
  rw [decide_eq_true h] at q
  simpa using q
/-- shorter ones come first -/
theorem sp_lt {L i j k l : Nat} (hL : L < 9) (hi : i < j ∧ j ≤ L) (hk : k < l ∧ l ≤ L) (h : j - i < l - k ∨ (j - i = l - k ∧ i < k)) : spA L i j < spA L k l := by
  unfold spA
  rcases h with h | ⟨h, h2⟩
  · have := sp_6 (n := j - i) (m := l - k) hL (by omega) (by omega) (by omega)
    omega
  · rw [h]; omega
theorem sp_s {L s : Nat} (hL : L < 9) (hs : s < spN L) : spB L s < spF L s ∧ spF L s ≤ L ∧ spA L (spB L s) (spF L s) = s := sp_2 L hL s (by have := sp_3 L hL; omega) hs
theorem sp_a {L i j : Nat} (hL : L < 9) (hi : i < j ∧ j ≤ L) : spA L i j < spN L ∧ spB L (spA L i j) = i ∧ spF L (spA L i j) = j := sp_1 hL (by omega) (by omega) hi
theorem sp_ai {L i j k l : Nat} (hL : L < 9) (hi : i < j ∧ j ≤ L) (hk : k < l ∧ l ≤ L) (h : spA L i j = spA L k l) : i = k ∧ j = l := by
  have a := sp_a hL hi
  have b := sp_a hL hk
  rw [h] at a
  exact ⟨by rw [← a.2.1, b.2.1], by rw [← a.2.2, b.2.2]⟩
/-- the first c spans lie in the class's arrays -/
def SpL (σ : St) (L c : Nat) : Prop := σ 24 2 = L ∧ σ 24 3 = c ∧ (∀ s : Nat, s < c → σ 26 s = spB L s ∧ σ 27 s = spF L s) ∧ (∀ i j : Nat, i < j → j ≤ L → spA L i j < c → σ 28 (i * 9 + j) = spA L i j)
theorem SpL.put {σ σ3 σ4 σ5 σ6 : St} {L c i n : Nat} (hL : L < 9) (h : SpL σ L c) (hn : 1 ≤ n) (hi : i + n ≤ L) (hc : c = spO L n + i) (e3 : σ3 = upS σ 26 c i) (e4 : σ4 = upS σ3 27 c ((i + n : Nat) : Int)) (e5 : σ5 = upS σ4 28 (i * 9 + (i + n)) c) (e6 : σ6 = upS σ5 24 3 ((c + 1 : Nat) : Int)) : SpL σ6 L (c + 1) := by
  obtain ⟨h1, h2, h3, h4⟩ := h
  have hA : spA L i (i + n) = c := by unfold spA; rw [show i + n - i = n by omega]; exact hc.symm
  have q := sp_a (i := i) (j := i + n) hL (by omega)
  rw [hA] at q
  refine ⟨?_, ?_, fun s hs => ?_, fun k l hk hl hlt => ?_⟩
  · rw [e6, upS_j (by decide), e5, upS_k (by decide), e4, upS_k (by decide), e3, upS_k (by decide)]; exact h1
  · rw [e6, upS_s]
  · have e26 : σ6 26 s = upS σ 26 c i 26 s := by rw [e6, upS_k (by decide), e5, upS_k (by decide), e4, upS_k (by decide), e3]
    have e27 : σ6 27 s = upS σ3 27 c ((i + n : Nat) : Int) 27 s := by rw [e6, upS_k (by decide), e5, upS_k (by decide), e4]
    rw [e26, e27]
    by_cases e : s = c
    · rw [e, upS_s, upS_s, q.2.1, q.2.2]; exact ⟨rfl, rfl⟩
    · rw [upS_j e, upS_j e, e3, upS_k (by decide)]; exact h3 s (by omega)
  · rw [e6, upS_k (by decide), e5]
    by_cases e : spA L k l = c
    · have := sp_ai hL ⟨hk, hl⟩ (k := i) (l := i + n) (by omega) (by rw [e, hA])
      obtain ⟨rfl, rfl⟩ := this
      rw [upS_s, e]
    · rw [upS_j (by intro e2; apply e; have : k = i ∧ l = i + n := by omega
                    rw [this.1, this.2]; exact hA), e4, upS_k (by decide), e3, upS_k (by decide)]
      exact h4 k l hk hl (by omega)
theorem c_lo17 {Q : Int → St → Prop} {K : Int → St → Prop} {L n : Nat} (hL : L < 9) (hn : 1 ≤ n ∧ n ≤ L) : ∀ (d i : Nat) (σ : St) (f : Nat), i + n + d = L + 1 → d < f → SpL σ L (spO L n + i) → (∀ σ1, SpL σ1 L (spO L (n + 1)) → K ((n + 1 : Nat) : Int) σ1) → wp_X0_layOutSpans_l17 Q K f (n : Int) (i : Int) σ := by
  intro d
  induction d with
  | zero =>
    intro i σ f hd hf h hk
    obtain ⟨f, rfl⟩ := suc_n hf
    unfold wp_X0_layOutSpans_l17
    rw [w32_of (x := (i : Int) + n) (by omega) (by omega), h.1]
    refine ⟨fun _ v ev => ?_, fun hh => absurd hh (by omega)⟩
    rw [ev, w32_of (by omega) (by omega), show (n : Int) + 1 = ((n + 1 : Nat) : Int) by omega]
    refine hk σ ?_
    rw [sp_4 L hL n (by omega) hn.1 hn.2, show L + 1 - n = i by omega]; exact h
  | succ d ih =>
    intro i σ f hd hf h hk
    obtain ⟨f, rfl⟩ := suc_n hf
    have hA : spA L i (i + n) = spO L n + i := by unfold spA; rw [show i + n - i = n by omega]
    have q := sp_a (i := i) (j := i + n) hL (by omega)
    have q3 := sp_3 L hL
    rw [hA] at q
    unfold wp_X0_layOutSpans_l17
    rw [w32_of (x := (i : Int) + n) (by omega) (by omega), h.1]
    have x1 : w32 ((i : Int) * 9) = (i : Int) * 9 := w32_of (by omega) (by omega)
    have x2 : w32 ((i : Int) * 9 + i) = (i : Int) * 9 + i := w32_of (by omega) (by omega)
    have x3 : w32 ((i : Int) * 9 + i + n) = ((i * 9 + (i + n) : Nat) : Int) := by rw [w32_of (by omega) (by omega)]; push_cast; omega
    refine ⟨fun hh => absurd hh (by omega), fun _ => ⟨by rw [h.2.1]; omega, fun σ3 e3 => ?_⟩⟩
    have c3 : σ3 24 3 = ((spO L n + i : Nat) : Int) := by rw [e3, upS_k (by decide)]; exact h.2.1
    refine ⟨by rw [c3]; omega, fun σ4 e4 => ?_⟩
    have c4 : σ4 24 3 = ((spO L n + i : Nat) : Int) := by rw [e4, upS_k (by decide)]; exact c3
    rw [x1, x2, x3]
    refine ⟨by omega, fun σ5 e5 σ6 e6 v ev => ?_⟩
    have c5 : σ5 24 3 = ((spO L n + i : Nat) : Int) := by rw [e5, upS_k (by decide)]; exact c4
    rw [ev, w32_of (x := (i : Int) + 1) (by omega) (by omega), show (i : Int) + 1 = ((i + 1 : Nat) : Int) by omega]
    rw [h.2.1, Int.toNat_natCast] at e3
    rw [c3, Int.toNat_natCast, show (i : Int) + n = ((i + n : Nat) : Int) by omega] at e4
    rw [c4, Int.toNat_natCast] at e5
    rw [c5, w32_of (by omega) (by omega), show ((spO L n + i : Nat) : Int) + 1 = ((spO L n + i + 1 : Nat) : Int) by omega] at e6
    exact ih (i + 1) σ6 f (by omega) (by omega) (h.put hL hn.1 (by omega) rfl e3 e4 e5 e6) hk
theorem c_lo7 {Q : Int → St → Prop} {L : Nat} (hL : L < 9) (hq : ∀ σ1, SpL σ1 L (spN L) → Q 0 σ1) : ∀ (d n : Nat) (σ : St) (f : Nat), n + d = L + 1 → 1 ≤ n → d < f → SpL σ L (spO L n) → wp_X0_layOutSpans_l7 Q f (n : Int) σ := by
  intro d
  induction d with
  | zero =>
    intro n σ f hd h1 hf h
    obtain ⟨f, rfl⟩ := suc_n hf
    unfold wp_X0_layOutSpans_l7
    rw [h.1]
    exact ⟨fun _ => hq σ (by unfold spN; rw [show L + 1 = n by omega]; exact h), fun hh => absurd hh (by omega)⟩
  | succ d ih =>
    intro n σ f hd h1 hf h
    obtain ⟨f, rfl⟩ := suc_n hf
    unfold wp_X0_layOutSpans_l7
    rw [h.1]
    exact ⟨fun hh => absurd hh (by omega), fun _ => c_lo17 hL (by omega) (L + 1 - n) 0 σ bigN (by omega) (by unfold bigN; omega) h (fun σ1 hs => ih (n + 1) σ1 f (by omega) (by omega) (by omega) hs)⟩
theorem c_layOutSpans {σ : St} {L : Nat} (hL : L < 9) (h : σ 24 2 = L) {Q : Int → St → Prop} (hq : ∀ σ1, SpL σ1 L (spN L) → Q 0 σ1) : wp_X0_layOutSpans σ Q := by
  unfold wp_X0_layOutSpans
  intro σ1 e1
  refine c_lo7 hL hq L 1 σ1 bigN (by omega) (by omega) (by unfold bigN; omega) ?_
  rw [sp_5 L hL]
  exact ⟨by rw [e1, upS_j (by decide)]; exact h, by rw [e1, upS_s]; rfl, fun s hs => by omega, fun i j _ _ hh => by omega⟩
