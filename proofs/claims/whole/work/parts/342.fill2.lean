theorem c_fl2637 {ρ : St} (hg : Wg ρ) (hL : LL ρ < 9) {y o : Int} {s : Nat} (hs : s < spN (LL ρ)) {σ0 : St} (hD : DR ρ (gO ρ o) (jY y) (σ0 37) s) {Q : Int → St → Prop} {K : Int → Int → Int → St → Prop} (hq : ∀ σ1, Bt ρ σ1 → (∀ x : Nat, (∀ a, a < 12 → x ≠ 12 * s + a) → σ1 37 x = σ0 37 x) → (∀ a : Nat, a < 12 → LoC (gO ρ o) (jY y) (a : Int) (spB (LL ρ) s : Nat) (spF (LL ρ) s : Nat) (σ1 37 (12 * s + a))) → K o y ((s + 1 : Nat) : Int) σ1) : ∀ (d a : Nat) (σ : St) (n : Nat), a + d = 12 → d < n → Bt ρ σ → (∀ x : Nat, (∀ a, a < 12 → x ≠ 12 * s + a) → σ 37 x = σ0 37 x) → (∀ b, b < a → snd1 ρ y o b s (σ 37 (12 * s + b)) ∧ bsO ρ y o b s (σ 37 (12 * s + b))) → wp_X1_fill_c37_l26 Q K n o y (s : Int) ((12 * s : Nat) : Int) ((12 * s + a : Nat) : Int) σ := by
  intro d
  have q3 := sp_3 _ hL
  induction d with
  | zero =>
    intro a σ n hd hn hB ho hr
    obtain ⟨n, rfl⟩ := suc_n hn
    unfold wp_X1_fill_c37_l26
    rw [w32_of (x := ((12 * s : Nat) : Int) + 12) (by omega) (by omega)]
    refine ⟨fun _ => c_tn37 hg hL hs hq 13 0 σ 1 bigN (fun _ a => vF (σ 37 (12 * s + a))) (by omega) (by unfold bigN; omega) ⟨hB, ho, fun b hb => ?_⟩ (Or.inr rfl) (fun b hb => rfl) (fun m b h => by omega) (fun m h => by omega) (fun b hb => ⟨_, (hr b (by omega)).2, rfl⟩) (fun h => absurd h (by decide)), fun h => absurd h (by omega)⟩
    rcases (hr b (by omega)).1 with q | ⟨q1, q2, q4⟩
    · exact Or.inl q
    · exact Or.inr ⟨q1, by omega, q4⟩
  | succ d ih =>
    intro a σ n hd hn hB ho hr
    obtain ⟨n, rfl⟩ := suc_n hn
    unfold wp_X1_fill_c37_l26
    rw [w32_of (x := ((12 * s : Nat) : Int) + 12) (by omega) (by omega)]
    have hD' : DR ρ (gO ρ o) (jY y) (σ 37) s := fun s' a' hs' ha' => by
      rw [ho _ (fun b hb => by omega)]; exact hD s' a' hs' ha'
    refine ⟨fun h => absurd h (by omega), fun _ => c_lc37 hg hL hB (by omega) hs hD' (fun v h1 h2 => ⟨by omega, fun σ4 e4 v5 e5 => ?_⟩)⟩
    rw [Int.toNat_natCast] at e4
    rw [e5, w32_of (by omega) (by omega), show ((12 * s + a : Nat) : Int) + 1 = ((12 * s + (a + 1) : Nat) : Int) by omega]
    have hb := base_ok hg hL (by omega) hs hD' h2
    refine ih (a + 1) σ4 n (by omega) (by omega) (by rw [e4]; exact hB) (fun x hx => by rw [e4, upS_j (hx a (by omega))]; exact ho x hx) (fun b hb2 => ?_)
    rw [e4]
    by_cases e : b = a
    · subst e; rw [upS_s]; exact ⟨h1, hb⟩
    · rw [upS_j (by omega)]; exact hr b (by omega)
theorem c_fl337 {ρ : St} (hg : Wg ρ) (hL : LL ρ < 9) {y o : Int} {Q : Int → St → Prop} (hq : ∀ σ1, Bt ρ σ1 → DR ρ (gO ρ o) (jY y) (σ1 37) (spN (LL ρ)) → Q 0 σ1) : ∀ (d s : Nat) (σ : St) (n : Nat), s + d = spN (LL ρ) → d < n → Bt ρ σ → DR ρ (gO ρ o) (jY y) (σ 37) s → wp_X1_fill_c37_l3 Q n o y (s : Int) σ := by
  intro d
  have q3 := sp_3 _ hL
  induction d with
  | zero =>
    intro s σ n hd hn hB hD
    obtain ⟨n, rfl⟩ := suc_n hn
    have : s = spN (LL ρ) := by omega
    subst this
    unfold wp_X1_fill_c37_l3
    rw [hB.1.2.1.2.1]
    exact ⟨fun _ => hq σ hB hD, fun h => absurd h (by omega)⟩
  | succ d ih =>
    intro s σ n hd hn hB hD
    obtain ⟨n, rfl⟩ := suc_n hn
    unfold wp_X1_fill_c37_l3
    rw [hB.1.2.1.2.1]
    refine ⟨fun h => absurd h (by omega), fun _ v ev => ?_⟩
    have ev : v = ((12 * s : Nat) : Int) := by rw [ev, w32_of (by omega) (by omega)]; push_cast; omega
    subst ev
    refine c_fl2637 hg hL (by omega) hD (fun σ1 hB1 ho hl => ?_) 12 0 σ bigN (by omega) (by unfold bigN; omega) hB (fun _ _ => rfl) (fun b hb => by omega)
    refine ih (s + 1) σ1 n (by omega) (by omega) hB1 (fun s' a' hs' ha' => ?_)
    by_cases e : s' = s
    · subst e; exact hl a' ha'
    · rw [ho _ (fun b hb => by omega)]; exact hD s' a' (by omega) ha'
theorem c_fill37 {ρ σ : St} (hg : Wg ρ) (hL : LL ρ < 9) (hB : Bt ρ σ) {y o : Int} {Q : Int → St → Prop} (hq : ∀ σ1, Bt ρ σ1 → DR ρ (gO ρ o) (jY y) (σ1 37) (spN (LL ρ)) → Q 0 σ1) : wp_X1_fill_c37 o y σ Q := by
  have q3 := sp_3 _ hL
  unfold wp_X1_fill_c37
  exact c_fl337 hg hL hq (spN (LL ρ)) 0 σ bigN (by omega) (by unfold bigN; omega) hB (fun s' a' h => by omega)
theorem c_fl2638 {ρ : St} (hg : Wg ρ) (hL : LL ρ < 9) {y o : Int} {s : Nat} (hs : s < spN (LL ρ)) {σ0 : St} (hD : DR ρ (gO ρ o) (jY y) (σ0 38) s) {Q : Int → St → Prop} {K : Int → Int → Int → St → Prop} (hq : ∀ σ1, Bt ρ σ1 → (∀ x : Nat, (∀ a, a < 12 → x ≠ 12 * s + a) → σ1 38 x = σ0 38 x) → (∀ a : Nat, a < 12 → LoC (gO ρ o) (jY y) (a : Int) (spB (LL ρ) s : Nat) (spF (LL ρ) s : Nat) (σ1 38 (12 * s + a))) → K o y ((s + 1 : Nat) : Int) σ1) : ∀ (d a : Nat) (σ : St) (n : Nat), a + d = 12 → d < n → Bt ρ σ → (∀ x : Nat, (∀ a, a < 12 → x ≠ 12 * s + a) → σ 38 x = σ0 38 x) → (∀ b, b < a → snd1 ρ y o b s (σ 38 (12 * s + b)) ∧ bsO ρ y o b s (σ 38 (12 * s + b))) → wp_X1_fill_c38_l26 Q K n o y (s : Int) ((12 * s : Nat) : Int) ((12 * s + a : Nat) : Int) σ := by
  intro d
  have q3 := sp_3 _ hL
  induction d with
  | zero =>
    intro a σ n hd hn hB ho hr
    obtain ⟨n, rfl⟩ := suc_n hn
    unfold wp_X1_fill_c38_l26
    rw [w32_of (x := ((12 * s : Nat) : Int) + 12) (by omega) (by omega)]
    refine ⟨fun _ => c_tn38 hg hL hs hq 13 0 σ 1 bigN (fun _ a => vF (σ 38 (12 * s + a))) (by omega) (by unfold bigN; omega) ⟨hB, ho, fun b hb => ?_⟩ (Or.inr rfl) (fun b hb => rfl) (fun m b h => by omega) (fun m h => by omega) (fun b hb => ⟨_, (hr b (by omega)).2, rfl⟩) (fun h => absurd h (by decide)), fun h => absurd h (by omega)⟩
    rcases (hr b (by omega)).1 with q | ⟨q1, q2, q4⟩
    · exact Or.inl q
    · exact Or.inr ⟨q1, by omega, q4⟩
  | succ d ih =>
    intro a σ n hd hn hB ho hr
    obtain ⟨n, rfl⟩ := suc_n hn
    unfold wp_X1_fill_c38_l26
    rw [w32_of (x := ((12 * s : Nat) : Int) + 12) (by omega) (by omega)]
    have hD' : DR ρ (gO ρ o) (jY y) (σ 38) s := fun s' a' hs' ha' => by
      rw [ho _ (fun b hb => by omega)]; exact hD s' a' hs' ha'
    refine ⟨fun h => absurd h (by omega), fun _ => c_lc38 hg hL hB (by omega) hs hD' (fun v h1 h2 => ⟨by omega, fun σ4 e4 v5 e5 => ?_⟩)⟩
    rw [Int.toNat_natCast] at e4
    rw [e5, w32_of (by omega) (by omega), show ((12 * s + a : Nat) : Int) + 1 = ((12 * s + (a + 1) : Nat) : Int) by omega]
    have hb := base_ok hg hL (by omega) hs hD' h2
    refine ih (a + 1) σ4 n (by omega) (by omega) (by rw [e4]; exact hB) (fun x hx => by rw [e4, upS_j (hx a (by omega))]; exact ho x hx) (fun b hb2 => ?_)
    rw [e4]
    by_cases e : b = a
    · subst e; rw [upS_s]; exact ⟨h1, hb⟩
    · rw [upS_j (by omega)]; exact hr b (by omega)
theorem c_fl338 {ρ : St} (hg : Wg ρ) (hL : LL ρ < 9) {y o : Int} {Q : Int → St → Prop} (hq : ∀ σ1, Bt ρ σ1 → DR ρ (gO ρ o) (jY y) (σ1 38) (spN (LL ρ)) → Q 0 σ1) : ∀ (d s : Nat) (σ : St) (n : Nat), s + d = spN (LL ρ) → d < n → Bt ρ σ → DR ρ (gO ρ o) (jY y) (σ 38) s → wp_X1_fill_c38_l3 Q n o y (s : Int) σ := by
  intro d
  have q3 := sp_3 _ hL
  induction d with
  | zero =>
    intro s σ n hd hn hB hD
    obtain ⟨n, rfl⟩ := suc_n hn
    have : s = spN (LL ρ) := by omega
    subst this
    unfold wp_X1_fill_c38_l3
    rw [hB.1.2.1.2.1]
    exact ⟨fun _ => hq σ hB hD, fun h => absurd h (by omega)⟩
  | succ d ih =>
    intro s σ n hd hn hB hD
    obtain ⟨n, rfl⟩ := suc_n hn
    unfold wp_X1_fill_c38_l3
    rw [hB.1.2.1.2.1]
    refine ⟨fun h => absurd h (by omega), fun _ v ev => ?_⟩
    have ev : v = ((12 * s : Nat) : Int) := by rw [ev, w32_of (by omega) (by omega)]; push_cast; omega
    subst ev
    refine c_fl2638 hg hL (by omega) hD (fun σ1 hB1 ho hl => ?_) 12 0 σ bigN (by omega) (by unfold bigN; omega) hB (fun _ _ => rfl) (fun b hb => by omega)
    refine ih (s + 1) σ1 n (by omega) (by omega) hB1 (fun s' a' hs' ha' => ?_)
    by_cases e : s' = s
    · subst e; exact hl a' ha'
    · rw [ho _ (fun b hb => by omega)]; exact hD s' a' (by omega) ha'
theorem c_fill38 {ρ σ : St} (hg : Wg ρ) (hL : LL ρ < 9) (hB : Bt ρ σ) {y o : Int} {Q : Int → St → Prop} (hq : ∀ σ1, Bt ρ σ1 → DR ρ (gO ρ o) (jY y) (σ1 38) (spN (LL ρ)) → Q 0 σ1) : wp_X1_fill_c38 o y σ Q := by
  have q3 := sp_3 _ hL
  unfold wp_X1_fill_c38
  exact c_fl338 hg hL hq (spN (LL ρ)) 0 σ bigN (by omega) (by unfold bigN; omega) hB (fun s' a' h => by omega)
theorem c_fl2639 {ρ : St} (hg : Wg ρ) (hL : LL ρ < 9) {y o : Int} {s : Nat} (hs : s < spN (LL ρ)) {σ0 : St} (hD : DR ρ (gO ρ o) (jY y) (σ0 39) s) {Q : Int → St → Prop} {K : Int → Int → Int → St → Prop} (hq : ∀ σ1, Bt ρ σ1 → (∀ x : Nat, (∀ a, a < 12 → x ≠ 12 * s + a) → σ1 39 x = σ0 39 x) → (∀ a : Nat, a < 12 → LoC (gO ρ o) (jY y) (a : Int) (spB (LL ρ) s : Nat) (spF (LL ρ) s : Nat) (σ1 39 (12 * s + a))) → K o y ((s + 1 : Nat) : Int) σ1) : ∀ (d a : Nat) (σ : St) (n : Nat), a + d = 12 → d < n → Bt ρ σ → (∀ x : Nat, (∀ a, a < 12 → x ≠ 12 * s + a) → σ 39 x = σ0 39 x) → (∀ b, b < a → snd1 ρ y o b s (σ 39 (12 * s + b)) ∧ bsO ρ y o b s (σ 39 (12 * s + b))) → wp_X1_fill_c39_l26 Q K n o y (s : Int) ((12 * s : Nat) : Int) ((12 * s + a : Nat) : Int) σ := by
  intro d
  have q3 := sp_3 _ hL
  induction d with
  | zero =>
    intro a σ n hd hn hB ho hr
    obtain ⟨n, rfl⟩ := suc_n hn
    unfold wp_X1_fill_c39_l26
    rw [w32_of (x := ((12 * s : Nat) : Int) + 12) (by omega) (by omega)]
    refine ⟨fun _ => c_tn39 hg hL hs hq 13 0 σ 1 bigN (fun _ a => vF (σ 39 (12 * s + a))) (by omega) (by unfold bigN; omega) ⟨hB, ho, fun b hb => ?_⟩ (Or.inr rfl) (fun b hb => rfl) (fun m b h => by omega) (fun m h => by omega) (fun b hb => ⟨_, (hr b (by omega)).2, rfl⟩) (fun h => absurd h (by decide)), fun h => absurd h (by omega)⟩
    rcases (hr b (by omega)).1 with q | ⟨q1, q2, q4⟩
    · exact Or.inl q
    · exact Or.inr ⟨q1, by omega, q4⟩
  | succ d ih =>
    intro a σ n hd hn hB ho hr
    obtain ⟨n, rfl⟩ := suc_n hn
    unfold wp_X1_fill_c39_l26
    rw [w32_of (x := ((12 * s : Nat) : Int) + 12) (by omega) (by omega)]
    have hD' : DR ρ (gO ρ o) (jY y) (σ 39) s := fun s' a' hs' ha' => by
      rw [ho _ (fun b hb => by omega)]; exact hD s' a' hs' ha'
    refine ⟨fun h => absurd h (by omega), fun _ => c_lc39 hg hL hB (by omega) hs hD' (fun v h1 h2 => ⟨by omega, fun σ4 e4 v5 e5 => ?_⟩)⟩
    rw [Int.toNat_natCast] at e4
    rw [e5, w32_of (by omega) (by omega), show ((12 * s + a : Nat) : Int) + 1 = ((12 * s + (a + 1) : Nat) : Int) by omega]
    have hb := base_ok hg hL (by omega) hs hD' h2
    refine ih (a + 1) σ4 n (by omega) (by omega) (by rw [e4]; exact hB) (fun x hx => by rw [e4, upS_j (hx a (by omega))]; exact ho x hx) (fun b hb2 => ?_)
    rw [e4]
    by_cases e : b = a
    · subst e; rw [upS_s]; exact ⟨h1, hb⟩
    · rw [upS_j (by omega)]; exact hr b (by omega)
theorem c_fl339 {ρ : St} (hg : Wg ρ) (hL : LL ρ < 9) {y o : Int} {Q : Int → St → Prop} (hq : ∀ σ1, Bt ρ σ1 → DR ρ (gO ρ o) (jY y) (σ1 39) (spN (LL ρ)) → Q 0 σ1) : ∀ (d s : Nat) (σ : St) (n : Nat), s + d = spN (LL ρ) → d < n → Bt ρ σ → DR ρ (gO ρ o) (jY y) (σ 39) s → wp_X1_fill_c39_l3 Q n o y (s : Int) σ := by
  intro d
  have q3 := sp_3 _ hL
  induction d with
  | zero =>
    intro s σ n hd hn hB hD
    obtain ⟨n, rfl⟩ := suc_n hn
    have : s = spN (LL ρ) := by omega
    subst this
    unfold wp_X1_fill_c39_l3
    rw [hB.1.2.1.2.1]
    exact ⟨fun _ => hq σ hB hD, fun h => absurd h (by omega)⟩
  | succ d ih =>
    intro s σ n hd hn hB hD
    obtain ⟨n, rfl⟩ := suc_n hn
    unfold wp_X1_fill_c39_l3
    rw [hB.1.2.1.2.1]
    refine ⟨fun h => absurd h (by omega), fun _ v ev => ?_⟩
    have ev : v = ((12 * s : Nat) : Int) := by rw [ev, w32_of (by omega) (by omega)]; push_cast; omega
    subst ev
    refine c_fl2639 hg hL (by omega) hD (fun σ1 hB1 ho hl => ?_) 12 0 σ bigN (by omega) (by unfold bigN; omega) hB (fun _ _ => rfl) (fun b hb => by omega)
    refine ih (s + 1) σ1 n (by omega) (by omega) hB1 (fun s' a' hs' ha' => ?_)
    by_cases e : s' = s
    · subst e; exact hl a' ha'
    · rw [ho _ (fun b hb => by omega)]; exact hD s' a' (by omega) ha'
theorem c_fill39 {ρ σ : St} (hg : Wg ρ) (hL : LL ρ < 9) (hB : Bt ρ σ) {y o : Int} {Q : Int → St → Prop} (hq : ∀ σ1, Bt ρ σ1 → DR ρ (gO ρ o) (jY y) (σ1 39) (spN (LL ρ)) → Q 0 σ1) : wp_X1_fill_c39 o y σ Q := by
  have q3 := sp_3 _ hL
  unfold wp_X1_fill_c39
  exact c_fl339 hg hL hq (spN (LL ρ)) 0 σ bigN (by omega) (by unfold bigN; omega) hB (fun s' a' h => by omega)
