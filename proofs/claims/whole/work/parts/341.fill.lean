theorem c_tn37 {ρ : St} (hg : Wg ρ) (hL : LL ρ < 9) {y o : Int} {s : Nat} (hs : s < spN (LL ρ)) {σ0 : St} {Q : Int → St → Prop} {K : Int → Int → Int → St → Prop} (hq : ∀ σ1, Bt ρ σ1 → (∀ x : Nat, (∀ a, a < 12 → x ≠ 12 * s + a) → σ1 37 x = σ0 37 x) → (∀ a : Nat, a < 12 → LoC (gO ρ o) (jY y) (a : Int) (spB (LL ρ) s : Nat) (spF (LL ρ) s : Nat) (σ1 37 (12 * s + a))) → K o y ((s + 1 : Nat) : Int) σ1) : ∀ (d x : Nat) (σ : St) (f : Int) (n : Nat) (H : Nat → Nat → Int), x + d = 13 → d < n → TS37 ρ y o s σ0 σ (706959 + 3960 * (x : Int)) → (f = 0 ∨ f = 1) → (∀ a, a < 12 → H x a = vF (σ 37 (12 * s + a))) → (∀ m a, m < x → a < 12 → H (m + 1) a ≤ H m a) → (∀ m, m < x → ∀ r ∈ uyL ρ 12, (r : Int) ≠ o → ∀ c1, H m (ρ 4 r).toNat ≤ c1 → H (m + 1) (ρ 3 r).toNat ≤ jY y (ρ 6 r) c1) → (∀ a, a < 12 → ∃ v, bsO ρ y o a s v ∧ H 0 a = vF v) → (f = 0 → 0 < x ∧ ∀ a, a < 12 → H x a = H (x - 1) a) → wp_X1_fill_c37_l61 Q K n o y (s : Int) ((12 * s : Nat) : Int) f (x : Int) σ := by
  intro d
  have q3 := sp_3 _ hL
  have fin : ∀ (x : Nat) (σ : St) (f : Int) (H : Nat → Nat → Int), x ≤ 13 → (x < 13 → f = 0) → TS37 ρ y o s σ0 σ (706959 + 3960 * (x : Int)) → (∀ a, a < 12 → H x a = vF (σ 37 (12 * s + a))) → (∀ m a, m < x → a < 12 → H (m + 1) a ≤ H m a) → (∀ m, m < x → ∀ r ∈ uyL ρ 12, (r : Int) ≠ o → ∀ c1, H m (ρ 4 r).toNat ≤ c1 → H (m + 1) (ρ 3 r).toNat ≤ jY y (ρ 6 r) c1) → (∀ a, a < 12 → ∃ v, bsO ρ y o a s v ∧ H 0 a = vF v) → (f = 0 → 0 < x ∧ ∀ a, a < 12 → H x a = H (x - 1) a) → ∀ v9 : Int, v9 = w32 ((s : Int) + 1) → K o y v9 σ := by
    intro x σ f H hx hxf hT hH hm hu hb h0 v9 e9
    rw [e9, w32_of (by omega) (by omega), show (s : Int) + 1 = ((s + 1 : Nat) : Int) by omega]
    refine hq σ hT.1 hT.2.1 (fun a ha => row_lo hg hL hs (hT.2.2 a ha) (fun c hc => ?_))
    rw [← hH a ha]
    exact turns_lo hg hL hs hx hm hu hb (fun hlt => h0 (hxf hlt)) ha hc
  induction d with
  | zero =>
    intro x σ f n H hd hn hT hf hH hm hu hb h0
    obtain ⟨n, rfl⟩ := suc_n hn
    unfold wp_X1_fill_c37_l61 wp_X1_fill_c37_b90
    exact ⟨fun _ => fin x σ f H (by omega) (fun h => by omega) hT hH hm hu hb h0, fun h => absurd h (by omega)⟩
  | succ d ih =>
    intro x σ f n H hd hn hT hf hH hm hu hb h0
    obtain ⟨n, rfl⟩ := suc_n hn
    unfold wp_X1_fill_c37_l61 wp_X1_fill_c37_b90
    refine ⟨fun h => absurd h (by omega), fun _ => ⟨fun hf0 => fin x σ f H (by omega) (fun _ => hf0) hT hH hm hu hb h0, fun hf1 => ?_⟩⟩
    unfold wp_X1_relax_c37
    have hul : (uyL ρ 12).length ≤ 40 := Nat.le_trans (uyL_le 12) (liL_40 hg)
    refine c_rx37 hg hL hs (σs := σ) (B := 706959 + 3960 * (x : Int)) (by omega) (fun σ1 f1 hT1 hf1 hle hz hcl v ev => ?_) (uyL ρ 12).length 0 σ 0 bigN (by omega) (by unfold bigN; omega) (hT.up (by omega)) (Or.inl rfl) (fun a _ => Int.le_refl _) (fun _ a _ => rfl) (fun t' _ h => by omega)
    rw [ev, w32_of (by omega) (by omega), show (x : Int) + 1 = ((x + 1 : Nat) : Int) by omega]
    have eL : ∀ m, m ≤ x → (if m ≤ x then H m else fun a => vF (σ1 37 (12 * s + a))) = H m := fun m h => by rw [if_pos h]
    have eR : (if x + 1 ≤ x then H (x + 1) else fun a => vF (σ1 37 (12 * s + a))) = fun a => vF (σ1 37 (12 * s + a)) := by rw [if_neg (by omega)]
    refine ih (x + 1) σ1 f1 n (fun m => if m ≤ x then H m else fun a => vF (σ1 37 (12 * s + a))) (by omega) (by omega) (hT1.up (by push_cast; omega)) hf1 (fun a _ => by simp only [eR]) (fun m a hmx ha => ?_) (fun m hmx r hr hro c1 hc1 => ?_) (fun a ha => by simp only [eL 0 (by omega)]; exact hb a ha) (fun hf => ⟨by omega, fun a ha => ?_⟩)
    · by_cases e : m = x
      · subst e
        simp only [eR, eL m (by omega)]
        rw [hH a ha]; exact hle a ha
      · simp only [eL m (by omega), eL (m + 1) (by omega)]
        exact hm m a (by omega) ha
    · have hr3 := (mem_uyL 12).1 hr
      have hh := w_head hg (r := r) (by omega)
      obtain ⟨hrn, a', ha', hin⟩ := hr3
      rw [Bool.and_eq_true] at hin
      have hun := hin.2
      unfold unR at hun
      rw [Bool.and_eq_true, decide_eq_true_iff, decide_eq_true_iff] at hun
      by_cases e : m = x
      · subst e
        simp only [eL m (by omega)] at hc1
        simp only [eR]
        rw [hH _ (by omega)] at hc1
        exact hcl r hr hro c1 hc1
      · simp only [eL m (by omega)] at hc1
        simp only [eL (m + 1) (by omega)]
        exact hu m (by omega) r hr hro c1 hc1
    · simp only [eR, show x + 1 - 1 = x by omega, eL x (by omega)]
      rw [hH a ha, hz hf a ha]
theorem c_tn38 {ρ : St} (hg : Wg ρ) (hL : LL ρ < 9) {y o : Int} {s : Nat} (hs : s < spN (LL ρ)) {σ0 : St} {Q : Int → St → Prop} {K : Int → Int → Int → St → Prop} (hq : ∀ σ1, Bt ρ σ1 → (∀ x : Nat, (∀ a, a < 12 → x ≠ 12 * s + a) → σ1 38 x = σ0 38 x) → (∀ a : Nat, a < 12 → LoC (gO ρ o) (jY y) (a : Int) (spB (LL ρ) s : Nat) (spF (LL ρ) s : Nat) (σ1 38 (12 * s + a))) → K o y ((s + 1 : Nat) : Int) σ1) : ∀ (d x : Nat) (σ : St) (f : Int) (n : Nat) (H : Nat → Nat → Int), x + d = 13 → d < n → TS38 ρ y o s σ0 σ (706959 + 3960 * (x : Int)) → (f = 0 ∨ f = 1) → (∀ a, a < 12 → H x a = vF (σ 38 (12 * s + a))) → (∀ m a, m < x → a < 12 → H (m + 1) a ≤ H m a) → (∀ m, m < x → ∀ r ∈ uyL ρ 12, (r : Int) ≠ o → ∀ c1, H m (ρ 4 r).toNat ≤ c1 → H (m + 1) (ρ 3 r).toNat ≤ jY y (ρ 6 r) c1) → (∀ a, a < 12 → ∃ v, bsO ρ y o a s v ∧ H 0 a = vF v) → (f = 0 → 0 < x ∧ ∀ a, a < 12 → H x a = H (x - 1) a) → wp_X1_fill_c38_l61 Q K n o y (s : Int) ((12 * s : Nat) : Int) f (x : Int) σ := by
  intro d
  have q3 := sp_3 _ hL
  have fin : ∀ (x : Nat) (σ : St) (f : Int) (H : Nat → Nat → Int), x ≤ 13 → (x < 13 → f = 0) → TS38 ρ y o s σ0 σ (706959 + 3960 * (x : Int)) → (∀ a, a < 12 → H x a = vF (σ 38 (12 * s + a))) → (∀ m a, m < x → a < 12 → H (m + 1) a ≤ H m a) → (∀ m, m < x → ∀ r ∈ uyL ρ 12, (r : Int) ≠ o → ∀ c1, H m (ρ 4 r).toNat ≤ c1 → H (m + 1) (ρ 3 r).toNat ≤ jY y (ρ 6 r) c1) → (∀ a, a < 12 → ∃ v, bsO ρ y o a s v ∧ H 0 a = vF v) → (f = 0 → 0 < x ∧ ∀ a, a < 12 → H x a = H (x - 1) a) → ∀ v9 : Int, v9 = w32 ((s : Int) + 1) → K o y v9 σ := by
    intro x σ f H hx hxf hT hH hm hu hb h0 v9 e9
    rw [e9, w32_of (by omega) (by omega), show (s : Int) + 1 = ((s + 1 : Nat) : Int) by omega]
    refine hq σ hT.1 hT.2.1 (fun a ha => row_lo hg hL hs (hT.2.2 a ha) (fun c hc => ?_))
    rw [← hH a ha]
    exact turns_lo hg hL hs hx hm hu hb (fun hlt => h0 (hxf hlt)) ha hc
  induction d with
  | zero =>
    intro x σ f n H hd hn hT hf hH hm hu hb h0
    obtain ⟨n, rfl⟩ := suc_n hn
    unfold wp_X1_fill_c38_l61 wp_X1_fill_c38_b90
    exact ⟨fun _ => fin x σ f H (by omega) (fun h => by omega) hT hH hm hu hb h0, fun h => absurd h (by omega)⟩
  | succ d ih =>
    intro x σ f n H hd hn hT hf hH hm hu hb h0
    obtain ⟨n, rfl⟩ := suc_n hn
    unfold wp_X1_fill_c38_l61 wp_X1_fill_c38_b90
    refine ⟨fun h => absurd h (by omega), fun _ => ⟨fun hf0 => fin x σ f H (by omega) (fun _ => hf0) hT hH hm hu hb h0, fun hf1 => ?_⟩⟩
    unfold wp_X1_relax_c38
    have hul : (uyL ρ 12).length ≤ 40 := Nat.le_trans (uyL_le 12) (liL_40 hg)
    refine c_rx38 hg hL hs (σs := σ) (B := 706959 + 3960 * (x : Int)) (by omega) (fun σ1 f1 hT1 hf1 hle hz hcl v ev => ?_) (uyL ρ 12).length 0 σ 0 bigN (by omega) (by unfold bigN; omega) (hT.up (by omega)) (Or.inl rfl) (fun a _ => Int.le_refl _) (fun _ a _ => rfl) (fun t' _ h => by omega)
    rw [ev, w32_of (by omega) (by omega), show (x : Int) + 1 = ((x + 1 : Nat) : Int) by omega]
    have eL : ∀ m, m ≤ x → (if m ≤ x then H m else fun a => vF (σ1 38 (12 * s + a))) = H m := fun m h => by rw [if_pos h]
    have eR : (if x + 1 ≤ x then H (x + 1) else fun a => vF (σ1 38 (12 * s + a))) = fun a => vF (σ1 38 (12 * s + a)) := by rw [if_neg (by omega)]
    refine ih (x + 1) σ1 f1 n (fun m => if m ≤ x then H m else fun a => vF (σ1 38 (12 * s + a))) (by omega) (by omega) (hT1.up (by push_cast; omega)) hf1 (fun a _ => by simp only [eR]) (fun m a hmx ha => ?_) (fun m hmx r hr hro c1 hc1 => ?_) (fun a ha => by simp only [eL 0 (by omega)]; exact hb a ha) (fun hf => ⟨by omega, fun a ha => ?_⟩)
    · by_cases e : m = x
      · subst e
        simp only [eR, eL m (by omega)]
        rw [hH a ha]; exact hle a ha
      · simp only [eL m (by omega), eL (m + 1) (by omega)]
        exact hm m a (by omega) ha
    · have hr3 := (mem_uyL 12).1 hr
      have hh := w_head hg (r := r) (by omega)
      obtain ⟨hrn, a', ha', hin⟩ := hr3
      rw [Bool.and_eq_true] at hin
      have hun := hin.2
      unfold unR at hun
      rw [Bool.and_eq_true, decide_eq_true_iff, decide_eq_true_iff] at hun
      by_cases e : m = x
      · subst e
        simp only [eL m (by omega)] at hc1
        simp only [eR]
        rw [hH _ (by omega)] at hc1
        exact hcl r hr hro c1 hc1
      · simp only [eL m (by omega)] at hc1
        simp only [eL (m + 1) (by omega)]
        exact hu m (by omega) r hr hro c1 hc1
    · simp only [eR, show x + 1 - 1 = x by omega, eL x (by omega)]
      rw [hH a ha, hz hf a ha]
theorem c_tn39 {ρ : St} (hg : Wg ρ) (hL : LL ρ < 9) {y o : Int} {s : Nat} (hs : s < spN (LL ρ)) {σ0 : St} {Q : Int → St → Prop} {K : Int → Int → Int → St → Prop} (hq : ∀ σ1, Bt ρ σ1 → (∀ x : Nat, (∀ a, a < 12 → x ≠ 12 * s + a) → σ1 39 x = σ0 39 x) → (∀ a : Nat, a < 12 → LoC (gO ρ o) (jY y) (a : Int) (spB (LL ρ) s : Nat) (spF (LL ρ) s : Nat) (σ1 39 (12 * s + a))) → K o y ((s + 1 : Nat) : Int) σ1) : ∀ (d x : Nat) (σ : St) (f : Int) (n : Nat) (H : Nat → Nat → Int), x + d = 13 → d < n → TS39 ρ y o s σ0 σ (706959 + 3960 * (x : Int)) → (f = 0 ∨ f = 1) → (∀ a, a < 12 → H x a = vF (σ 39 (12 * s + a))) → (∀ m a, m < x → a < 12 → H (m + 1) a ≤ H m a) → (∀ m, m < x → ∀ r ∈ uyL ρ 12, (r : Int) ≠ o → ∀ c1, H m (ρ 4 r).toNat ≤ c1 → H (m + 1) (ρ 3 r).toNat ≤ jY y (ρ 6 r) c1) → (∀ a, a < 12 → ∃ v, bsO ρ y o a s v ∧ H 0 a = vF v) → (f = 0 → 0 < x ∧ ∀ a, a < 12 → H x a = H (x - 1) a) → wp_X1_fill_c39_l61 Q K n o y (s : Int) ((12 * s : Nat) : Int) f (x : Int) σ := by
  intro d
  have q3 := sp_3 _ hL
  have fin : ∀ (x : Nat) (σ : St) (f : Int) (H : Nat → Nat → Int), x ≤ 13 → (x < 13 → f = 0) → TS39 ρ y o s σ0 σ (706959 + 3960 * (x : Int)) → (∀ a, a < 12 → H x a = vF (σ 39 (12 * s + a))) → (∀ m a, m < x → a < 12 → H (m + 1) a ≤ H m a) → (∀ m, m < x → ∀ r ∈ uyL ρ 12, (r : Int) ≠ o → ∀ c1, H m (ρ 4 r).toNat ≤ c1 → H (m + 1) (ρ 3 r).toNat ≤ jY y (ρ 6 r) c1) → (∀ a, a < 12 → ∃ v, bsO ρ y o a s v ∧ H 0 a = vF v) → (f = 0 → 0 < x ∧ ∀ a, a < 12 → H x a = H (x - 1) a) → ∀ v9 : Int, v9 = w32 ((s : Int) + 1) → K o y v9 σ := by
    intro x σ f H hx hxf hT hH hm hu hb h0 v9 e9
    rw [e9, w32_of (by omega) (by omega), show (s : Int) + 1 = ((s + 1 : Nat) : Int) by omega]
    refine hq σ hT.1 hT.2.1 (fun a ha => row_lo hg hL hs (hT.2.2 a ha) (fun c hc => ?_))
    rw [← hH a ha]
    exact turns_lo hg hL hs hx hm hu hb (fun hlt => h0 (hxf hlt)) ha hc
  induction d with
  | zero =>
    intro x σ f n H hd hn hT hf hH hm hu hb h0
    obtain ⟨n, rfl⟩ := suc_n hn
    unfold wp_X1_fill_c39_l61 wp_X1_fill_c39_b90
    exact ⟨fun _ => fin x σ f H (by omega) (fun h => by omega) hT hH hm hu hb h0, fun h => absurd h (by omega)⟩
  | succ d ih =>
    intro x σ f n H hd hn hT hf hH hm hu hb h0
    obtain ⟨n, rfl⟩ := suc_n hn
    unfold wp_X1_fill_c39_l61 wp_X1_fill_c39_b90
    refine ⟨fun h => absurd h (by omega), fun _ => ⟨fun hf0 => fin x σ f H (by omega) (fun _ => hf0) hT hH hm hu hb h0, fun hf1 => ?_⟩⟩
    unfold wp_X1_relax_c39
    have hul : (uyL ρ 12).length ≤ 40 := Nat.le_trans (uyL_le 12) (liL_40 hg)
    refine c_rx39 hg hL hs (σs := σ) (B := 706959 + 3960 * (x : Int)) (by omega) (fun σ1 f1 hT1 hf1 hle hz hcl v ev => ?_) (uyL ρ 12).length 0 σ 0 bigN (by omega) (by unfold bigN; omega) (hT.up (by omega)) (Or.inl rfl) (fun a _ => Int.le_refl _) (fun _ a _ => rfl) (fun t' _ h => by omega)
    rw [ev, w32_of (by omega) (by omega), show (x : Int) + 1 = ((x + 1 : Nat) : Int) by omega]
    have eL : ∀ m, m ≤ x → (if m ≤ x then H m else fun a => vF (σ1 39 (12 * s + a))) = H m := fun m h => by rw [if_pos h]
    have eR : (if x + 1 ≤ x then H (x + 1) else fun a => vF (σ1 39 (12 * s + a))) = fun a => vF (σ1 39 (12 * s + a)) := by rw [if_neg (by omega)]
    refine ih (x + 1) σ1 f1 n (fun m => if m ≤ x then H m else fun a => vF (σ1 39 (12 * s + a))) (by omega) (by omega) (hT1.up (by push_cast; omega)) hf1 (fun a _ => by simp only [eR]) (fun m a hmx ha => ?_) (fun m hmx r hr hro c1 hc1 => ?_) (fun a ha => by simp only [eL 0 (by omega)]; exact hb a ha) (fun hf => ⟨by omega, fun a ha => ?_⟩)
    · by_cases e : m = x
      · subst e
        simp only [eR, eL m (by omega)]
        rw [hH a ha]; exact hle a ha
      · simp only [eL m (by omega), eL (m + 1) (by omega)]
        exact hm m a (by omega) ha
    · have hr3 := (mem_uyL 12).1 hr
      have hh := w_head hg (r := r) (by omega)
      obtain ⟨hrn, a', ha', hin⟩ := hr3
      rw [Bool.and_eq_true] at hin
      have hun := hin.2
      unfold unR at hun
      rw [Bool.and_eq_true, decide_eq_true_iff, decide_eq_true_iff] at hun
      by_cases e : m = x
      · subst e
        simp only [eL m (by omega)] at hc1
        simp only [eR]
        rw [hH _ (by omega)] at hc1
        exact hcl r hr hro c1 hc1
      · simp only [eL m (by omega)] at hc1
        simp only [eL (m + 1) (by omega)]
        exact hu m (by omega) r hr hro c1 hc1
    · simp only [eR, show x + 1 - 1 = x by omega, eL x (by omega)]
      rw [hH a ha, hz hf a ha]
