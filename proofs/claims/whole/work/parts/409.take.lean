/-! what was read is taken -/
theorem c_tk115 {σ0 : St} {Q : Int → St → Prop} (hq : ∀ σ1 : St, (∀ j : Nat, j < 25 → σ1 21 j = σ0 11 j ∧ σ1 22 j = σ0 12 j) → (∀ a, a ≠ 21 → a ≠ 22 → σ1 a = σ0 a) → Q 0 σ1) : ∀ (d x : Nat) (σ : St) (n : Nat), x + d = 25 → d < n → (∀ j : Nat, j < x → σ 21 j = σ0 11 j ∧ σ 22 j = σ0 12 j) → (∀ a, a ≠ 21 → a ≠ 22 → σ a = σ0 a) → wp_X4_take_c4_l115 Q n (x : Int) σ := by
  intro d
  induction d with
  | zero =>
    intro x σ n hd hn h ha
    obtain ⟨n, rfl⟩ := suc_n hn
    unfold wp_X4_take_c4_l115
    exact ⟨fun _ => hq σ (fun j hj => h j (by omega)) ha, fun q => absurd (by omega) q⟩
  | succ d ih =>
    intro x σ n hd hn h ha
    obtain ⟨n, rfl⟩ := suc_n hn
    unfold wp_X4_take_c4_l115
    refine ⟨fun q => absurd q (by omega), fun _ => ⟨by omega, by omega, fun σ12 e12 => ⟨by omega, by omega, fun σ13 e13 v ev => ?_⟩⟩⟩
    rw [Int.toNat_natCast] at e12 e13
    rw [w32_of (by omega) (by omega), show (x : Int) + 1 = ((x + 1 : Nat) : Int) by omega] at ev
    rw [ev]
    refine ih (x + 1) σ13 n (by omega) (by omega) (fun j hj => ?_) (fun a h1 h2 => by rw [e13, upS_k h2, e12, upS_k h1]; exact ha a h1 h2)
    by_cases e : j = x
    · subst e
      rw [e13, upS_k (by decide), upS_s, e12, upS_s, upS_k (by decide), ha 11 (by decide) (by decide), ha 12 (by decide) (by decide)]
      exact ⟨rfl, rfl⟩
    · rw [e13, upS_k (by decide), upS_j e, e12, upS_j e, upS_k (by decide)]; exact h j (by omega)
theorem c_tk34 {σ0 : St} {Q : Int → St → Prop} (hq : ∀ σ1 : St, (∀ j : Nat, j < 40 → σ1 15 j = σ0 5 j ∧ σ1 16 j = σ0 6 j ∧ σ1 17 j = σ0 7 j ∧ σ1 18 j = σ0 8 j ∧ σ1 19 j = σ0 9 j ∧ σ1 20 j = 0) → (∀ j : Nat, j < 25 → σ1 21 j = σ0 11 j ∧ σ1 22 j = σ0 12 j) → (∀ a, (a < 15 ∨ 22 < a) → σ1 a = σ0 a) → Q 0 σ1) : ∀ (d x : Nat) (σ : St) (n : Nat), x + d = 40 → d < n → (∀ j : Nat, j < x → σ 15 j = σ0 5 j ∧ σ 16 j = σ0 6 j ∧ σ 17 j = σ0 7 j ∧ σ 18 j = σ0 8 j ∧ σ 19 j = σ0 9 j ∧ σ 20 j = 0) → (∀ a, (a < 15 ∨ 20 < a) → σ a = σ0 a) → wp_X4_take_c4_l34 Q n (x : Int) σ := by
  intro d
  induction d with
  | zero =>
    intro x σ n hd hn h ha
    obtain ⟨n, rfl⟩ := suc_n hn
    unfold wp_X4_take_c4_l34
    refine ⟨fun _ => c_tk115 (σ0 := σ) (fun σ1 b1 b2 => hq σ1 (fun j hj => ?_) (fun j hj => ?_) (fun a h1 => ?_)) 25 0 σ bigN (by omega) (by unfold bigN; omega) (fun j hj => by omega) (fun _ _ _ => rfl), fun q => absurd (by omega) q⟩
    · rw [b2 15 (by decide) (by decide), b2 16 (by decide) (by decide), b2 17 (by decide) (by decide), b2 18 (by decide) (by decide), b2 19 (by decide) (by decide), b2 20 (by decide) (by decide)]
      exact h j (by omega)
    · have := b1 j hj
      rw [ha 11 (by decide), ha 12 (by decide)] at this
      exact this
    · rw [b2 a (by omega) (by omega)]; exact ha a (by omega)
  | succ d ih =>
    intro x σ n hd hn h ha
    obtain ⟨n, rfl⟩ := suc_n hn
    unfold wp_X4_take_c4_l34
    refine ⟨fun q => absurd q (by omega), fun _ => ⟨by omega, by omega, fun σ5 e5 => ⟨by omega, by omega, fun σ6 e6 => ⟨by omega, by omega, fun σ7 e7 => ⟨by omega, by omega, fun σ8 e8 => ⟨by omega, by omega, fun σ9 e9 => ⟨by omega, fun σ10 e10 v ev => ?_⟩⟩⟩⟩⟩⟩⟩
    rw [Int.toNat_natCast] at e5 e6 e7 e8 e9 e10
    rw [show b_and 0 1 = 0 by decide] at e10
    rw [w32_of (by omega) (by omega), show (x : Int) + 1 = ((x + 1 : Nat) : Int) by omega] at ev
    rw [ev]
    have k5 : σ5 6 = σ 6 := by rw [e5, upS_k (by decide)]
    have k6 : σ6 7 = σ 7 := by rw [e6, upS_k (by decide), e5, upS_k (by decide)]
    have k7 : σ7 8 = σ 8 := by rw [e7, upS_k (by decide), e6, upS_k (by decide), e5, upS_k (by decide)]
    have k8 : σ8 9 = σ 9 := by rw [e8, upS_k (by decide), e7, upS_k (by decide), e6, upS_k (by decide), e5, upS_k (by decide)]
    rw [k5] at e6
    rw [k6] at e7
    rw [k7] at e8
    rw [k8] at e9
    refine ih (x + 1) σ10 n (by omega) (by omega) (fun j hj => ?_) (fun a h1 => by rw [e10, upS_k (by omega), e9, upS_k (by omega), e8, upS_k (by omega), e7, upS_k (by omega), e6, upS_k (by omega), e5, upS_k (by omega)]; exact ha a h1)
    have q15 : σ10 15 = upS σ 15 x (σ 5 x) 15 := by rw [e10, upS_k (by decide), e9, upS_k (by decide), e8, upS_k (by decide), e7, upS_k (by decide), e6, upS_k (by decide), e5]
    have q16 : σ10 16 = upS σ5 16 x (σ 6 x) 16 := by rw [e10, upS_k (by decide), e9, upS_k (by decide), e8, upS_k (by decide), e7, upS_k (by decide), e6]
    have q17 : σ10 17 = upS σ6 17 x (σ 7 x) 17 := by rw [e10, upS_k (by decide), e9, upS_k (by decide), e8, upS_k (by decide), e7]
    have q18 : σ10 18 = upS σ7 18 x (σ 8 x) 18 := by rw [e10, upS_k (by decide), e9, upS_k (by decide), e8]
    have q19 : σ10 19 = upS σ8 19 x (σ 9 x) 19 := by rw [e10, upS_k (by decide), e9]
    have q20 : σ10 20 = upS σ9 20 x 0 20 := by rw [e10]
    rw [q15, q16, q17, q18, q19, q20]
    by_cases e : j = x
    · subst e
      rw [upS_s, upS_s, upS_s, upS_s, upS_s, upS_s, ha 5 (by decide), ha 6 (by decide), ha 7 (by decide), ha 8 (by decide), ha 9 (by decide)]
      exact ⟨rfl, rfl, rfl, rfl, rfl, rfl⟩
    · rw [upS_j e, upS_j e, upS_j e, upS_j e, upS_j e, upS_j e, e9, upS_k (by decide), e8, upS_k (by decide), upS_k (by decide), e7, upS_k (by decide), upS_k (by decide), upS_k (by decide), e6, upS_k (by decide), upS_k (by decide), upS_k (by decide), upS_k (by decide), e5, upS_k (by decide), upS_k (by decide), upS_k (by decide), upS_k (by decide), upS_k (by decide)]
      exact h j (by omega)
theorem c_take {σ : St} {Q : Int → St → Prop} (hq : ∀ σ1 : St, (∀ j : Nat, j < 40 → σ1 15 j = σ 5 j ∧ σ1 16 j = σ 6 j ∧ σ1 17 j = σ 7 j ∧ σ1 18 j = σ 8 j ∧ σ1 19 j = σ 9 j ∧ σ1 20 j = 0) → (∀ j : Nat, j < 25 → σ1 21 j = σ 11 j ∧ σ1 22 j = σ 12 j) → σ1 14 0 = σ 4 0 → σ1 14 7 = σ 4 7 → σ1 14 8 = σ 4 8 → σ1 14 9 = σ 4 9 → (∀ a, (a < 14 ∨ 22 < a) → σ1 a = σ a) → Q 0 σ1) : wp_X4_take_c4 σ Q := by
  unfold wp_X4_take_c4
  intro σ1 e1 σ2 e2 σ3 e3 σ4 e4
  have k : ∀ a, a ≠ 14 → σ4 a = σ a := fun a h => by rw [e4, upS_k h, e3, upS_k h, e2, upS_k h, e1, upS_k h]
  have k1 : σ1 4 = σ 4 := by rw [e1, upS_k (by decide)]
  have k2 : σ2 4 = σ 4 := by rw [e2, upS_k (by decide)]; exact k1
  have k3 : σ3 4 = σ 4 := by rw [e3, upS_k (by decide)]; exact k2
  refine c_tk34 (σ0 := σ4) (fun σ5 b1 b2 b3 => hq σ5 (fun j hj => ?_) (fun j hj => ?_) ?_ ?_ ?_ ?_ (fun a ha => ?_)) 40 0 σ4 bigN (by omega) (by unfold bigN; omega) (fun j hj => by omega) (fun _ _ => rfl)
  · have := b1 j hj
    rw [k 5 (by decide), k 6 (by decide), k 7 (by decide), k 8 (by decide), k 9 (by decide)] at this
    exact this
  · have := b2 j hj
    rw [k 11 (by decide), k 12 (by decide)] at this
    exact this
  · rw [b3 14 (by decide), e4, upS_j (by decide), e3, upS_j (by decide), e2, upS_j (by decide), e1, upS_s]
  · rw [b3 14 (by decide), e4, upS_j (by decide), e3, upS_j (by decide), e2, upS_s, k1]
  · rw [b3 14 (by decide), e4, upS_j (by decide), e3, upS_s, k2]
  · rw [b3 14 (by decide), e4, upS_s, k3]
  · rw [b3 a (by omega)]; exact k a (by omega)
theorem r_tk328 {τ0 : St} {Q : Int → St → Prop} (hq : ∀ τ1 : St, (∀ j : Nat, j < 25 → τ1 9 j = τ0 9 (25 + j) ∧ τ1 10 j = τ0 10 (25 + j)) → (∀ a, a ≠ 9 → a ≠ 10 → τ1 a = τ0 a) → Q (τ1 0 1) τ1) : ∀ (d x : Nat) (τ : St) (n : Nat), x + d = 25 → d < n → (∀ j : Nat, j < x → τ 9 j = τ0 9 (25 + j) ∧ τ 10 j = τ0 10 (25 + j)) → (∀ j : Nat, τ 9 (25 + j) = τ0 9 (25 + j) ∧ τ 10 (25 + j) = τ0 10 (25 + j)) → (∀ a, a ≠ 9 → a ≠ 10 → τ a = τ0 a) → wp_X12_grammar_l328 Q n (x : Int) τ := by
  intro d
  induction d with
  | zero =>
    intro x τ n hd hn h h2 ha
    obtain ⟨n, rfl⟩ := suc_n hn
    unfold wp_X12_grammar_l328
    exact ⟨fun _ => hq τ (fun j hj => h j (by omega)) ha, fun q => absurd (by omega) q⟩
  | succ d ih =>
    intro x τ n hd hn h h2 ha
    obtain ⟨n, rfl⟩ := suc_n hn
    unfold wp_X12_grammar_l328
    rw [w32_of (x := 25 + (x : Int)) (by omega) (by omega), show (25 + (x : Int)).toNat = 25 + x by omega, Int.toNat_natCast]
    refine ⟨fun q => absurd q (by omega), fun _ => ⟨by omega, by omega, fun σ42 e42 => ⟨by omega, by omega, fun σ43 e43 v ev => ?_⟩⟩⟩
    rw [w32_of (by omega) (by omega), show (x : Int) + 1 = ((x + 1 : Nat) : Int) by omega] at ev
    rw [ev]
    have k : σ42 10 = τ 10 := by rw [e42, upS_k (by decide)]
    rw [k] at e43
    refine ih (x + 1) σ43 n (by omega) (by omega) (fun j hj => ?_) (fun j => ?_) (fun a h1 h3 => by rw [e43, upS_k h3, e42, upS_k h1]; exact ha a h1 h3)
    · by_cases e : j = x
      · subst e
        rw [e43, upS_k (by decide), upS_s, e42, upS_s]; exact h2 j
      · rw [e43, upS_k (by decide), upS_j e, e42, upS_j e, upS_k (by decide)]; exact h j (by omega)
    · rw [e43, upS_k (by decide), upS_j (by omega), e42, upS_j (by omega), upS_k (by decide)]; exact h2 j
theorem r_tk201 {τ0 : St} {c : Nat} (hc : c ≤ 40) (h1 : τ0 0 1 = c) {Q : Int → St → Prop} (hq : ∀ τ1 : St, (∀ j : Nat, j < c → τ1 1 j = τ0 1 (40 + j) ∧ τ1 2 j = τ0 2 (40 + j) ∧ τ1 3 j = τ0 3 (40 + j) ∧ τ1 4 j = τ0 4 (40 + j) ∧ τ1 5 j = τ0 5 (40 + j)) → τ1 6 0 = τ0 6 1 → τ1 7 0 = τ0 7 1 → τ1 8 0 = τ0 8 1 → (∀ j : Nat, j < 25 → τ1 9 j = τ0 9 (25 + j) ∧ τ1 10 j = τ0 10 (25 + j)) → (∀ a, (a = 0 ∨ 10 < a) → τ1 a = τ0 a) → Q (c : Int) τ1) : ∀ (d x : Nat) (τ : St) (n : Nat), x + d = c → d < n → (∀ j : Nat, j < x → τ 1 j = τ0 1 (40 + j) ∧ τ 2 j = τ0 2 (40 + j) ∧ τ 3 j = τ0 3 (40 + j) ∧ τ 4 j = τ0 4 (40 + j) ∧ τ 5 j = τ0 5 (40 + j)) → (∀ j : Nat, τ 1 (40 + j) = τ0 1 (40 + j) ∧ τ 2 (40 + j) = τ0 2 (40 + j) ∧ τ 3 (40 + j) = τ0 3 (40 + j) ∧ τ 4 (40 + j) = τ0 4 (40 + j) ∧ τ 5 (40 + j) = τ0 5 (40 + j)) → (∀ a, (a = 0 ∨ 5 < a) → τ a = τ0 a) → wp_X12_grammar_l201 Q n (x : Int) τ := by
  intro d
  induction d with
  | zero =>
    intro x τ n hd hn h h2 ha
    obtain ⟨n, rfl⟩ := suc_n hn
    unfold wp_X12_grammar_l201
    have e01 : τ 0 1 = c := by rw [ha 0 (by decide)]; exact h1
    rw [e01]
    refine ⟨fun _ σ33 e33 σ34 e34 σ35 e35 => ?_, fun q => absurd (by omega) q⟩
    have k : ∀ a, (a = 0 ∨ 8 < a) → σ35 a = τ0 a := fun a h => by rw [e35, upS_k (by omega), e34, upS_k (by omega), e33, upS_k (by omega)]; exact ha a (by omega)
    have k5 : ∀ a, (1 ≤ a ∧ a ≤ 5) → σ35 a = τ a := fun a h => by rw [e35, upS_k (by omega), e34, upS_k (by omega), e33, upS_k (by omega)]
    refine r_tk328 (τ0 := σ35) (fun τ1 b1 b2 => ?_) 25 0 σ35 bigN (by omega) (by unfold bigN; omega) (fun j hj => by omega) (fun _ => ⟨rfl, rfl⟩) (fun _ _ _ => rfl)
    rw [b2 0 (by decide) (by decide), k 0 (by decide), h1]
    refine hq τ1 (fun j hj => ?_) ?_ ?_ ?_ (fun j hj => ?_) (fun a h3 => ?_)
    · rw [b2 1 (by decide) (by decide), b2 2 (by decide) (by decide), b2 3 (by decide) (by decide), b2 4 (by decide) (by decide), b2 5 (by decide) (by decide), k5 1 (by decide), k5 2 (by decide), k5 3 (by decide), k5 4 (by decide), k5 5 (by decide)]
      exact h j (by omega)
    · rw [b2 6 (by decide) (by decide), e35, upS_k (by decide), e34, upS_k (by decide), e33]
      show upS τ 6 0 (τ 6 1) 6 0 = _
      rw [upS_s, ha 6 (by decide)]
    · rw [b2 7 (by decide) (by decide), e35, upS_k (by decide), e34]
      show upS σ33 7 0 (σ33 7 1) 7 0 = _
      rw [upS_s, e33, upS_k (by decide), ha 7 (by decide)]
    · rw [b2 8 (by decide) (by decide), e35]
      show upS σ34 8 0 (σ34 8 1) 8 0 = _
      rw [upS_s, e34, upS_k (by decide), e33, upS_k (by decide), ha 8 (by decide)]
    · have := b1 j hj
      rw [k 9 (by decide), k 10 (by decide)] at this
      exact this
    · rw [b2 a (by omega) (by omega)]; exact k a (by omega)
  | succ d ih =>
    intro x τ n hd hn h h2 ha
    obtain ⟨n, rfl⟩ := suc_n hn
    have e01 : τ 0 1 = c := by rw [ha 0 (by decide)]; exact h1
    unfold wp_X12_grammar_l201
    rw [e01, w32_of (x := 40 + (x : Int)) (by omega) (by omega), show (40 + (x : Int)).toNat = 40 + x by omega, Int.toNat_natCast]
    refine ⟨fun q => absurd q (by omega), fun _ => ⟨by omega, by omega, fun σ5 e5 => ⟨by omega, by omega, fun σ6 e6 => ⟨by omega, by omega, fun σ7 e7 => ⟨by omega, by omega, fun σ8 e8 => ⟨by omega, by omega, fun σ9 e9 v ev => ?_⟩⟩⟩⟩⟩⟩
    rw [w32_of (by omega) (by omega), show (x : Int) + 1 = ((x + 1 : Nat) : Int) by omega] at ev
    rw [ev]
    have k5 : σ5 2 = τ 2 := by rw [e5, upS_k (by decide)]
    have k6 : σ6 3 = τ 3 := by rw [e6, upS_k (by decide), e5, upS_k (by decide)]
    have k7 : σ7 4 = τ 4 := by rw [e7, upS_k (by decide), e6, upS_k (by decide), e5, upS_k (by decide)]
    have k8 : σ8 5 = τ 5 := by rw [e8, upS_k (by decide), e7, upS_k (by decide), e6, upS_k (by decide), e5, upS_k (by decide)]
    rw [k5] at e6
    rw [k6] at e7
    rw [k7] at e8
    rw [k8] at e9
    have q1 : σ9 1 = upS τ 1 x (τ 1 (40 + x)) 1 := by rw [e9, upS_k (by decide), e8, upS_k (by decide), e7, upS_k (by decide), e6, upS_k (by decide), e5]
    have q2 : σ9 2 = upS σ5 2 x (τ 2 (40 + x)) 2 := by rw [e9, upS_k (by decide), e8, upS_k (by decide), e7, upS_k (by decide), e6]
    have q3 : σ9 3 = upS σ6 3 x (τ 3 (40 + x)) 3 := by rw [e9, upS_k (by decide), e8, upS_k (by decide), e7]
    have q4 : σ9 4 = upS σ7 4 x (τ 4 (40 + x)) 4 := by rw [e9, upS_k (by decide), e8]
    have q5 : σ9 5 = upS σ8 5 x (τ 5 (40 + x)) 5 := by rw [e9]
    have oth : ∀ j, j ≠ x → σ9 1 j = τ 1 j ∧ σ9 2 j = τ 2 j ∧ σ9 3 j = τ 3 j ∧ σ9 4 j = τ 4 j ∧ σ9 5 j = τ 5 j := fun j e => by
      rw [q1, q2, q3, q4, q5, upS_j e, upS_j e, upS_j e, upS_j e, upS_j e, k5, k6, k7, k8]
      exact ⟨rfl, rfl, rfl, rfl, rfl⟩
    refine ih (x + 1) σ9 n (by omega) (by omega) (fun j hj => ?_) (fun j => ?_) (fun a h3 => by rw [e9, upS_k (by omega), e8, upS_k (by omega), e7, upS_k (by omega), e6, upS_k (by omega), e5, upS_k (by omega)]; exact ha a h3)
    · by_cases e : j = x
      · subst e
        rw [q1, q2, q3, q4, q5, upS_s, upS_s, upS_s, upS_s, upS_s]; exact h2 j
      · obtain ⟨o1, o2, o3, o4, o5⟩ := oth j e
        rw [o1, o2, o3, o4, o5]; exact h j (by omega)
    · obtain ⟨o1, o2, o3, o4, o5⟩ := oth (40 + j) (by omega)
      rw [o1, o2, o3, o4, o5]; exact h2 j
theorem osum_zero {f : Nat → Int} (h : ∀ k, f k = 0) : ∀ n, osum f n = 0
  | 0 => rfl
  | n + 1 => by
    show osum f n + f n * 2 ^ n = 0
    rw [osum_zero h n, h n]; simp
/-- the new grammar -/
def grS (ρ σ : St) (c : Int) : St := fun k j => if k = 0 then (if j = 0 then 0 else if j = 2 then 0 else if j = 3 then -1 else if j = 4 then c else if j = 5 then σ 4 7 else if j = 6 then σ 4 8 else if j = 7 then σ 4 9 else ρ 0 j) else if k = 3 then σ 5 j else if k = 4 then σ 6 j else if k = 5 then σ 7 j else if k = 6 then σ 8 j else if k = 7 then σ 9 j else if k = 8 then 0 else if k = 9 then σ 11 j else if k = 10 then σ 12 j else ρ k j
section OPS
variable {Cc : Bool → St → St → Prop}
theorem s_grammar (hI : CcI Cc) (hC : CcF Cc) : Step_grammar (Inv Cc) := by
  rintro b σ τ ⟨ρ, hW, hVC, hVR, hc⟩
  obtain ⟨σ1, τ1, a1, a2, a3, a4, a5⟩ := j_read hW hVC hVR
  obtain ⟨wt, wo, wg, wb, ws⟩ := hW
  obtain ⟨⟨t1, t2⟩, vo, vf, vg, vb, vs⟩ := hVC
  obtain ⟨⟨u1, u2⟩, uo, uf, ug, ub, us⟩ := hVR
  unfold wp_X11_grammar
  refine a1 _ (fun σ3 e3 => ?_)
  have k3 : ∀ k, k ≠ 0 → σ3 k = σ1 k := fun k hk => by rw [e3, upS_k hk]
  have k0 : ∀ j, j ≠ 1 → σ3 0 j = σ 0 j := fun j hj => by rw [e3, upS_j hj, a4 0 (by decide)]
  have k01 : σ3 0 1 = 0 := by rw [e3, upS_s]
  have g17 : τ1 0 17 = 0 := by rw [a5.2.2.2.2 17 (by decide), upS_s]
  have gj : ∀ j, (j < 13 ∨ j = 14 ∨ j = 15 ∨ j = 16 ∨ j = 18 ∨ 25 < j) → τ1 0 j = τ 0 j := fun j hj => by
    rw [a5.2.2.2.2 j (by omega), upS_j (by omega), upS_j (by omega)]
  have gk : ∀ k, 10 < k → τ1 k = τ k := fun k hk => by rw [a5.1 k hk, upS_k (by omega), upS_k (by omega)]
  rcases a3 with ⟨⟨f, e, kd, hG⟩, c, c1, ⟨dB, dR⟩, c3, c4⟩ | hb
  · refine ⟨fun _ => ?_, fun q => absurd (by rw [k3 3 (by decide)]; exact hG.2.2.2.2.1) q⟩
    refine c_take (fun σ5 b1 b2 b3 b4 b5 b6 b7 => c_forgetCases (fun σ7 hf ff => ?_))
    have e14 : σ7 14 0 = c := by
      rw [show σ7 14 0 = σ5 14 0 from ff.at rfl, b3, k3 4 (by decide)]; exact c3
    rw [e14]
    refine a2 _ ?_
    unfold wp_X12_grammar_b176
    refine h_goodG hG.2.2.2.2.2.1 ⟨fun _ σ21 e21 σ22 e22 => ?_, fun q => absurd (by decide) q⟩
    have z1 : σ22 0 1 = c := by rw [e22, upS_j (by decide), e21, upS_s]; exact c4
    have z2 : σ22 0 2 = 0 := by rw [e22, upS_s]
    have zj : ∀ j, j ≠ 1 → j ≠ 2 → σ22 0 j = τ1 0 j := fun j h1 h2 => by rw [e22, upS_j h2, e21, upS_j h1]
    have zk : ∀ k, k ≠ 0 → σ22 k = τ1 k := fun k h1 => by rw [e22, upS_k h1, e21, upS_k h1]
    refine r_tk201 (τ0 := σ22) c1 z1 (fun τ2 m1 m2 m3 m4 m5 m6 => ⟨rfl, grS ρ σ1 c, ?_, ?_, ?_, hC _ _ _ hf⟩) c 0 σ22 bigN (by omega) (by unfold bigN; omega) (fun j hj => by omega) (fun _ => ⟨rfl, rfl, rfl, rfl, rfl⟩) (fun _ _ => rfl)
    · obtain ⟨p1, p2, p3, p4, p5, p6, p7⟩ := dB
      refine ⟨⟨?_, ?_, fun j hj => ?_⟩, wo, ⟨?_, ?_, fun r hr => ?_⟩, ⟨p4.1, p4.2, p5, p6, fun j hj => ?_⟩, ws⟩
      · show (0 : Int) ≤ 0; decide
      · show (0 : Int) ≤ 1000; decide
      · exact absurd (show (j : Int) < 0 from hj) (by omega)
      · show (0 : Int) ≤ c; omega
      · show (c : Int) ≤ 40; omega
      · have hr : (r : Int) < c := hr
        obtain ⟨-, -, -, -, -, q1, q2, q3, q4, q5⟩ := dR r (by omega)
        exact ⟨q1, q2, q3, q4, q5, Or.inl rfl⟩
      · have := p7 j hj
        exact ⟨this.1.2, this.2.2⟩
    · refine VC.frB ff (by decide) ⟨⟨?_, fun j hj => ?_⟩, ⟨?_, fun j hj => ?_⟩, ⟨?_, ?_⟩, ⟨?_, fun r hr => ?_⟩, ⟨?_, ?_, ?_, fun j hj => ?_⟩, ⟨?_, fun j hj => ?_⟩⟩
      · rw [b7 0 (by decide), k01]; rfl
      · exact absurd (show (j : Int) < 0 from hj) (by omega)
      · rw [b7 0 (by decide), k0 3 (by decide)]; exact vo.1
      · rw [b7 2 (by decide), k3 2 (by decide), a4 2 (by decide)]; exact vo.2 j hj
      · rw [b7 3 (by decide), k3 3 (by decide)]; exact hG.2.2.2.2.1
      · rw [b7 3 (by decide), k3 3 (by decide)]; exact hG.2.2.2.2.2.2.1
      · rw [b3, k3 4 (by decide)]; exact c3
      · have hr : (r : Int) < c := hr
        obtain ⟨q1, q2, q3, q4, q5, q6⟩ := b1 r (by omega)
        rw [q1, q2, q3, q4, q5, q6, k3 5 (by decide), k3 6 (by decide), k3 7 (by decide), k3 8 (by decide), k3 9 (by decide)]
        exact ⟨rfl, rfl, rfl, rfl, rfl, rfl⟩
      · rw [b4, k3 4 (by decide)]; rfl
      · rw [b5, k3 4 (by decide)]; rfl
      · rw [b6, k3 4 (by decide)]; rfl
      · have hj : (j : Int) < σ1 4 7 * σ1 4 7 := hj
        have h25 : σ1 4 7 * σ1 4 7 ≤ 25 := by
          obtain ⟨x1, x2⟩ := dB.2.2.2.1
          have := Int.mul_le_mul x2 x2 (by omega) (by omega)
          omega
        obtain ⟨q1, q2⟩ := b2 j (by omega)
        rw [q1, q2, k3 11 (by decide), k3 12 (by decide)]
        exact ⟨rfl, rfl⟩
      · rw [b7 24 (by decide), k3 24 (by decide), a4 24 (by decide)]; exact vs.1
      · rw [b7 25 (by decide), k3 25 (by decide), a4 25 (by decide)]; exact vs.2 j hj
    · have y0 : ∀ j, j ≠ 1 → j ≠ 2 → τ2 0 j = τ1 0 j := fun j h1 h2 => by rw [m6 0 (by decide)]; exact zj j h1 h2
      have yk : ∀ k, 10 < k → τ2 k = τ k := fun k hk => by rw [m6 k (by omega), zk k (by omega)]; exact gk k hk
      refine ⟨⟨?_, fun j hj => ?_⟩, ⟨?_, fun j hj => ?_⟩, ⟨?_, ?_⟩, ⟨?_, ?_, fun r hr => ?_⟩, ⟨?_, ?_, ?_, fun j hj => ?_⟩, ⟨?_, fun j hj => ?_⟩⟩
      · rw [y0 17 (by decide) (by decide), g17]; rfl
      · exact absurd (show (j : Int) < 0 from hj) (by omega)
      · rw [y0 61 (by decide) (by decide), gj 61 (by decide)]; exact uo.1
      · rw [yk 40 (by decide)]; exact uo.2 j hj
      · rw [y0 24 (by decide) (by decide)]; exact hG.2.2.2.2.2.1
      · rw [y0 25 (by decide) (by decide)]; exact hG.2.2.2.2.2.2.2
      · rw [m6 0 (by decide)]; exact z1
      · rw [m6 0 (by decide), z2]
        exact (osum_zero (fun _ => rfl) _).symm
      · have hr : (r : Int) < c := hr
        obtain ⟨q1, q2, q3, q4, q5⟩ := m1 r (by omega)
        obtain ⟨x1, x2, x3, x4, x5, -⟩ := dR r (by omega)
        rw [q1, q2, q3, q4, q5, zk 1 (by decide), zk 2 (by decide), zk 3 (by decide), zk 4 (by decide), zk 5 (by decide), ← x1, ← x2, ← x3, ← x4, ← x5]
        exact ⟨rfl, rfl, rfl, rfl, rfl⟩
      · rw [m2, zk 6 (by decide), ← dB.1]; rfl
      · rw [m3, zk 7 (by decide), ← dB.2.1]; rfl
      · rw [m4, zk 8 (by decide), ← dB.2.2.1]; rfl
      · have hj : (j : Int) < σ1 4 7 * σ1 4 7 := hj
        have h25 : σ1 4 7 * σ1 4 7 ≤ 25 := by
          obtain ⟨x1, x2⟩ := dB.2.2.2.1
          have := Int.mul_le_mul x2 x2 (by omega) (by omega)
          omega
        obtain ⟨q1, q2⟩ := m5 j (by omega)
        obtain ⟨x1, x2⟩ := dB.2.2.2.2.2.2 j hj
        rw [q1, q2, zk 9 (by decide), zk 10 (by decide), ← x1.1, ← x2.1]
        exact ⟨rfl, rfl⟩
      · rw [y0 15 (by decide) (by decide), gj 15 (by decide)]; exact us.1
      · rw [yk 11 (by decide)]; exact us.2 j hj
  · have hne : σ3 3 2 ≠ 0 := by rw [k3 3 (by decide)]; exact hb.1.1
    refine ⟨fun q => absurd q hne, fun _ => a2 _ ?_⟩
    unfold wp_X12_grammar_b176
    refine h_goodB hb.ne ⟨fun q => absurd rfl q, fun _ => ⟨rfl, upS (upS (upS ρ 0 0 0) 0 2 (σ1 3 2)) 0 3 (σ1 3 3), ?_, ?_, ?_, ?_⟩⟩
    · refine ⟨⟨?_, ?_, fun j hj => ?_⟩, wo, wg, wb, ws⟩
      · show (0 : Int) ≤ 0; decide
      · show (0 : Int) ≤ 1000; decide
      · exact absurd (show (j : Int) < 0 from hj) (by omega)
    · refine ⟨⟨?_, fun j hj => ?_⟩, ⟨?_, fun j hj => ?_⟩, ⟨?_, ?_⟩, ?_, ?_, ?_⟩
      · rw [k01]; rfl
      · exact absurd (show (j : Int) < 0 from hj) (by omega)
      · rw [k0 3 (by decide)]; exact vo.1
      · rw [k3 2 (by decide), a4 2 (by decide)]; exact vo.2 j hj
      · rw [k3 3 (by decide)]; rfl
      · rw [k3 3 (by decide)]; rfl
      · show VCg σ3 ρ
        unfold VCg at *
        rw [k3 14 (by decide), k3 15 (by decide), k3 16 (by decide), k3 17 (by decide), k3 18 (by decide), k3 19 (by decide), k3 20 (by decide), a4 14 (by decide), a4 15 (by decide), a4 16 (by decide), a4 17 (by decide), a4 18 (by decide), a4 19 (by decide), a4 20 (by decide)]
        exact vg
      · show VCb σ3 ρ
        unfold VCb at *
        rw [k3 14 (by decide), k3 21 (by decide), k3 22 (by decide), a4 14 (by decide), a4 21 (by decide), a4 22 (by decide)]
        exact vb
      · show VCs σ3 ρ
        unfold VCs at *
        rw [k3 24 (by decide), k3 25 (by decide), a4 24 (by decide), a4 25 (by decide)]
        exact vs
    · have lo : ∀ k j, 1 ≤ k → k ≤ 5 → j < 40 → τ1 k j = τ k j := fun k j h1 h2 h3 => by rw [a5.2.1 k j h1 h2 h3, upS_k (by omega), upS_k (by omega)]
      have lt : ∀ k j, 9 ≤ k → k ≤ 10 → j < 25 → τ1 k j = τ k j := fun k j h1 h2 h3 => by rw [a5.2.2.2.1 k j h1 h2 h3, upS_k (by omega), upS_k (by omega)]
      have l0 : ∀ k, 6 ≤ k → k ≤ 8 → τ1 k 0 = τ k 0 := fun k h1 h2 => by rw [a5.2.2.1 k h1 h2, upS_k (by omega), upS_k (by omega)]
      refine ⟨⟨?_, fun j hj => ?_⟩, ⟨?_, fun j hj => ?_⟩, ⟨?_, ?_⟩, ⟨?_, ?_, fun r hr => ?_⟩, ⟨?_, ?_, ?_, fun j hj => ?_⟩, ⟨?_, fun j hj => ?_⟩⟩
      · rw [g17]; rfl
      · exact absurd (show (j : Int) < 0 from hj) (by omega)
      · rw [gj 61 (by decide)]; exact uo.1
      · rw [gk 40 (by decide)]; exact uo.2 j hj
      · exact hb.2.1
      · exact hb.2.2
      · rw [gj 1 (by decide)]; exact ug.1
      · rw [gj 2 (by decide)]; exact ug.2.1
      · have hr : (r : Int) < ρ 0 4 := hr
        have h40 := wg.2.1
        rw [lo 1 r (by decide) (by decide) (by omega), lo 2 r (by decide) (by decide) (by omega), lo 3 r (by decide) (by decide) (by omega), lo 4 r (by decide) (by decide) (by omega), lo 5 r (by decide) (by decide) (by omega)]
        exact ug.2.2 r hr
      · rw [l0 6 (by decide) (by decide)]; exact ub.1
      · rw [l0 7 (by decide) (by decide)]; exact ub.2.1
      · rw [l0 8 (by decide) (by decide)]; exact ub.2.2.1
      · have hj : (j : Int) < ρ 0 5 * ρ 0 5 := hj
        have h25 : ρ 0 5 * ρ 0 5 ≤ 25 := by
          have x2 := wb.2.1
          have x1 := wb.1
          have := Int.mul_le_mul x2 x2 (by omega) (by omega)
          omega
        rw [lt 9 j (by decide) (by decide) (by omega), lt 10 j (by decide) (by decide) (by omega)]
        exact ub.2.2.2 j hj
      · rw [gj 15 (by decide)]; exact us.1
      · rw [gk 11 (by decide)]; exact us.2 j hj
    · refine hI b σ σ3 ρ _ hc (fun k j hk => ?_) (fun k j hk => ?_)
      · have : 24 ≤ k := by unfold cK at hk; simpa using hk
        rw [k3 k (by omega), a4 k (by omega)]
      · by_cases hk0 : k = 0
        · subst hk0
          have : 4 ≤ j := by unfold cR at hk; simpa using hk
          rw [upS_j (by omega), upS_j (by omega), upS_j (by omega)]
        · rw [upS_k hk0, upS_k hk0, upS_k hk0]
end OPS
