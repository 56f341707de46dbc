/-! rows filled with one number; what is forgotten -/
theorem c_J7_fill_53178_C_c77_l5 {σ0 : St} {x : Int} {Q : Int → St → Prop} (h : ∀ σ1 : St, (∀ j : Nat, j < 36 → σ1 77 j = x) → (∀ a, a ≠ 77 → σ1 a = σ0 a) → Q 0 σ1) : ∀ (d : Nat) (k : Int) (σ : St) (n : Nat), 0 ≤ k → k + d = 36 → d < n → (∀ j : Nat, (j : Int) < k → σ 77 j = x) → (∀ a, a ≠ 77 → σ a = σ0 a) → wp_J7_fill_53178_C_c77_l5 Q n x k 36 σ := by
  intro d
  induction d with
  | zero =>
    intro k σ n h0 h1 hn hj ha
    obtain ⟨n, rfl⟩ := suc_n hn
    unfold wp_J7_fill_53178_C_c77_l5
    exact ⟨fun _ => h σ (fun j hjN => hj j (by omega)) ha, fun q => absurd (by omega) q⟩
  | succ d ih =>
    intro k σ n h0 h1 hn hj ha
    obtain ⟨n, rfl⟩ := suc_n hn
    unfold wp_J7_fill_53178_C_c77_l5
    refine ⟨fun q => absurd q (by omega), fun _ => ⟨by omega, fun σ1 e1 v e => ?_⟩⟩
    rw [w32_of (by omega) (by omega)] at e
    subst e
    refine ih (k + 1) σ1 n (by omega) (by omega) (by omega) (fun j hjk => ?_) (fun a hne => ?_)
    · by_cases hk : j = k.toNat
      · rw [e1, hk, upS_s]
      · rw [e1, upS_j hk]; exact hj j (by omega)
    · rw [e1, upS_k hne]; exact ha a hne
theorem c_J7_fill_53178_C_c77 {σ : St} {x : Int} {Q : Int → St → Prop} (h : ∀ σ1 : St, (∀ j : Nat, j < 36 → σ1 77 j = x) → (∀ a, a ≠ 77 → σ1 a = σ a) → Q 0 σ1) : wp_J7_fill_53178_C_c77 x σ Q := by
  unfold wp_J7_fill_53178_C_c77
  exact c_J7_fill_53178_C_c77_l5 h 36 0 σ bigN (by omega) (by omega) (by unfold bigN; omega) (fun j hj => by omega) (fun _ _ => rfl)
theorem c_J7_fill_53178_C_c78_l5 {σ0 : St} {x : Int} {Q : Int → St → Prop} (h : ∀ σ1 : St, (∀ j : Nat, j < 432 → σ1 78 j = x) → (∀ a, a ≠ 78 → σ1 a = σ0 a) → Q 0 σ1) : ∀ (d : Nat) (k : Int) (σ : St) (n : Nat), 0 ≤ k → k + d = 432 → d < n → (∀ j : Nat, (j : Int) < k → σ 78 j = x) → (∀ a, a ≠ 78 → σ a = σ0 a) → wp_J7_fill_53178_C_c78_l5 Q n x k 432 σ := by
  intro d
  induction d with
  | zero =>
    intro k σ n h0 h1 hn hj ha
    obtain ⟨n, rfl⟩ := suc_n hn
    unfold wp_J7_fill_53178_C_c78_l5
    exact ⟨fun _ => h σ (fun j hjN => hj j (by omega)) ha, fun q => absurd (by omega) q⟩
  | succ d ih =>
    intro k σ n h0 h1 hn hj ha
    obtain ⟨n, rfl⟩ := suc_n hn
    unfold wp_J7_fill_53178_C_c78_l5
    refine ⟨fun q => absurd q (by omega), fun _ => ⟨by omega, fun σ1 e1 v e => ?_⟩⟩
    rw [w32_of (by omega) (by omega)] at e
    subst e
    refine ih (k + 1) σ1 n (by omega) (by omega) (by omega) (fun j hjk => ?_) (fun a hne => ?_)
    · by_cases hk : j = k.toNat
      · rw [e1, hk, upS_s]
      · rw [e1, upS_j hk]; exact hj j (by omega)
    · rw [e1, upS_k hne]; exact ha a hne
theorem c_J7_fill_53178_C_c78 {σ : St} {x : Int} {Q : Int → St → Prop} (h : ∀ σ1 : St, (∀ j : Nat, j < 432 → σ1 78 j = x) → (∀ a, a ≠ 78 → σ1 a = σ a) → Q 0 σ1) : wp_J7_fill_53178_C_c78 x σ Q := by
  unfold wp_J7_fill_53178_C_c78
  exact c_J7_fill_53178_C_c78_l5 h 432 0 σ bigN (by omega) (by omega) (by unfold bigN; omega) (fun j hj => by omega) (fun _ _ => rfl)
theorem c_J7_fill_53178_C_c48_l5 {σ0 : St} {x : Int} {Q : Int → St → Prop} (h : ∀ σ1 : St, (∀ j : Nat, j < 156 → σ1 48 j = x) → (∀ a, a ≠ 48 → σ1 a = σ0 a) → Q 0 σ1) : ∀ (d : Nat) (k : Int) (σ : St) (n : Nat), 0 ≤ k → k + d = 156 → d < n → (∀ j : Nat, (j : Int) < k → σ 48 j = x) → (∀ a, a ≠ 48 → σ a = σ0 a) → wp_J7_fill_53178_C_c48_l5 Q n x k 156 σ := by
  intro d
  induction d with
  | zero =>
    intro k σ n h0 h1 hn hj ha
    obtain ⟨n, rfl⟩ := suc_n hn
    unfold wp_J7_fill_53178_C_c48_l5
    exact ⟨fun _ => h σ (fun j hjN => hj j (by omega)) ha, fun q => absurd (by omega) q⟩
  | succ d ih =>
    intro k σ n h0 h1 hn hj ha
    obtain ⟨n, rfl⟩ := suc_n hn
    unfold wp_J7_fill_53178_C_c48_l5
    refine ⟨fun q => absurd q (by omega), fun _ => ⟨by omega, fun σ1 e1 v e => ?_⟩⟩
    rw [w32_of (by omega) (by omega)] at e
    subst e
    refine ih (k + 1) σ1 n (by omega) (by omega) (by omega) (fun j hjk => ?_) (fun a hne => ?_)
    · by_cases hk : j = k.toNat
      · rw [e1, hk, upS_s]
      · rw [e1, upS_j hk]; exact hj j (by omega)
    · rw [e1, upS_k hne]; exact ha a hne
theorem c_J7_fill_53178_C_c48 {σ : St} {x : Int} {Q : Int → St → Prop} (h : ∀ σ1 : St, (∀ j : Nat, j < 156 → σ1 48 j = x) → (∀ a, a ≠ 48 → σ1 a = σ a) → Q 0 σ1) : wp_J7_fill_53178_C_c48 x σ Q := by
  unfold wp_J7_fill_53178_C_c48
  exact c_J7_fill_53178_C_c48_l5 h 156 0 σ bigN (by omega) (by omega) (by unfold bigN; omega) (fun j hj => by omega) (fun _ _ => rfl)
theorem c_J7_fill_53178_C_c51_l5 {σ0 : St} {x : Int} {Q : Int → St → Prop} (h : ∀ σ1 : St, (∀ j : Nat, j < 432 → σ1 51 j = x) → (∀ a, a ≠ 51 → σ1 a = σ0 a) → Q 0 σ1) : ∀ (d : Nat) (k : Int) (σ : St) (n : Nat), 0 ≤ k → k + d = 432 → d < n → (∀ j : Nat, (j : Int) < k → σ 51 j = x) → (∀ a, a ≠ 51 → σ a = σ0 a) → wp_J7_fill_53178_C_c51_l5 Q n x k 432 σ := by
  intro d
  induction d with
  | zero =>
    intro k σ n h0 h1 hn hj ha
    obtain ⟨n, rfl⟩ := suc_n hn
    unfold wp_J7_fill_53178_C_c51_l5
    exact ⟨fun _ => h σ (fun j hjN => hj j (by omega)) ha, fun q => absurd (by omega) q⟩
  | succ d ih =>
    intro k σ n h0 h1 hn hj ha
    obtain ⟨n, rfl⟩ := suc_n hn
    unfold wp_J7_fill_53178_C_c51_l5
    refine ⟨fun q => absurd q (by omega), fun _ => ⟨by omega, fun σ1 e1 v e => ?_⟩⟩
    rw [w32_of (by omega) (by omega)] at e
    subst e
    refine ih (k + 1) σ1 n (by omega) (by omega) (by omega) (fun j hjk => ?_) (fun a hne => ?_)
    · by_cases hk : j = k.toNat
      · rw [e1, hk, upS_s]
      · rw [e1, upS_j hk]; exact hj j (by omega)
    · rw [e1, upS_k hne]; exact ha a hne
theorem c_J7_fill_53178_C_c51 {σ : St} {x : Int} {Q : Int → St → Prop} (h : ∀ σ1 : St, (∀ j : Nat, j < 432 → σ1 51 j = x) → (∀ a, a ≠ 51 → σ1 a = σ a) → Q 0 σ1) : wp_J7_fill_53178_C_c51 x σ Q := by
  unfold wp_J7_fill_53178_C_c51
  exact c_J7_fill_53178_C_c51_l5 h 432 0 σ bigN (by omega) (by omega) (by unfold bigN; omega) (fun j hj => by omega) (fun _ _ => rfl)
theorem c_J7_fill_53178_C_c82_l5 {σ0 : St} {x : Int} {Q : Int → St → Prop} (h : ∀ σ1 : St, (∀ j : Nat, j < 208 → σ1 82 j = x) → (∀ a, a ≠ 82 → σ1 a = σ0 a) → Q 0 σ1) : ∀ (d : Nat) (k : Int) (σ : St) (n : Nat), 0 ≤ k → k + d = 208 → d < n → (∀ j : Nat, (j : Int) < k → σ 82 j = x) → (∀ a, a ≠ 82 → σ a = σ0 a) → wp_J7_fill_53178_C_c82_l5 Q n x k 208 σ := by
  intro d
  induction d with
  | zero =>
    intro k σ n h0 h1 hn hj ha
    obtain ⟨n, rfl⟩ := suc_n hn
    unfold wp_J7_fill_53178_C_c82_l5
    exact ⟨fun _ => h σ (fun j hjN => hj j (by omega)) ha, fun q => absurd (by omega) q⟩
  | succ d ih =>
    intro k σ n h0 h1 hn hj ha
    obtain ⟨n, rfl⟩ := suc_n hn
    unfold wp_J7_fill_53178_C_c82_l5
    refine ⟨fun q => absurd q (by omega), fun _ => ⟨by omega, fun σ1 e1 v e => ?_⟩⟩
    rw [w32_of (by omega) (by omega)] at e
    subst e
    refine ih (k + 1) σ1 n (by omega) (by omega) (by omega) (fun j hjk => ?_) (fun a hne => ?_)
    · by_cases hk : j = k.toNat
      · rw [e1, hk, upS_s]
      · rw [e1, upS_j hk]; exact hj j (by omega)
    · rw [e1, upS_k hne]; exact ha a hne
theorem c_J7_fill_53178_C_c82 {σ : St} {x : Int} {Q : Int → St → Prop} (h : ∀ σ1 : St, (∀ j : Nat, j < 208 → σ1 82 j = x) → (∀ a, a ≠ 82 → σ1 a = σ a) → Q 0 σ1) : wp_J7_fill_53178_C_c82 x σ Q := by
  unfold wp_J7_fill_53178_C_c82
  exact c_J7_fill_53178_C_c82_l5 h 208 0 σ bigN (by omega) (by omega) (by unfold bigN; omega) (fun j hj => by omega) (fun _ _ => rfl)
theorem c_J7_fill_53178_C_c81_l5 {σ0 : St} {x : Int} {Q : Int → St → Prop} (h : ∀ σ1 : St, (∀ j : Nat, j < 432 → σ1 81 j = x) → (∀ a, a ≠ 81 → σ1 a = σ0 a) → Q 0 σ1) : ∀ (d : Nat) (k : Int) (σ : St) (n : Nat), 0 ≤ k → k + d = 432 → d < n → (∀ j : Nat, (j : Int) < k → σ 81 j = x) → (∀ a, a ≠ 81 → σ a = σ0 a) → wp_J7_fill_53178_C_c81_l5 Q n x k 432 σ := by
  intro d
  induction d with
  | zero =>
    intro k σ n h0 h1 hn hj ha
    obtain ⟨n, rfl⟩ := suc_n hn
    unfold wp_J7_fill_53178_C_c81_l5
    exact ⟨fun _ => h σ (fun j hjN => hj j (by omega)) ha, fun q => absurd (by omega) q⟩
  | succ d ih =>
    intro k σ n h0 h1 hn hj ha
    obtain ⟨n, rfl⟩ := suc_n hn
    unfold wp_J7_fill_53178_C_c81_l5
    refine ⟨fun q => absurd q (by omega), fun _ => ⟨by omega, fun σ1 e1 v e => ?_⟩⟩
    rw [w32_of (by omega) (by omega)] at e
    subst e
    refine ih (k + 1) σ1 n (by omega) (by omega) (by omega) (fun j hjk => ?_) (fun a hne => ?_)
    · by_cases hk : j = k.toNat
      · rw [e1, hk, upS_s]
      · rw [e1, upS_j hk]; exact hj j (by omega)
    · rw [e1, upS_k hne]; exact ha a hne
theorem c_J7_fill_53178_C_c81 {σ : St} {x : Int} {Q : Int → St → Prop} (h : ∀ σ1 : St, (∀ j : Nat, j < 432 → σ1 81 j = x) → (∀ a, a ≠ 81 → σ1 a = σ a) → Q 0 σ1) : wp_J7_fill_53178_C_c81 x σ Q := by
  unfold wp_J7_fill_53178_C_c81
  exact c_J7_fill_53178_C_c81_l5 h 432 0 σ bigN (by omega) (by omega) (by unfold bigN; omega) (fun j hj => by omega) (fun _ _ => rfl)
theorem c_J7_fill_d0a16_C_c79_l6 {σ0 : St} {x : Int} {Q : Int → St → Prop} (h : ∀ σ1 : St, (∀ j : Nat, j < 432 → σ1 79 j = x) → (∀ a, a ≠ 79 → σ1 a = σ0 a) → Q 0 σ1) : ∀ (d : Nat) (k : Int) (σ : St) (n : Nat), 0 ≤ k → k + d = 432 → d < n → (∀ j : Nat, (j : Int) < k → σ 79 j = x) → (∀ a, a ≠ 79 → σ a = σ0 a) → wp_J7_fill_d0a16_C_c79_l6 Q n x k 432 σ := by
  intro d
  induction d with
  | zero =>
    intro k σ n h0 h1 hn hj ha
    obtain ⟨n, rfl⟩ := suc_n hn
    unfold wp_J7_fill_d0a16_C_c79_l6
    exact ⟨fun _ => h σ (fun j hjN => hj j (by omega)) ha, fun q => absurd (by omega) q⟩
  | succ d ih =>
    intro k σ n h0 h1 hn hj ha
    obtain ⟨n, rfl⟩ := suc_n hn
    unfold wp_J7_fill_d0a16_C_c79_l6
    refine ⟨fun q => absurd q (by omega), fun _ => ⟨by omega, fun σ1 e1 v e => ?_⟩⟩
    rw [w32_of (by omega) (by omega)] at e
    subst e
    refine ih (k + 1) σ1 n (by omega) (by omega) (by omega) (fun j hjk => ?_) (fun a hne => ?_)
    · by_cases hk : j = k.toNat
      · rw [e1, hk, upS_s]
      · rw [e1, upS_j hk]; exact hj j (by omega)
    · rw [e1, upS_k hne]; exact ha a hne
theorem c_J7_fill_d0a16_C_c79 {σ : St} {x : Int} {Q : Int → St → Prop} (h : ∀ σ1 : St, (∀ j : Nat, j < 432 → σ1 79 j = x) → (∀ a, a ≠ 79 → σ1 a = σ a) → Q 0 σ1) : wp_J7_fill_d0a16_C_c79 x σ Q := by
  unfold wp_J7_fill_d0a16_C_c79
  exact c_J7_fill_d0a16_C_c79_l6 h 432 0 σ bigN (by omega) (by omega) (by unfold bigN; omega) (fun j hj => by omega) (fun _ _ => rfl)
theorem c_X3_forget_l2 {σ0 : St} {Q : Int → St → Prop} (h : ∀ σ1 : St, (∀ j : Nat, j < 36 → σ1 60 j = 0) → (∀ a, a ≠ 60 → σ1 a = σ0 a) → Q 0 σ1) : ∀ (d : Nat) (k : Int) (σ : St) (n : Nat), 0 ≤ k → k + d = 36 → d < n → (∀ j : Nat, (j : Int) < k → σ 60 j = 0) → (∀ a, a ≠ 60 → σ a = σ0 a) → wp_X3_forget_l2 Q n k σ := by
  intro d
  induction d with
  | zero =>
    intro k σ n h0 h1 hn hj ha
    obtain ⟨n, rfl⟩ := suc_n hn
    unfold wp_X3_forget_l2
    exact ⟨fun _ => h σ (fun j hjN => hj j (by omega)) ha, fun q => absurd (by omega) q⟩
  | succ d ih =>
    intro k σ n h0 h1 hn hj ha
    obtain ⟨n, rfl⟩ := suc_n hn
    unfold wp_X3_forget_l2
    refine ⟨fun q => absurd q (by omega), fun _ => ⟨by omega, fun σ1 e1 v e => ?_⟩⟩
    rw [w32_of (by omega) (by omega)] at e
    rw [show b_and 0 1 = 0 by decide] at e1
    subst e
    refine ih (k + 1) σ1 n (by omega) (by omega) (by omega) (fun j hjk => ?_) (fun a hne => ?_)
    · by_cases hk : j = k.toNat
      · rw [e1, hk, upS_s]
      · rw [e1, upS_j hk]; exact hj j (by omega)
    · rw [e1, upS_k hne]; exact ha a hne
theorem c_X3_forget {σ : St} {Q : Int → St → Prop} (h : ∀ σ1 : St, (∀ j : Nat, j < 36 → σ1 60 j = 0) → (∀ a, a ≠ 60 → σ1 a = σ a) → Q 0 σ1) : wp_X3_forget σ Q := by
  unfold wp_X3_forget
  exact c_X3_forget_l2 h 36 0 σ bigN (by omega) (by omega) (by unfold bigN; omega) (fun j hj => by omega) (fun _ _ => rfl)
def FgF (σ : St) : Prop := σ 41 6 = 0 ∧ σ 41 7 = 0 ∧ σ 41 8 = 0
def FgK (σ : St) : Prop := (σ 36 7 = 0 ∧ σ 36 8 = 0 ∧ σ 36 9 = 0) ∧ σ 45 7 = 0 ∧ (∀ j : Nat, j < 36 → σ 60 j = 0) ∧ (∀ j : Nat, j < 36 → σ 77 j = 0) ∧ (∀ j : Nat, j < 432 → σ 78 j = 0) ∧ (∀ j : Nat, j < 432 → σ 79 j = 0) ∧ σ 80 9 = 0
def FgA (σ : St) : Prop := σ 24 17 = 0 ∧ FgF σ ∧ σ 50 6 = 0 ∧ FgK σ
theorem c_forgetCosts {σ : St} {Q : Int → St → Prop} (h : ∀ σ1 : St, FgK σ1 → Fr S_X11_forgetCosts σ σ1 → Q 0 σ1) : wp_X11_forgetCosts σ Q := by
  refine mf_X11_forgetCosts (Q := fun r σ1 => r = 0 ∧ FgK σ1) (fun r σ1 hh f => ?_) Fr.rf ?_
  · rw [hh.1]; exact h σ1 hh.2 f
  unfold wp_X11_forgetCosts wp_X1_forget wp_X7_forget wp_X8_forget wp_X5_forget
  intro σ1 e1 σ2 e2 σ3 e3 σ4 e4
  refine c_X3_forget (fun σ5 z1 z2 => c_J7_fill_53178_C_c77 (fun σ6 y1 y2 => c_J7_fill_53178_C_c78 (fun σ7 x1 x2 => c_J7_fill_d0a16_C_c79 (fun σ8 w1 w2 => ?_))))
  intro σ9 e9
  refine ⟨rfl, ?_⟩
  have k36 : σ9 36 = σ3 36 := by rw [e9, upS_k (by decide), w2 _ (by decide), x2 _ (by decide), y2 _ (by decide), z2 _ (by decide), e4, upS_k (by decide)]
  have k45 : σ9 45 = σ4 45 := by rw [e9, upS_k (by decide), w2 _ (by decide), x2 _ (by decide), y2 _ (by decide), z2 _ (by decide)]
  have k60 : σ9 60 = σ5 60 := by rw [e9, upS_k (by decide), w2 _ (by decide), x2 _ (by decide), y2 _ (by decide)]
  have k77 : σ9 77 = σ6 77 := by rw [e9, upS_k (by decide), w2 _ (by decide), x2 _ (by decide)]
  have k78 : σ9 78 = σ7 78 := by rw [e9, upS_k (by decide), w2 _ (by decide)]
  have k79 : σ9 79 = σ8 79 := by rw [e9, upS_k (by decide)]
  unfold FgK
  rw [k36, k45, k60, k77, k78, k79]
  refine ⟨⟨?_, ?_, ?_⟩, ?_, z1, y1, x1, w1, ?_⟩
  · rw [e3, upS_j (by decide), e2, upS_j (by decide), e1, upS_s]
  · rw [e3, upS_j (by decide), e2, upS_s]
  · rw [e3, upS_s]
  · rw [e4, upS_s]
  · rw [e9, upS_s]
theorem c_forgetCases {σ : St} {Q : Int → St → Prop} (h : ∀ σ1 : St, FgA σ1 → Fr S_X11_forgetCases σ σ1 → Q 0 σ1) : wp_X11_forgetCases σ Q := by
  refine mf_X11_forgetCases (Q := fun r σ1 => r = 0 ∧ FgA σ1) (fun r σ1 hh f => ?_) Fr.rf ?_
  · rw [hh.1]; exact h σ1 hh.2 f
  unfold wp_X11_forgetCases wp_X0_forget wp_X2_forget wp_X9_forget
  intro σ1 e1 σ2 e2 σ3 e3 σ4 e4 σ5 e5
  refine c_forgetCosts (fun σ6 hk f => ⟨rfl, ?_, ⟨?_, ?_, ?_⟩, ?_, hk⟩)
  · rw [f.at rfl, e5, upS_k (by decide), e4, upS_k (by decide), e3, upS_k (by decide), e2, upS_k (by decide), e1, upS_s]
  · rw [f.at rfl, e5, upS_k (by decide), e4, upS_j (by decide), e3, upS_j (by decide), e2, upS_s]
  · rw [f.at rfl, e5, upS_k (by decide), e4, upS_j (by decide), e3, upS_s]
  · rw [f.at rfl, e5, upS_k (by decide), e4, upS_s]
  · rw [f.at rfl, e5, upS_s]
/-! views kept by a frame, by one test of its lists -/
def okL (A0 : List Nat) (F0 : List (Nat × Nat)) (A : List Nat) (F : List (Nat × Nat)) : Bool := A.all (fun a => !(A0.contains a) && F0.all (fun q => !(q.1 == a))) && F.all (fun q => !(A0.contains q.1) && !(F0.contains q))
theorem okL_a {A0 : List Nat} {F0 : List (Nat × Nat)} {A : List Nat} {F : List (Nat × Nat)} (h : okL A0 F0 A F = true) {k : Nat} (hk : k ∈ A0) (j : Nat) : mkS A F k j = false := by
  unfold okL at h
  unfold mkS
  simp only [Bool.and_eq_true, List.all_eq_true, Bool.not_eq_true', List.contains_eq_mem, decide_eq_false_iff_not] at h
  simp only [Bool.or_eq_false_iff, List.contains_eq_mem, decide_eq_false_iff_not]
  exact ⟨fun q => (h.1 k q).1 hk, fun q => (h.2 (k, j) q).1 hk⟩
theorem okL_f {A0 : List Nat} {F0 : List (Nat × Nat)} {A : List Nat} {F : List (Nat × Nat)} (h : okL A0 F0 A F = true) {k j : Nat} (hk : (k, j) ∈ F0) : mkS A F k j = false := by
  unfold okL at h
  unfold mkS
  simp only [Bool.and_eq_true, List.all_eq_true, Bool.not_eq_true', List.contains_eq_mem, decide_eq_false_iff_not, beq_eq_false_iff_ne] at h
  simp only [Bool.or_eq_false_iff, List.contains_eq_mem, decide_eq_false_iff_not]
  exact ⟨fun q => (h.1 k q).2 (k, j) hk rfl, fun q => (h.2 (k, j) q).2 hk⟩
def okC (A : List Nat) (F : List (Nat × Nat)) : Bool := okL [1, 2, 15, 16, 17, 18, 19, 20, 21, 22, 25] [(0, 1), (0, 3), (3, 2), (3, 3), (14, 0), (14, 7), (14, 8), (14, 9), (24, 2)] A F
def okR (A : List Nat) (F : List (Nat × Nat)) : Bool := okL [1, 2, 3, 4, 5, 9, 10, 11, 12, 40] [(0, 17), (0, 61), (0, 24), (0, 25), (0, 1), (0, 2), (0, 15), (6, 0), (7, 0), (8, 0)] A F
theorem VC.frB {A : List Nat} {F : List (Nat × Nat)} {σ σ1 ρ : St} (f : Fr (mkS A F) σ σ1) (h : okC A F = true) (v : VC σ ρ) : VC σ1 ρ := by
  obtain ⟨vt, vo, vf, vg, vb, vs⟩ := v
  have a := fun {k : Nat} hk j => okL_a h (k := k) hk j
  have g := fun {k j : Nat} hk => okL_f h (k := k) (j := j) hk
  exact ⟨vt.fr f ⟨g (by decide), a (by decide)⟩, vo.fr f ⟨g (by decide), a (by decide)⟩, vf.fr f ⟨g (by decide), g (by decide)⟩, vg.fr f ⟨g (by decide), a (by decide), a (by decide), a (by decide), a (by decide), a (by decide), a (by decide)⟩, vb.fr f ⟨g (by decide), g (by decide), g (by decide), a (by decide), a (by decide)⟩, vs.fr f ⟨g (by decide), a (by decide)⟩⟩
theorem VR.frB {A : List Nat} {F : List (Nat × Nat)} {τ τ1 ρ : St} (f : Fr (mkS A F) τ τ1) (h : okR A F = true) (v : VR τ ρ) : VR τ1 ρ := by
  obtain ⟨vt, vo, vf, vg, vb, vs⟩ := v
  have a := fun {k : Nat} hk j => okL_a h (k := k) hk j
  have g := fun {k j : Nat} hk => okL_f h (k := k) (j := j) hk
  exact ⟨vt.fr f ⟨g (by decide), a (by decide)⟩, vo.fr f ⟨g (by decide), a (by decide)⟩, vf.fr f ⟨g (by decide), g (by decide)⟩, vg.fr f ⟨g (by decide), g (by decide), a (by decide), a (by decide), a (by decide), a (by decide), a (by decide)⟩, vb.fr f ⟨g (by decide), g (by decide), g (by decide), a (by decide), a (by decide)⟩, vs.fr f ⟨g (by decide), a (by decide)⟩⟩
