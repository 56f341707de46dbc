/-! words, and the steps that both sides take together -/
def wdP (ρ : St) (f e : Nat) (kd : Int) (n : Nat) (w : List Int) : Prop := kd = 1 ∧ e = f + n ∧ ∀ x, x < n → ρ 1 (f + x) = w.getD x 0
theorem TkS.sm {ρ : St} {f e : Nat} {kd : Int} (h : TkS ρ f e kd) (h1 : kd = 1) : ∀ k, f ≤ k → k < e → isSm (ρ 1 k) := by
  rcases h.2.2 with ⟨q, -⟩ | ⟨-, -, q⟩ | ⟨q, -⟩ | ⟨q, -⟩
  · omega
  · exact q
  · omega
  · omega
theorem sby_sm {x : Int} (h : isSm x) : sby x = x := by unfold isSm at h; unfold sby; rw [if_pos (by omega)]
theorem h_goodG {τ : St} (h : τ 0 24 = 0) {Q : Int → St → Prop} (hq : Q 1 τ) : wp_X12_good τ Q := by
  unfold wp_X12_good
  exact ⟨fun q => absurd h q, fun _ => hq⟩
theorem h_goodB {τ : St} (h : τ 0 24 ≠ 0) {Q : Int → St → Prop} (hq : Q 0 τ) : wp_X12_good τ Q := by
  unfold wp_X12_good
  exact ⟨fun _ => hq, fun q => absurd h q⟩
theorem g_is_s0 {ρ σ : St} (hT : Wt ρ) {f e : Nat} {kd : Int} (ht : TkS ρ f e kd) (hk : CKx ρ σ f e kd) : ∃ r : Int, (∀ Q : Int → St → Prop, Q r σ → wp_X6_isWord_s0 σ Q) ∧ (r = 0 ∨ r = 1) ∧ (r ≠ 0 ↔ wdP ρ f e kd 4 (strO 0).2.2.2) := by
  obtain ⟨k4, k5, k6, k7, kt⟩ := hk
  have hle := ht.2.1
  have h1000 := hT.2.1
  by_cases hn : kd = 1 ∧ e = f + 4
  rotate_left
  · refine ⟨0, fun Q h => ?_, Or.inl rfl, fun q => absurd rfl q, fun q => absurd ⟨q.1, q.2.1⟩ hn⟩
    unfold wp_X6_isWord_s0
    rw [k5, k6, k7, w32_of (by have := ht.1; omega) (by omega)]
    exact ⟨fun _ => h, fun q => ⟨fun q2 => absurd ⟨by omega, by omega⟩ hn, fun _ => h⟩⟩
  · obtain ⟨rfl, rfl⟩ := hn
    have ent : ∀ Q : Int → St → Prop, wp_X6_isWord_s0_l28 Q bigN 0 σ → wp_X6_isWord_s0 σ Q := by
      intro Q h
      unfold wp_X6_isWord_s0
      rw [k5, k6, k7, w32_of (by omega) (by omega)]
      exact ⟨fun q => absurd rfl q, fun _ => ⟨fun _ => h, fun q => absurd (by omega) q⟩⟩
    have one : ∀ (Q : Int → St → Prop) (m x : Nat), x < 4 → (ρ 1 (f + x) = (strO 0).2.2.2.getD x 0 → wp_X6_isWord_s0_l28 Q m ((x + 1 : Nat) : Int) σ) → (¬ ρ 1 (f + x) = (strO 0).2.2.2.getD x 0 → Q 0 σ) → wp_X6_isWord_s0_l28 Q (m + 1) (x : Int) σ := by
      intro Q m x hx hy hno
      unfold wp_X6_isWord_s0_l28
      rw [k6, w32_of (x := (f : Int) + x) (by omega) (by omega), show (f : Int) + x = ((f + x : Nat) : Int) by omega, Int.toNat_natCast, Int.toNat_natCast, kt (f + x) (by omega)]
      refine ⟨fun q => absurd q (by omega), fun _ => ⟨by omega, by omega, fun q v ev => ?_, hno⟩⟩
      rw [ev, w32_of (by omega) (by omega), show (x : Int) + 1 = ((x + 1 : Nat) : Int) by omega]
      exact hy q
    by_cases ha : ∀ x, x < 4 → ρ 1 (f + x) = (strO 0).2.2.2.getD x 0
    · refine ⟨1, fun Q h => ent Q ?_, Or.inr rfl, fun _ => ⟨rfl, rfl, ha⟩, fun _ => by decide⟩
      have lp : ∀ (d x m : Nat), x + d = 4 → d < m → wp_X6_isWord_s0_l28 Q m (x : Int) σ := by
        intro d
        induction d with
        | zero =>
          intro x m hx hm
          obtain ⟨m, rfl⟩ := suc_n hm
          unfold wp_X6_isWord_s0_l28
          exact ⟨fun _ => h, fun q => absurd (by omega) q⟩
        | succ d ih =>
          intro x m hx hm
          obtain ⟨m, rfl⟩ := suc_n hm
          exact one Q m x (by omega) (fun _ => ih (x + 1) m (by omega) (by omega)) (fun q => absurd (ha x (by omega)) q)
      exact lp 4 0 bigN (by omega) (by unfold bigN; omega)
    · refine ⟨0, fun Q h => ent Q ?_, Or.inl rfl, fun q => absurd rfl q, fun q => absurd q.2.2 ha⟩
      have lp : ∀ (d x m : Nat), x + d = 4 → d < m → (∀ y, y < x → ρ 1 (f + y) = (strO 0).2.2.2.getD y 0) → wp_X6_isWord_s0_l28 Q m (x : Int) σ := by
        intro d
        induction d with
        | zero =>
          intro x m hx hm hy
          exact absurd (fun y hy2 => hy y (by omega)) ha
        | succ d ih =>
          intro x m hx hm hy
          obtain ⟨m, rfl⟩ := suc_n hm
          refine one Q m x (by omega) (fun q => ih (x + 1) m (by omega) (by omega) (fun y hy2 => ?_)) (fun _ => h)
          by_cases e : y = x
          · rw [e]; exact q
          · exact hy y (by omega)
      exact lp 4 0 bigN (by omega) (by unfold bigN; omega) (fun y hy => by omega)
theorem h_is_s13 {ρ τ : St} (hT : Wt ρ) {f e : Nat} {kd : Int} (ht : TkS ρ f e kd) (hk : RK ρ τ f e kd) (hg : τ 0 24 = 0) : ∃ r : Int, (∀ Q : Int → St → Prop, Q r τ → wp_X12_is_s13 τ Q) ∧ (r = 0 ∨ r = 1) ∧ (r ≠ 0 ↔ wdP ρ f e kd 4 (strO 13).2.2.2) := by
  obtain ⟨k19, k21, k20, kt, t0, t1, t2, t3⟩ := hk
  have hle := ht.2.1
  have h1000 := hT.2.1
  have zero : ∀ (Q : Int → St → Prop) (m : Nat) (x : Int), Q 0 τ → wp_X12_is_s13_l39 Q (m + 1) 0 x τ := by
    intro Q m x h
    unfold wp_X12_is_s13_l39
    exact ⟨fun _ => ⟨Or.inl rfl, h⟩, fun _ => ⟨fun _ => ⟨Or.inl rfl, h⟩, fun q => absurd rfl q⟩⟩
  obtain ⟨m0, hm0⟩ := suc_n (n := bigN) (d := 0) (by unfold bigN; omega)
  have hk1 : kd = 1 ↔ τ 0 22 = 1 := by
    refine ⟨t1, fun q => ?_⟩
    rcases ht.2.2 with ⟨w, -⟩ | ⟨w, -⟩ | ⟨w, -⟩ | ⟨w, -⟩
    · have := t0 w; omega
    · exact w
    · have := t2 w; omega
    · obtain ⟨u1, u2, u3⟩ := t3 w
      by_cases v1 : 65 ≤ ρ 1 f ∧ ρ 1 f ≤ 76
      · have := u1 v1; omega
      · by_cases v2 : ρ 1 f = 61 ∨ ρ 1 f = 59
        · have := u2 v1 v2; omega
        · have := u3 v1 v2; omega
  by_cases hn : kd = 1 ∧ e = f + 4
  rotate_left
  · refine ⟨0, fun Q h => ?_, Or.inl rfl, fun q => absurd rfl q, fun q => absurd ⟨q.1, q.2.1⟩ hn⟩
    unfold wp_X12_is_s13 wp_X12_is_s13_b35 wp_X12_is_s13_b36
    refine h_goodG hg ⟨fun q => absurd q (by decide), fun _ => ?_⟩
    rw [k20, k21, w32_of (by have := ht.1; omega) (by omega), hm0]
    exact ⟨fun _ => zero Q m0 0 h, fun q => ⟨fun _ => zero Q m0 0 h, fun q2 => absurd ⟨hk1.2 (by omega), by omega⟩ hn⟩⟩
  · obtain ⟨rfl, rfl⟩ := hn
    have ent : ∀ Q : Int → St → Prop, wp_X12_is_s13_l39 Q bigN 1 0 τ → wp_X12_is_s13 τ Q := by
      intro Q h
      unfold wp_X12_is_s13 wp_X12_is_s13_b35 wp_X12_is_s13_b36
      refine h_goodG hg ⟨fun q => absurd q (by decide), fun _ => ?_⟩
      rw [k20, k21, w32_of (by omega) (by omega)]
      exact ⟨fun q => absurd (t1 rfl) q, fun _ => ⟨fun q => absurd (by omega) q, fun _ => h⟩⟩
    have hsm := ht.sm rfl
    have one : ∀ (Q : Int → St → Prop) (m x : Nat), x < 4 → (ρ 1 (f + x) = (strO 13).2.2.2.getD x 0 → wp_X12_is_s13_l39 Q (m + 1) 1 ((x + 1 : Nat) : Int) τ) → (¬ ρ 1 (f + x) = (strO 13).2.2.2.getD x 0 → Q 0 τ) → wp_X12_is_s13_l39 Q (m + 1 + 1) 1 (x : Int) τ := by
      intro Q m x hx hy hno
      have e12 : τ 12 (f + x) = ρ 1 (f + x) := by rw [kt (f + x) (by omega)]; exact sby_sm (hsm _ (by omega) (by omega))
      unfold wp_X12_is_s13_l39 wp_X12_is_s13_b75
      rw [k21, w32_of (x := (f : Int) + x) (by omega) (by omega), show (f : Int) + x = ((f + x : Nat) : Int) by omega, Int.toNat_natCast, Int.toNat_natCast, e12, w32_of (x := (x : Int) + 1) (by omega) (by omega), show (x : Int) + 1 = ((x + 1 : Nat) : Int) by omega]
      refine ⟨fun q => absurd q (by omega), fun _ => ⟨fun q => absurd q (by decide), fun _ => ⟨by omega, by omega, fun q v ev => ?_, fun q v ev => ?_⟩⟩⟩
      · rw [ev]; exact zero Q m _ (hno q)
      · rw [ev]; exact hy (Classical.byContradiction fun w => q w)
    by_cases ha : ∀ x, x < 4 → ρ 1 (f + x) = (strO 13).2.2.2.getD x 0
    · refine ⟨1, fun Q h => ent Q ?_, Or.inr rfl, fun _ => ⟨rfl, rfl, ha⟩, fun _ => by decide⟩
      have lp : ∀ (d x m : Nat), x + d = 4 → d + 1 < m → wp_X12_is_s13_l39 Q m 1 (x : Int) τ := by
        intro d
        induction d with
        | zero =>
          intro x m hx hm
          obtain ⟨m, rfl⟩ := suc_n hm
          unfold wp_X12_is_s13_l39
          exact ⟨fun _ => ⟨Or.inr rfl, h⟩, fun q => absurd (by omega) q⟩
        | succ d ih =>
          intro x m hx hm
          obtain ⟨m, rfl⟩ := suc_n hm
          obtain ⟨m, rfl⟩ := suc_n (n := m) (d := 0) (by omega)
          exact one Q m x (by omega) (fun _ => ih (x + 1) (m + 1) (by omega) (by omega)) (fun q => absurd (ha x (by omega)) q)
      exact lp 4 0 bigN (by omega) (by unfold bigN; omega)
    · refine ⟨0, fun Q h => ent Q ?_, Or.inl rfl, fun q => absurd rfl q, fun q => absurd q.2.2 ha⟩
      have lp : ∀ (d x m : Nat), x + d = 4 → d + 1 < m → (∀ y, y < x → ρ 1 (f + y) = (strO 13).2.2.2.getD y 0) → wp_X12_is_s13_l39 Q m 1 (x : Int) τ := by
        intro d
        induction d with
        | zero =>
          intro x m hx hm hy
          exact absurd (fun y hy2 => hy y (by omega)) ha
        | succ d ih =>
          intro x m hx hm hy
          obtain ⟨m, rfl⟩ := suc_n hm
          obtain ⟨m, rfl⟩ := suc_n (n := m) (d := 0) (by omega)
          refine one Q m x (by omega) (fun q => ih (x + 1) (m + 1) (by omega) (by omega) (fun y hy2 => ?_)) (fun _ => h)
          by_cases e : y = x
          · rw [e]; exact q
          · exact hy y (by omega)
      exact lp 4 0 bigN (by omega) (by unfold bigN; omega) (fun y hy => by omega)
theorem h_isB_s13 {τ : St} (hg : τ 0 24 ≠ 0) : ∀ Q : Int → St → Prop, Q 0 τ → wp_X12_is_s13 τ Q := by
  intro Q h
  obtain ⟨m0, hm0⟩ := suc_n (n := bigN) (d := 0) (by unfold bigN; omega)
  unfold wp_X12_is_s13 wp_X12_is_s13_b35 wp_X12_is_s13_b36
  refine h_goodB hg ⟨fun _ => ?_, fun q => absurd rfl q⟩
  rw [hm0]
  unfold wp_X12_is_s13_l39
  exact ⟨fun _ => ⟨Or.inl rfl, h⟩, fun _ => ⟨fun _ => ⟨Or.inl rfl, h⟩, fun q => absurd rfl q⟩⟩
theorem str_0_13 : (strO 0).2.2.2 = (strO 13).2.2.2 := by decide +kernel
theorem j_is_s0 {ρ σ τ : St} (hT : Wt ρ) {f e : Nat} {kd : Int} (ht : TkS ρ f e kd) (hc : CKx ρ σ f e kd) (hk : RK ρ τ f e kd) (hg : τ 0 24 = 0) : ∃ r : Int, (∀ Q : Int → St → Prop, Q r σ → wp_X6_isWord_s0 σ Q) ∧ (∀ Q : Int → St → Prop, Q r τ → wp_X12_is_s13 τ Q) ∧ (r = 0 ∨ r = 1) ∧ (r ≠ 0 → kd = 1) := by
  obtain ⟨r, a1, a2, a3⟩ := g_is_s0 hT ht hc
  obtain ⟨r2, b1, b2, b3⟩ := h_is_s13 hT ht hk hg
  rw [← str_0_13] at b3
  have e : r2 = r := by
    have : r ≠ 0 ↔ r2 ≠ 0 := a3.trans b3.symm
    omega
  exact ⟨r, a1, by rw [← e]; exact b1, a2, fun q => (a3.1 q).1⟩
theorem g_is_s3 {ρ σ : St} (hT : Wt ρ) {f e : Nat} {kd : Int} (ht : TkS ρ f e kd) (hk : CKx ρ σ f e kd) : ∃ r : Int, (∀ Q : Int → St → Prop, Q r σ → wp_X6_isWord_s3 σ Q) ∧ (r = 0 ∨ r = 1) ∧ (r ≠ 0 ↔ wdP ρ f e kd 5 (strO 3).2.2.2) := by
  obtain ⟨k4, k5, k6, k7, kt⟩ := hk
  have hle := ht.2.1
  have h1000 := hT.2.1
  by_cases hn : kd = 1 ∧ e = f + 5
  rotate_left
  · refine ⟨0, fun Q h => ?_, Or.inl rfl, fun q => absurd rfl q, fun q => absurd ⟨q.1, q.2.1⟩ hn⟩
    unfold wp_X6_isWord_s3
    rw [k5, k6, k7, w32_of (by have := ht.1; omega) (by omega)]
    exact ⟨fun _ => h, fun q => ⟨fun q2 => absurd ⟨by omega, by omega⟩ hn, fun _ => h⟩⟩
  · obtain ⟨rfl, rfl⟩ := hn
    have ent : ∀ Q : Int → St → Prop, wp_X6_isWord_s3_l28 Q bigN 0 σ → wp_X6_isWord_s3 σ Q := by
      intro Q h
      unfold wp_X6_isWord_s3
      rw [k5, k6, k7, w32_of (by omega) (by omega)]
      exact ⟨fun q => absurd rfl q, fun _ => ⟨fun _ => h, fun q => absurd (by omega) q⟩⟩
    have one : ∀ (Q : Int → St → Prop) (m x : Nat), x < 5 → (ρ 1 (f + x) = (strO 3).2.2.2.getD x 0 → wp_X6_isWord_s3_l28 Q m ((x + 1 : Nat) : Int) σ) → (¬ ρ 1 (f + x) = (strO 3).2.2.2.getD x 0 → Q 0 σ) → wp_X6_isWord_s3_l28 Q (m + 1) (x : Int) σ := by
      intro Q m x hx hy hno
      unfold wp_X6_isWord_s3_l28
      rw [k6, w32_of (x := (f : Int) + x) (by omega) (by omega), show (f : Int) + x = ((f + x : Nat) : Int) by omega, Int.toNat_natCast, Int.toNat_natCast, kt (f + x) (by omega)]
      refine ⟨fun q => absurd q (by omega), fun _ => ⟨by omega, by omega, fun q v ev => ?_, hno⟩⟩
      rw [ev, w32_of (by omega) (by omega), show (x : Int) + 1 = ((x + 1 : Nat) : Int) by omega]
      exact hy q
    by_cases ha : ∀ x, x < 5 → ρ 1 (f + x) = (strO 3).2.2.2.getD x 0
    · refine ⟨1, fun Q h => ent Q ?_, Or.inr rfl, fun _ => ⟨rfl, rfl, ha⟩, fun _ => by decide⟩
      have lp : ∀ (d x m : Nat), x + d = 5 → d < m → wp_X6_isWord_s3_l28 Q m (x : Int) σ := by
        intro d
        induction d with
        | zero =>
          intro x m hx hm
          obtain ⟨m, rfl⟩ := suc_n hm
          unfold wp_X6_isWord_s3_l28
          exact ⟨fun _ => h, fun q => absurd (by omega) q⟩
        | succ d ih =>
          intro x m hx hm
          obtain ⟨m, rfl⟩ := suc_n hm
          exact one Q m x (by omega) (fun _ => ih (x + 1) m (by omega) (by omega)) (fun q => absurd (ha x (by omega)) q)
      exact lp 5 0 bigN (by omega) (by unfold bigN; omega)
    · refine ⟨0, fun Q h => ent Q ?_, Or.inl rfl, fun q => absurd rfl q, fun q => absurd q.2.2 ha⟩
      have lp : ∀ (d x m : Nat), x + d = 5 → d < m → (∀ y, y < x → ρ 1 (f + y) = (strO 3).2.2.2.getD y 0) → wp_X6_isWord_s3_l28 Q m (x : Int) σ := by
        intro d
        induction d with
        | zero =>
          intro x m hx hm hy
          exact absurd (fun y hy2 => hy y (by omega)) ha
        | succ d ih =>
          intro x m hx hm hy
          obtain ⟨m, rfl⟩ := suc_n hm
          refine one Q m x (by omega) (fun q => ih (x + 1) m (by omega) (by omega) (fun y hy2 => ?_)) (fun _ => h)
          by_cases e : y = x
          · rw [e]; exact q
          · exact hy y (by omega)
      exact lp 5 0 bigN (by omega) (by unfold bigN; omega) (fun y hy => by omega)
theorem h_is_s8 {ρ τ : St} (hT : Wt ρ) {f e : Nat} {kd : Int} (ht : TkS ρ f e kd) (hk : RK ρ τ f e kd) (hg : τ 0 24 = 0) : ∃ r : Int, (∀ Q : Int → St → Prop, Q r τ → wp_X12_is_s8 τ Q) ∧ (r = 0 ∨ r = 1) ∧ (r ≠ 0 ↔ wdP ρ f e kd 5 (strO 8).2.2.2) := by
  obtain ⟨k19, k21, k20, kt, t0, t1, t2, t3⟩ := hk
  have hle := ht.2.1
  have h1000 := hT.2.1
  have zero : ∀ (Q : Int → St → Prop) (m : Nat) (x : Int), Q 0 τ → wp_X12_is_s8_l39 Q (m + 1) 0 x τ := by
    intro Q m x h
    unfold wp_X12_is_s8_l39
    exact ⟨fun _ => ⟨Or.inl rfl, h⟩, fun _ => ⟨fun _ => ⟨Or.inl rfl, h⟩, fun q => absurd rfl q⟩⟩
  obtain ⟨m0, hm0⟩ := suc_n (n := bigN) (d := 0) (by unfold bigN; omega)
  have hk1 : kd = 1 ↔ τ 0 22 = 1 := by
    refine ⟨t1, fun q => ?_⟩
    rcases ht.2.2 with ⟨w, -⟩ | ⟨w, -⟩ | ⟨w, -⟩ | ⟨w, -⟩
    · have := t0 w; omega
    · exact w
    · have := t2 w; omega
    · obtain ⟨u1, u2, u3⟩ := t3 w
      by_cases v1 : 65 ≤ ρ 1 f ∧ ρ 1 f ≤ 76
      · have := u1 v1; omega
      · by_cases v2 : ρ 1 f = 61 ∨ ρ 1 f = 59
        · have := u2 v1 v2; omega
        · have := u3 v1 v2; omega
  by_cases hn : kd = 1 ∧ e = f + 5
  rotate_left
  · refine ⟨0, fun Q h => ?_, Or.inl rfl, fun q => absurd rfl q, fun q => absurd ⟨q.1, q.2.1⟩ hn⟩
    unfold wp_X12_is_s8 wp_X12_is_s8_b35 wp_X12_is_s8_b36
    refine h_goodG hg ⟨fun q => absurd q (by decide), fun _ => ?_⟩
    rw [k20, k21, w32_of (by have := ht.1; omega) (by omega), hm0]
    exact ⟨fun _ => zero Q m0 0 h, fun q => ⟨fun _ => zero Q m0 0 h, fun q2 => absurd ⟨hk1.2 (by omega), by omega⟩ hn⟩⟩
  · obtain ⟨rfl, rfl⟩ := hn
    have ent : ∀ Q : Int → St → Prop, wp_X12_is_s8_l39 Q bigN 1 0 τ → wp_X12_is_s8 τ Q := by
      intro Q h
      unfold wp_X12_is_s8 wp_X12_is_s8_b35 wp_X12_is_s8_b36
      refine h_goodG hg ⟨fun q => absurd q (by decide), fun _ => ?_⟩
      rw [k20, k21, w32_of (by omega) (by omega)]
      exact ⟨fun q => absurd (t1 rfl) q, fun _ => ⟨fun q => absurd (by omega) q, fun _ => h⟩⟩
    have hsm := ht.sm rfl
    have one : ∀ (Q : Int → St → Prop) (m x : Nat), x < 5 → (ρ 1 (f + x) = (strO 8).2.2.2.getD x 0 → wp_X12_is_s8_l39 Q (m + 1) 1 ((x + 1 : Nat) : Int) τ) → (¬ ρ 1 (f + x) = (strO 8).2.2.2.getD x 0 → Q 0 τ) → wp_X12_is_s8_l39 Q (m + 1 + 1) 1 (x : Int) τ := by
      intro Q m x hx hy hno
      have e12 : τ 12 (f + x) = ρ 1 (f + x) := by rw [kt (f + x) (by omega)]; exact sby_sm (hsm _ (by omega) (by omega))
      unfold wp_X12_is_s8_l39 wp_X12_is_s8_b75
      rw [k21, w32_of (x := (f : Int) + x) (by omega) (by omega), show (f : Int) + x = ((f + x : Nat) : Int) by omega, Int.toNat_natCast, Int.toNat_natCast, e12, w32_of (x := (x : Int) + 1) (by omega) (by omega), show (x : Int) + 1 = ((x + 1 : Nat) : Int) by omega]
      refine ⟨fun q => absurd q (by omega), fun _ => ⟨fun q => absurd q (by decide), fun _ => ⟨by omega, by omega, fun q v ev => ?_, fun q v ev => ?_⟩⟩⟩
      · rw [ev]; exact zero Q m _ (hno q)
      · rw [ev]; exact hy (Classical.byContradiction fun w => q w)
    by_cases ha : ∀ x, x < 5 → ρ 1 (f + x) = (strO 8).2.2.2.getD x 0
    · refine ⟨1, fun Q h => ent Q ?_, Or.inr rfl, fun _ => ⟨rfl, rfl, ha⟩, fun _ => by decide⟩
      have lp : ∀ (d x m : Nat), x + d = 5 → d + 1 < m → wp_X12_is_s8_l39 Q m 1 (x : Int) τ := by
        intro d
        induction d with
        | zero =>
          intro x m hx hm
          obtain ⟨m, rfl⟩ := suc_n hm
          unfold wp_X12_is_s8_l39
          exact ⟨fun _ => ⟨Or.inr rfl, h⟩, fun q => absurd (by omega) q⟩
        | succ d ih =>
          intro x m hx hm
          obtain ⟨m, rfl⟩ := suc_n hm
          obtain ⟨m, rfl⟩ := suc_n (n := m) (d := 0) (by omega)
          exact one Q m x (by omega) (fun _ => ih (x + 1) (m + 1) (by omega) (by omega)) (fun q => absurd (ha x (by omega)) q)
      exact lp 5 0 bigN (by omega) (by unfold bigN; omega)
    · refine ⟨0, fun Q h => ent Q ?_, Or.inl rfl, fun q => absurd rfl q, fun q => absurd q.2.2 ha⟩
      have lp : ∀ (d x m : Nat), x + d = 5 → d + 1 < m → (∀ y, y < x → ρ 1 (f + y) = (strO 8).2.2.2.getD y 0) → wp_X12_is_s8_l39 Q m 1 (x : Int) τ := by
        intro d
        induction d with
        | zero =>
          intro x m hx hm hy
          exact absurd (fun y hy2 => hy y (by omega)) ha
        | succ d ih =>
          intro x m hx hm hy
          obtain ⟨m, rfl⟩ := suc_n hm
          obtain ⟨m, rfl⟩ := suc_n (n := m) (d := 0) (by omega)
          refine one Q m x (by omega) (fun q => ih (x + 1) (m + 1) (by omega) (by omega) (fun y hy2 => ?_)) (fun _ => h)
          by_cases e : y = x
          · rw [e]; exact q
          · exact hy y (by omega)
      exact lp 5 0 bigN (by omega) (by unfold bigN; omega) (fun y hy => by omega)
theorem h_isB_s8 {τ : St} (hg : τ 0 24 ≠ 0) : ∀ Q : Int → St → Prop, Q 0 τ → wp_X12_is_s8 τ Q := by
  intro Q h
  obtain ⟨m0, hm0⟩ := suc_n (n := bigN) (d := 0) (by unfold bigN; omega)
  unfold wp_X12_is_s8 wp_X12_is_s8_b35 wp_X12_is_s8_b36
  refine h_goodB hg ⟨fun _ => ?_, fun q => absurd rfl q⟩
  rw [hm0]
  unfold wp_X12_is_s8_l39
  exact ⟨fun _ => ⟨Or.inl rfl, h⟩, fun _ => ⟨fun _ => ⟨Or.inl rfl, h⟩, fun q => absurd rfl q⟩⟩
theorem str_3_8 : (strO 3).2.2.2 = (strO 8).2.2.2 := by decide +kernel
theorem j_is_s3 {ρ σ τ : St} (hT : Wt ρ) {f e : Nat} {kd : Int} (ht : TkS ρ f e kd) (hc : CKx ρ σ f e kd) (hk : RK ρ τ f e kd) (hg : τ 0 24 = 0) : ∃ r : Int, (∀ Q : Int → St → Prop, Q r σ → wp_X6_isWord_s3 σ Q) ∧ (∀ Q : Int → St → Prop, Q r τ → wp_X12_is_s8 τ Q) ∧ (r = 0 ∨ r = 1) ∧ (r ≠ 0 → kd = 1) := by
  obtain ⟨r, a1, a2, a3⟩ := g_is_s3 hT ht hc
  obtain ⟨r2, b1, b2, b3⟩ := h_is_s8 hT ht hk hg
  rw [← str_3_8] at b3
  have e : r2 = r := by
    have : r ≠ 0 ↔ r2 ≠ 0 := a3.trans b3.symm
    omega
  exact ⟨r, a1, by rw [← e]; exact b1, a2, fun q => (a3.1 q).1⟩
theorem g_is_s4 {ρ σ : St} (hT : Wt ρ) {f e : Nat} {kd : Int} (ht : TkS ρ f e kd) (hk : CKx ρ σ f e kd) : ∃ r : Int, (∀ Q : Int → St → Prop, Q r σ → wp_X6_isWord_s4 σ Q) ∧ (r = 0 ∨ r = 1) ∧ (r ≠ 0 ↔ wdP ρ f e kd 4 (strO 4).2.2.2) := by
  obtain ⟨k4, k5, k6, k7, kt⟩ := hk
  have hle := ht.2.1
  have h1000 := hT.2.1
  by_cases hn : kd = 1 ∧ e = f + 4
  rotate_left
  · refine ⟨0, fun Q h => ?_, Or.inl rfl, fun q => absurd rfl q, fun q => absurd ⟨q.1, q.2.1⟩ hn⟩
    unfold wp_X6_isWord_s4
    rw [k5, k6, k7, w32_of (by have := ht.1; omega) (by omega)]
    exact ⟨fun _ => h, fun q => ⟨fun q2 => absurd ⟨by omega, by omega⟩ hn, fun _ => h⟩⟩
  · obtain ⟨rfl, rfl⟩ := hn
    have ent : ∀ Q : Int → St → Prop, wp_X6_isWord_s4_l28 Q bigN 0 σ → wp_X6_isWord_s4 σ Q := by
      intro Q h
      unfold wp_X6_isWord_s4
      rw [k5, k6, k7, w32_of (by omega) (by omega)]
      exact ⟨fun q => absurd rfl q, fun _ => ⟨fun _ => h, fun q => absurd (by omega) q⟩⟩
    have one : ∀ (Q : Int → St → Prop) (m x : Nat), x < 4 → (ρ 1 (f + x) = (strO 4).2.2.2.getD x 0 → wp_X6_isWord_s4_l28 Q m ((x + 1 : Nat) : Int) σ) → (¬ ρ 1 (f + x) = (strO 4).2.2.2.getD x 0 → Q 0 σ) → wp_X6_isWord_s4_l28 Q (m + 1) (x : Int) σ := by
      intro Q m x hx hy hno
      unfold wp_X6_isWord_s4_l28
      rw [k6, w32_of (x := (f : Int) + x) (by omega) (by omega), show (f : Int) + x = ((f + x : Nat) : Int) by omega, Int.toNat_natCast, Int.toNat_natCast, kt (f + x) (by omega)]
      refine ⟨fun q => absurd q (by omega), fun _ => ⟨by omega, by omega, fun q v ev => ?_, hno⟩⟩
      rw [ev, w32_of (by omega) (by omega), show (x : Int) + 1 = ((x + 1 : Nat) : Int) by omega]
      exact hy q
    by_cases ha : ∀ x, x < 4 → ρ 1 (f + x) = (strO 4).2.2.2.getD x 0
    · refine ⟨1, fun Q h => ent Q ?_, Or.inr rfl, fun _ => ⟨rfl, rfl, ha⟩, fun _ => by decide⟩
      have lp : ∀ (d x m : Nat), x + d = 4 → d < m → wp_X6_isWord_s4_l28 Q m (x : Int) σ := by
        intro d
        induction d with
        | zero =>
          intro x m hx hm
          obtain ⟨m, rfl⟩ := suc_n hm
          unfold wp_X6_isWord_s4_l28
          exact ⟨fun _ => h, fun q => absurd (by omega) q⟩
        | succ d ih =>
          intro x m hx hm
          obtain ⟨m, rfl⟩ := suc_n hm
          exact one Q m x (by omega) (fun _ => ih (x + 1) m (by omega) (by omega)) (fun q => absurd (ha x (by omega)) q)
      exact lp 4 0 bigN (by omega) (by unfold bigN; omega)
    · refine ⟨0, fun Q h => ent Q ?_, Or.inl rfl, fun q => absurd rfl q, fun q => absurd q.2.2 ha⟩
      have lp : ∀ (d x m : Nat), x + d = 4 → d < m → (∀ y, y < x → ρ 1 (f + y) = (strO 4).2.2.2.getD y 0) → wp_X6_isWord_s4_l28 Q m (x : Int) σ := by
        intro d
        induction d with
        | zero =>
          intro x m hx hm hy
          exact absurd (fun y hy2 => hy y (by omega)) ha
        | succ d ih =>
          intro x m hx hm hy
          obtain ⟨m, rfl⟩ := suc_n hm
          refine one Q m x (by omega) (fun q => ih (x + 1) m (by omega) (by omega) (fun y hy2 => ?_)) (fun _ => h)
          by_cases e : y = x
          · rw [e]; exact q
          · exact hy y (by omega)
      exact lp 4 0 bigN (by omega) (by unfold bigN; omega) (fun y hy => by omega)
theorem h_is_s9 {ρ τ : St} (hT : Wt ρ) {f e : Nat} {kd : Int} (ht : TkS ρ f e kd) (hk : RK ρ τ f e kd) (hg : τ 0 24 = 0) : ∃ r : Int, (∀ Q : Int → St → Prop, Q r τ → wp_X12_is_s9 τ Q) ∧ (r = 0 ∨ r = 1) ∧ (r ≠ 0 ↔ wdP ρ f e kd 4 (strO 9).2.2.2) := by
  obtain ⟨k19, k21, k20, kt, t0, t1, t2, t3⟩ := hk
  have hle := ht.2.1
  have h1000 := hT.2.1
  have zero : ∀ (Q : Int → St → Prop) (m : Nat) (x : Int), Q 0 τ → wp_X12_is_s9_l39 Q (m + 1) 0 x τ := by
    intro Q m x h
    unfold wp_X12_is_s9_l39
    exact ⟨fun _ => ⟨Or.inl rfl, h⟩, fun _ => ⟨fun _ => ⟨Or.inl rfl, h⟩, fun q => absurd rfl q⟩⟩
  obtain ⟨m0, hm0⟩ := suc_n (n := bigN) (d := 0) (by unfold bigN; omega)
  have hk1 : kd = 1 ↔ τ 0 22 = 1 := by
    refine ⟨t1, fun q => ?_⟩
    rcases ht.2.2 with ⟨w, -⟩ | ⟨w, -⟩ | ⟨w, -⟩ | ⟨w, -⟩
    · have := t0 w; omega
    · exact w
    · have := t2 w; omega
    · obtain ⟨u1, u2, u3⟩ := t3 w
      by_cases v1 : 65 ≤ ρ 1 f ∧ ρ 1 f ≤ 76
      · have := u1 v1; omega
      · by_cases v2 : ρ 1 f = 61 ∨ ρ 1 f = 59
        · have := u2 v1 v2; omega
        · have := u3 v1 v2; omega
  by_cases hn : kd = 1 ∧ e = f + 4
  rotate_left
  · refine ⟨0, fun Q h => ?_, Or.inl rfl, fun q => absurd rfl q, fun q => absurd ⟨q.1, q.2.1⟩ hn⟩
    unfold wp_X12_is_s9 wp_X12_is_s9_b35 wp_X12_is_s9_b36
    refine h_goodG hg ⟨fun q => absurd q (by decide), fun _ => ?_⟩
    rw [k20, k21, w32_of (by have := ht.1; omega) (by omega), hm0]
    exact ⟨fun _ => zero Q m0 0 h, fun q => ⟨fun _ => zero Q m0 0 h, fun q2 => absurd ⟨hk1.2 (by omega), by omega⟩ hn⟩⟩
  · obtain ⟨rfl, rfl⟩ := hn
    have ent : ∀ Q : Int → St → Prop, wp_X12_is_s9_l39 Q bigN 1 0 τ → wp_X12_is_s9 τ Q := by
      intro Q h
      unfold wp_X12_is_s9 wp_X12_is_s9_b35 wp_X12_is_s9_b36
      refine h_goodG hg ⟨fun q => absurd q (by decide), fun _ => ?_⟩
      rw [k20, k21, w32_of (by omega) (by omega)]
      exact ⟨fun q => absurd (t1 rfl) q, fun _ => ⟨fun q => absurd (by omega) q, fun _ => h⟩⟩
    have hsm := ht.sm rfl
    have one : ∀ (Q : Int → St → Prop) (m x : Nat), x < 4 → (ρ 1 (f + x) = (strO 9).2.2.2.getD x 0 → wp_X12_is_s9_l39 Q (m + 1) 1 ((x + 1 : Nat) : Int) τ) → (¬ ρ 1 (f + x) = (strO 9).2.2.2.getD x 0 → Q 0 τ) → wp_X12_is_s9_l39 Q (m + 1 + 1) 1 (x : Int) τ := by
      intro Q m x hx hy hno
      have e12 : τ 12 (f + x) = ρ 1 (f + x) := by rw [kt (f + x) (by omega)]; exact sby_sm (hsm _ (by omega) (by omega))
      unfold wp_X12_is_s9_l39 wp_X12_is_s9_b75
      rw [k21, w32_of (x := (f : Int) + x) (by omega) (by omega), show (f : Int) + x = ((f + x : Nat) : Int) by omega, Int.toNat_natCast, Int.toNat_natCast, e12, w32_of (x := (x : Int) + 1) (by omega) (by omega), show (x : Int) + 1 = ((x + 1 : Nat) : Int) by omega]
      refine ⟨fun q => absurd q (by omega), fun _ => ⟨fun q => absurd q (by decide), fun _ => ⟨by omega, by omega, fun q v ev => ?_, fun q v ev => ?_⟩⟩⟩
      · rw [ev]; exact zero Q m _ (hno q)
      · rw [ev]; exact hy (Classical.byContradiction fun w => q w)
    by_cases ha : ∀ x, x < 4 → ρ 1 (f + x) = (strO 9).2.2.2.getD x 0
    · refine ⟨1, fun Q h => ent Q ?_, Or.inr rfl, fun _ => ⟨rfl, rfl, ha⟩, fun _ => by decide⟩
      have lp : ∀ (d x m : Nat), x + d = 4 → d + 1 < m → wp_X12_is_s9_l39 Q m 1 (x : Int) τ := by
        intro d
        induction d with
        | zero =>
          intro x m hx hm
          obtain ⟨m, rfl⟩ := suc_n hm
          unfold wp_X12_is_s9_l39
          exact ⟨fun _ => ⟨Or.inr rfl, h⟩, fun q => absurd (by omega) q⟩
        | succ d ih =>
          intro x m hx hm
          obtain ⟨m, rfl⟩ := suc_n hm
          obtain ⟨m, rfl⟩ := suc_n (n := m) (d := 0) (by omega)
          exact one Q m x (by omega) (fun _ => ih (x + 1) (m + 1) (by omega) (by omega)) (fun q => absurd (ha x (by omega)) q)
      exact lp 4 0 bigN (by omega) (by unfold bigN; omega)
    · refine ⟨0, fun Q h => ent Q ?_, Or.inl rfl, fun q => absurd rfl q, fun q => absurd q.2.2 ha⟩
      have lp : ∀ (d x m : Nat), x + d = 4 → d + 1 < m → (∀ y, y < x → ρ 1 (f + y) = (strO 9).2.2.2.getD y 0) → wp_X12_is_s9_l39 Q m 1 (x : Int) τ := by
        intro d
        induction d with
        | zero =>
          intro x m hx hm hy
          exact absurd (fun y hy2 => hy y (by omega)) ha
        | succ d ih =>
          intro x m hx hm hy
          obtain ⟨m, rfl⟩ := suc_n hm
          obtain ⟨m, rfl⟩ := suc_n (n := m) (d := 0) (by omega)
          refine one Q m x (by omega) (fun q => ih (x + 1) (m + 1) (by omega) (by omega) (fun y hy2 => ?_)) (fun _ => h)
          by_cases e : y = x
          · rw [e]; exact q
          · exact hy y (by omega)
      exact lp 4 0 bigN (by omega) (by unfold bigN; omega) (fun y hy => by omega)
theorem h_isB_s9 {τ : St} (hg : τ 0 24 ≠ 0) : ∀ Q : Int → St → Prop, Q 0 τ → wp_X12_is_s9 τ Q := by
  intro Q h
  obtain ⟨m0, hm0⟩ := suc_n (n := bigN) (d := 0) (by unfold bigN; omega)
  unfold wp_X12_is_s9 wp_X12_is_s9_b35 wp_X12_is_s9_b36
  refine h_goodB hg ⟨fun _ => ?_, fun q => absurd rfl q⟩
  rw [hm0]
  unfold wp_X12_is_s9_l39
  exact ⟨fun _ => ⟨Or.inl rfl, h⟩, fun _ => ⟨fun _ => ⟨Or.inl rfl, h⟩, fun q => absurd rfl q⟩⟩
theorem str_4_9 : (strO 4).2.2.2 = (strO 9).2.2.2 := by decide +kernel
theorem j_is_s4 {ρ σ τ : St} (hT : Wt ρ) {f e : Nat} {kd : Int} (ht : TkS ρ f e kd) (hc : CKx ρ σ f e kd) (hk : RK ρ τ f e kd) (hg : τ 0 24 = 0) : ∃ r : Int, (∀ Q : Int → St → Prop, Q r σ → wp_X6_isWord_s4 σ Q) ∧ (∀ Q : Int → St → Prop, Q r τ → wp_X12_is_s9 τ Q) ∧ (r = 0 ∨ r = 1) ∧ (r ≠ 0 → kd = 1) := by
  obtain ⟨r, a1, a2, a3⟩ := g_is_s4 hT ht hc
  obtain ⟨r2, b1, b2, b3⟩ := h_is_s9 hT ht hk hg
  rw [← str_4_9] at b3
  have e : r2 = r := by
    have : r ≠ 0 ↔ r2 ≠ 0 := a3.trans b3.symm
    omega
  exact ⟨r, a1, by rw [← e]; exact b1, a2, fun q => (a3.1 q).1⟩
theorem g_is_s5 {ρ σ : St} (hT : Wt ρ) {f e : Nat} {kd : Int} (ht : TkS ρ f e kd) (hk : CKx ρ σ f e kd) : ∃ r : Int, (∀ Q : Int → St → Prop, Q r σ → wp_X6_isWord_s5 σ Q) ∧ (r = 0 ∨ r = 1) ∧ (r ≠ 0 ↔ wdP ρ f e kd 3 (strO 5).2.2.2) := by
  obtain ⟨k4, k5, k6, k7, kt⟩ := hk
  have hle := ht.2.1
  have h1000 := hT.2.1
  by_cases hn : kd = 1 ∧ e = f + 3
  rotate_left
  · refine ⟨0, fun Q h => ?_, Or.inl rfl, fun q => absurd rfl q, fun q => absurd ⟨q.1, q.2.1⟩ hn⟩
    unfold wp_X6_isWord_s5
    rw [k5, k6, k7, w32_of (by have := ht.1; omega) (by omega)]
    exact ⟨fun _ => h, fun q => ⟨fun q2 => absurd ⟨by omega, by omega⟩ hn, fun _ => h⟩⟩
  · obtain ⟨rfl, rfl⟩ := hn
    have ent : ∀ Q : Int → St → Prop, wp_X6_isWord_s5_l28 Q bigN 0 σ → wp_X6_isWord_s5 σ Q := by
      intro Q h
      unfold wp_X6_isWord_s5
      rw [k5, k6, k7, w32_of (by omega) (by omega)]
      exact ⟨fun q => absurd rfl q, fun _ => ⟨fun _ => h, fun q => absurd (by omega) q⟩⟩
    have one : ∀ (Q : Int → St → Prop) (m x : Nat), x < 3 → (ρ 1 (f + x) = (strO 5).2.2.2.getD x 0 → wp_X6_isWord_s5_l28 Q m ((x + 1 : Nat) : Int) σ) → (¬ ρ 1 (f + x) = (strO 5).2.2.2.getD x 0 → Q 0 σ) → wp_X6_isWord_s5_l28 Q (m + 1) (x : Int) σ := by
      intro Q m x hx hy hno
      unfold wp_X6_isWord_s5_l28
      rw [k6, w32_of (x := (f : Int) + x) (by omega) (by omega), show (f : Int) + x = ((f + x : Nat) : Int) by omega, Int.toNat_natCast, Int.toNat_natCast, kt (f + x) (by omega)]
      refine ⟨fun q => absurd q (by omega), fun _ => ⟨by omega, by omega, fun q v ev => ?_, hno⟩⟩
      rw [ev, w32_of (by omega) (by omega), show (x : Int) + 1 = ((x + 1 : Nat) : Int) by omega]
      exact hy q
    by_cases ha : ∀ x, x < 3 → ρ 1 (f + x) = (strO 5).2.2.2.getD x 0
    · refine ⟨1, fun Q h => ent Q ?_, Or.inr rfl, fun _ => ⟨rfl, rfl, ha⟩, fun _ => by decide⟩
      have lp : ∀ (d x m : Nat), x + d = 3 → d < m → wp_X6_isWord_s5_l28 Q m (x : Int) σ := by
        intro d
        induction d with
        | zero =>
          intro x m hx hm
          obtain ⟨m, rfl⟩ := suc_n hm
          unfold wp_X6_isWord_s5_l28
          exact ⟨fun _ => h, fun q => absurd (by omega) q⟩
        | succ d ih =>
          intro x m hx hm
          obtain ⟨m, rfl⟩ := suc_n hm
          exact one Q m x (by omega) (fun _ => ih (x + 1) m (by omega) (by omega)) (fun q => absurd (ha x (by omega)) q)
      exact lp 3 0 bigN (by omega) (by unfold bigN; omega)
    · refine ⟨0, fun Q h => ent Q ?_, Or.inl rfl, fun q => absurd rfl q, fun q => absurd q.2.2 ha⟩
      have lp : ∀ (d x m : Nat), x + d = 3 → d < m → (∀ y, y < x → ρ 1 (f + y) = (strO 5).2.2.2.getD y 0) → wp_X6_isWord_s5_l28 Q m (x : Int) σ := by
        intro d
        induction d with
        | zero =>
          intro x m hx hm hy
          exact absurd (fun y hy2 => hy y (by omega)) ha
        | succ d ih =>
          intro x m hx hm hy
          obtain ⟨m, rfl⟩ := suc_n hm
          refine one Q m x (by omega) (fun q => ih (x + 1) m (by omega) (by omega) (fun y hy2 => ?_)) (fun _ => h)
          by_cases e : y = x
          · rw [e]; exact q
          · exact hy y (by omega)
      exact lp 3 0 bigN (by omega) (by unfold bigN; omega) (fun y hy => by omega)
theorem h_is_s10 {ρ τ : St} (hT : Wt ρ) {f e : Nat} {kd : Int} (ht : TkS ρ f e kd) (hk : RK ρ τ f e kd) (hg : τ 0 24 = 0) : ∃ r : Int, (∀ Q : Int → St → Prop, Q r τ → wp_X12_is_s10 τ Q) ∧ (r = 0 ∨ r = 1) ∧ (r ≠ 0 ↔ wdP ρ f e kd 3 (strO 10).2.2.2) := by
  obtain ⟨k19, k21, k20, kt, t0, t1, t2, t3⟩ := hk
  have hle := ht.2.1
  have h1000 := hT.2.1
  have zero : ∀ (Q : Int → St → Prop) (m : Nat) (x : Int), Q 0 τ → wp_X12_is_s10_l39 Q (m + 1) 0 x τ := by
    intro Q m x h
    unfold wp_X12_is_s10_l39
    exact ⟨fun _ => ⟨Or.inl rfl, h⟩, fun _ => ⟨fun _ => ⟨Or.inl rfl, h⟩, fun q => absurd rfl q⟩⟩
  obtain ⟨m0, hm0⟩ := suc_n (n := bigN) (d := 0) (by unfold bigN; omega)
  have hk1 : kd = 1 ↔ τ 0 22 = 1 := by
    refine ⟨t1, fun q => ?_⟩
    rcases ht.2.2 with ⟨w, -⟩ | ⟨w, -⟩ | ⟨w, -⟩ | ⟨w, -⟩
    · have := t0 w; omega
    · exact w
    · have := t2 w; omega
    · obtain ⟨u1, u2, u3⟩ := t3 w
      by_cases v1 : 65 ≤ ρ 1 f ∧ ρ 1 f ≤ 76
      · have := u1 v1; omega
      · by_cases v2 : ρ 1 f = 61 ∨ ρ 1 f = 59
        · have := u2 v1 v2; omega
        · have := u3 v1 v2; omega
  by_cases hn : kd = 1 ∧ e = f + 3
  rotate_left
  · refine ⟨0, fun Q h => ?_, Or.inl rfl, fun q => absurd rfl q, fun q => absurd ⟨q.1, q.2.1⟩ hn⟩
    unfold wp_X12_is_s10 wp_X12_is_s10_b35 wp_X12_is_s10_b36
    refine h_goodG hg ⟨fun q => absurd q (by decide), fun _ => ?_⟩
    rw [k20, k21, w32_of (by have := ht.1; omega) (by omega), hm0]
    exact ⟨fun _ => zero Q m0 0 h, fun q => ⟨fun _ => zero Q m0 0 h, fun q2 => absurd ⟨hk1.2 (by omega), by omega⟩ hn⟩⟩
  · obtain ⟨rfl, rfl⟩ := hn
    have ent : ∀ Q : Int → St → Prop, wp_X12_is_s10_l39 Q bigN 1 0 τ → wp_X12_is_s10 τ Q := by
      intro Q h
      unfold wp_X12_is_s10 wp_X12_is_s10_b35 wp_X12_is_s10_b36
      refine h_goodG hg ⟨fun q => absurd q (by decide), fun _ => ?_⟩
      rw [k20, k21, w32_of (by omega) (by omega)]
      exact ⟨fun q => absurd (t1 rfl) q, fun _ => ⟨fun q => absurd (by omega) q, fun _ => h⟩⟩
    have hsm := ht.sm rfl
    have one : ∀ (Q : Int → St → Prop) (m x : Nat), x < 3 → (ρ 1 (f + x) = (strO 10).2.2.2.getD x 0 → wp_X12_is_s10_l39 Q (m + 1) 1 ((x + 1 : Nat) : Int) τ) → (¬ ρ 1 (f + x) = (strO 10).2.2.2.getD x 0 → Q 0 τ) → wp_X12_is_s10_l39 Q (m + 1 + 1) 1 (x : Int) τ := by
      intro Q m x hx hy hno
      have e12 : τ 12 (f + x) = ρ 1 (f + x) := by rw [kt (f + x) (by omega)]; exact sby_sm (hsm _ (by omega) (by omega))
      unfold wp_X12_is_s10_l39 wp_X12_is_s10_b75
      rw [k21, w32_of (x := (f : Int) + x) (by omega) (by omega), show (f : Int) + x = ((f + x : Nat) : Int) by omega, Int.toNat_natCast, Int.toNat_natCast, e12, w32_of (x := (x : Int) + 1) (by omega) (by omega), show (x : Int) + 1 = ((x + 1 : Nat) : Int) by omega]
      refine ⟨fun q => absurd q (by omega), fun _ => ⟨fun q => absurd q (by decide), fun _ => ⟨by omega, by omega, fun q v ev => ?_, fun q v ev => ?_⟩⟩⟩
      · rw [ev]; exact zero Q m _ (hno q)
      · rw [ev]; exact hy (Classical.byContradiction fun w => q w)
    by_cases ha : ∀ x, x < 3 → ρ 1 (f + x) = (strO 10).2.2.2.getD x 0
    · refine ⟨1, fun Q h => ent Q ?_, Or.inr rfl, fun _ => ⟨rfl, rfl, ha⟩, fun _ => by decide⟩
      have lp : ∀ (d x m : Nat), x + d = 3 → d + 1 < m → wp_X12_is_s10_l39 Q m 1 (x : Int) τ := by
        intro d
        induction d with
        | zero =>
          intro x m hx hm
          obtain ⟨m, rfl⟩ := suc_n hm
          unfold wp_X12_is_s10_l39
          exact ⟨fun _ => ⟨Or.inr rfl, h⟩, fun q => absurd (by omega) q⟩
        | succ d ih =>
          intro x m hx hm
          obtain ⟨m, rfl⟩ := suc_n hm
          obtain ⟨m, rfl⟩ := suc_n (n := m) (d := 0) (by omega)
          exact one Q m x (by omega) (fun _ => ih (x + 1) (m + 1) (by omega) (by omega)) (fun q => absurd (ha x (by omega)) q)
      exact lp 3 0 bigN (by omega) (by unfold bigN; omega)
    · refine ⟨0, fun Q h => ent Q ?_, Or.inl rfl, fun q => absurd rfl q, fun q => absurd q.2.2 ha⟩
      have lp : ∀ (d x m : Nat), x + d = 3 → d + 1 < m → (∀ y, y < x → ρ 1 (f + y) = (strO 10).2.2.2.getD y 0) → wp_X12_is_s10_l39 Q m 1 (x : Int) τ := by
        intro d
        induction d with
        | zero =>
          intro x m hx hm hy
          exact absurd (fun y hy2 => hy y (by omega)) ha
        | succ d ih =>
          intro x m hx hm hy
          obtain ⟨m, rfl⟩ := suc_n hm
          obtain ⟨m, rfl⟩ := suc_n (n := m) (d := 0) (by omega)
          refine one Q m x (by omega) (fun q => ih (x + 1) (m + 1) (by omega) (by omega) (fun y hy2 => ?_)) (fun _ => h)
          by_cases e : y = x
          · rw [e]; exact q
          · exact hy y (by omega)
      exact lp 3 0 bigN (by omega) (by unfold bigN; omega) (fun y hy => by omega)
theorem h_isB_s10 {τ : St} (hg : τ 0 24 ≠ 0) : ∀ Q : Int → St → Prop, Q 0 τ → wp_X12_is_s10 τ Q := by
  intro Q h
  obtain ⟨m0, hm0⟩ := suc_n (n := bigN) (d := 0) (by unfold bigN; omega)
  unfold wp_X12_is_s10 wp_X12_is_s10_b35 wp_X12_is_s10_b36
  refine h_goodB hg ⟨fun _ => ?_, fun q => absurd rfl q⟩
  rw [hm0]
  unfold wp_X12_is_s10_l39
  exact ⟨fun _ => ⟨Or.inl rfl, h⟩, fun _ => ⟨fun _ => ⟨Or.inl rfl, h⟩, fun q => absurd rfl q⟩⟩
theorem str_5_10 : (strO 5).2.2.2 = (strO 10).2.2.2 := by decide +kernel
theorem j_is_s5 {ρ σ τ : St} (hT : Wt ρ) {f e : Nat} {kd : Int} (ht : TkS ρ f e kd) (hc : CKx ρ σ f e kd) (hk : RK ρ τ f e kd) (hg : τ 0 24 = 0) : ∃ r : Int, (∀ Q : Int → St → Prop, Q r σ → wp_X6_isWord_s5 σ Q) ∧ (∀ Q : Int → St → Prop, Q r τ → wp_X12_is_s10 τ Q) ∧ (r = 0 ∨ r = 1) ∧ (r ≠ 0 → kd = 1) := by
  obtain ⟨r, a1, a2, a3⟩ := g_is_s5 hT ht hc
  obtain ⟨r2, b1, b2, b3⟩ := h_is_s10 hT ht hk hg
  rw [← str_5_10] at b3
  have e : r2 = r := by
    have : r ≠ 0 ↔ r2 ≠ 0 := a3.trans b3.symm
    omega
  exact ⟨r, a1, by rw [← e]; exact b1, a2, fun q => (a3.1 q).1⟩
theorem g_is_s6 {ρ σ : St} (hT : Wt ρ) {f e : Nat} {kd : Int} (ht : TkS ρ f e kd) (hk : CKx ρ σ f e kd) : ∃ r : Int, (∀ Q : Int → St → Prop, Q r σ → wp_X6_isWord_s6 σ Q) ∧ (r = 0 ∨ r = 1) ∧ (r ≠ 0 ↔ wdP ρ f e kd 4 (strO 6).2.2.2) := by
  obtain ⟨k4, k5, k6, k7, kt⟩ := hk
  have hle := ht.2.1
  have h1000 := hT.2.1
  by_cases hn : kd = 1 ∧ e = f + 4
  rotate_left
  · refine ⟨0, fun Q h => ?_, Or.inl rfl, fun q => absurd rfl q, fun q => absurd ⟨q.1, q.2.1⟩ hn⟩
    unfold wp_X6_isWord_s6
    rw [k5, k6, k7, w32_of (by have := ht.1; omega) (by omega)]
    exact ⟨fun _ => h, fun q => ⟨fun q2 => absurd ⟨by omega, by omega⟩ hn, fun _ => h⟩⟩
  · obtain ⟨rfl, rfl⟩ := hn
    have ent : ∀ Q : Int → St → Prop, wp_X6_isWord_s6_l28 Q bigN 0 σ → wp_X6_isWord_s6 σ Q := by
      intro Q h
      unfold wp_X6_isWord_s6
      rw [k5, k6, k7, w32_of (by omega) (by omega)]
      exact ⟨fun q => absurd rfl q, fun _ => ⟨fun _ => h, fun q => absurd (by omega) q⟩⟩
    have one : ∀ (Q : Int → St → Prop) (m x : Nat), x < 4 → (ρ 1 (f + x) = (strO 6).2.2.2.getD x 0 → wp_X6_isWord_s6_l28 Q m ((x + 1 : Nat) : Int) σ) → (¬ ρ 1 (f + x) = (strO 6).2.2.2.getD x 0 → Q 0 σ) → wp_X6_isWord_s6_l28 Q (m + 1) (x : Int) σ := by
      intro Q m x hx hy hno
      unfold wp_X6_isWord_s6_l28
      rw [k6, w32_of (x := (f : Int) + x) (by omega) (by omega), show (f : Int) + x = ((f + x : Nat) : Int) by omega, Int.toNat_natCast, Int.toNat_natCast, kt (f + x) (by omega)]
      refine ⟨fun q => absurd q (by omega), fun _ => ⟨by omega, by omega, fun q v ev => ?_, hno⟩⟩
      rw [ev, w32_of (by omega) (by omega), show (x : Int) + 1 = ((x + 1 : Nat) : Int) by omega]
      exact hy q
    by_cases ha : ∀ x, x < 4 → ρ 1 (f + x) = (strO 6).2.2.2.getD x 0
    · refine ⟨1, fun Q h => ent Q ?_, Or.inr rfl, fun _ => ⟨rfl, rfl, ha⟩, fun _ => by decide⟩
      have lp : ∀ (d x m : Nat), x + d = 4 → d < m → wp_X6_isWord_s6_l28 Q m (x : Int) σ := by
        intro d
        induction d with
        | zero =>
          intro x m hx hm
          obtain ⟨m, rfl⟩ := suc_n hm
          unfold wp_X6_isWord_s6_l28
          exact ⟨fun _ => h, fun q => absurd (by omega) q⟩
        | succ d ih =>
          intro x m hx hm
          obtain ⟨m, rfl⟩ := suc_n hm
          exact one Q m x (by omega) (fun _ => ih (x + 1) m (by omega) (by omega)) (fun q => absurd (ha x (by omega)) q)
      exact lp 4 0 bigN (by omega) (by unfold bigN; omega)
    · refine ⟨0, fun Q h => ent Q ?_, Or.inl rfl, fun q => absurd rfl q, fun q => absurd q.2.2 ha⟩
      have lp : ∀ (d x m : Nat), x + d = 4 → d < m → (∀ y, y < x → ρ 1 (f + y) = (strO 6).2.2.2.getD y 0) → wp_X6_isWord_s6_l28 Q m (x : Int) σ := by
        intro d
        induction d with
        | zero =>
          intro x m hx hm hy
          exact absurd (fun y hy2 => hy y (by omega)) ha
        | succ d ih =>
          intro x m hx hm hy
          obtain ⟨m, rfl⟩ := suc_n hm
          refine one Q m x (by omega) (fun q => ih (x + 1) m (by omega) (by omega) (fun y hy2 => ?_)) (fun _ => h)
          by_cases e : y = x
          · rw [e]; exact q
          · exact hy y (by omega)
      exact lp 4 0 bigN (by omega) (by unfold bigN; omega) (fun y hy => by omega)
theorem h_is_s11 {ρ τ : St} (hT : Wt ρ) {f e : Nat} {kd : Int} (ht : TkS ρ f e kd) (hk : RK ρ τ f e kd) (hg : τ 0 24 = 0) : ∃ r : Int, (∀ Q : Int → St → Prop, Q r τ → wp_X12_is_s11 τ Q) ∧ (r = 0 ∨ r = 1) ∧ (r ≠ 0 ↔ wdP ρ f e kd 4 (strO 11).2.2.2) := by
  obtain ⟨k19, k21, k20, kt, t0, t1, t2, t3⟩ := hk
  have hle := ht.2.1
  have h1000 := hT.2.1
  have zero : ∀ (Q : Int → St → Prop) (m : Nat) (x : Int), Q 0 τ → wp_X12_is_s11_l39 Q (m + 1) 0 x τ := by
    intro Q m x h
    unfold wp_X12_is_s11_l39
    exact ⟨fun _ => ⟨Or.inl rfl, h⟩, fun _ => ⟨fun _ => ⟨Or.inl rfl, h⟩, fun q => absurd rfl q⟩⟩
  obtain ⟨m0, hm0⟩ := suc_n (n := bigN) (d := 0) (by unfold bigN; omega)
  have hk1 : kd = 1 ↔ τ 0 22 = 1 := by
    refine ⟨t1, fun q => ?_⟩
    rcases ht.2.2 with ⟨w, -⟩ | ⟨w, -⟩ | ⟨w, -⟩ | ⟨w, -⟩
    · have := t0 w; omega
    · exact w
    · have := t2 w; omega
    · obtain ⟨u1, u2, u3⟩ := t3 w
      by_cases v1 : 65 ≤ ρ 1 f ∧ ρ 1 f ≤ 76
      · have := u1 v1; omega
      · by_cases v2 : ρ 1 f = 61 ∨ ρ 1 f = 59
        · have := u2 v1 v2; omega
        · have := u3 v1 v2; omega
  by_cases hn : kd = 1 ∧ e = f + 4
  rotate_left
  · refine ⟨0, fun Q h => ?_, Or.inl rfl, fun q => absurd rfl q, fun q => absurd ⟨q.1, q.2.1⟩ hn⟩
    unfold wp_X12_is_s11 wp_X12_is_s11_b35 wp_X12_is_s11_b36
    refine h_goodG hg ⟨fun q => absurd q (by decide), fun _ => ?_⟩
    rw [k20, k21, w32_of (by have := ht.1; omega) (by omega), hm0]
    exact ⟨fun _ => zero Q m0 0 h, fun q => ⟨fun _ => zero Q m0 0 h, fun q2 => absurd ⟨hk1.2 (by omega), by omega⟩ hn⟩⟩
  · obtain ⟨rfl, rfl⟩ := hn
    have ent : ∀ Q : Int → St → Prop, wp_X12_is_s11_l39 Q bigN 1 0 τ → wp_X12_is_s11 τ Q := by
      intro Q h
      unfold wp_X12_is_s11 wp_X12_is_s11_b35 wp_X12_is_s11_b36
      refine h_goodG hg ⟨fun q => absurd q (by decide), fun _ => ?_⟩
      rw [k20, k21, w32_of (by omega) (by omega)]
      exact ⟨fun q => absurd (t1 rfl) q, fun _ => ⟨fun q => absurd (by omega) q, fun _ => h⟩⟩
    have hsm := ht.sm rfl
    have one : ∀ (Q : Int → St → Prop) (m x : Nat), x < 4 → (ρ 1 (f + x) = (strO 11).2.2.2.getD x 0 → wp_X12_is_s11_l39 Q (m + 1) 1 ((x + 1 : Nat) : Int) τ) → (¬ ρ 1 (f + x) = (strO 11).2.2.2.getD x 0 → Q 0 τ) → wp_X12_is_s11_l39 Q (m + 1 + 1) 1 (x : Int) τ := by
      intro Q m x hx hy hno
      have e12 : τ 12 (f + x) = ρ 1 (f + x) := by rw [kt (f + x) (by omega)]; exact sby_sm (hsm _ (by omega) (by omega))
      unfold wp_X12_is_s11_l39 wp_X12_is_s11_b75
      rw [k21, w32_of (x := (f : Int) + x) (by omega) (by omega), show (f : Int) + x = ((f + x : Nat) : Int) by omega, Int.toNat_natCast, Int.toNat_natCast, e12, w32_of (x := (x : Int) + 1) (by omega) (by omega), show (x : Int) + 1 = ((x + 1 : Nat) : Int) by omega]
      refine ⟨fun q => absurd q (by omega), fun _ => ⟨fun q => absurd q (by decide), fun _ => ⟨by omega, by omega, fun q v ev => ?_, fun q v ev => ?_⟩⟩⟩
      · rw [ev]; exact zero Q m _ (hno q)
      · rw [ev]; exact hy (Classical.byContradiction fun w => q w)
    by_cases ha : ∀ x, x < 4 → ρ 1 (f + x) = (strO 11).2.2.2.getD x 0
    · refine ⟨1, fun Q h => ent Q ?_, Or.inr rfl, fun _ => ⟨rfl, rfl, ha⟩, fun _ => by decide⟩
      have lp : ∀ (d x m : Nat), x + d = 4 → d + 1 < m → wp_X12_is_s11_l39 Q m 1 (x : Int) τ := by
        intro d
        induction d with
        | zero =>
          intro x m hx hm
          obtain ⟨m, rfl⟩ := suc_n hm
          unfold wp_X12_is_s11_l39
          exact ⟨fun _ => ⟨Or.inr rfl, h⟩, fun q => absurd (by omega) q⟩
        | succ d ih =>
          intro x m hx hm
          obtain ⟨m, rfl⟩ := suc_n hm
          obtain ⟨m, rfl⟩ := suc_n (n := m) (d := 0) (by omega)
          exact one Q m x (by omega) (fun _ => ih (x + 1) (m + 1) (by omega) (by omega)) (fun q => absurd (ha x (by omega)) q)
      exact lp 4 0 bigN (by omega) (by unfold bigN; omega)
    · refine ⟨0, fun Q h => ent Q ?_, Or.inl rfl, fun q => absurd rfl q, fun q => absurd q.2.2 ha⟩
      have lp : ∀ (d x m : Nat), x + d = 4 → d + 1 < m → (∀ y, y < x → ρ 1 (f + y) = (strO 11).2.2.2.getD y 0) → wp_X12_is_s11_l39 Q m 1 (x : Int) τ := by
        intro d
        induction d with
        | zero =>
          intro x m hx hm hy
          exact absurd (fun y hy2 => hy y (by omega)) ha
        | succ d ih =>
          intro x m hx hm hy
          obtain ⟨m, rfl⟩ := suc_n hm
          obtain ⟨m, rfl⟩ := suc_n (n := m) (d := 0) (by omega)
          refine one Q m x (by omega) (fun q => ih (x + 1) (m + 1) (by omega) (by omega) (fun y hy2 => ?_)) (fun _ => h)
          by_cases e : y = x
          · rw [e]; exact q
          · exact hy y (by omega)
      exact lp 4 0 bigN (by omega) (by unfold bigN; omega) (fun y hy => by omega)
theorem h_isB_s11 {τ : St} (hg : τ 0 24 ≠ 0) : ∀ Q : Int → St → Prop, Q 0 τ → wp_X12_is_s11 τ Q := by
  intro Q h
  obtain ⟨m0, hm0⟩ := suc_n (n := bigN) (d := 0) (by unfold bigN; omega)
  unfold wp_X12_is_s11 wp_X12_is_s11_b35 wp_X12_is_s11_b36
  refine h_goodB hg ⟨fun _ => ?_, fun q => absurd rfl q⟩
  rw [hm0]
  unfold wp_X12_is_s11_l39
  exact ⟨fun _ => ⟨Or.inl rfl, h⟩, fun _ => ⟨fun _ => ⟨Or.inl rfl, h⟩, fun q => absurd rfl q⟩⟩
theorem str_6_11 : (strO 6).2.2.2 = (strO 11).2.2.2 := by decide +kernel
theorem j_is_s6 {ρ σ τ : St} (hT : Wt ρ) {f e : Nat} {kd : Int} (ht : TkS ρ f e kd) (hc : CKx ρ σ f e kd) (hk : RK ρ τ f e kd) (hg : τ 0 24 = 0) : ∃ r : Int, (∀ Q : Int → St → Prop, Q r σ → wp_X6_isWord_s6 σ Q) ∧ (∀ Q : Int → St → Prop, Q r τ → wp_X12_is_s11 τ Q) ∧ (r = 0 ∨ r = 1) ∧ (r ≠ 0 → kd = 1) := by
  obtain ⟨r, a1, a2, a3⟩ := g_is_s6 hT ht hc
  obtain ⟨r2, b1, b2, b3⟩ := h_is_s11 hT ht hk hg
  rw [← str_6_11] at b3
  have e : r2 = r := by
    have : r ≠ 0 ↔ r2 ≠ 0 := a3.trans b3.symm
    omega
  exact ⟨r, a1, by rw [← e]; exact b1, a2, fun q => (a3.1 q).1⟩
theorem g_is_s7 {ρ σ : St} (hT : Wt ρ) {f e : Nat} {kd : Int} (ht : TkS ρ f e kd) (hk : CKx ρ σ f e kd) : ∃ r : Int, (∀ Q : Int → St → Prop, Q r σ → wp_X6_isWord_s7 σ Q) ∧ (r = 0 ∨ r = 1) ∧ (r ≠ 0 ↔ wdP ρ f e kd 5 (strO 7).2.2.2) := by
  obtain ⟨k4, k5, k6, k7, kt⟩ := hk
  have hle := ht.2.1
  have h1000 := hT.2.1
  by_cases hn : kd = 1 ∧ e = f + 5
  rotate_left
  · refine ⟨0, fun Q h => ?_, Or.inl rfl, fun q => absurd rfl q, fun q => absurd ⟨q.1, q.2.1⟩ hn⟩
    unfold wp_X6_isWord_s7
    rw [k5, k6, k7, w32_of (by have := ht.1; omega) (by omega)]
    exact ⟨fun _ => h, fun q => ⟨fun q2 => absurd ⟨by omega, by omega⟩ hn, fun _ => h⟩⟩
  · obtain ⟨rfl, rfl⟩ := hn
    have ent : ∀ Q : Int → St → Prop, wp_X6_isWord_s7_l28 Q bigN 0 σ → wp_X6_isWord_s7 σ Q := by
      intro Q h
      unfold wp_X6_isWord_s7
      rw [k5, k6, k7, w32_of (by omega) (by omega)]
      exact ⟨fun q => absurd rfl q, fun _ => ⟨fun _ => h, fun q => absurd (by omega) q⟩⟩
    have one : ∀ (Q : Int → St → Prop) (m x : Nat), x < 5 → (ρ 1 (f + x) = (strO 7).2.2.2.getD x 0 → wp_X6_isWord_s7_l28 Q m ((x + 1 : Nat) : Int) σ) → (¬ ρ 1 (f + x) = (strO 7).2.2.2.getD x 0 → Q 0 σ) → wp_X6_isWord_s7_l28 Q (m + 1) (x : Int) σ := by
      intro Q m x hx hy hno
      unfold wp_X6_isWord_s7_l28
      rw [k6, w32_of (x := (f : Int) + x) (by omega) (by omega), show (f : Int) + x = ((f + x : Nat) : Int) by omega, Int.toNat_natCast, Int.toNat_natCast, kt (f + x) (by omega)]
      refine ⟨fun q => absurd q (by omega), fun _ => ⟨by omega, by omega, fun q v ev => ?_, hno⟩⟩
      rw [ev, w32_of (by omega) (by omega), show (x : Int) + 1 = ((x + 1 : Nat) : Int) by omega]
      exact hy q
    by_cases ha : ∀ x, x < 5 → ρ 1 (f + x) = (strO 7).2.2.2.getD x 0
    · refine ⟨1, fun Q h => ent Q ?_, Or.inr rfl, fun _ => ⟨rfl, rfl, ha⟩, fun _ => by decide⟩
      have lp : ∀ (d x m : Nat), x + d = 5 → d < m → wp_X6_isWord_s7_l28 Q m (x : Int) σ := by
        intro d
        induction d with
        | zero =>
          intro x m hx hm
          obtain ⟨m, rfl⟩ := suc_n hm
          unfold wp_X6_isWord_s7_l28
          exact ⟨fun _ => h, fun q => absurd (by omega) q⟩
        | succ d ih =>
          intro x m hx hm
          obtain ⟨m, rfl⟩ := suc_n hm
          exact one Q m x (by omega) (fun _ => ih (x + 1) m (by omega) (by omega)) (fun q => absurd (ha x (by omega)) q)
      exact lp 5 0 bigN (by omega) (by unfold bigN; omega)
    · refine ⟨0, fun Q h => ent Q ?_, Or.inl rfl, fun q => absurd rfl q, fun q => absurd q.2.2 ha⟩
      have lp : ∀ (d x m : Nat), x + d = 5 → d < m → (∀ y, y < x → ρ 1 (f + y) = (strO 7).2.2.2.getD y 0) → wp_X6_isWord_s7_l28 Q m (x : Int) σ := by
        intro d
        induction d with
        | zero =>
          intro x m hx hm hy
          exact absurd (fun y hy2 => hy y (by omega)) ha
        | succ d ih =>
          intro x m hx hm hy
          obtain ⟨m, rfl⟩ := suc_n hm
          refine one Q m x (by omega) (fun q => ih (x + 1) m (by omega) (by omega) (fun y hy2 => ?_)) (fun _ => h)
          by_cases e : y = x
          · rw [e]; exact q
          · exact hy y (by omega)
      exact lp 5 0 bigN (by omega) (by unfold bigN; omega) (fun y hy => by omega)
theorem h_is_s12 {ρ τ : St} (hT : Wt ρ) {f e : Nat} {kd : Int} (ht : TkS ρ f e kd) (hk : RK ρ τ f e kd) (hg : τ 0 24 = 0) : ∃ r : Int, (∀ Q : Int → St → Prop, Q r τ → wp_X12_is_s12 τ Q) ∧ (r = 0 ∨ r = 1) ∧ (r ≠ 0 ↔ wdP ρ f e kd 5 (strO 12).2.2.2) := by
  obtain ⟨k19, k21, k20, kt, t0, t1, t2, t3⟩ := hk
  have hle := ht.2.1
  have h1000 := hT.2.1
  have zero : ∀ (Q : Int → St → Prop) (m : Nat) (x : Int), Q 0 τ → wp_X12_is_s12_l39 Q (m + 1) 0 x τ := by
    intro Q m x h
    unfold wp_X12_is_s12_l39
    exact ⟨fun _ => ⟨Or.inl rfl, h⟩, fun _ => ⟨fun _ => ⟨Or.inl rfl, h⟩, fun q => absurd rfl q⟩⟩
  obtain ⟨m0, hm0⟩ := suc_n (n := bigN) (d := 0) (by unfold bigN; omega)
  have hk1 : kd = 1 ↔ τ 0 22 = 1 := by
    refine ⟨t1, fun q => ?_⟩
    rcases ht.2.2 with ⟨w, -⟩ | ⟨w, -⟩ | ⟨w, -⟩ | ⟨w, -⟩
    · have := t0 w; omega
    · exact w
    · have := t2 w; omega
    · obtain ⟨u1, u2, u3⟩ := t3 w
      by_cases v1 : 65 ≤ ρ 1 f ∧ ρ 1 f ≤ 76
      · have := u1 v1; omega
      · by_cases v2 : ρ 1 f = 61 ∨ ρ 1 f = 59
        · have := u2 v1 v2; omega
        · have := u3 v1 v2; omega
  by_cases hn : kd = 1 ∧ e = f + 5
  rotate_left
  · refine ⟨0, fun Q h => ?_, Or.inl rfl, fun q => absurd rfl q, fun q => absurd ⟨q.1, q.2.1⟩ hn⟩
    unfold wp_X12_is_s12 wp_X12_is_s12_b35 wp_X12_is_s12_b36
    refine h_goodG hg ⟨fun q => absurd q (by decide), fun _ => ?_⟩
    rw [k20, k21, w32_of (by have := ht.1; omega) (by omega), hm0]
    exact ⟨fun _ => zero Q m0 0 h, fun q => ⟨fun _ => zero Q m0 0 h, fun q2 => absurd ⟨hk1.2 (by omega), by omega⟩ hn⟩⟩
  · obtain ⟨rfl, rfl⟩ := hn
    have ent : ∀ Q : Int → St → Prop, wp_X12_is_s12_l39 Q bigN 1 0 τ → wp_X12_is_s12 τ Q := by
      intro Q h
      unfold wp_X12_is_s12 wp_X12_is_s12_b35 wp_X12_is_s12_b36
      refine h_goodG hg ⟨fun q => absurd q (by decide), fun _ => ?_⟩
      rw [k20, k21, w32_of (by omega) (by omega)]
      exact ⟨fun q => absurd (t1 rfl) q, fun _ => ⟨fun q => absurd (by omega) q, fun _ => h⟩⟩
    have hsm := ht.sm rfl
    have one : ∀ (Q : Int → St → Prop) (m x : Nat), x < 5 → (ρ 1 (f + x) = (strO 12).2.2.2.getD x 0 → wp_X12_is_s12_l39 Q (m + 1) 1 ((x + 1 : Nat) : Int) τ) → (¬ ρ 1 (f + x) = (strO 12).2.2.2.getD x 0 → Q 0 τ) → wp_X12_is_s12_l39 Q (m + 1 + 1) 1 (x : Int) τ := by
      intro Q m x hx hy hno
      have e12 : τ 12 (f + x) = ρ 1 (f + x) := by rw [kt (f + x) (by omega)]; exact sby_sm (hsm _ (by omega) (by omega))
      unfold wp_X12_is_s12_l39 wp_X12_is_s12_b75
      rw [k21, w32_of (x := (f : Int) + x) (by omega) (by omega), show (f : Int) + x = ((f + x : Nat) : Int) by omega, Int.toNat_natCast, Int.toNat_natCast, e12, w32_of (x := (x : Int) + 1) (by omega) (by omega), show (x : Int) + 1 = ((x + 1 : Nat) : Int) by omega]
      refine ⟨fun q => absurd q (by omega), fun _ => ⟨fun q => absurd q (by decide), fun _ => ⟨by omega, by omega, fun q v ev => ?_, fun q v ev => ?_⟩⟩⟩
      · rw [ev]; exact zero Q m _ (hno q)
      · rw [ev]; exact hy (Classical.byContradiction fun w => q w)
    by_cases ha : ∀ x, x < 5 → ρ 1 (f + x) = (strO 12).2.2.2.getD x 0
    · refine ⟨1, fun Q h => ent Q ?_, Or.inr rfl, fun _ => ⟨rfl, rfl, ha⟩, fun _ => by decide⟩
      have lp : ∀ (d x m : Nat), x + d = 5 → d + 1 < m → wp_X12_is_s12_l39 Q m 1 (x : Int) τ := by
        intro d
        induction d with
        | zero =>
          intro x m hx hm
          obtain ⟨m, rfl⟩ := suc_n hm
          unfold wp_X12_is_s12_l39
          exact ⟨fun _ => ⟨Or.inr rfl, h⟩, fun q => absurd (by omega) q⟩
        | succ d ih =>
          intro x m hx hm
          obtain ⟨m, rfl⟩ := suc_n hm
          obtain ⟨m, rfl⟩ := suc_n (n := m) (d := 0) (by omega)
          exact one Q m x (by omega) (fun _ => ih (x + 1) (m + 1) (by omega) (by omega)) (fun q => absurd (ha x (by omega)) q)
      exact lp 5 0 bigN (by omega) (by unfold bigN; omega)
    · refine ⟨0, fun Q h => ent Q ?_, Or.inl rfl, fun q => absurd rfl q, fun q => absurd q.2.2 ha⟩
      have lp : ∀ (d x m : Nat), x + d = 5 → d + 1 < m → (∀ y, y < x → ρ 1 (f + y) = (strO 12).2.2.2.getD y 0) → wp_X12_is_s12_l39 Q m 1 (x : Int) τ := by
        intro d
        induction d with
        | zero =>
          intro x m hx hm hy
          exact absurd (fun y hy2 => hy y (by omega)) ha
        | succ d ih =>
          intro x m hx hm hy
          obtain ⟨m, rfl⟩ := suc_n hm
          obtain ⟨m, rfl⟩ := suc_n (n := m) (d := 0) (by omega)
          refine one Q m x (by omega) (fun q => ih (x + 1) (m + 1) (by omega) (by omega) (fun y hy2 => ?_)) (fun _ => h)
          by_cases e : y = x
          · rw [e]; exact q
          · exact hy y (by omega)
      exact lp 5 0 bigN (by omega) (by unfold bigN; omega) (fun y hy => by omega)
theorem h_isB_s12 {τ : St} (hg : τ 0 24 ≠ 0) : ∀ Q : Int → St → Prop, Q 0 τ → wp_X12_is_s12 τ Q := by
  intro Q h
  obtain ⟨m0, hm0⟩ := suc_n (n := bigN) (d := 0) (by unfold bigN; omega)
  unfold wp_X12_is_s12 wp_X12_is_s12_b35 wp_X12_is_s12_b36
  refine h_goodB hg ⟨fun _ => ?_, fun q => absurd rfl q⟩
  rw [hm0]
  unfold wp_X12_is_s12_l39
  exact ⟨fun _ => ⟨Or.inl rfl, h⟩, fun _ => ⟨fun _ => ⟨Or.inl rfl, h⟩, fun q => absurd rfl q⟩⟩
theorem str_7_12 : (strO 7).2.2.2 = (strO 12).2.2.2 := by decide +kernel
theorem j_is_s7 {ρ σ τ : St} (hT : Wt ρ) {f e : Nat} {kd : Int} (ht : TkS ρ f e kd) (hc : CKx ρ σ f e kd) (hk : RK ρ τ f e kd) (hg : τ 0 24 = 0) : ∃ r : Int, (∀ Q : Int → St → Prop, Q r σ → wp_X6_isWord_s7 σ Q) ∧ (∀ Q : Int → St → Prop, Q r τ → wp_X12_is_s12 τ Q) ∧ (r = 0 ∨ r = 1) ∧ (r ≠ 0 → kd = 1) := by
  obtain ⟨r, a1, a2, a3⟩ := g_is_s7 hT ht hc
  obtain ⟨r2, b1, b2, b3⟩ := h_is_s12 hT ht hk hg
  rw [← str_7_12] at b3
  have e : r2 = r := by
    have : r ≠ 0 ↔ r2 ≠ 0 := a3.trans b3.symm
    omega
  exact ⟨r, a1, by rw [← e]; exact b1, a2, fun q => (a3.1 q).1⟩
theorem g_is_s1 {ρ σ : St} (hT : Wt ρ) {f e : Nat} {kd : Int} (ht : TkS ρ f e kd) (hk : CKx ρ σ f e kd) : ∃ r : Int, (∀ Q : Int → St → Prop, Q r σ → wp_X6_isWord_s1 σ Q) ∧ (r = 0 ∨ r = 1) ∧ (r ≠ 0 ↔ wdP ρ f e kd 4 (strO 1).2.2.2) := by
  obtain ⟨k4, k5, k6, k7, kt⟩ := hk
  have hle := ht.2.1
  have h1000 := hT.2.1
  by_cases hn : kd = 1 ∧ e = f + 4
  rotate_left
  · refine ⟨0, fun Q h => ?_, Or.inl rfl, fun q => absurd rfl q, fun q => absurd ⟨q.1, q.2.1⟩ hn⟩
    unfold wp_X6_isWord_s1
    rw [k5, k6, k7, w32_of (by have := ht.1; omega) (by omega)]
    exact ⟨fun _ => h, fun q => ⟨fun q2 => absurd ⟨by omega, by omega⟩ hn, fun _ => h⟩⟩
  · obtain ⟨rfl, rfl⟩ := hn
    have ent : ∀ Q : Int → St → Prop, wp_X6_isWord_s1_l28 Q bigN 0 σ → wp_X6_isWord_s1 σ Q := by
      intro Q h
      unfold wp_X6_isWord_s1
      rw [k5, k6, k7, w32_of (by omega) (by omega)]
      exact ⟨fun q => absurd rfl q, fun _ => ⟨fun _ => h, fun q => absurd (by omega) q⟩⟩
    have one : ∀ (Q : Int → St → Prop) (m x : Nat), x < 4 → (ρ 1 (f + x) = (strO 1).2.2.2.getD x 0 → wp_X6_isWord_s1_l28 Q m ((x + 1 : Nat) : Int) σ) → (¬ ρ 1 (f + x) = (strO 1).2.2.2.getD x 0 → Q 0 σ) → wp_X6_isWord_s1_l28 Q (m + 1) (x : Int) σ := by
      intro Q m x hx hy hno
      unfold wp_X6_isWord_s1_l28
      rw [k6, w32_of (x := (f : Int) + x) (by omega) (by omega), show (f : Int) + x = ((f + x : Nat) : Int) by omega, Int.toNat_natCast, Int.toNat_natCast, kt (f + x) (by omega)]
      refine ⟨fun q => absurd q (by omega), fun _ => ⟨by omega, by omega, fun q v ev => ?_, hno⟩⟩
      rw [ev, w32_of (by omega) (by omega), show (x : Int) + 1 = ((x + 1 : Nat) : Int) by omega]
      exact hy q
    by_cases ha : ∀ x, x < 4 → ρ 1 (f + x) = (strO 1).2.2.2.getD x 0
    · refine ⟨1, fun Q h => ent Q ?_, Or.inr rfl, fun _ => ⟨rfl, rfl, ha⟩, fun _ => by decide⟩
      have lp : ∀ (d x m : Nat), x + d = 4 → d < m → wp_X6_isWord_s1_l28 Q m (x : Int) σ := by
        intro d
        induction d with
        | zero =>
          intro x m hx hm
          obtain ⟨m, rfl⟩ := suc_n hm
          unfold wp_X6_isWord_s1_l28
          exact ⟨fun _ => h, fun q => absurd (by omega) q⟩
        | succ d ih =>
          intro x m hx hm
          obtain ⟨m, rfl⟩ := suc_n hm
          exact one Q m x (by omega) (fun _ => ih (x + 1) m (by omega) (by omega)) (fun q => absurd (ha x (by omega)) q)
      exact lp 4 0 bigN (by omega) (by unfold bigN; omega)
    · refine ⟨0, fun Q h => ent Q ?_, Or.inl rfl, fun q => absurd rfl q, fun q => absurd q.2.2 ha⟩
      have lp : ∀ (d x m : Nat), x + d = 4 → d < m → (∀ y, y < x → ρ 1 (f + y) = (strO 1).2.2.2.getD y 0) → wp_X6_isWord_s1_l28 Q m (x : Int) σ := by
        intro d
        induction d with
        | zero =>
          intro x m hx hm hy
          exact absurd (fun y hy2 => hy y (by omega)) ha
        | succ d ih =>
          intro x m hx hm hy
          obtain ⟨m, rfl⟩ := suc_n hm
          refine one Q m x (by omega) (fun q => ih (x + 1) m (by omega) (by omega) (fun y hy2 => ?_)) (fun _ => h)
          by_cases e : y = x
          · rw [e]; exact q
          · exact hy y (by omega)
      exact lp 4 0 bigN (by omega) (by unfold bigN; omega) (fun y hy => by omega)
theorem h_is_s14 {ρ τ : St} (hT : Wt ρ) {f e : Nat} {kd : Int} (ht : TkS ρ f e kd) (hk : RK ρ τ f e kd) (hg : τ 0 24 = 0) : ∃ r : Int, (∀ Q : Int → St → Prop, Q r τ → wp_X12_is_s14 τ Q) ∧ (r = 0 ∨ r = 1) ∧ (r ≠ 0 ↔ wdP ρ f e kd 4 (strO 14).2.2.2) := by
  obtain ⟨k19, k21, k20, kt, t0, t1, t2, t3⟩ := hk
  have hle := ht.2.1
  have h1000 := hT.2.1
  have zero : ∀ (Q : Int → St → Prop) (m : Nat) (x : Int), Q 0 τ → wp_X12_is_s14_l39 Q (m + 1) 0 x τ := by
    intro Q m x h
    unfold wp_X12_is_s14_l39
    exact ⟨fun _ => ⟨Or.inl rfl, h⟩, fun _ => ⟨fun _ => ⟨Or.inl rfl, h⟩, fun q => absurd rfl q⟩⟩
  obtain ⟨m0, hm0⟩ := suc_n (n := bigN) (d := 0) (by unfold bigN; omega)
  have hk1 : kd = 1 ↔ τ 0 22 = 1 := by
    refine ⟨t1, fun q => ?_⟩
    rcases ht.2.2 with ⟨w, -⟩ | ⟨w, -⟩ | ⟨w, -⟩ | ⟨w, -⟩
    · have := t0 w; omega
    · exact w
    · have := t2 w; omega
    · obtain ⟨u1, u2, u3⟩ := t3 w
      by_cases v1 : 65 ≤ ρ 1 f ∧ ρ 1 f ≤ 76
      · have := u1 v1; omega
      · by_cases v2 : ρ 1 f = 61 ∨ ρ 1 f = 59
        · have := u2 v1 v2; omega
        · have := u3 v1 v2; omega
  by_cases hn : kd = 1 ∧ e = f + 4
  rotate_left
  · refine ⟨0, fun Q h => ?_, Or.inl rfl, fun q => absurd rfl q, fun q => absurd ⟨q.1, q.2.1⟩ hn⟩
    unfold wp_X12_is_s14 wp_X12_is_s14_b35 wp_X12_is_s14_b36
    refine h_goodG hg ⟨fun q => absurd q (by decide), fun _ => ?_⟩
    rw [k20, k21, w32_of (by have := ht.1; omega) (by omega), hm0]
    exact ⟨fun _ => zero Q m0 0 h, fun q => ⟨fun _ => zero Q m0 0 h, fun q2 => absurd ⟨hk1.2 (by omega), by omega⟩ hn⟩⟩
  · obtain ⟨rfl, rfl⟩ := hn
    have ent : ∀ Q : Int → St → Prop, wp_X12_is_s14_l39 Q bigN 1 0 τ → wp_X12_is_s14 τ Q := by
      intro Q h
      unfold wp_X12_is_s14 wp_X12_is_s14_b35 wp_X12_is_s14_b36
      refine h_goodG hg ⟨fun q => absurd q (by decide), fun _ => ?_⟩
      rw [k20, k21, w32_of (by omega) (by omega)]
      exact ⟨fun q => absurd (t1 rfl) q, fun _ => ⟨fun q => absurd (by omega) q, fun _ => h⟩⟩
    have hsm := ht.sm rfl
    have one : ∀ (Q : Int → St → Prop) (m x : Nat), x < 4 → (ρ 1 (f + x) = (strO 14).2.2.2.getD x 0 → wp_X12_is_s14_l39 Q (m + 1) 1 ((x + 1 : Nat) : Int) τ) → (¬ ρ 1 (f + x) = (strO 14).2.2.2.getD x 0 → Q 0 τ) → wp_X12_is_s14_l39 Q (m + 1 + 1) 1 (x : Int) τ := by
      intro Q m x hx hy hno
      have e12 : τ 12 (f + x) = ρ 1 (f + x) := by rw [kt (f + x) (by omega)]; exact sby_sm (hsm _ (by omega) (by omega))
      unfold wp_X12_is_s14_l39 wp_X12_is_s14_b75
      rw [k21, w32_of (x := (f : Int) + x) (by omega) (by omega), show (f : Int) + x = ((f + x : Nat) : Int) by omega, Int.toNat_natCast, Int.toNat_natCast, e12, w32_of (x := (x : Int) + 1) (by omega) (by omega), show (x : Int) + 1 = ((x + 1 : Nat) : Int) by omega]
      refine ⟨fun q => absurd q (by omega), fun _ => ⟨fun q => absurd q (by decide), fun _ => ⟨by omega, by omega, fun q v ev => ?_, fun q v ev => ?_⟩⟩⟩
      · rw [ev]; exact zero Q m _ (hno q)
      · rw [ev]; exact hy (Classical.byContradiction fun w => q w)
    by_cases ha : ∀ x, x < 4 → ρ 1 (f + x) = (strO 14).2.2.2.getD x 0
    · refine ⟨1, fun Q h => ent Q ?_, Or.inr rfl, fun _ => ⟨rfl, rfl, ha⟩, fun _ => by decide⟩
      have lp : ∀ (d x m : Nat), x + d = 4 → d + 1 < m → wp_X12_is_s14_l39 Q m 1 (x : Int) τ := by
        intro d
        induction d with
        | zero =>
          intro x m hx hm
          obtain ⟨m, rfl⟩ := suc_n hm
          unfold wp_X12_is_s14_l39
          exact ⟨fun _ => ⟨Or.inr rfl, h⟩, fun q => absurd (by omega) q⟩
        | succ d ih =>
          intro x m hx hm
          obtain ⟨m, rfl⟩ := suc_n hm
          obtain ⟨m, rfl⟩ := suc_n (n := m) (d := 0) (by omega)
          exact one Q m x (by omega) (fun _ => ih (x + 1) (m + 1) (by omega) (by omega)) (fun q => absurd (ha x (by omega)) q)
      exact lp 4 0 bigN (by omega) (by unfold bigN; omega)
    · refine ⟨0, fun Q h => ent Q ?_, Or.inl rfl, fun q => absurd rfl q, fun q => absurd q.2.2 ha⟩
      have lp : ∀ (d x m : Nat), x + d = 4 → d + 1 < m → (∀ y, y < x → ρ 1 (f + y) = (strO 14).2.2.2.getD y 0) → wp_X12_is_s14_l39 Q m 1 (x : Int) τ := by
        intro d
        induction d with
        | zero =>
          intro x m hx hm hy
          exact absurd (fun y hy2 => hy y (by omega)) ha
        | succ d ih =>
          intro x m hx hm hy
          obtain ⟨m, rfl⟩ := suc_n hm
          obtain ⟨m, rfl⟩ := suc_n (n := m) (d := 0) (by omega)
          refine one Q m x (by omega) (fun q => ih (x + 1) (m + 1) (by omega) (by omega) (fun y hy2 => ?_)) (fun _ => h)
          by_cases e : y = x
          · rw [e]; exact q
          · exact hy y (by omega)
      exact lp 4 0 bigN (by omega) (by unfold bigN; omega) (fun y hy => by omega)
theorem h_isB_s14 {τ : St} (hg : τ 0 24 ≠ 0) : ∀ Q : Int → St → Prop, Q 0 τ → wp_X12_is_s14 τ Q := by
  intro Q h
  obtain ⟨m0, hm0⟩ := suc_n (n := bigN) (d := 0) (by unfold bigN; omega)
  unfold wp_X12_is_s14 wp_X12_is_s14_b35 wp_X12_is_s14_b36
  refine h_goodB hg ⟨fun _ => ?_, fun q => absurd rfl q⟩
  rw [hm0]
  unfold wp_X12_is_s14_l39
  exact ⟨fun _ => ⟨Or.inl rfl, h⟩, fun _ => ⟨fun _ => ⟨Or.inl rfl, h⟩, fun q => absurd rfl q⟩⟩
theorem str_1_14 : (strO 1).2.2.2 = (strO 14).2.2.2 := by decide +kernel
theorem j_is_s1 {ρ σ τ : St} (hT : Wt ρ) {f e : Nat} {kd : Int} (ht : TkS ρ f e kd) (hc : CKx ρ σ f e kd) (hk : RK ρ τ f e kd) (hg : τ 0 24 = 0) : ∃ r : Int, (∀ Q : Int → St → Prop, Q r σ → wp_X6_isWord_s1 σ Q) ∧ (∀ Q : Int → St → Prop, Q r τ → wp_X12_is_s14 τ Q) ∧ (r = 0 ∨ r = 1) ∧ (r ≠ 0 → kd = 1) := by
  obtain ⟨r, a1, a2, a3⟩ := g_is_s1 hT ht hc
  obtain ⟨r2, b1, b2, b3⟩ := h_is_s14 hT ht hk hg
  rw [← str_1_14] at b3
  have e : r2 = r := by
    have : r ≠ 0 ↔ r2 ≠ 0 := a3.trans b3.symm
    omega
  exact ⟨r, a1, by rw [← e]; exact b1, a2, fun q => (a3.1 q).1⟩
theorem g_is_s2 {ρ σ : St} (hT : Wt ρ) {f e : Nat} {kd : Int} (ht : TkS ρ f e kd) (hk : CKx ρ σ f e kd) : ∃ r : Int, (∀ Q : Int → St → Prop, Q r σ → wp_X6_isWord_s2 σ Q) ∧ (r = 0 ∨ r = 1) ∧ (r ≠ 0 ↔ wdP ρ f e kd 2 (strO 2).2.2.2) := by
  obtain ⟨k4, k5, k6, k7, kt⟩ := hk
  have hle := ht.2.1
  have h1000 := hT.2.1
  by_cases hn : kd = 1 ∧ e = f + 2
  rotate_left
  · refine ⟨0, fun Q h => ?_, Or.inl rfl, fun q => absurd rfl q, fun q => absurd ⟨q.1, q.2.1⟩ hn⟩
    unfold wp_X6_isWord_s2
    rw [k5, k6, k7, w32_of (by have := ht.1; omega) (by omega)]
    exact ⟨fun _ => h, fun q => ⟨fun q2 => absurd ⟨by omega, by omega⟩ hn, fun _ => h⟩⟩
  · obtain ⟨rfl, rfl⟩ := hn
    have ent : ∀ Q : Int → St → Prop, wp_X6_isWord_s2_l28 Q bigN 0 σ → wp_X6_isWord_s2 σ Q := by
      intro Q h
      unfold wp_X6_isWord_s2
      rw [k5, k6, k7, w32_of (by omega) (by omega)]
      exact ⟨fun q => absurd rfl q, fun _ => ⟨fun _ => h, fun q => absurd (by omega) q⟩⟩
    have one : ∀ (Q : Int → St → Prop) (m x : Nat), x < 2 → (ρ 1 (f + x) = (strO 2).2.2.2.getD x 0 → wp_X6_isWord_s2_l28 Q m ((x + 1 : Nat) : Int) σ) → (¬ ρ 1 (f + x) = (strO 2).2.2.2.getD x 0 → Q 0 σ) → wp_X6_isWord_s2_l28 Q (m + 1) (x : Int) σ := by
      intro Q m x hx hy hno
      unfold wp_X6_isWord_s2_l28
      rw [k6, w32_of (x := (f : Int) + x) (by omega) (by omega), show (f : Int) + x = ((f + x : Nat) : Int) by omega, Int.toNat_natCast, Int.toNat_natCast, kt (f + x) (by omega)]
      refine ⟨fun q => absurd q (by omega), fun _ => ⟨by omega, by omega, fun q v ev => ?_, hno⟩⟩
      rw [ev, w32_of (by omega) (by omega), show (x : Int) + 1 = ((x + 1 : Nat) : Int) by omega]
      exact hy q
    by_cases ha : ∀ x, x < 2 → ρ 1 (f + x) = (strO 2).2.2.2.getD x 0
    · refine ⟨1, fun Q h => ent Q ?_, Or.inr rfl, fun _ => ⟨rfl, rfl, ha⟩, fun _ => by decide⟩
      have lp : ∀ (d x m : Nat), x + d = 2 → d < m → wp_X6_isWord_s2_l28 Q m (x : Int) σ := by
        intro d
        induction d with
        | zero =>
          intro x m hx hm
          obtain ⟨m, rfl⟩ := suc_n hm
          unfold wp_X6_isWord_s2_l28
          exact ⟨fun _ => h, fun q => absurd (by omega) q⟩
        | succ d ih =>
          intro x m hx hm
          obtain ⟨m, rfl⟩ := suc_n hm
          exact one Q m x (by omega) (fun _ => ih (x + 1) m (by omega) (by omega)) (fun q => absurd (ha x (by omega)) q)
      exact lp 2 0 bigN (by omega) (by unfold bigN; omega)
    · refine ⟨0, fun Q h => ent Q ?_, Or.inl rfl, fun q => absurd rfl q, fun q => absurd q.2.2 ha⟩
      have lp : ∀ (d x m : Nat), x + d = 2 → d < m → (∀ y, y < x → ρ 1 (f + y) = (strO 2).2.2.2.getD y 0) → wp_X6_isWord_s2_l28 Q m (x : Int) σ := by
        intro d
        induction d with
        | zero =>
          intro x m hx hm hy
          exact absurd (fun y hy2 => hy y (by omega)) ha
        | succ d ih =>
          intro x m hx hm hy
          obtain ⟨m, rfl⟩ := suc_n hm
          refine one Q m x (by omega) (fun q => ih (x + 1) m (by omega) (by omega) (fun y hy2 => ?_)) (fun _ => h)
          by_cases e : y = x
          · rw [e]; exact q
          · exact hy y (by omega)
      exact lp 2 0 bigN (by omega) (by unfold bigN; omega) (fun y hy => by omega)
theorem h_is_s15 {ρ τ : St} (hT : Wt ρ) {f e : Nat} {kd : Int} (ht : TkS ρ f e kd) (hk : RK ρ τ f e kd) (hg : τ 0 24 = 0) : ∃ r : Int, (∀ Q : Int → St → Prop, Q r τ → wp_X12_is_s15 τ Q) ∧ (r = 0 ∨ r = 1) ∧ (r ≠ 0 ↔ wdP ρ f e kd 2 (strO 15).2.2.2) := by
  obtain ⟨k19, k21, k20, kt, t0, t1, t2, t3⟩ := hk
  have hle := ht.2.1
  have h1000 := hT.2.1
  have zero : ∀ (Q : Int → St → Prop) (m : Nat) (x : Int), Q 0 τ → wp_X12_is_s15_l39 Q (m + 1) 0 x τ := by
    intro Q m x h
    unfold wp_X12_is_s15_l39
    exact ⟨fun _ => ⟨Or.inl rfl, h⟩, fun _ => ⟨fun _ => ⟨Or.inl rfl, h⟩, fun q => absurd rfl q⟩⟩
  obtain ⟨m0, hm0⟩ := suc_n (n := bigN) (d := 0) (by unfold bigN; omega)
  have hk1 : kd = 1 ↔ τ 0 22 = 1 := by
    refine ⟨t1, fun q => ?_⟩
    rcases ht.2.2 with ⟨w, -⟩ | ⟨w, -⟩ | ⟨w, -⟩ | ⟨w, -⟩
    · have := t0 w; omega
    · exact w
    · have := t2 w; omega
    · obtain ⟨u1, u2, u3⟩ := t3 w
      by_cases v1 : 65 ≤ ρ 1 f ∧ ρ 1 f ≤ 76
      · have := u1 v1; omega
      · by_cases v2 : ρ 1 f = 61 ∨ ρ 1 f = 59
        · have := u2 v1 v2; omega
        · have := u3 v1 v2; omega
  by_cases hn : kd = 1 ∧ e = f + 2
  rotate_left
  · refine ⟨0, fun Q h => ?_, Or.inl rfl, fun q => absurd rfl q, fun q => absurd ⟨q.1, q.2.1⟩ hn⟩
    unfold wp_X12_is_s15 wp_X12_is_s15_b35 wp_X12_is_s15_b36
    refine h_goodG hg ⟨fun q => absurd q (by decide), fun _ => ?_⟩
    rw [k20, k21, w32_of (by have := ht.1; omega) (by omega), hm0]
    exact ⟨fun _ => zero Q m0 0 h, fun q => ⟨fun _ => zero Q m0 0 h, fun q2 => absurd ⟨hk1.2 (by omega), by omega⟩ hn⟩⟩
  · obtain ⟨rfl, rfl⟩ := hn
    have ent : ∀ Q : Int → St → Prop, wp_X12_is_s15_l39 Q bigN 1 0 τ → wp_X12_is_s15 τ Q := by
      intro Q h
      unfold wp_X12_is_s15 wp_X12_is_s15_b35 wp_X12_is_s15_b36
      refine h_goodG hg ⟨fun q => absurd q (by decide), fun _ => ?_⟩
      rw [k20, k21, w32_of (by omega) (by omega)]
      exact ⟨fun q => absurd (t1 rfl) q, fun _ => ⟨fun q => absurd (by omega) q, fun _ => h⟩⟩
    have hsm := ht.sm rfl
    have one : ∀ (Q : Int → St → Prop) (m x : Nat), x < 2 → (ρ 1 (f + x) = (strO 15).2.2.2.getD x 0 → wp_X12_is_s15_l39 Q (m + 1) 1 ((x + 1 : Nat) : Int) τ) → (¬ ρ 1 (f + x) = (strO 15).2.2.2.getD x 0 → Q 0 τ) → wp_X12_is_s15_l39 Q (m + 1 + 1) 1 (x : Int) τ := by
      intro Q m x hx hy hno
      have e12 : τ 12 (f + x) = ρ 1 (f + x) := by rw [kt (f + x) (by omega)]; exact sby_sm (hsm _ (by omega) (by omega))
      unfold wp_X12_is_s15_l39 wp_X12_is_s15_b75
      rw [k21, w32_of (x := (f : Int) + x) (by omega) (by omega), show (f : Int) + x = ((f + x : Nat) : Int) by omega, Int.toNat_natCast, Int.toNat_natCast, e12, w32_of (x := (x : Int) + 1) (by omega) (by omega), show (x : Int) + 1 = ((x + 1 : Nat) : Int) by omega]
      refine ⟨fun q => absurd q (by omega), fun _ => ⟨fun q => absurd q (by decide), fun _ => ⟨by omega, by omega, fun q v ev => ?_, fun q v ev => ?_⟩⟩⟩
      · rw [ev]; exact zero Q m _ (hno q)
      · rw [ev]; exact hy (Classical.byContradiction fun w => q w)
    by_cases ha : ∀ x, x < 2 → ρ 1 (f + x) = (strO 15).2.2.2.getD x 0
    · refine ⟨1, fun Q h => ent Q ?_, Or.inr rfl, fun _ => ⟨rfl, rfl, ha⟩, fun _ => by decide⟩
      have lp : ∀ (d x m : Nat), x + d = 2 → d + 1 < m → wp_X12_is_s15_l39 Q m 1 (x : Int) τ := by
        intro d
        induction d with
        | zero =>
          intro x m hx hm
          obtain ⟨m, rfl⟩ := suc_n hm
          unfold wp_X12_is_s15_l39
          exact ⟨fun _ => ⟨Or.inr rfl, h⟩, fun q => absurd (by omega) q⟩
        | succ d ih =>
          intro x m hx hm
          obtain ⟨m, rfl⟩ := suc_n hm
          obtain ⟨m, rfl⟩ := suc_n (n := m) (d := 0) (by omega)
          exact one Q m x (by omega) (fun _ => ih (x + 1) (m + 1) (by omega) (by omega)) (fun q => absurd (ha x (by omega)) q)
      exact lp 2 0 bigN (by omega) (by unfold bigN; omega)
    · refine ⟨0, fun Q h => ent Q ?_, Or.inl rfl, fun q => absurd rfl q, fun q => absurd q.2.2 ha⟩
      have lp : ∀ (d x m : Nat), x + d = 2 → d + 1 < m → (∀ y, y < x → ρ 1 (f + y) = (strO 15).2.2.2.getD y 0) → wp_X12_is_s15_l39 Q m 1 (x : Int) τ := by
        intro d
        induction d with
        | zero =>
          intro x m hx hm hy
          exact absurd (fun y hy2 => hy y (by omega)) ha
        | succ d ih =>
          intro x m hx hm hy
          obtain ⟨m, rfl⟩ := suc_n hm
          obtain ⟨m, rfl⟩ := suc_n (n := m) (d := 0) (by omega)
          refine one Q m x (by omega) (fun q => ih (x + 1) (m + 1) (by omega) (by omega) (fun y hy2 => ?_)) (fun _ => h)
          by_cases e : y = x
          · rw [e]; exact q
          · exact hy y (by omega)
      exact lp 2 0 bigN (by omega) (by unfold bigN; omega) (fun y hy => by omega)
theorem h_isB_s15 {τ : St} (hg : τ 0 24 ≠ 0) : ∀ Q : Int → St → Prop, Q 0 τ → wp_X12_is_s15 τ Q := by
  intro Q h
  obtain ⟨m0, hm0⟩ := suc_n (n := bigN) (d := 0) (by unfold bigN; omega)
  unfold wp_X12_is_s15 wp_X12_is_s15_b35 wp_X12_is_s15_b36
  refine h_goodB hg ⟨fun _ => ?_, fun q => absurd rfl q⟩
  rw [hm0]
  unfold wp_X12_is_s15_l39
  exact ⟨fun _ => ⟨Or.inl rfl, h⟩, fun _ => ⟨fun _ => ⟨Or.inl rfl, h⟩, fun q => absurd rfl q⟩⟩
theorem str_2_15 : (strO 2).2.2.2 = (strO 15).2.2.2 := by decide +kernel
theorem j_is_s2 {ρ σ τ : St} (hT : Wt ρ) {f e : Nat} {kd : Int} (ht : TkS ρ f e kd) (hc : CKx ρ σ f e kd) (hk : RK ρ τ f e kd) (hg : τ 0 24 = 0) : ∃ r : Int, (∀ Q : Int → St → Prop, Q r σ → wp_X6_isWord_s2 σ Q) ∧ (∀ Q : Int → St → Prop, Q r τ → wp_X12_is_s15 τ Q) ∧ (r = 0 ∨ r = 1) ∧ (r ≠ 0 → kd = 1) := by
  obtain ⟨r, a1, a2, a3⟩ := g_is_s2 hT ht hc
  obtain ⟨r2, b1, b2, b3⟩ := h_is_s15 hT ht hk hg
  rw [← str_2_15] at b3
  have e : r2 = r := by
    have : r ≠ 0 ↔ r2 ≠ 0 := a3.trans b3.symm
    omega
  exact ⟨r, a1, by rw [← e]; exact b1, a2, fun q => (a3.1 q).1⟩
