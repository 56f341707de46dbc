/-! rings: both sides do the same twelve masks -/
def upF (a : Nat → Int) (j : Nat) (v : Int) : Nat → Int := fun i => if i = j then v else a i
theorem upS_f {σ : St} {k j : Nat} {v : Int} : upS σ k j v k = upF (σ k) j v := by
  funext i; by_cases h : i = j
  · subst h; simp [upS, upF]
  · simp [upS, upF, h]
def eqN (n : Nat) (f g : Nat → Int) : Prop := ∀ j, j < n → f j = g j
theorem eqN_up {n j : Nat} {f g : Nat → Int} {v w : Int} (h : eqN n f g) (e : v = w) : eqN n (upF f j v) (upF g j w) := by
  intro i hi; unfold upF; rw [e, h i hi]
theorem eqN_ss {n : Nat} {σ : St} {k j : Nat} {v w : Int} {g : Nat → Int} (h : eqN n (σ k) g) (e : v = w) : eqN n (upS σ k j v k) (upF g j w) := by
  rw [upS_f]; exact eqN_up h e
theorem suc_n {n d : Nat} (h : d < n) : ∃ k, n = k + 1 := ⟨n - 1, by omega⟩
def rgIn (k : Int) : Nat → Int → (Nat → Int) → (Nat → Int)
  | 0, _, a => a
  | d + 1, i, a => rgIn k d (i + 1) (if b_and (b_shr (a i.toNat) k) 1 ≠ 1 then a else upF a i.toNat (b_or (a i.toNat) (a k.toNat)))
def rgOut : Nat → Int → (Nat → Int) → (Nat → Int)
  | 0, _, a => a
  | d + 1, k, a => rgOut d (k + 1) (rgIn k 12 0 a)
def rgSum (a : Nat → Int) : Nat → Int → Int → Int
  | 0, _, s => s
  | d + 1, i, s => rgSum a d (i + 1) (b_or s (b_and (a i.toNat) (b_shl 1 i)))
def rgRules (ρ : St) : Nat → Nat → (Nat → Int) → (Nat → Int)
  | 0, _, a => a
  | d + 1, r, a => rgRules ρ d (r + 1) (if ρ 8 r = 0 ∧ ρ 5 r = -1 ∧ ρ 4 r < 12 then upF a (ρ 3 r).toNat (b_or (a (ρ 3 r).toNat) (b_shl 1 (ρ 4 r))) else a)
def rgAll (ρ : St) : Int := rgSum (rgOut 12 0 (rgRules ρ (ρ 0 4).toNat 0 (fun _ => 0))) 12 0 0

theorem c_rgIn {Q : Int → St → Prop} {K : Int → St → Prop} {x1 : Int} (h1 : 0 ≤ x1 ∧ x1 < 12) : ∀ (d : Nat) (x2 : Int) (σ : St) (n : Nat) (a : Nat → Int), 0 ≤ x2 → x2 + d = 12 → d < n → eqN 12 (σ 23) a → (∀ σ1 : St, eqN 12 (σ1 23) (rgIn x1 d x2 a) → K (x1 + 1) σ1) → wp_X4_labelsOnRings_l86 Q K n x1 x2 σ := by
  intro d
  induction d with
  | zero =>
    intro x2 σ n a h0 hd hn he hk
    obtain ⟨n, rfl⟩ := suc_n hn
    unfold wp_X4_labelsOnRings_l86
    refine ⟨fun _ v ev => ?_, fun h => absurd h (by omega)⟩
    rw [ev, w32_of (by omega) (by omega)]; exact hk σ he
  | succ d ih =>
    intro x2 σ n a h0 hd hn he hk
    obtain ⟨n, rfl⟩ := suc_n hn
    unfold wp_X4_labelsOnRings_l86 wp_X4_labelsOnRings_b121
    have ha := he x2.toNat (by omega)
    have hb := he x1.toNat (by omega)
    refine ⟨fun h => absurd h (by omega), fun _ => ⟨by omega, fun hc v ev => ?_, fun hc => ⟨by omega, by omega, by omega, fun σ1 e1 v ev => ?_⟩⟩⟩
    · rw [ev, w32_of (by omega) (by omega)]
      refine ih (x2 + 1) σ n a (by omega) (by push_cast at hd; omega) (by omega) he (fun σ1 h => hk σ1 ?_)
      rw [ha] at hc
      unfold rgIn; rw [if_pos hc]; exact h
    · rw [ev, w32_of (by omega) (by omega)]
      rw [ha] at hc
      refine ih (x2 + 1) σ1 n _ (by omega) (by push_cast at hd; omega) (by omega) (by rw [e1]; exact eqN_ss he (by rw [ha, hb])) (fun σ1 h => hk σ1 ?_)
      unfold rgIn; rw [if_neg hc]; exact h
theorem c_rgSum {Q : Int → St → Prop} {a : Nat → Int} : ∀ (d : Nat) (x2 s : Int) (σ : St) (n : Nat), 0 ≤ x2 → x2 + d = 12 → d < n → eqN 12 (σ 23) a → Q (rgSum a d x2 s) σ → wp_X4_labelsOnRings_l137 Q n s x2 σ := by
  intro d
  induction d with
  | zero =>
    intro x2 s σ n h0 hd hn he hk
    obtain ⟨n, rfl⟩ := suc_n hn
    unfold wp_X4_labelsOnRings_l137
    exact ⟨fun _ => hk, fun h => absurd h (by omega)⟩
  | succ d ih =>
    intro x2 s σ n h0 hd hn he hk
    obtain ⟨n, rfl⟩ := suc_n hn
    unfold wp_X4_labelsOnRings_l137
    refine ⟨fun h => absurd h (by omega), fun _ => ⟨by omega, fun v ev w ew => ?_⟩⟩
    rw [ew, w32_of (by omega) (by omega), ev, he x2.toNat (by omega)]
    exact ih (x2 + 1) _ σ n (by omega) (by push_cast at hd; omega) (by omega) he hk
theorem c_rgOut {Q : Int → St → Prop} : ∀ (d : Nat) (x1 : Int) (σ : St) (n : Nat) (a : Nat → Int), 0 ≤ x1 → x1 + d = 12 → d < n → eqN 12 (σ 23) a → (∀ σ1 : St, Q (rgSum (rgOut d x1 a) 12 0 0) σ1) → wp_X4_labelsOnRings_l78 Q n x1 σ := by
  intro d
  induction d with
  | zero =>
    intro x1 σ n a h0 hd hn he hk
    obtain ⟨n, rfl⟩ := suc_n hn
    unfold wp_X4_labelsOnRings_l78
    refine ⟨fun _ => ?_, fun h => absurd h (by omega)⟩
    exact c_rgSum 12 0 0 σ bigN (by omega) (by omega) (by unfold bigN; omega) he (hk σ)
  | succ d ih =>
    intro x1 σ n a h0 hd hn he hk
    obtain ⟨n, rfl⟩ := suc_n hn
    unfold wp_X4_labelsOnRings_l78
    refine ⟨fun h => absurd h (by omega), fun _ => c_rgIn (by omega) 12 0 σ bigN a (by omega) (by omega) (by unfold bigN; omega) he (fun σ1 h => ?_)⟩
    exact ih (x1 + 1) σ1 n _ (by omega) (by push_cast at hd; omega) (by omega) h hk
theorem r_rgIn {Q : Int → St → Prop} {K : Int → St → Prop} {x1 : Int} (h1 : 0 ≤ x1 ∧ x1 < 12) : ∀ (d : Nat) (x2 : Int) (σ : St) (n : Nat) (a : Nat → Int), 0 ≤ x2 → x2 + d = 12 → d < n → eqN 12 (σ 19) a → (∀ σ1 : St, eqN 12 (σ1 19) (rgIn x1 d x2 a) → K (x1 + 1) σ1) → wp_X12_ringsAt_l98 Q K n x1 x2 σ := by
  intro d
  induction d with
  | zero =>
    intro x2 σ n a h0 hd hn he hk
    obtain ⟨n, rfl⟩ := suc_n hn
    unfold wp_X12_ringsAt_l98
    refine ⟨fun _ v ev => ?_, fun h => absurd h (by omega)⟩
    rw [ev, w32_of (by omega) (by omega)]; exact hk σ he
  | succ d ih =>
    intro x2 σ n a h0 hd hn he hk
    obtain ⟨n, rfl⟩ := suc_n hn
    unfold wp_X12_ringsAt_l98 wp_X12_ringsAt_b136
    have ha := he x2.toNat (by omega)
    have hb := he x1.toNat (by omega)
    refine ⟨fun h => absurd h (by omega), fun _ => ⟨by omega, fun hc v ev => ?_, fun hc => ⟨by omega, by omega, by omega, fun σ1 e1 v ev => ?_⟩⟩⟩
    · rw [ev, w32_of (by omega) (by omega)]
      refine ih (x2 + 1) σ n a (by omega) (by push_cast at hd; omega) (by omega) he (fun σ1 h => hk σ1 ?_)
      rw [ha] at hc
      unfold rgIn; rw [if_pos hc]; exact h
    · rw [ev, w32_of (by omega) (by omega)]
      rw [ha] at hc
      refine ih (x2 + 1) σ1 n _ (by omega) (by push_cast at hd; omega) (by omega) (by rw [e1]; exact eqN_ss he (by rw [ha, hb])) (fun σ1 h => hk σ1 ?_)
      unfold rgIn; rw [if_neg hc]; exact h
theorem r_rgSum {Q : Int → St → Prop} {a : Nat → Int} : ∀ (d : Nat) (x2 s : Int) (σ : St) (n : Nat), 0 ≤ x2 → x2 + d = 12 → d < n → eqN 12 (σ 19) a → Q (rgSum a d x2 s) σ → wp_X12_ringsAt_l153 Q n s x2 σ := by
  intro d
  induction d with
  | zero =>
    intro x2 s σ n h0 hd hn he hk
    obtain ⟨n, rfl⟩ := suc_n hn
    unfold wp_X12_ringsAt_l153
    exact ⟨fun _ => hk, fun h => absurd h (by omega)⟩
  | succ d ih =>
    intro x2 s σ n h0 hd hn he hk
    obtain ⟨n, rfl⟩ := suc_n hn
    unfold wp_X12_ringsAt_l153
    refine ⟨fun h => absurd h (by omega), fun _ => ⟨by omega, fun v ev w ew => ?_⟩⟩
    rw [ew, w32_of (by omega) (by omega), ev, he x2.toNat (by omega)]
    exact ih (x2 + 1) _ σ n (by omega) (by push_cast at hd; omega) (by omega) he hk
theorem r_rgOut {Q : Int → St → Prop} : ∀ (d : Nat) (x1 : Int) (σ : St) (n : Nat) (a : Nat → Int), 0 ≤ x1 → x1 + d = 12 → d < n → eqN 12 (σ 19) a → (∀ σ1 : St, Q (rgSum (rgOut d x1 a) 12 0 0) σ1) → wp_X12_ringsAt_l89 Q n x1 σ := by
  intro d
  induction d with
  | zero =>
    intro x1 σ n a h0 hd hn he hk
    obtain ⟨n, rfl⟩ := suc_n hn
    unfold wp_X12_ringsAt_l89
    refine ⟨fun _ => ?_, fun h => absurd h (by omega)⟩
    exact r_rgSum 12 0 0 σ bigN (by omega) (by omega) (by unfold bigN; omega) he (hk σ)
  | succ d ih =>
    intro x1 σ n a h0 hd hn he hk
    obtain ⟨n, rfl⟩ := suc_n hn
    unfold wp_X12_ringsAt_l89
    refine ⟨fun h => absurd h (by omega), fun _ => r_rgIn (by omega) 12 0 σ bigN a (by omega) (by omega) (by unfold bigN; omega) he (fun σ1 h => ?_)⟩
    exact ih (x1 + 1) σ1 n _ (by omega) (by push_cast at hd; omega) (by omega) h hk
theorem c_isUnary {r : Nat} {σ ρ : St} {Q : Int → St → Prop} (hg : Wg ρ) (v : VCg σ ρ) (hr : (r : Int) < ρ 0 4) (h : Q (if ρ 5 r = -1 ∧ ρ 4 r < 12 then 1 else 0) σ) : wp_X4_isUnary (r : Int) σ Q := by
  obtain ⟨k1, k2, k3, k4, k5, k6⟩ := v.2 r hr
  have hb := hg.2.1
  obtain ⟨-, hp, -⟩ := hg.2.2 r hr
  unfold wp_X4_isUnary wp_X4_isUnary_b25
  rw [Int.toNat_natCast, k2, k3]
  unfold isPart at hp
  refine ⟨by omega, fun h1 => ?_, fun h1 => ⟨by omega, fun h2 => ?_, fun h2 => ?_⟩⟩
  · rw [if_neg (fun h => h1 h.1)] at h; exact h
  · rw [if_neg (by omega)] at h; exact h
  · rw [if_pos ⟨by omega, by omega⟩] at h; exact h
theorem r_isIn {r : Nat} {τ ρ : St} {Q : Int → St → Prop} (hg : Wg ρ) (ho : τ 0 28 = osum (ρ 8) (ρ 0 4).toNat) (hr : (r : Int) < ρ 0 4) (h : Q (if ρ 8 r = 0 then 1 else 0) τ) : wp_X12_isIn (r : Int) τ Q := by
  unfold wp_X12_isIn
  rw [ho, l_bit (w_out hg) (by have := hg.2.1; omega), w_outb hg hr]
  rcases w_bit hg r (by omega) with e | e
  · rw [e] at h ⊢
    exact ⟨fun h1 => absurd (by decide) h1, fun _ => h⟩
  · rw [e] at h ⊢
    exact ⟨fun _ => h, fun h1 => absurd (by decide) h1⟩
theorem r_isSingle {r : Nat} {τ ρ : St} {Q : Int → St → Prop} (hg : Wg ρ) (v : VRg τ ρ) (ho : τ 0 28 = osum (ρ 8) (ρ 0 4).toNat) (hr : (r : Int) < ρ 0 4) (h : Q (if ρ 8 r = 0 ∧ ρ 5 r = -1 ∧ ρ 4 r < 12 then 1 else 0) τ) : wp_X12_isSingle (r : Int) τ Q := by
  obtain ⟨k1, k2, k3, k4, k5⟩ := v.2.2 r hr
  have hb := hg.2.1
  unfold wp_X12_isSingle wp_X12_isSingle_b33
  refine r_isIn hg ho hr ?_
  rw [Int.toNat_natCast, k2, k3]
  by_cases h8 : ρ 8 r = 0
  · rw [if_pos h8]
    refine ⟨fun h1 => absurd h1 (by decide), fun _ => ⟨by omega, fun h1 => ?_, fun h1 => ⟨by omega, fun h2 => ?_, fun h2 => ?_⟩⟩⟩
    · rw [if_neg (fun h => h1 h.2.1)] at h; exact h
    · rw [if_neg (by omega)] at h; exact h
    · rw [if_pos ⟨h8, by omega, by omega⟩] at h; exact h
  · rw [if_neg h8]
    rw [if_neg (fun h => h8 h.1)] at h
    exact ⟨fun _ => h, fun h1 => absurd rfl h1⟩
theorem c_rgRules {Q : Int → St → Prop} {ρ : St} (hg : Wg ρ) : ∀ (d r : Nat) (σ : St) (n : Nat) (a : Nat → Int), (r : Int) + d = ρ 0 4 → d < n → VCg σ ρ → eqN 12 (σ 23) a → (∀ σ1 : St, Q (rgSum (rgOut 12 0 (rgRules ρ d r a)) 12 0 0) σ1) → wp_X4_labelsOnRings_l23 Q n (r : Int) σ := by
  intro d
  induction d with
  | zero =>
    intro r σ n a hd hn hv he hk
    obtain ⟨n, rfl⟩ := suc_n hn
    unfold wp_X4_labelsOnRings_l23
    rw [hv.1]
    exact ⟨fun _ => c_rgOut 12 0 σ bigN a (by omega) (by omega) (by unfold bigN; omega) he hk, fun h => absurd h (by omega)⟩
  | succ d ih =>
    intro r σ n a hd hn hv he hk
    obtain ⟨n, rfl⟩ := suc_n hn
    have hr : (r : Int) < ρ 0 4 := by omega
    obtain ⟨k1, k2, k3, k4, k5, k6⟩ := hv.2 r hr
    have hb := hg.2.1
    obtain ⟨hh, -⟩ := hg.2.2 r hr
    unfold wp_X4_labelsOnRings_l23 wp_X4_labelsOnRings_b70
    rw [hv.1, Int.toNat_natCast, k6]
    have nx : ∀ (σ1 : St) (a1 : Nat → Int), VCg σ1 ρ → eqN 12 (σ1 23) a1 → a1 = (if ρ 8 r = 0 ∧ ρ 5 r = -1 ∧ ρ 4 r < 12 then upF a (ρ 3 r).toNat (b_or (a (ρ 3 r).toNat) (b_shl 1 (ρ 4 r))) else a) → ∀ v : Int, v = w32 ((r : Int) + 1) → wp_X4_labelsOnRings_l23 Q n v σ1 := by
      intro σ1 a1 hv1 he1 ea v ev
      rw [ev, w32_of (by omega) (by omega), show (r : Int) + 1 = ((r + 1 : Nat) : Int) by omega]
      refine ih (r + 1) σ1 n a1 (by push_cast at hd ⊢; omega) (by omega) hv1 he1 (fun σ2 => ?_)
      rw [ea]; exact hk σ2
    refine ⟨fun h => absurd h (by omega), fun _ => ⟨by omega, fun h1 => nx σ a hv he (by rw [if_neg (fun h => h1 h.1)]), fun h1 => c_isUnary hg hv hr ?_⟩⟩
    by_cases hu : ρ 5 r = -1 ∧ ρ 4 r < 12
    · rw [if_pos hu, k1]
      refine ⟨fun h => absurd h (by decide), fun _ => ⟨by omega, hh, by omega, hh, fun σ1 e1 => nx σ1 _ ?_ ?_ (by rw [if_pos ⟨by omega, hu⟩])⟩⟩
      · rw [e1]; exact hv
      · rw [e1]; exact eqN_ss he (by rw [he _ (by omega), k2])
    · rw [if_neg hu]
      exact ⟨fun _ => nx σ a hv he (by rw [if_neg (fun h => hu h.2)]), fun h => absurd rfl h⟩
theorem r_rgRules {Q : Int → St → Prop} {ρ : St} (hg : Wg ρ) : ∀ (d r : Nat) (σ : St) (n : Nat) (a : Nat → Int), (r : Int) + d = ρ 0 4 → d < n → VRg σ ρ → σ 0 28 = osum (ρ 8) (ρ 0 4).toNat → eqN 12 (σ 19) a → (∀ σ1 : St, Q (rgSum (rgOut 12 0 (rgRules ρ d r a)) 12 0 0) σ1) → wp_X12_ringsAt_l23 Q n (-1) (-1) (r : Int) σ := by
  intro d
  induction d with
  | zero =>
    intro r σ n a hd hn hv ho he hk
    obtain ⟨n, rfl⟩ := suc_n hn
    unfold wp_X12_ringsAt_l23
    rw [hv.1]
    exact ⟨fun _ => r_rgOut 12 0 σ bigN a (by omega) (by omega) (by unfold bigN; omega) he hk, fun h => absurd h (by omega)⟩
  | succ d ih =>
    intro r σ n a hd hn hv ho he hk
    obtain ⟨n, rfl⟩ := suc_n hn
    have hr : (r : Int) < ρ 0 4 := by omega
    obtain ⟨k1, k2, k3, k4, k5⟩ := hv.2.2 r hr
    have hb := hg.2.1
    obtain ⟨hh, -⟩ := hg.2.2 r hr
    unfold wp_X12_ringsAt_l23 wp_X12_ringsAt_b81 wp_X12_ringsAt_b59 wp_X12_ringsAt_b81
    rw [hv.1]
    have nx : ∀ (σ1 : St) (a1 : Nat → Int), VRg σ1 ρ → σ1 0 28 = osum (ρ 8) (ρ 0 4).toNat → eqN 12 (σ1 19) a1 → a1 = (if ρ 8 r = 0 ∧ ρ 5 r = -1 ∧ ρ 4 r < 12 then upF a (ρ 3 r).toNat (b_or (a (ρ 3 r).toNat) (b_shl 1 (ρ 4 r))) else a) → ∀ v : Int, v = w32 ((r : Int) + 1) → wp_X12_ringsAt_l23 Q n (-1) (-1) v σ1 := by
      intro σ1 a1 hv1 ho1 he1 ea v ev
      rw [ev, w32_of (by omega) (by omega), show (r : Int) + 1 = ((r + 1 : Nat) : Int) by omega]
      refine ih (r + 1) σ1 n a1 (by push_cast at hd ⊢; omega) (by omega) hv1 ho1 he1 (fun σ2 => ?_)
      rw [ea]; exact hk σ2
    refine ⟨fun h => absurd h (by omega), fun _ => r_isSingle hg hv ho hr ?_⟩
    by_cases hu : ρ 8 r = 0 ∧ ρ 5 r = -1 ∧ ρ 4 r < 12
    · rw [if_pos hu, Int.toNat_natCast, k1, k2]
      refine ⟨fun h => absurd h (by decide), fun _ => ⟨fun _ => ⟨by omega, hh, by omega, hh, fun σ1 e1 => nx σ1 _ ?_ ?_ ?_ (by rw [if_pos hu])⟩, fun h => absurd rfl h⟩⟩
      · rw [e1]; exact hv
      · rw [e1]; exact ho
      · rw [e1]; exact eqN_ss he (by rw [he _ (by omega)])
    · rw [if_neg hu]
      exact ⟨fun _ => nx σ a hv ho he (by rw [if_neg hu]), fun h => absurd rfl h⟩
theorem c_rg0 {Q : Int → St → Prop} {ρ : St} (hg : Wg ρ) (hq : ∀ σ1 : St, Q (rgAll ρ) σ1) : ∀ (d : Nat) (x1 : Int) (σ : St) (n : Nat), 0 ≤ x1 → x1 + d = 12 → d < n → VCg σ ρ → (∀ j : Nat, (j : Int) < x1 → σ 23 j = 0) → wp_X4_labelsOnRings_l2 Q n x1 σ := by
  intro d
  induction d with
  | zero =>
    intro x1 σ n h0 hd hn hv hz
    obtain ⟨n, rfl⟩ := suc_n hn
    unfold wp_X4_labelsOnRings_l2
    refine ⟨fun _ => c_rgRules hg (ρ 0 4).toNat 0 σ bigN (fun _ => 0) ?_ ?_ hv (fun j hj => hz j (by omega)) hq, fun h => absurd h (by omega)⟩
    · have := hg.1; omega
    · have := hg.2.1; unfold bigN; omega
  | succ d ih =>
    intro x1 σ n h0 hd hn hv hz
    obtain ⟨n, rfl⟩ := suc_n hn
    unfold wp_X4_labelsOnRings_l2
    refine ⟨fun h => absurd h (by omega), fun _ => ⟨by omega, fun σ1 e1 v ev => ?_⟩⟩
    rw [ev, w32_of (by omega) (by omega)]
    refine ih (x1 + 1) σ1 n (by omega) (by push_cast at hd; omega) (by omega) (by rw [e1]; exact hv) (fun j hj => ?_)
    rw [e1]
    by_cases hj2 : j = x1.toNat
    · rw [hj2, upS_s]
    · rw [upS_j hj2]; exact hz j (by omega)
theorem r_rg0 {Q : Int → St → Prop} {ρ : St} (hg : Wg ρ) (hq : ∀ σ1 : St, Q (rgAll ρ) σ1) : ∀ (d : Nat) (x1 : Int) (σ : St) (n : Nat), 0 ≤ x1 → x1 + d = 12 → d < n → VRg σ ρ → σ 0 28 = osum (ρ 8) (ρ 0 4).toNat → (∀ j : Nat, (j : Int) < x1 → σ 19 j = 0) → wp_X12_ringsAt_l2 Q n (-1) (-1) x1 σ := by
  intro d
  induction d with
  | zero =>
    intro x1 σ n h0 hd hn hv ho hz
    obtain ⟨n, rfl⟩ := suc_n hn
    unfold wp_X12_ringsAt_l2
    refine ⟨fun _ => r_rgRules hg (ρ 0 4).toNat 0 σ bigN (fun _ => 0) ?_ ?_ hv ho (fun j hj => hz j (by omega)) hq, fun h => absurd h (by omega)⟩
    · have := hg.1; omega
    · have := hg.2.1; unfold bigN; omega
  | succ d ih =>
    intro x1 σ n h0 hd hn hv ho hz
    obtain ⟨n, rfl⟩ := suc_n hn
    unfold wp_X12_ringsAt_l2
    refine ⟨fun h => absurd h (by omega), fun _ => ⟨by omega, fun σ1 e1 v ev => ?_⟩⟩
    rw [ev, w32_of (by omega) (by omega)]
    refine ih (x1 + 1) σ1 n (by omega) (by push_cast at hd; omega) (by omega) (by rw [e1]; exact hv) (by rw [e1]; exact ho) (fun j hj => ?_)
    rw [e1]
    by_cases hj2 : j = x1.toNat
    · rw [hj2, upS_s]
    · rw [upS_j hj2]; exact hz j (by omega)
section OPS
variable {Cc : Bool → St → St → Prop}
theorem s_rings (hC : CcI Cc) : Step_rings (Inv Cc) := by
  rintro b σ τ ⟨ρ, hW, hVC, hVR, hc⟩
  have hg := hW.2.2.1
  obtain ⟨vt, vo, vf, vg, vb, vs⟩ := hVC
  obtain ⟨ut, uo, uf, ug, ub, us⟩ := hVR
  have hC1 : wp_X11_rings σ (fun r _ => r = rgAll ρ) := by
    unfold wp_X11_rings wp_X4_labelsOnRings
    exact c_rg0 hg (fun _ => rfl) 12 0 σ bigN (by omega) (by omega) (by unfold bigN; omega) vg (fun j hj => by omega)
  have hR1 : wp_X12_rings τ (fun r _ => r = rgAll ρ) := by
    unfold wp_X12_rings wp_X12_ringsAt
    intro τ1 e1
    refine r_rg0 hg (fun _ => rfl) 12 0 τ1 bigN (by omega) (by omega) (by unfold bigN; omega) (by rw [e1]; exact ug) (by rw [e1, upS_s]; exact ug.2.1) (fun j hj => by omega)
  refine mf_X11_rings (fun r σ1 h f => ?_) Fr.rf hC1
  refine mf_X12_rings (fun r1 τ1 h1 f1 => ?_) Fr.rf hR1
  refine ⟨by rw [h, h1], ρ, hW, ?_, ?_, ?_⟩
  · exact ⟨vt.fr f ⟨rfl, fun _ => rfl⟩, vo.fr f ⟨rfl, fun _ => rfl⟩, vf.fr f ⟨rfl, rfl⟩, vg.fr f ⟨rfl, fun _ => rfl, fun _ => rfl, fun _ => rfl, fun _ => rfl, fun _ => rfl, fun _ => rfl⟩, vb.fr f ⟨rfl, rfl, rfl, fun _ => rfl, fun _ => rfl⟩, vs.fr f ⟨rfl, fun _ => rfl⟩⟩
  · exact ⟨ut.fr f1 ⟨rfl, fun _ => rfl⟩, uo.fr f1 ⟨rfl, fun _ => rfl⟩, uf.fr f1 ⟨rfl, rfl⟩, ug.fr f1 ⟨rfl, rfl, fun _ => rfl, fun _ => rfl, fun _ => rfl, fun _ => rfl, fun _ => rfl⟩, ub.fr f1 ⟨rfl, rfl, rfl, fun _ => rfl, fun _ => rfl⟩, us.fr f1 ⟨rfl, fun _ => rfl⟩⟩
  · exact hC b σ σ1 ρ ρ hc (cK_of (by decide) (by decide) f) (fun _ _ _ => rfl)
end OPS
