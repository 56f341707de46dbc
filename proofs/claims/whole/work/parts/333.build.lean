/-! build -/
def Bs (ρ σ : St) : Prop := VCs σ ρ ∧ SpL σ (LL ρ) (spN (LL ρ)) ∧ GL2 ρ σ (liL ρ 12) (uyL ρ 12) ∧ σ 24 17 = 1
def CA (σ : St) (l : List (Int × Int × Int × Int)) : Prop := σ 24 16 = l.length ∧ ∀ t (h : t < l.length), σ 29 t = l[t].1 ∧ σ 30 t = l[t].2.1 ∧ σ 31 t = l[t].2.2.1 ∧ σ 32 t = l[t].2.2.2
def FC (ρ σ : St) (q : Nat) : Prop := ∀ k, k < q → σ 35 k = (PL ρ k).length
theorem c_partOver {ρ σ : St} (h : Bs ρ σ) (hL : LL ρ < 9) {p : Int} {i j : Nat} (hp : isPart p) (hi : i < j ∧ j ≤ LL ρ) (h8 : 0 ≤ ρ 0 8) {Q : Int → St → Prop} (hq : Q (pv ρ p i j) σ) : wp_X0_partOver p (i : Int) (j : Int) σ Q := by
  unfold wp_X0_partOver wp_X0_partOver_b47
  unfold pv at hq
  unfold isPart at hp
  have hll : ((LL ρ : Nat) : Int) = ρ 0 8 := by unfold LL; omega
  refine ⟨fun h1 => ?_, fun h1 => ?_⟩
  · rw [if_pos h1] at hq
    rw [w32_of (x := (i : Int) + 1) (by omega) (by omega), w32_of (x := p - 100) (by omega) (by omega), Int.toNat_natCast, h.1.2 i (by omega)]
    refine ⟨fun h2 => ?_, fun h2 => ⟨by omega, fun h3 => ?_, fun h3 => ?_⟩⟩
    · rw [if_neg (fun hh => h2 (by omega))] at hq; exact hq
    · rw [if_neg (fun hh => h3 hh.2)] at hq; exact hq
    · rw [if_pos ⟨by omega, by omega⟩] at hq; exact hq
  · rw [if_neg h1] at hq
    have q1 := sp_a hL hi
    have q3 := sp_3 _ hL
    have e : w32 (w32 ((i : Int) * 9) + j) = ((i * 9 + j : Nat) : Int) := by rw [w32_of (x := (i : Int) * 9) (by omega) (by omega), w32_of (by omega) (by omega)]; push_cast; omega
    rw [e, Int.toNat_natCast, h.2.1.2.2.2 i j hi.1 hi.2 q1.1]
    refine ⟨by omega, ?_⟩
    rw [w32_of (x := ((spA (LL ρ) i j : Nat) : Int) * 12) (by omega) (by omega), w32_of (by omega) (by omega)]
    rw [show ((spA (LL ρ) i j : Nat) : Int) * 12 = ((spA (LL ρ) i j * 12 : Nat) : Int) by push_cast; omega]
    exact hq
theorem c_addCase {ρ σ : St} (h : Bs ρ σ) {q r : Nat} (hf : FC ρ σ q) {l : List (Int × Int × Int × Int)} (hc : CA σ l) (hl : l.length < 3360) {m f s : Int} {Q : Int → St → Prop} (hq : ∀ σ1, Bs ρ σ1 → FC ρ σ1 q → CA σ1 (l ++ cOne r m f s) → Q 0 σ1) : wp_X0_addCase (r : Int) m f s σ Q := by
  unfold wp_X0_addCase
  have no : (f = -2 ∨ s = -2) → Q 0 σ := fun hh => hq σ h hf (by unfold cOne; rw [if_pos hh, List.append_nil]; exact hc)
  refine ⟨fun h1 => no (Or.inl h1), fun h1 => ⟨fun h2 => no (Or.inr h2), fun h2 => ⟨fun _ => ⟨by rw [hc.1]; omega, fun σ1 e1 => ?_⟩, fun h3 => absurd (by rw [hc.1]; omega) h3⟩⟩⟩
  have c1 : σ1 24 16 = l.length := by rw [e1, upS_k (by decide)]; exact hc.1
  refine ⟨by rw [c1]; omega, fun σ2 e2 => ?_⟩
  have c2 : σ2 24 16 = l.length := by rw [e2, upS_k (by decide)]; exact c1
  refine ⟨by rw [c2]; omega, fun σ3 e3 => ?_⟩
  have c3 : σ3 24 16 = l.length := by rw [e3, upS_k (by decide)]; exact c2
  refine ⟨by rw [c3]; omega, fun σ4 e4 σ5 e5 => ?_⟩
  have c4 : σ4 24 16 = l.length := by rw [e4, upS_k (by decide)]; exact c3
  rw [hc.1, Int.toNat_natCast] at e1
  rw [c1, Int.toNat_natCast] at e2
  rw [c2, Int.toNat_natCast] at e3
  rw [c3, Int.toNat_natCast] at e4
  rw [c4, w32_of (by omega) (by omega)] at e5
  refine hq σ5 (by rw [e5, e4, e3, e2, e1]; exact h) (by rw [e5, e4, e3, e2, e1]; exact hf) ⟨?_, fun t ht => ?_⟩
  · unfold cOne
    rw [if_neg (by omega), e5, upS_s, List.length_append]; simp
  · have t29 : σ5 29 t = upS σ 29 l.length r 29 t := by rw [e5, upS_k (by decide), e4, upS_k (by decide), e3, upS_k (by decide), e2, upS_k (by decide), e1]
    have t30 : σ5 30 t = upS σ1 30 l.length m 30 t := by rw [e5, upS_k (by decide), e4, upS_k (by decide), e3, upS_k (by decide), e2]
    have t31 : σ5 31 t = upS σ2 31 l.length f 31 t := by rw [e5, upS_k (by decide), e4, upS_k (by decide), e3]
    have t32 : σ5 32 t = upS σ3 32 l.length s 32 t := by rw [e5, upS_k (by decide), e4]
    have eo : cOne r m f s = [((r : Int), m, f, s)] := by unfold cOne; rw [if_neg (by omega)]
    have eg : (l ++ cOne r m f s)[t] = (l ++ [((r : Int), m, f, s)])[t]'(by rw [← eo]; exact ht) := List.getElem_of_eq (by rw [eo]) ht
    rw [eg, t29, t30, t31, t32]
    by_cases e : t = l.length
    · subst e
      rw [upS_s, upS_s, upS_s, upS_s]; simp
    · have ht2 : t < l.length := by rw [eo, List.length_append] at ht; simp at ht; omega
      have q := hc.2 t ht2
      rw [upS_j e, upS_j e, upS_j e, upS_j e, List.getElem_append_left ht2]
      refine ⟨q.1, ?_, ?_, ?_⟩
      · rw [e1, upS_k (by decide)]; exact q.2.1
      · rw [e2, upS_k (by decide), e1, upS_k (by decide)]; exact q.2.2.1
      · rw [e3, upS_k (by decide), e2, upS_k (by decide), e1, upS_k (by decide)]; exact q.2.2.2
theorem c_addB {ρ : St} (hg : Wg ρ) (hL : LL ρ < 9) (h8 : 0 ≤ ρ 0 8) {q r i j : Nat} (hr : (r : Int) < ρ 0 4) (h5 : ρ 5 r ≠ -1) (hi : i < j ∧ j ≤ LL ρ) {T : List (Int × Int × Int × Int)} (hT : T.length + (j - i - 1) ≤ 3360) {Q : Int → St → Prop} (hq : ∀ σ1, Bs ρ σ1 → FC ρ σ1 q → CA σ1 (T ++ cB ρ r i j (j - i - 1)) → Q 0 σ1) : ∀ (e d : Nat) (σ : St) (n : Nat), d + e = j - i - 1 → e < n → Bs ρ σ → FC ρ σ q → CA σ (T ++ cB ρ r i j d) → wp_X0_addCases_l57 Q n (r : Int) (i : Int) (j : Int) ((i + 1 + d : Nat) : Int) σ := by
  intro e
  have hb := hg.2.1
  obtain ⟨hh, hp1, hp2, -⟩ := hg.2.2 r hr
  have hp2 : isPart (ρ 5 r) := by rcases hp2 with h | h; exact absurd h h5; exact h
  induction e with
  | zero =>
    intro d σ n hd hn h hf hc
    obtain ⟨n, rfl⟩ := suc_n hn
    unfold wp_X0_addCases_l57
    have : d = j - i - 1 := by omega
    subst this
    exact ⟨fun _ => hq σ h hf hc, fun hx => absurd hx (by omega)⟩
  | succ e ih =>
    intro d σ n hd hn h hf hc
    obtain ⟨n, rfl⟩ := suc_n hn
    obtain ⟨k1, k2, k3, k4, k5, k6⟩ := h.2.2.1.1.2 r hr
    unfold wp_X0_addCases_l57
    rw [Int.toNat_natCast, k2]
    refine ⟨fun hx => absurd hx (by omega), fun _ => ⟨by omega, c_partOver h hL hp1 (by omega) h8 ⟨by omega, ?_⟩⟩⟩
    rw [k3]
    refine c_partOver h hL hp2 (by omega) h8 (c_addCase h hf hc ?_ (fun σ1 h1 hf1 hc1 v ev => ?_))
    · have := cB_len (ρ := ρ) (r := r) (i := i) (j := j) d
      rw [List.length_append]; omega
    · rw [ev, w32_of (by omega) (by omega), show ((i + 1 + d : Nat) : Int) + 1 = ((i + 1 + (d + 1) : Nat) : Int) by omega]
      refine ih (d + 1) σ1 n (by omega) (by omega) h1 hf1 ?_
      rw [List.append_assoc] at hc1; exact hc1
theorem c_addCases {ρ σ : St} (hg : Wg ρ) (hL : LL ρ < 9) (h8 : 0 ≤ ρ 0 8) {q r s : Nat} (hr : (r : Int) < ρ 0 4) (hs : s < spN (LL ρ)) (h : Bs ρ σ) (hf : FC ρ σ q) {T : List (Int × Int × Int × Int)} (hc : CA σ T) (hT : T.length + wtR ρ (spB (LL ρ) s) (spF (LL ρ) s) r ≤ 3360) {Q : Int → St → Prop} (hq : ∀ σ1, Bs ρ σ1 → FC ρ σ1 q → CA σ1 (T ++ cC ρ (spB (LL ρ) s) (spF (LL ρ) s) r) → Q 0 σ1) : wp_X0_addCases (s : Int) (r : Int) σ Q := by
  have hb := hg.2.1
  have q3 := sp_3 _ hL
  have qs := sp_s hL hs
  obtain ⟨s1, s2⟩ := h.2.1.2.2.1 s hs
  obtain ⟨k1, k2, k3, k4, k5, k6⟩ := h.2.2.1.1.2 r hr
  obtain ⟨hh, hp1, hp2, -⟩ := hg.2.2 r hr
  unfold wp_X0_addCases
  refine ⟨by omega, fun v1 e1 => ⟨by omega, fun v2 e2 => ⟨by omega, fun h5 v3 e3 => ?_, fun h5 => ⟨by omega, ?_⟩⟩⟩⟩
  · rw [Int.toNat_natCast, s1] at e1
    rw [Int.toNat_natCast, s2] at e2
    rw [Int.toNat_natCast, k3] at h5
    rw [e1, w32_of (by omega) (by omega), show ((spB (LL ρ) s : Nat) : Int) + 1 = ((spB (LL ρ) s + 1 + 0 : Nat) : Int) by omega] at e3
    rw [e1, e2, e3]
    unfold wtR at hT
    rw [if_neg h5] at hT
    refine c_addB hg hL h8 hr h5 ⟨qs.1, qs.2.1⟩ hT (fun σ1 a1 a2 a3 => hq σ1 a1 a2 ?_) (spF (LL ρ) s - spB (LL ρ) s - 1) 0 σ bigN (by omega) (by unfold bigN; omega) h hf (by show CA σ (T ++ []); rw [List.append_nil]; exact hc)
    unfold cC; rw [if_neg h5]; exact a3
  · rw [Int.toNat_natCast, s1] at e1
    rw [Int.toNat_natCast, s2] at e2
    rw [Int.toNat_natCast, k3] at h5
    have h5 : ρ 5 r = -1 := by omega
    rw [e1, e2, Int.toNat_natCast, k2]
    unfold wtR at hT
    rw [if_pos h5] at hT
    refine c_partOver h hL hp1 ⟨qs.1, qs.2.1⟩ h8 (c_addCase h hf hc (by omega) (fun σ1 a1 a2 a3 => hq σ1 a1 a2 ?_))
    unfold cC; rw [if_pos h5]; exact a3
theorem FC.put {ρ σ σ1 : St} {q : Nat} (h : FC ρ σ q) (e : σ1 = upS σ 35 q ((PL ρ q).length : Nat)) : FC ρ σ1 (q + 1) := by
  intro k hk
  rw [e]
  by_cases e2 : k = q
  · rw [e2, upS_s]
  · rw [upS_j e2]; exact h k (by omega)
/-- labels up to the owner's get their first case -/
theorem c_as28 {ρ : St} (hL : LL ρ < 9) {s x h : Nat} (hs : s < spN (LL ρ)) (hx : x < 40) (hh : h < 12) {Q : Int → St → Prop} {K : Int → Int → Int → St → Prop} (hd : ∀ b, b ≤ h → x ≤ (liL ρ b).length → x = (liL ρ b).length) : ∀ (e a : Nat) (σ : St) (n : Nat), (h + 1) - a ≤ e → a ≤ 12 → e < n → Bs ρ σ → CA σ (PL ρ (12 * s) ++ cS ρ s ((liL ρ 12).take x)) → FC ρ σ (12 * s + a) → x ≤ (liL ρ a).length → (∀ σ1 a1, a1 ≤ 12 → h < a1 → (a1 = a ∨ a1 = h + 1) → Bs ρ σ1 → CA σ1 (PL ρ (12 * s) ++ cS ρ s ((liL ρ 12).take x)) → FC ρ σ1 (12 * s + a1) → wp_X0_addCases (s : Int) (σ1 34 x) σ1 (fun _ σ5 => ∀ v6 : Int, v6 = w32 ((x : Int) + 1) → K (s : Int) (a1 : Int) v6 σ5)) → wp_X0_addSpan_l28 Q K n (s : Int) (a : Int) (x : Int) (h : Int) σ := by
  intro e
  have q3 := sp_3 _ hL
  induction e with
  | zero =>
    intro a σ n he ha hn hB hC hF hxa hk
    obtain ⟨n, rfl⟩ := suc_n hn
    unfold wp_X0_addSpan_l28
    rw [Int.toNat_natCast]
    exact ⟨fun _ => ⟨by omega, hk σ a ha (by omega) (Or.inl rfl) hB hC hF⟩, fun hc => absurd hc (by omega)⟩
  | succ e ih =>
    intro a σ n he ha hn hB hC hF hxa hk
    obtain ⟨n, rfl⟩ := suc_n hn
    unfold wp_X0_addSpan_l28
    rw [Int.toNat_natCast]
    refine ⟨fun hc => ⟨by omega, hk σ a ha (by omega) (Or.inl rfl) hB hC hF⟩, fun hc => ?_⟩
    have ei : w32 (w32 ((s : Int) * 12) + a) = ((12 * s + a : Nat) : Int) := by rw [w32_of (x := (s : Int) * 12) (by omega) (by omega), w32_of (by omega) (by omega)]; push_cast; omega
    rw [ei, Int.toNat_natCast]
    refine ⟨by omega, fun σ7 e7 v ev => ?_⟩
    rw [ev, w32_of (by omega) (by omega), show (a : Int) + 1 = ((a + 1 : Nat) : Int) by omega]
    have hxe := hd a (by omega) hxa
    have hpl : PL ρ (12 * s) ++ cS ρ s ((liL ρ 12).take x) = PL ρ (12 * s + a) := by rw [liL_take (by omega) hxe, ← PL_add a (by omega)]
    rw [hC.1, hpl] at e7
    refine ih (a + 1) σ7 n (by omega) (by omega) (by omega) (by rw [e7]; exact hB) (by rw [e7]; exact hC) (hF.put e7) ?_ (fun σ1 a1 b1 b2 b3 b4 b5 b6 => hk σ1 a1 b1 b2 (Or.inr ?_) b4 b5 b6)
    · have := liL_mono (ρ := ρ) (b := a) (c := a + 1) (by omega); omega
    · rcases b3 with b3 | b3 <;> omega
