/-! which change is chosen: one fold over places and letters, on both sides -/
def mdS (ρ : St) (V : Nat → Int) : Nat → Int × Int × Int × Int
  | 0 => (0, -1, -1, -1)
  | k + 1 => if V k = -1 ∨ ((k % 26 : Nat) : Int) = ρ 11 (k / 26) then mdS ρ V k else if (mdS ρ V k).2.1 = -1 ∨ V k < (mdS ρ V k).2.1 then ((mdS ρ V k).1 + 1, V k, ((k / 26 : Nat) : Int), ((k % 26 : Nat) : Int)) else ((mdS ρ V k).1 + 1, (mdS ρ V k).2)
theorem mdS_skip {ρ : St} {V : Nat → Int} {k : Nat} (h : V k = -1 ∨ ((k % 26 : Nat) : Int) = ρ 11 (k / 26)) : mdS ρ V (k + 1) = mdS ρ V k := by
  show (if _ then _ else _) = _
  rw [if_pos h]
theorem mdS_new {ρ : St} {V : Nat → Int} {k : Nat} (h : ¬ (V k = -1 ∨ ((k % 26 : Nat) : Int) = ρ 11 (k / 26))) (h2 : (mdS ρ V k).2.1 = -1 ∨ V k < (mdS ρ V k).2.1) : mdS ρ V (k + 1) = ((mdS ρ V k).1 + 1, V k, ((k / 26 : Nat) : Int), ((k % 26 : Nat) : Int)) := by
  show (if _ then _ else _) = _
  rw [if_neg h, if_pos h2]
theorem mdS_old {ρ : St} {V : Nat → Int} {k : Nat} (h : ¬ (V k = -1 ∨ ((k % 26 : Nat) : Int) = ρ 11 (k / 26))) (h2 : ¬ ((mdS ρ V k).2.1 = -1 ∨ V k < (mdS ρ V k).2.1)) : mdS ρ V (k + 1) = ((mdS ρ V k).1 + 1, (mdS ρ V k).2) := by
  show (if _ then _ else _) = _
  rw [if_neg h, if_neg h2]
theorem mdS_ok {ρ : St} {V : Nat → Int} {K : Nat} (hV : ∀ k, k < K → V k = -1 ∨ (0 ≤ V k ∧ V k < 1000000000)) : ∀ k, k ≤ K → 0 ≤ (mdS ρ V k).1 ∧ (mdS ρ V k).1 ≤ k ∧ (((mdS ρ V k).1 = 0 ∧ (mdS ρ V k).2.1 = -1 ∧ (mdS ρ V k).2.2.1 = -1 ∧ (mdS ρ V k).2.2.2 = -1) ∨ (0 < (mdS ρ V k).1 ∧ 0 ≤ (mdS ρ V k).2.1 ∧ (mdS ρ V k).2.1 < 1000000000))
  | 0, _ => ⟨Int.le_refl _, Int.le_refl _, Or.inl ⟨rfl, rfl, rfl, rfl⟩⟩
  | k + 1, hk => by
    obtain ⟨a, b, c⟩ := mdS_ok hV k (by omega)
    by_cases h : V k = -1 ∨ ((k % 26 : Nat) : Int) = ρ 11 (k / 26)
    · rw [mdS_skip h]; exact ⟨a, by omega, c⟩
    · have hv := hV k (by omega)
      by_cases h2 : (mdS ρ V k).2.1 = -1 ∨ V k < (mdS ρ V k).2.1
      · rw [mdS_new h h2]
        refine ⟨by show 0 ≤ (mdS ρ V k).1 + 1; omega, by show (mdS ρ V k).1 + 1 ≤ _; omega, Or.inr ⟨by show 0 < (mdS ρ V k).1 + 1; omega, ?_, ?_⟩⟩
        · show 0 ≤ V k; omega
        · show V k < 1000000000; omega
      · rw [mdS_old h h2]
        refine ⟨by show 0 ≤ (mdS ρ V k).1 + 1; omega, by show (mdS ρ V k).1 + 1 ≤ _; omega, Or.inr ⟨by show 0 < (mdS ρ V k).1 + 1; omega, ?_⟩⟩
        show 0 ≤ (mdS ρ V k).2.1 ∧ (mdS ρ V k).2.1 < 1000000000
        omega
def CHm (ρ : St) (V : Nat → Int) (σ : St) (k : Nat) : Prop := σ 80 5 = (mdS ρ V k).1 ∧ σ 80 8 = (mdS ρ V k).2.1 ∧ σ 80 6 = (mdS ρ V k).2.2.1 ∧ σ 80 7 = (mdS ρ V k).2.2.2
theorem c_ch35 {ρ σ0 : St} (hL : LL ρ < 9) {V : Nat → Int} (hV : ∀ k, k < 26 * LL ρ → V k = -1 ∨ (0 ≤ V k ∧ V k < 1000000000)) {p : Nat} (hp : p < LL ρ) {Q : Int → St → Prop} {K : Int → St → Prop} (hq : ∀ σ1, CHm ρ V σ1 (26 * (p + 1)) → (∀ k, k ≠ 80 → σ1 k = σ0 k) → σ1 80 9 = σ0 80 9 → K ((p + 1 : Nat) : Int) σ1) (e82 : ∀ k, k < 26 * LL ρ → σ0 82 k = V k) (e25 : ∀ j, j < LL ρ → σ0 25 j = ρ 11 j) : ∀ (d x : Nat) (σ : St) (n : Nat), x + d = 26 → d < n → CHm ρ V σ (26 * p + x) → (∀ k, k ≠ 80 → σ k = σ0 k) → σ 80 9 = σ0 80 9 → wp_X5_choose_l35 Q K n (p : Int) (x : Int) σ := by
  intro d
  induction d with
  | zero =>
    intro x σ n hd hn hc ek e9
    obtain ⟨n, rfl⟩ := suc_n hn
    unfold wp_X5_choose_l35
    refine ⟨fun _ v5 e5 => ?_, fun h => absurd (by omega) h⟩
    rw [w32_of (by omega) (by omega), show (p : Int) + 1 = ((p + 1 : Nat) : Int) by omega] at e5
    rw [e5]
    exact hq σ (by rw [show 26 * (p + 1) = 26 * p + x by omega]; exact hc) ek e9
  | succ d ih =>
    intro x σ n hd hn hc ek e9
    obtain ⟨n, rfl⟩ := suc_n hn
    unfold wp_X5_choose_l35 wp_X5_choose_b97 wp_X5_choose_b112
    have ei : w32 (w32 ((p : Int) * 26) + (x : Int)) = ((26 * p + x : Nat) : Int) := by
      rw [w32_of (x := (p : Int) * 26) (by omega) (by omega), w32_of (by omega) (by omega)]; push_cast; omega
    have ew : w32 ((x : Int) + 1) = ((x + 1 : Nat) : Int) := by rw [w32_of (by omega) (by omega)]; omega
    obtain ⟨m1, m2, m3⟩ := mdS_ok (ρ := ρ) hV (26 * p + x) (by omega)
    have k1 : (26 * p + x) / 26 = p := by omega
    have k2 : (26 * p + x) % 26 = x := by omega
    rw [ei, ew, Int.toNat_natCast, Int.toNat_natCast, ek 82 (by decide), e82 _ (by omega), ek 25 (by decide), e25 p hp]
    obtain ⟨c5, c8, c6, c7⟩ := hc
    have skip : (V (26 * p + x) = -1 ∨ (((26 * p + x) % 26 : Nat) : Int) = ρ 11 ((26 * p + x) / 26)) → ∀ v8 : Int, v8 = ((x + 1 : Nat) : Int) → wp_X5_choose_l35 Q K n (p : Int) v8 σ := by
      intro h v8 e8
      rw [e8]
      refine ih (x + 1) σ n (by omega) (by omega) ?_ ek e9
      unfold CHm
      rw [show 26 * p + (x + 1) = 26 * p + x + 1 by omega, mdS_skip h]
      exact ⟨c5, c8, c6, c7⟩
    refine ⟨fun h => absurd h (by omega), fun _ => ⟨by omega, fun v6 e6 => ⟨fun h => skip (Or.inl (by omega)), fun h => ⟨by omega, fun h2 => skip (Or.inr (by rw [k1, k2]; exact h2)), fun h2 σ7 e7 => ?_⟩⟩⟩⟩
    have hns : ¬ (V (26 * p + x) = -1 ∨ (((26 * p + x) % 26 : Nat) : Int) = ρ 11 ((26 * p + x) / 26)) := by rw [k1, k2, ← e6]; exact fun q => q.elim h h2
    have e78 : σ7 80 8 = (mdS ρ V (26 * p + x)).2.1 := by rw [e7, upS_j (by decide)]; exact c8
    have e75 : σ7 80 5 = (mdS ρ V (26 * p + x)).1 + 1 := by rw [e7, upS_s, c5, w32_of (by omega) (by omega)]
    have e76 : σ7 80 6 = (mdS ρ V (26 * p + x)).2.2.1 := by rw [e7, upS_j (by decide)]; exact c6
    have e77 : σ7 80 7 = (mdS ρ V (26 * p + x)).2.2.2 := by rw [e7, upS_j (by decide)]; exact c7
    have e79 : σ7 80 9 = σ0 80 9 := by rw [e7, upS_j (by decide)]; exact e9
    have ek7 : ∀ k, k ≠ 80 → σ7 k = σ0 k := fun k hk => by rw [e7, upS_k hk]; exact ek k hk
    have new : ((mdS ρ V (26 * p + x)).2.1 = -1 ∨ V (26 * p + x) < (mdS ρ V (26 * p + x)).2.1) → ∀ σ9 : St, σ9 = upS σ7 80 8 v6 → ∀ σ10 : St, σ10 = upS σ9 80 6 (p : Int) → ∀ σ11 : St, σ11 = upS σ10 80 7 (x : Int) → ∀ v8 : Int, v8 = ((x + 1 : Nat) : Int) → wp_X5_choose_l35 Q K n (p : Int) v8 σ11 := by
      intro hb σ9 e9' σ10 e10 σ11 e11 v8 e8
      rw [e8]
      refine ih (x + 1) σ11 n (by omega) (by omega) ?_ (fun k hk => by rw [e11, upS_k hk, e10, upS_k hk, e9', upS_k hk]; exact ek7 k hk) (by rw [e11, upS_j (by decide), e10, upS_j (by decide), e9', upS_j (by decide)]; exact e79)
      unfold CHm
      rw [show 26 * p + (x + 1) = 26 * p + x + 1 by omega, mdS_new hns hb, k1, k2]
      refine ⟨?_, ?_, ?_, ?_⟩
      · rw [e11, upS_j (by decide), e10, upS_j (by decide), e9', upS_j (by decide)]; exact e75
      · rw [e11, upS_j (by decide), e10, upS_j (by decide), e9', upS_s]; exact e6
      · rw [e11, upS_j (by decide), e10, upS_s]
      · rw [e11, upS_s]
    rw [e78]
    refine ⟨fun h3 => new (Or.inl h3), fun h3 => ⟨fun h4 v8 e8 => ?_, fun h4 => new (Or.inr (by omega))⟩⟩
    rw [e8]
    refine ih (x + 1) σ7 n (by omega) (by omega) ?_ ek7 e79
    unfold CHm
    rw [show 26 * p + (x + 1) = 26 * p + x + 1 by omega, mdS_old hns (by omega)]
    exact ⟨e75, e78, e76, e77⟩
theorem c_choose {ρ σ : St} (hL : LL ρ < 9) {V : Nat → Int} (hV : ∀ k, k < 26 * LL ρ → V k = -1 ∨ (0 ≤ V k ∧ V k < 1000000000)) (e82 : ∀ k, k < 26 * LL ρ → σ 82 k = V k) (h8 : 0 ≤ ρ 0 8) (vs : VCs σ ρ) {Q : Int → St → Prop} (hq : ∀ σ1, CHm ρ V σ1 (26 * LL ρ) → (∀ k, k ≠ 80 → σ1 k = σ k) → σ1 80 9 = σ 80 9 → Q 0 σ1) : wp_X5_choose σ Q := by
  have eL : ((LL ρ : Nat) : Int) = ρ 0 8 := by unfold LL; omega
  unfold wp_X5_choose
  intro σ1 e1 σ2 e2 σ3 e3 σ4 e4
  have lp : ∀ (d p : Nat) (σ' : St) (n : Nat), p + d = LL ρ → d < n → CHm ρ V σ' (26 * p) → (∀ k, k ≠ 80 → σ' k = σ k) → σ' 80 9 = σ 80 9 → wp_X5_choose_l22 Q n (p : Int) σ' := by
    intro d
    induction d with
    | zero =>
      intro p σ' n hd hn hc ek e9
      obtain ⟨n, rfl⟩ := suc_n hn
      unfold wp_X5_choose_l22
      rw [ek 24 (by decide), vs.1]
      exact ⟨fun _ => hq σ' (by rw [← hd]; exact hc) ek e9, fun h => absurd (by omega) h⟩
    | succ d ih =>
      intro p σ' n hd hn hc ek e9
      obtain ⟨n, rfl⟩ := suc_n hn
      unfold wp_X5_choose_l22
      rw [ek 24 (by decide), vs.1]
      refine ⟨fun h => absurd h (by omega), fun _ => ?_⟩
      exact c_ch35 (σ0 := σ') hL hV (by omega) (fun σ5 a b c => ih (p + 1) σ5 n (by omega) (by omega) a (fun k hk => (b k hk).trans (ek k hk)) (c.trans e9)) (fun k hk => by rw [ek 82 (by decide)]; exact e82 k hk) (fun j hj => by rw [ek 25 (by decide)]; exact vs.2 j (by omega)) 26 0 σ' bigN (by omega) (by unfold bigN; omega) hc (fun _ _ => rfl) rfl
  refine lp (LL ρ) 0 σ4 bigN (by omega) (by unfold bigN; omega) ⟨?_, ?_, ?_, ?_⟩ (fun k hk => by rw [e4, upS_k hk, e3, upS_k hk, e2, upS_k hk, e1, upS_k hk]) (by rw [e4, upS_j (by decide), e3, upS_j (by decide), e2, upS_j (by decide), e1, upS_j (by decide)])
  · rw [e4, upS_j (by decide), e3, upS_j (by decide), e2, upS_j (by decide), e1, upS_s]; rfl
  · rw [e4, upS_s]; rfl
  · rw [e4, upS_j (by decide), e3, upS_j (by decide), e2, upS_s]; rfl
  · rw [e4, upS_j (by decide), e3, upS_s]; rfl
/-- what the mender keeps -/
def MKm (ρ σ : St) : Prop := ∃ V : Nat → Int, (∀ k, k < 26 * LL ρ → Mv ρ (k / 26) (k % 26) (V k)) ∧ CHm ρ V σ (26 * LL ρ)
theorem DNk.ext {ρ σ σ1 : St} (e : ∀ k, k ≠ 82 → σ1 k = σ k) (h : DNk ρ σ 0) : DNk ρ σ1 0 := by
  obtain ⟨⟨a, b, d⟩, h2, h3, h4, h5⟩ := h
  have e81 := e 81 (by decide)
  refine ⟨⟨a.ext ?_ (fun k _ _ => e k (by omega)) (fun k _ _ => e k (by omega)) ?_, ?_, ?_⟩, ?_, ?_, ?_, ?_⟩
  · rw [e 14 (by decide)]
  · rw [e 24 (by decide)]; exact ⟨rfl, rfl, rfl, rfl, rfl, rfl⟩
  · rw [e 36 (by decide)]; exact b
  · unfold Lw; rw [e 37 (by decide)]; exact d
  · unfold ASm; rw [e81]; exact h2
  · rw [e81]; exact h3
  · rw [e81]; exact h4
  · rw [e81]; exact h5
theorem c_pr52 {ρ : St} (hg : Wg ρ) (hL : LL ρ < 9) {s : Nat} (hs : s < spN (LL ρ)) {Q : Int → St → Prop} {K : Int → St → Prop} (hq : ∀ σ1, DNk ρ σ1 0 → FSd ρ σ1 → (∀ s' r : Nat, s' < s + 1 → (r : Int) < ρ 0 4 → ρ 8 r = 0 → FCr ρ (σ1 82) s' r) → σ1 80 9 = 1 → K ((s + 1 : Nat) : Int) σ1) : ∀ (d r : Nat) (σ : St) (n : Nat), (r : Int) + d = ρ 0 4 → d < n → DNk ρ σ 0 → FSd ρ σ → (∀ s' r' : Nat, (s' < s ∨ (s' = s ∧ r' < r)) → (r' : Int) < ρ 0 4 → ρ 8 r' = 0 → FCr ρ (σ 82) s' r') → σ 80 9 = 1 → wp_X5_prepare_l52 Q K n (s : Int) (r : Int) σ := by
  intro d
  have q3 := sp_3 _ hL
  have h40 := hg.2.1
  induction d with
  | zero =>
    intro r σ n hd hn hD hF hC e9
    obtain ⟨n, rfl⟩ := suc_n hn
    unfold wp_X5_prepare_l52
    rw [hD.1.1.1.2.2.1.1.1]
    refine ⟨fun _ v12 e12 => ?_, fun h => absurd (by omega) h⟩
    rw [w32_of (by omega) (by omega), show (s : Int) + 1 = ((s + 1 : Nat) : Int) by omega] at e12
    rw [e12]
    exact hq σ hD hF (fun s' r' h1 h2 h3 => hC s' r' (by omega) h2 h3) e9
  | succ d ih =>
    intro r σ n hd hn hD hF hC e9
    obtain ⟨n, rfl⟩ := suc_n hn
    have hr : (r : Int) < ρ 0 4 := by omega
    have k6 := (hD.1.1.1.2.2.1.1.2 r hr).2.2.2.2.2
    unfold wp_X5_prepare_l52 wp_X5_prepare_b81
    rw [hD.1.1.1.2.2.1.1.1, Int.toNat_natCast, k6, w32_of (x := (r : Int) + 1) (by omega) (by omega), show (r : Int) + 1 = ((r + 1 : Nat) : Int) by omega]
    refine ⟨fun h => absurd h (by omega), fun _ => ⟨by omega, fun h v e => ?_, fun h => ?_⟩⟩
    · rw [e]
      refine ih (r + 1) σ n (by omega) (by omega) hD hF (fun s' r' h1 h2 h3 => ?_) e9
      by_cases er : s' = s ∧ r' = r
      · rw [er.2] at h3; exact absurd h3 h
      · exact hC s' r' (by omega) h2 h3
    · have h0 : ρ 8 r = 0 := by
        have := (hg.2.2 r hr).2.2.2.2.2
        omega
      refine c_tryRule hg hL hD hF hs hr h0 (fun σ1 hD1 hF1 hv1 hc1 ek v e => ?_)
      rw [e]
      refine ih (r + 1) σ1 n (by omega) (by omega) hD1 hF1 (fun s' r' h1 h2 h3 => ?_) (by rw [ek 80 (by decide)]; exact e9)
      by_cases er : s' = s ∧ r' = r
      · rw [er.1, er.2]; exact hc1
      · exact (hC s' r' (by omega) h2 h3).le hv1
theorem c_pr39 {ρ : St} (hg : Wg ρ) (hL : LL ρ < 9) (h8 : 0 < ρ 0 8 ∧ ρ 0 8 ≤ 8) (h4 : 0 < ρ 0 4) {Q : Int → St → Prop} (hq : ∀ σ1, BL ρ σ1 → MKm ρ σ1 → σ1 80 9 = 1 → Q 0 σ1) : ∀ (d s : Nat) (σ : St) (n : Nat), s + d = spN (LL ρ) → d < n → DNk ρ σ 0 → FSd ρ σ → (∀ s' r : Nat, s' < s → (r : Int) < ρ 0 4 → ρ 8 r = 0 → FCr ρ (σ 82) s' r) → σ 80 9 = 1 → wp_X5_prepare_l39 Q n (s : Int) σ := by
  intro d
  have q3 := sp_3 _ hL
  have h40 := hg.2.1
  induction d with
  | zero =>
    intro s σ n hd hn hD hF hC e9
    obtain ⟨n, rfl⟩ := suc_n hn
    unfold wp_X5_prepare_l39
    rw [hD.1.1.1.2.1.2.1]
    refine ⟨fun _ => ?_, fun h => absurd (by omega) h⟩
    have hM : ∀ k, k < 26 * LL ρ → Mv ρ (k / 26) (k % 26) (σ 82 k) := by
      intro k hk
      have := fd_mv hg hL h8 h4 hF (fun s' r h1 h2 h3 => hC s' r (by omega) h2 h3) (p := k / 26) (x := k % 26) (by unfold LL at hk; omega) (by omega)
      rw [show 26 * (k / 26) + k % 26 = k by omega] at this
      exact this
    refine c_choose hL (V := σ 82) (fun k hk => (hM k hk).va) (fun _ _ => rfl) (by omega) hD.1.1.1.1 (fun σ1 hc ek e => hq σ1 ?_ ⟨σ 82, hM, hc⟩ (by rw [e]; exact e9))
    obtain ⟨a, b, d⟩ := hD.1
    refine ⟨a.ext ?_ (fun k _ _ => ek k (by omega)) (fun k _ _ => ek k (by omega)) ?_, ?_, ?_⟩
    · rw [ek 14 (by decide)]
    · rw [ek 24 (by decide)]; exact ⟨rfl, rfl, rfl, rfl, rfl, rfl⟩
    · rw [ek 36 (by decide)]; exact b
    · unfold Lw; rw [ek 37 (by decide)]; exact d
  | succ d ih =>
    intro s σ n hd hn hD hF hC e9
    obtain ⟨n, rfl⟩ := suc_n hn
    unfold wp_X5_prepare_l39
    rw [hD.1.1.1.2.1.2.1]
    refine ⟨fun h => absurd h (by omega), fun _ => ?_⟩
    exact c_pr52 hg hL (by omega) (fun σ1 a b c e => ih (s + 1) σ1 n (by omega) (by omega) a b c e) (ρ 0 4).toNat 0 σ bigN (by omega) (by unfold bigN; omega) hD hF (fun s' r' h1 h2 h3 => hC s' r' (by omega) h2 h3) e9
def KMm (ρ σ : St) : Prop := (σ 24 17 = 0 ∨ Bt ρ σ) ∧ (σ 36 7 = 0 ∨ (σ 36 7 = 1 ∧ Lw ρ σ)) ∧ σ 80 9 = 1 ∧ MKm ρ σ
theorem MKm.ext {ρ σ σ1 : St} (e : σ1 80 = σ 80) (h : MKm ρ σ) : MKm ρ σ1 := by
  unfold MKm CHm at *
  rw [e]; exact h
theorem c_mprep {ρ σ : St} (hW : WW ρ) (hk : KL ρ σ) (hm : σ 80 9 = 0 ∨ (σ 80 9 = 1 ∧ MKm ρ σ)) {Q : Int → St → Prop} (hq : ∀ σ1, KMm ρ σ1 → Q 0 σ1) : wp_X11_wholeItem σ (fun r1 σ2 => wp_X5_prepare r1 σ2 (fun r3 σ4 => Q r3 σ4)) := by
  have hg := hW.2.2.1
  have h8 := hW.2.2.2.2.2.1
  have h80 := hW.2.2.2.2.1
  have hL : LL ρ < 9 := by unfold LL; omega
  have eL : ((LL ρ : Nat) : Int) = ρ 0 8 := by unfold LL; omega
  refine c_wholeItem hW hk (fun hz r hr => ?_) (fun hi h4 σ1 hB f => ?_)
  · unfold wp_X5_prepare
    refine ⟨fun h0 σ1 e1 => c_J7_fill_53178_C_c82 (fun σ3 hf he => ⟨fun _ => ?_, fun h => absurd hr h⟩), fun h0 => ?_⟩
    · have hV : ∀ k, k < 26 * LL ρ → Mv ρ (k / 26) (k % 26) (σ3 82 k) := by
        intro k hk2
        rw [hf k (by omega)]
        rcases hz with hz | hz
        · exact Or.inl ⟨hz, rfl⟩
        · omega
      have e3 : ∀ k, k ≠ 80 → k ≠ 82 → σ3 k = σ k := fun k h1 h2 => by rw [he k h2, e1, upS_k h1]
      refine c_choose hL (V := σ3 82) (fun k hk => (hV k hk).va) (fun _ _ => rfl) h80 (by unfold VCs; rw [e3 24 (by decide) (by decide), e3 25 (by decide) (by decide)]; exact hk.2.1) (fun σ5 hc ek e9 => hq σ5 ⟨?_, ?_, ?_, _, hV, hc⟩)
      · have e5 : ∀ k, k ≠ 80 → k ≠ 82 → σ5 k = σ k := fun k h1 h2 => by rw [ek k h1]; exact e3 k h1 h2
        rcases hk.2.2.1 with q | q
        · left; rw [e5 24 (by decide) (by decide)]; exact q
        · right
          refine q.ext ?_ (fun k _ _ => e5 k (by omega) (by omega)) (fun k _ _ => e5 k (by omega) (by omega)) ?_
          · rw [e5 14 (by decide) (by decide)]
          · rw [e5 24 (by decide) (by decide)]; exact ⟨rfl, rfl, rfl, rfl, rfl, rfl⟩
      · have e5 : ∀ k, k ≠ 80 → k ≠ 82 → σ5 k = σ k := fun k h1 h2 => by rw [ek k h1]; exact e3 k h1 h2
        unfold Lw
        rw [e5 36 (by decide) (by decide), e5 37 (by decide) (by decide)]; exact hk.2.2.2
      · rw [e9, he 80 (by decide), e1, upS_s]
    · rcases hm with q | ⟨q, q2⟩
      · exact absurd q h0
      · exact hq σ ⟨hk.2.2.1, hk.2.2.2, q, q2⟩
  · have hk1 := hk.bt hB f
    have e80 : σ1 80 = σ 80 := funext (fun j => f.at rfl)
    unfold wp_X5_prepare
    refine ⟨fun h0 σ2 e2 => c_J7_fill_53178_C_c82 (fun σ3 hf he => ⟨fun h => absurd h (by omega), fun _ => ?_⟩), fun h0 => ?_⟩
    · have e3 : ∀ k, k ≠ 80 → k ≠ 82 → σ3 k = σ1 k := fun k h1 h2 => by rw [he k h2, e2, upS_k h1]
      have hB3 : Bt ρ σ3 := by
        refine hB.ext ?_ (fun k _ _ => e3 k (by omega) (by omega)) (fun k _ _ => e3 k (by omega) (by omega)) ?_
        · rw [e3 14 (by decide) (by decide)]
        · rw [e3 24 (by decide) (by decide)]; exact ⟨rfl, rfl, rfl, rfl, rfl, rfl⟩
      have hl3 : σ3 36 7 = 0 ∨ (σ3 36 7 = 1 ∧ Lw ρ σ3) := by
        unfold Lw
        rw [e3 36 (by decide) (by decide), e3 37 (by decide) (by decide)]; exact hk1.2.2.2
      have e39 : σ3 80 9 = 1 := by rw [he 80 (by decide), e2, upS_s]
      refine mf_X1_prepare (σ0 := σ3) (Q := fun _ σ4 => BL ρ σ4) (fun r6 σ7 hB7 f7 => ?_) Fr.rf (c_prepare hW hB3.1.2.2.1.1 hB3.1.1 (Or.inr hB3) hl3 (fun σ4 a b c => ⟨a, b, c⟩))
      refine mf_X5_goDown (σ0 := σ7) (Q := fun _ σ4 => DNk ρ σ4 0) (fun r8 σ9 hD f9 => ?_) Fr.rf (c_goDown hg hL ⟨by have := hi.2.2.1; omega, h8⟩ h4 hB7 (fun _ h => h))
      have e82 : ∀ j, j < 208 → σ9 82 j = -1 := fun j hj => by
        rw [show σ9 82 j = σ7 82 j from f9.at rfl, show σ7 82 j = σ3 82 j from f7.at rfl]; exact hf j hj
      have e99 : σ9 80 9 = 1 := by rw [show σ9 80 9 = σ7 80 9 from f9.at rfl, show σ7 80 9 = σ3 80 9 from f7.at rfl]; exact e39
      exact c_pr39 hg hL ⟨by have := hi.2.2.1; omega, h8⟩ h4 (fun σ4 a b c => hq σ4 ⟨Or.inr a.1, Or.inr ⟨a.2.1, a.2.2⟩, c, b⟩) (spN (LL ρ)) 0 σ9 bigN (by omega) (by have := sp_3 _ hL; unfold bigN; omega) hD (fun p x hp hx => Or.inl (e82 _ (by omega))) (fun s' r h => by omega) e99
    · refine hq σ1 ⟨hk1.2.2.1, hk1.2.2.2, ?_⟩
      rw [e80] at h0 ⊢
      rcases hm with q | ⟨q, q2⟩
      · exact absurd q h0
      · exact ⟨q, q2.ext e80⟩
/-! the reference's -/
def RCm (ρ : St) (V : Nat → Int) (τ : St) (x : Int) (k : Nat) : Prop := x = (mdS ρ V k).1 ∧ τ 0 65 = (if (mdS ρ V k).2.1 = -1 then 1000000000 else (mdS ρ V k).2.1) ∧ ((mdS ρ V k).2.1 ≠ -1 → τ 0 63 = (mdS ρ V k).2.2.1 ∧ τ 0 64 = (mdS ρ V k).2.2.2)
theorem r_lm21 {ρ : St} (hW : WW ρ) {V : Nat → Int} (hV : ∀ k, k < 26 * LL ρ → Mv ρ (k / 26) (k % 26) (V k)) {p : Nat} (hp : p < LL ρ) {Q : Int → St → Prop} {K : Int → Int → St → Prop} (hq : ∀ x1 τ1, VR τ1 ρ → RCm ρ V τ1 x1 (26 * (p + 1)) → K x1 ((p + 1 : Nat) : Int) τ1) : ∀ (d x : Nat) (x1 : Int) (τ : St) (n : Nat), x + d = 26 → d < n → VR τ ρ → RCm ρ V τ x1 (26 * p + x) → wp_X12_laysMends_l21 Q K n x1 (p : Int) (x : Int) τ := by
  have hg := hW.2.2.1
  have h8 := hW.2.2.2.2.2.1
  have h80 := hW.2.2.2.2.1
  have hL : LL ρ < 9 := by unfold LL; omega
  have eL : ((LL ρ : Nat) : Int) = ρ 0 8 := by unfold LL; omega
  have hVa : ∀ k, k < 26 * LL ρ → V k = -1 ∨ (0 ≤ V k ∧ V k < 1000000000) := fun k hk => (hV k hk).va
  intro d
  induction d with
  | zero =>
    intro x x1 τ n hd hn hR hc
    obtain ⟨n, rfl⟩ := suc_n hn
    unfold wp_X12_laysMends_l21
    refine ⟨fun _ v2 e2 => ?_, fun h => absurd (by omega) h⟩
    rw [w32_of (by omega) (by omega), show (p : Int) + 1 = ((p + 1 : Nat) : Int) by omega] at e2
    rw [e2]
    exact hq x1 τ hR (by rw [show 26 * (p + 1) = 26 * p + x by omega]; exact hc)
  | succ d ih =>
    intro x x1 τ n hd hn hR hc
    obtain ⟨n, rfl⟩ := suc_n hn
    unfold wp_X12_laysMends_l21 wp_X12_laysMends_b105
    have ew : w32 ((x : Int) + 1) = ((x + 1 : Nat) : Int) := by rw [w32_of (by omega) (by omega)]; omega
    obtain ⟨m1, m2, m3⟩ := mdS_ok (ρ := ρ) hVa (26 * p + x) (by omega)
    have hMv := hV (26 * p + x) (by omega)
    have hVv := hVa (26 * p + x) (by omega)
    have k1 : (26 * p + x) / 26 = p := by omega
    have k2 : (26 * p + x) % 26 = x := by omega
    rw [k1, k2] at hMv
    rw [ew]
    refine ⟨fun h => absurd h (by omega), fun _ => ?_⟩
    refine mf_X12_looks (σ0 := τ) (Q := fun _ τ1 => LA ρ τ1) (fun r3 τ4 ha f4 => ?_) Fr.rf (r_looks hW hR (fun _ h => h))
    have hR4 : VR τ4 ρ := VR.frB f4 (by decide) hR
    have c4 : RCm ρ V τ4 x1 (26 * p + x) := by
      unfold RCm
      rw [show τ4 0 65 = τ 0 65 from f4.at rfl, show τ4 0 63 = τ 0 63 from f4.at rfl, show τ4 0 64 = τ 0 64 from f4.at rfl]; exact hc
    have e11 : τ4 11 p = ρ 11 p := hR4.2.2.2.2.2.2 p (by omega)
    rw [Int.toNat_natCast, e11]
    have skip : ∀ τ' : St, VR τ' ρ → RCm ρ V τ' x1 (26 * p + x) → (V (26 * p + x) = -1 ∨ (((26 * p + x) % 26 : Nat) : Int) = ρ 11 ((26 * p + x) / 26)) → ∀ v14 : Int, v14 = ((x + 1 : Nat) : Int) → wp_X12_laysMends_l21 Q K n x1 (p : Int) v14 τ' := by
      intro τ' hR' hc' h v14 e14
      rw [e14]
      refine ih (x + 1) x1 τ' n (by omega) (by omega) hR' ?_
      unfold RCm
      rw [show 26 * p + (x + 1) = 26 * p + x + 1 by omega, mdS_skip h]
      exact hc'
    refine ⟨by omega, fun hne => ⟨by omega, fun τ5 e5 => ?_⟩, fun he => skip τ4 hR4 c4 (Or.inr (by rw [k1, k2]; omega))⟩
    have hR5 : VR τ5 ρ := by rw [e5]; exact hR4
    have c5 : RCm ρ V τ5 x1 (26 * p + x) := by rw [e5]; exact c4
    rw [hR5.2.2.2.1.2.1]
    have hgg : Wg (upS ρ 11 p x) := hg
    refine mf_X12_laysLeast (σ0 := τ5) (Q := fun _ τ1 => LA (upS ρ 11 p x) τ1) (fun r6 τ7 ha7 f7 => ?_) Fr.rf (r_laysLeast (g := upS ρ 11 p x) hgg ⟨h80, h8⟩ ?_ rfl (fun _ h => h))
    rotate_left
    · obtain ⟨v1, v2, v3, v4, v5⟩ := ha.1
      refine ⟨?_, ?_, ?_, fun j hj => ?_⟩
      · rw [e5]; exact v1
      · rw [e5]; exact v3
      · rw [e5]; exact v4
      · by_cases e : j = p
        · rw [e, e5, upS_s, upS_s]
        · rw [e5, upS_j e, upS_j e]; exact v5 j hj
    have hR7 : VR τ7 ρ := VR.frB f7 (by decide) hR5
    have c7 : RCm ρ V τ7 x1 (26 * p + x) := by
      unfold RCm
      rw [show τ7 0 65 = τ5 0 65 from f7.at rfl, show τ7 0 63 = τ5 0 63 from f7.at rfl, show τ7 0 64 = τ5 0 64 from f7.at rfl]; exact c5
    have fin : ∀ r8 : Int, r8 = V (26 * p + x) → ((r8 ≠ -1) → ∀ v10 : Int, v10 = w32 (x1 + 1) → ((r8 < τ7 0 65) → ∀ σ11 : St, σ11 = upS τ7 0 65 r8 → ∀ σ12 : St, σ12 = upS σ11 0 63 (p : Int) → ∀ σ13 : St, σ13 = upS σ12 0 64 (x : Int) → ∀ v14 : Int, v14 = ((x + 1 : Nat) : Int) → wp_X12_laysMends_l21 Q K n v10 (p : Int) v14 σ13) ∧ (¬ (r8 < τ7 0 65) → ∀ v14 : Int, v14 = ((x + 1 : Nat) : Int) → wp_X12_laysMends_l21 Q K n v10 (p : Int) v14 τ7)) ∧ (¬ (r8 ≠ -1) → ∀ v14 : Int, v14 = ((x + 1 : Nat) : Int) → wp_X12_laysMends_l21 Q K n x1 (p : Int) v14 τ7) := by
      intro r8 e8
      subst e8
      refine ⟨fun h1 v10 e10 => ?_, fun h1 => skip τ7 hR7 c7 (Or.inl (by omega))⟩
      have hns : ¬ (V (26 * p + x) = -1 ∨ (((26 * p + x) % 26 : Nat) : Int) = ρ 11 ((26 * p + x) / 26)) := by rw [k1, k2]; exact fun q => q.elim h1 hne
      obtain ⟨d1, d2, d3⟩ := c7
      rw [d1, w32_of (by omega) (by omega)] at e10
      rw [d2]
      refine ⟨fun hlt σ11 e11 σ12 e12 σ13 e13 v14 e14 => ?_, fun hge v14 e14 => ?_⟩
      · have hb : (mdS ρ V (26 * p + x)).2.1 = -1 ∨ V (26 * p + x) < (mdS ρ V (26 * p + x)).2.1 := by
          by_cases hz : (mdS ρ V (26 * p + x)).2.1 = -1
          · exact Or.inl hz
          · rw [if_neg hz] at hlt; exact Or.inr hlt
        rw [e14]
        refine ih (x + 1) v10 σ13 n (by omega) (by omega) (by rw [e13, e12, e11]; exact hR7) ?_
        unfold RCm
        rw [show 26 * p + (x + 1) = 26 * p + x + 1 by omega, mdS_new hns hb, k1, k2]
        refine ⟨e10, ?_, fun _ => ⟨?_, ?_⟩⟩
        · rw [e13, upS_j (by decide), e12, upS_j (by decide), e11, upS_s, if_neg h1]
        · rw [e13, upS_j (by decide), e12, upS_s]
        · rw [e13, upS_s]
      · have hb : ¬ ((mdS ρ V (26 * p + x)).2.1 = -1 ∨ V (26 * p + x) < (mdS ρ V (26 * p + x)).2.1) := by
          by_cases hz : (mdS ρ V (26 * p + x)).2.1 = -1
          · rw [if_pos hz] at hge; omega
          · rw [if_neg hz] at hge; exact fun q => q.elim hz hge
        rw [e14]
        refine ih (x + 1) v10 τ7 n (by omega) (by omega) hR7 ?_
        unfold RCm
        rw [show 26 * p + (x + 1) = 26 * p + x + 1 by omega, mdS_old hns hb]
        exact ⟨e10, d2, d3⟩
    refine r_leastOfAll hgg ha7 ⟨h80, h8⟩ (fun hz => fin (-1) ?_) (fun q1 q2 => fin _ ?_)
    · have hz : ρ 0 4 = 0 ∨ ρ 0 8 = 0 := hz
      rcases hMv with ⟨-, a⟩ | ⟨a, -⟩
      · exact a.symm
      · omega
    · have q1 : 0 < ρ 0 4 := q1
      have hr := w_head hg (r := 0) (by show (0 : Int) < ρ 0 4; omega)
      exact (hMv.lo q1 (ha7.2 (ρ 3 0) 0 (ρ 0 8) hr.1 hr.2 (by omega) q2 (Int.le_refl _))).symm
theorem r_laysMends {ρ τ : St} (hW : WW ρ) (hR : VR τ ρ) {V : Nat → Int} (hV : ∀ k, k < 26 * LL ρ → Mv ρ (k / 26) (k % 26) (V k)) {Q : Int → St → Prop} (hq : ∀ x1 τ1, RCm ρ V τ1 x1 (26 * LL ρ) → Q x1 τ1) : wp_X12_laysMends τ Q := by
  have h8 := hW.2.2.2.2.2.1
  have h80 := hW.2.2.2.2.1
  have eL : ((LL ρ : Nat) : Int) = ρ 0 8 := by unfold LL; omega
  unfold wp_X12_laysMends
  intro τ1 e1
  have lp : ∀ (d p : Nat) (x1 : Int) (τ' : St) (n : Nat), p + d = LL ρ → d < n → VR τ' ρ → RCm ρ V τ' x1 (26 * p) → wp_X12_laysMends_l11 Q n x1 (p : Int) τ' := by
    intro d
    induction d with
    | zero =>
      intro p x1 τ' n hd hn hR' hc
      obtain ⟨n, rfl⟩ := suc_n hn
      unfold wp_X12_laysMends_l11
      rw [hR'.2.2.2.2.2.1]
      exact ⟨fun _ => hq x1 τ' (by rw [← hd]; exact hc), fun h => absurd (by omega) h⟩
    | succ d ih =>
      intro p x1 τ' n hd hn hR' hc
      obtain ⟨n, rfl⟩ := suc_n hn
      unfold wp_X12_laysMends_l11
      rw [hR'.2.2.2.2.2.1]
      refine ⟨fun h => absurd h (by omega), fun _ => ?_⟩
      exact r_lm21 hW hV (by omega) (fun x2 τ2 a b => ih (p + 1) x2 τ2 n (by omega) (by omega) a b) 26 0 x1 τ' bigN (by omega) (by unfold bigN; omega) hR' hc
  refine lp (LL ρ) 0 0 τ1 bigN (by omega) (by unfold bigN; unfold LL; omega) (by rw [e1]; exact hR) ⟨rfl, ?_, fun h => absurd rfl h⟩
  rw [e1, upS_s]; rfl
def CcN (Cc : Bool → St → St → Prop) : Prop := (∀ b σ ρ, Cc b σ ρ → σ 80 9 = 0 ∨ (σ 80 9 = 1 ∧ MKm ρ σ)) ∧ (∀ b σ σ1 ρ, Cc b σ ρ → KMm ρ σ1 → Fr S_X11_mends σ σ1 → Cc b σ1 ρ)
section OPS
variable {Cc : Bool → St → St → Prop}
theorem s_mends (hC : CcL Cc) (hN : CcN Cc) : Step_mends (Inv Cc) := by
  rintro b σ τ ⟨ρ, hW, hVC, hVR, hc⟩
  have hk := hC.kl hVC hc
  have hm := hN.1 b σ ρ hc
  refine mf_X11_mends (σ0 := σ) (Q := fun r σ1 => KMm ρ σ1 ∧ r = σ1 80 5) (fun r σ1 h f => ?_) Fr.rf (by
    unfold wp_X11_mends
    exact c_mprep (Q := fun _ σ4 => KMm ρ σ4 ∧ σ4 80 5 = σ4 80 5) hW hk hm (fun σ1 h => ⟨h, rfl⟩))
  obtain ⟨h, hr⟩ := h
  obtain ⟨V, hV, hcm⟩ := h.2.2.2
  refine mf_X12_mends (σ0 := τ) (Q := fun r1 τ1 => RCm ρ V τ1 r1 (26 * LL ρ)) (fun r1 τ1 h1 f1 => ?_) Fr.rf (by
    unfold wp_X12_mends
    exact r_laysMends hW hVR hV (fun x1 τ1 h => h))
  refine ⟨?_, ρ, hW, VC.frB f (by decide) hVC, VR.frB f1 (by decide) hVR, hN.2 b σ σ1 ρ hc h f⟩
  rw [hr, hcm.1, h1.1]
theorem s_mend (hC : CcL Cc) (hN : CcN Cc) : Step_mend (Inv Cc) := by
  rintro b σ τ ⟨ρ, hW, hVC, hVR, hc⟩ x1 c1
  have hk := hC.kl hVC hc
  have hm := hN.1 b σ ρ hc
  by_cases hx : 0 ≤ x1 ∧ x1 ≤ 2
  rotate_left
  · unfold wp_X11_mend wp_X12_mend
    have fin : wp_X12_in x1 0 2 τ (fun r1 σ2 => ((r1 ≠ 0) → wp_X12_laysMends σ2 (fun r3 σ4 => ((r3 ≠ 0) → ((x1 ≠ 0) → ((x1 ≠ 1) → -2 = σ4 0 65 ∧ Inv Cc b σ σ4) ∧ (¬ (x1 ≠ 1) → -2 = σ4 0 64 ∧ Inv Cc b σ σ4)) ∧ (¬ (x1 ≠ 0) → -2 = σ4 0 63 ∧ Inv Cc b σ σ4)) ∧ (¬ (r3 ≠ 0) → -2 = (-1 : Int) ∧ Inv Cc b σ σ4))) ∧ (¬ (r1 ≠ 0) → (-2 : Int) = -2 ∧ Inv Cc b σ σ2)) := by
      refine r_in ?_
      rw [if_neg hx]
      exact ⟨fun h => absurd rfl h, fun _ => ⟨rfl, ρ, hW, hVC, hVR, hc⟩⟩
    exact ⟨fun _ => fin, fun h1 => ⟨fun h2 => absurd ⟨by omega, h2⟩ hx, fun _ => fin⟩⟩
  · refine mf_X11_mend (σ0 := σ) (Q := fun r σ1 => KMm ρ σ1 ∧ ((x1 = 0 ∧ r = σ1 80 6) ∨ (x1 = 1 ∧ r = σ1 80 7) ∨ (x1 = 2 ∧ r = σ1 80 8))) (fun r σ1 h f => ?_) Fr.rf (by
      unfold wp_X11_mend
      refine ⟨fun h => absurd h (by omega), fun _ => ⟨fun _ => ?_, fun h => absurd hx.2 h⟩⟩
      exact c_mprep (Q := fun _ σ4 => (x1 = 0 → KMm ρ σ4 ∧ ((x1 = 0 ∧ σ4 80 6 = σ4 80 6) ∨ (x1 = 1 ∧ σ4 80 6 = σ4 80 7) ∨ (x1 = 2 ∧ σ4 80 6 = σ4 80 8))) ∧ (x1 = 1 → KMm ρ σ4 ∧ ((x1 = 0 ∧ σ4 80 7 = σ4 80 6) ∨ (x1 = 1 ∧ σ4 80 7 = σ4 80 7) ∨ (x1 = 2 ∧ σ4 80 7 = σ4 80 8))) ∧ (¬ x1 = 0 ∧ ¬ x1 = 1 → KMm ρ σ4 ∧ ((x1 = 0 ∧ σ4 80 8 = σ4 80 6) ∨ (x1 = 1 ∧ σ4 80 8 = σ4 80 7) ∨ (x1 = 2 ∧ σ4 80 8 = σ4 80 8)))) hW hk hm (fun σ1 h => ⟨fun e => ⟨h, Or.inl ⟨e, rfl⟩⟩, fun e => ⟨h, Or.inr (Or.inl ⟨e, rfl⟩)⟩, fun e => ⟨h, Or.inr (Or.inr ⟨by omega, rfl⟩)⟩⟩))
    obtain ⟨h, hr⟩ := h
    obtain ⟨V, hV, hcm⟩ := h.2.2.2
    have hok := mdS_ok (ρ := ρ) (fun k hk => (hV k hk).va) (26 * LL ρ) (Nat.le_refl _)
    refine mf_X12_mend (σ0 := τ) (Q := fun r1 τ1 => r1 = r) (fun r1 τ1 h1 f1 => ?_) Fr.rf (by
      unfold wp_X12_mend
      refine r_in ?_
      rw [if_pos hx]
      refine ⟨fun _ => r_laysMends hW hVR hV (fun r3 τ1 hR => ?_), fun h => absurd (by decide) h⟩
      obtain ⟨d1, d2, d3⟩ := hR
      obtain ⟨g1, g2, g3, g4⟩ := hcm
      refine ⟨fun hn => ?_, fun hn => ?_⟩
      · have hnz : (mdS ρ V (26 * LL ρ)).2.1 ≠ -1 := by omega
        rw [if_neg hnz] at d2
        obtain ⟨d3, d4⟩ := d3 hnz
        refine ⟨fun h0 => ⟨fun h1 => ?_, fun h1 => ?_⟩, fun h0 => ?_⟩
        · rw [d2, ← g2]; rcases hr with ⟨e, er⟩ | ⟨e, er⟩ | ⟨e, er⟩
          · omega
          · omega
          · exact er.symm
        · rw [d4, ← g4]; rcases hr with ⟨e, er⟩ | ⟨e, er⟩ | ⟨e, er⟩
          · omega
          · exact er.symm
          · omega
        · rw [d3, ← g3]; rcases hr with ⟨e, er⟩ | ⟨e, er⟩ | ⟨e, er⟩
          · exact er.symm
          · omega
          · omega
      · rcases hr with ⟨e, er⟩ | ⟨e, er⟩ | ⟨e, er⟩ <;> omega)
    exact ⟨h1.symm, ρ, hW, VC.frB f (by decide) hVC, VR.frB f1 (by decide) hVR, hN.2 b σ σ1 ρ hc h (fun k j hS => f k j hS)⟩
end OPS
