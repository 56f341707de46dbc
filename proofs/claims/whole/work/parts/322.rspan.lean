/-! a span in the reference -/
def sumN (f : Nat → Int) : Nat → Int
  | 0 => 0
  | n + 1 => sumN f n + f n
theorem sumN_le {f g : Nat → Int} : ∀ n, (∀ k, k < n → f k ≤ g k) → sumN f n ≤ sumN g n
  | 0, _ => Int.le_refl _
  | n + 1, h => by have := sumN_le n (fun k hk => h k (by omega)); have := h n (by omega); unfold sumN; omega
theorem sumN_lt {f g : Nat → Int} : ∀ n, (∀ k, k < n → f k ≤ g k) → (∃ k, k < n ∧ f k < g k) → sumN f n < sumN g n
  | 0, _, ⟨k, hk, _⟩ => by omega
  | n + 1, h, ⟨k, hk, hl⟩ => by
    unfold sumN
    by_cases e : k = n
    · subst e
      have := sumN_le k (fun i hi => h i (by omega)); omega
    · have := sumN_lt n (fun i hi => h i (by omega)) ⟨k, by omega, hl⟩
      have := h n (by omega); omega
theorem sumN_nn {f : Nat → Int} : ∀ n, (∀ k, k < n → 0 ≤ f k) → 0 ≤ sumN f n
  | 0, _ => Int.le_refl _
  | n + 1, h => by have := sumN_nn n (fun k hk => h k (by omega)); have := h n (by omega); unfold sumN; omega
theorem sumN_ub {f : Nat → Int} {b : Int} : ∀ n : Nat, (∀ k, k < n → f k ≤ b) → sumN f n ≤ b * n
  | 0, _ => by simp [sumN]
  | n + 1, h => by
    have := sumN_ub n (fun k hk => h k (by omega)); have := h n (by omega)
    unfold sumN; push_cast; rw [Int.mul_add]; omega
theorem SS.nn {g τ0 τ : St} {i j a : Int} (hg : Wg g) (s : SS g τ0 τ i j) (ha : 0 ≤ a ∧ a < 12) : 0 ≤ rl τ a i j ∧ rl τ a i j ≤ 1000000000 := by
  rcases s.2.2 a ha.1 ha.2 with h | ⟨h, t⟩
  · omega
  · have := Te.nn jokA hg t; omega
/-- a part within the span itself, or shorter: what fits has a tree -/
theorem SS.vp {g τ0 τ : St} {i j p k l : Int} (hg : Wg g) (hi : 0 ≤ i ∧ i < j ∧ j ≤ 8) (hH : HS g τ0 i j) (s : SS g τ0 τ i j) (hp : isPart p) (hk : i ≤ k ∧ k < l ∧ l ≤ j) (hv : VP g τ p k l < 1000000000) : Te g jA p k l (VP g τ p k l) ∧ 0 ≤ VP g τ p k l := by
  have t : Te g jA p k l (VP g τ p k l) := by
    by_cases hl : l - k < j - i
    · exact (hH.ss hi s p k l hp hk.1 hk.2.1 hk.2.2 hl).te hv
    · have e1 : k = i := by omega
      have e2 : l = j := by omega
      subst e1 e2
      by_cases hp1 : 100 ≤ p
      · by_cases hc : l = k + 1 ∧ g 11 k.toNat = p - 100
        · rw [VP_yes hp1 hc]; exact (Te.letter_iff hg hp1).2 ⟨hc.1, hc.2, rfl⟩
        · rw [VP_no hp1 hc] at hv; omega
      · rw [VP_lab (by omega)] at hv ⊢
        unfold isPart at hp
        rcases s.2.2 p (by omega) (by omega) with h | ⟨h, t⟩
        · omega
        · exact t
  exact ⟨t, Te.nn jokA hg t⟩
theorem r_twos {g τ0 : St} (hg : Wg g) (hs8 : g 0 8 ≤ 8) {i j : Int} (hi : 0 ≤ i ∧ i < j ∧ j ≤ g 0 8) (hH : HS g τ0 i j) {r : Nat} (hr : (r : Int) < g 0 4) (h8 : g 8 r = 0) (h5 : g 5 r ≠ -1) {Q : Int → St → Prop} : ∀ (d : Nat) (m : Int) (τ : St) (n : Nat), m + d = j → i < m → d < n → SS g τ0 τ i j → (∀ τ1, SS g τ0 τ1 i j → SLe i j τ τ1 → (∀ m' c1 c2, m ≤ m' → m' < j → Te g jA (g 4 r) i m' c1 → Te g jA (g 5 r) m' j c2 → rl τ1 (g 3 r) i j ≤ jA (g 6 r) (jA c1 c2)) → Q 0 τ1) → wp_X12_laysTwos_l5 Q n (r : Int) i j m τ := by
  intro d
  have hb := hg.2.1
  obtain ⟨hh, hp1, hp2, hpr, -⟩ := hg.2.2 r hr
  have hp2 : isPart (g 5 r) := by rcases hp2 with h | h; exact absurd h h5; exact h
  have hi8 : 0 ≤ i ∧ i < j ∧ j ≤ 8 := by omega
  induction d with
  | zero =>
    intro m τ n hd hm hn s hk
    obtain ⟨n, rfl⟩ := suc_n hn
    unfold wp_X12_laysTwos_l5
    exact ⟨fun _ => hk τ s SLe.rf (fun m' c1 c2 h1 h2 => by omega), fun h => absurd h (by omega)⟩
  | succ d ih =>
    intro m τ n hd hm hn s hk
    obtain ⟨n, rfl⟩ := suc_n hn
    obtain ⟨k1, k2, k3, k4⟩ := s.1.2.2.2.1 r hr
    unfold wp_X12_laysTwos_l5 wp_X12_laysTwos_b90
    have nx : ∀ τ', SS g τ0 τ' i j → SLe i j τ τ' → (∀ c1 c2, Te g jA (g 4 r) i m c1 → Te g jA (g 5 r) m j c2 → rl τ' (g 3 r) i j ≤ jA (g 6 r) (jA c1 c2)) → ∀ v : Int, v = w32 (m + 1) → wp_X12_laysTwos_l5 Q n (r : Int) i j v τ' := by
      intro τ' s' le' hc' v ev
      rw [ev, w32_of (by omega) (by omega)]
      refine ih (m + 1) τ' n (by push_cast at hd; omega) (by omega) (by omega) s' (fun τ1 s1 le1 h1 => hk τ1 s1 (le'.tr le1) (fun m' c1 c2 hm1 hm2 t1 t2 => ?_))
      by_cases e : m' = m
      · subst e
        have q1 := hc' c1 c2 t1 t2
        have q2 := le1 (g 3 r) hh.1 hh.2
        omega
      · exact h1 m' c1 c2 (by omega) hm2 t1 t2
    have lo1 := hH.ss hi8 s (g 4 r) i m hp1 (by omega) (by omega) (by omega) (by omega)
    have lo2 := hH.ss hi8 s (g 5 r) m j hp2 (by omega) (by omega) (by omega) (by omega)
    rw [Int.toNat_natCast, k2]
    refine ⟨fun h => absurd h (by omega), fun _ => ⟨by omega, r_fits s.1 hp1 (by omega) hs8 ?_⟩⟩
    by_cases f1 : VP g τ (g 4 r) i m < 1000000000
    · rw [if_pos f1, k3]
      refine ⟨fun h => absurd h (by decide), fun _ => ⟨by omega, r_fits s.1 hp2 (by omega) hs8 ?_⟩⟩
      by_cases f2 : VP g τ (g 5 r) m j < 1000000000
      · rw [if_pos f2, k2, k1, k4]
        have n1 := (s.vp hg hi8 hH hp1 (by omega) f1)
        have n2 := (s.vp hg hi8 hH hp2 (by omega) f2)
        refine ⟨fun h => absurd h (by decide), fun _ => ⟨by omega, by omega, by omega, r_leastPart hp1 (by omega) hs8 f1 ⟨by omega, ?_⟩⟩⟩
        rw [k3]
        refine r_leastPart hp2 (by omega) hs8 f2 ?_
        rw [w32_of (x := g 6 r + VP g τ (g 4 r) i m) (by omega) (by omega), w32_of (x := g 6 r + VP g τ (g 4 r) i m + VP g τ (g 5 r) m j) (by omega) (by omega)]
        have cm : ∀ c1 c2, Te g jA (g 4 r) i m c1 → Te g jA (g 5 r) m j c2 → g 6 r + VP g τ (g 4 r) i m + VP g τ (g 5 r) m j ≤ jA (g 6 r) (jA c1 c2) := by
          intro c1 c2 t1 t2
          have := (lo1.le t1).1
          have := (lo2.le t2).1
          unfold jA; omega
        refine r_lowers hh hi8 (fun hx τ1 e1 => ?_) (fun hx => ?_)
        · have ht : Te g jA (g 3 r) i j (g 6 r + VP g τ (g 4 r) i m + VP g τ (g 5 r) m j) := by
            have := Te.pair hr h8 h5 (by omega) (by omega) n1.1 n2.1
            unfold jA at this
            rw [← Int.add_assoc] at this
            exact this
          obtain ⟨q1, q2, q3⟩ := s.low hh hi8 hx ht
          rw [← e1] at q1 q2 q3
          exact nx τ1 q1 q2 (fun c1 c2 t1 t2 => by rw [q3]; exact cm c1 c2 t1 t2)
        · exact nx τ s SLe.rf (fun c1 c2 t1 t2 => by have := cm c1 c2 t1 t2; omega)
      · rw [if_neg f2]
        exact ⟨fun _ => nx τ s SLe.rf (fun c1 c2 t1 t2 => absurd (lo2.le t2).2.1 f2), fun h => absurd rfl h⟩
    · rw [if_neg f1]
      exact ⟨fun _ => nx τ s SLe.rf (fun c1 c2 t1 t2 => absurd (lo1.le t1).2.1 f1), fun h => absurd rfl h⟩
/-- rule r of one part can't lower -/
def CL (g τ : St) (i j : Int) (r : Nat) : Prop := ∀ c1, VP g τ (g 4 r) i j ≤ c1 → rl τ (g 3 r) i j ≤ jA (g 6 r) c1
theorem r_pass {g τ0 : St} (hg : Wg g) (hs8 : g 0 8 ≤ 8) {i j : Int} (hi : 0 ≤ i ∧ i < j ∧ j ≤ g 0 8) (hH : HS g τ0 i j) {Q : Int → St → Prop} {K : Int → Int → Int → St → Prop} : ∀ (d r : Nat) (τ : St) (f : Int) (n : Nat), (r : Int) + d = g 0 4 → d < n → SS g τ0 τ i j → (f = 0 ∨ f = 1) → (∀ τ1 f1, SS g τ0 τ1 i j → SLe i j τ τ1 → (f1 = 0 ∨ f1 = 1) → (f1 = 0 → f = 0 ∧ τ1 = τ ∧ ∀ r' : Nat, r ≤ r' → (r' : Int) < g 0 4 → g 8 r' = 0 → g 5 r' = -1 → CL g τ i j r') → (f1 = 1 → f = 1 ∨ ∃ a : Nat, a < 12 ∧ rl τ1 a i j < rl τ a i j) → K i j f1 τ1) → wp_X12_laysSpan_l52 Q K n i j f (r : Int) τ := by
  intro d
  have hb := hg.2.1
  have hi8 : 0 ≤ i ∧ i < j ∧ j ≤ 8 := by omega
  induction d with
  | zero =>
    intro r τ f n hd hn s hf hk
    obtain ⟨n, rfl⟩ := suc_n hn
    unfold wp_X12_laysSpan_l52
    rw [s.1.1]
    exact ⟨fun _ => hk τ f s SLe.rf hf (fun h => ⟨h, rfl, fun r' h1 h2 => by omega⟩) (fun h => Or.inl h), fun h => absurd h (by omega)⟩
  | succ d ih =>
    intro r τ f n hd hn s hf hk
    obtain ⟨n, rfl⟩ := suc_n hn
    have hr : (r : Int) < g 0 4 := by omega
    obtain ⟨k1, k2, k3, k4⟩ := s.1.2.2.2.1 r hr
    obtain ⟨hh, hp1, hp2, hpr, -⟩ := hg.2.2 r hr
    unfold wp_X12_laysSpan_l52 wp_X12_laysSpan_b138 wp_X12_laysSpan_b143 wp_X12_laysSpan_b144
    have no : (g 8 r = 0 → g 5 r = -1 → CL g τ i j r) → ∀ f' : Int, f' = f → ∀ v : Int, v = w32 ((r : Int) + 1) → wp_X12_laysSpan_l52 Q K n i j f' v τ := by
      intro hc f' ef v ev
      rw [ev, w32_of (by omega) (by omega), show (r : Int) + 1 = ((r + 1 : Nat) : Int) by omega, ef]
      refine ih (r + 1) τ f n (by push_cast at hd ⊢; omega) (by omega) s hf (fun τ1 f1 s1 le1 hf1 h0 h1 => hk τ1 f1 s1 le1 hf1 (fun h => ?_) h1)
      obtain ⟨q1, q2, q3⟩ := h0 h
      refine ⟨q1, q2, fun r' a1 a2 a3 a4 => ?_⟩
      by_cases e : r' = r
      · subst e; exact hc a3 a4
      · exact q3 r' (by omega) a2 a3 a4
    rw [s.1.1]
    refine ⟨fun h => absurd h (by omega), fun _ => r_isIn hg s.1.2.1 hr ?_⟩
    by_cases h8 : g 8 r = 0
    · rw [if_pos h8, Int.toNat_natCast, k3]
      refine ⟨fun h => absurd h (by decide), fun _ => ⟨by omega, fun h5 => no (fun _ h => absurd h h5) f rfl, fun h5 => ⟨by omega, ?_⟩⟩⟩
      have h5 : g 5 r = -1 := by omega
      rw [k2]
      refine r_fits s.1 hp1 (by omega) hs8 ?_
      by_cases f1 : VP g τ (g 4 r) i j < 1000000000
      · rw [if_pos f1, k2, k1, k4]
        have n1 := s.vp hg hi8 hH hp1 (by omega) f1
        refine ⟨fun h => absurd h (by decide), fun _ => ⟨by omega, by omega, by omega, r_leastPart hp1 (by omega) hs8 f1 ?_⟩⟩
        rw [w32_of (x := g 6 r + VP g τ (g 4 r) i j) (by omega) (by omega)]
        refine r_lowers hh hi8 (fun hx τ1 e1 => ?_) (fun hx => ?_)
        · have ht : Te g jA (g 3 r) i j (g 6 r + VP g τ (g 4 r) i j) := Te.single hr h8 h5 n1.1
          obtain ⟨q1, q2, q3⟩ := s.low hh hi8 hx ht
          rw [← e1] at q1 q2 q3
          refine ⟨fun _ v ev => ?_, fun h => absurd (by decide) h⟩
          rw [ev, w32_of (by omega) (by omega), show (r : Int) + 1 = ((r + 1 : Nat) : Int) by omega]
          refine ih (r + 1) τ1 1 n (by push_cast at hd ⊢; omega) (by omega) q1 (Or.inr rfl) (fun τ2 f2 s2 le2 hf2 h0 h1 => hk τ2 f2 s2 (q2.tr le2) hf2 (fun h => ?_) (fun h => Or.inr ?_))
          · have := (h0 h).1; omega
          · refine ⟨(g 3 r).toNat, by omega, ?_⟩
            rw [show (((g 3 r).toNat : Nat) : Int) = g 3 r by omega]
            have := le2 (g 3 r) hh.1 hh.2
            omega
        · have hc : g 8 r = 0 → g 5 r = -1 → CL g τ i j r := fun _ _ c1 hc1 => by unfold jA; omega
          refine ⟨fun h => absurd rfl h, fun _ => ⟨fun h => no hc 0 h.symm, fun h => no hc 1 (by omega)⟩⟩
      · rw [if_neg f1]
        refine ⟨fun _ => no (fun _ _ c1 hc1 => ?_) f rfl, fun h => absurd rfl h⟩
        have := (s.nn hg hh).2
        unfold jA; omega
    · rw [if_neg h8]
      exact ⟨fun _ => no (fun h => absurd h h8) f rfl, fun h => absurd rfl h⟩
/-- rules of two parts are laid -/
def PB (g τ : St) (i j : Int) (n : Nat) : Prop := ∀ (r : Nat) (m c1 c2 : Int), r < n → (r : Int) < g 0 4 → g 8 r = 0 → g 5 r ≠ -1 → i < m → m < j → Te g jA (g 4 r) i m c1 → Te g jA (g 5 r) m j c2 → rl τ (g 3 r) i j ≤ jA (g 6 r) (jA c1 c2)
theorem PB.le {g τ τ1 : St} {i j : Int} {n : Nat} (hg : Wg g) (h : PB g τ i j n) (l : SLe i j τ τ1) : PB g τ1 i j n := fun r m c1 c2 h1 h2 h3 h4 h5 h6 t1 t2 => by
  have := h r m c1 c2 h1 h2 h3 h4 h5 h6 t1 t2
  have hh := w_head hg h2
  have := l (g 3 r) hh.1 hh.2
  omega
/-- laid and closed: least -/
theorem ss_lo {g τ0 τ : St} (hg : Wg g) {i j : Int} (hi : 0 ≤ i ∧ i < j ∧ j ≤ 8) (s : SS g τ0 τ i j) (hb : PB g τ i j (g 0 4).toNat) (hc : ∀ r : Nat, (r : Int) < g 0 4 → g 8 r = 0 → g 5 r = -1 → CL g τ i j r) : ∀ a : Int, 0 ≤ a → a < 12 → Lo g jA a i j (rl τ a i j) 1000000000 := by
  have key : ∀ (k : Nat) (a c : Int), 0 ≤ a → a < 12 → TP g jA k a i j c → rl τ a i j ≤ c := by
    intro k
    induction k with
    | zero => intro a c h0 h1 h; have := h.1; omega
    | succ k ih =>
      intro a c h0 h1 h
      rcases h with h | ⟨r, hr, h8, h3, ⟨h5, c1, hc1, rfl⟩ | ⟨h5, m, c1, c2, hm1, hm2, hc1, hc2, rfl⟩⟩
      · exact ih a c h0 h1 h
      · rw [← h3]
        refine hc r hr h8 h5 c1 ?_
        have hp := (hg.2.2 r hr).2.1
        unfold isPart at hp
        by_cases hl : 100 ≤ g 4 r
        · have q := (Te.letter_iff hg hl).1 ⟨k, hc1⟩
          rw [VP_yes hl ⟨q.1, q.2.1⟩]; omega
        · rw [VP_lab (by omega)]
          exact ih _ c1 (by omega) (by omega) hc1
      · rw [← h3]
        exact hb r m c1 c2 (by omega) hr h8 h5 hm1 hm2 ⟨k, hc1⟩ ⟨k, hc2⟩
  intro a h0 h1
  rcases s.2.2 a h0 h1 with h | ⟨h, t⟩
  · refine Or.inl ⟨h, fun c hc => ?_⟩
    obtain ⟨c', hc', k, hk⟩ := te_small8 hg hc (by omega)
    have := key k a c' h0 h1 hk
    omega
  · exact Or.inr ⟨h, t, fun c ⟨k, hk⟩ => key k a c h0 h1 hk⟩
theorem r_passes {g τ0 : St} (hg : Wg g) (hs8 : g 0 8 ≤ 8) {i j : Int} (hi : 0 ≤ i ∧ i < j ∧ j ≤ g 0 8) (hH : HS g τ0 i j) {Q : Int → St → Prop} (hq : ∀ τ1, SS g τ0 τ1 i j → (∀ a : Int, 0 ≤ a → a < 12 → Lo g jA a i j (rl τ1 a i j) 1000000000) → Q 0 τ1) : ∀ (N : Nat) (τ : St) (n : Nat), sumN (fun a => rl τ a i j) 12 ≤ N → N + 1 < n → SS g τ0 τ i j → PB g τ i j (g 0 4).toNat → wp_X12_laysSpan_l43 Q n i j 1 τ := by
  intro N
  have hi8 : 0 ≤ i ∧ i < j ∧ j ≤ 8 := by omega
  have h0 := hg.1
  have hb := hg.2.1
  induction N with
  | zero =>
    intro τ n hN hn s hp
    obtain ⟨n, rfl⟩ := suc_n (show 0 < n by omega)
    unfold wp_X12_laysSpan_l43
    refine ⟨fun h => absurd h (by decide), fun _ => r_pass hg hs8 hi hH (g 0 4).toNat 0 τ 0 bigN (by omega) (by unfold bigN; omega) s (Or.inl rfl) (fun τ1 f1 s1 le1 hf1 q0 q1 => ?_)⟩
    obtain ⟨n, rfl⟩ := suc_n (show 0 < n by omega)
    unfold wp_X12_laysSpan_l43
    rcases hf1 with rfl | rfl
    · obtain ⟨-, e, hc⟩ := q0 rfl
      subst e
      exact ⟨fun _ => hq _ s (ss_lo hg hi8 s hp (fun r hr => hc r (Nat.zero_le _) hr)), fun h => absurd rfl h⟩
    · exfalso
      rcases q1 rfl with h | h
      · omega
      · have q2 := sumN_lt 12 (f := fun a => rl τ1 a i j) (g := fun a => rl τ a i j) (fun k hk => le1 k (by omega) (by omega)) h
        have q3 := sumN_nn 12 (f := fun a => rl τ1 a i j) (fun k hk => (s1.nn hg (by omega)).1)
        omega
  | succ N ih =>
    intro τ n hN hn s hp
    obtain ⟨n, rfl⟩ := suc_n (show 0 < n by omega)
    unfold wp_X12_laysSpan_l43
    refine ⟨fun h => absurd h (by decide), fun _ => r_pass hg hs8 hi hH (g 0 4).toNat 0 τ 0 bigN (by omega) (by unfold bigN; omega) s (Or.inl rfl) (fun τ1 f1 s1 le1 hf1 q0 q1 => ?_)⟩
    rcases hf1 with rfl | rfl
    · obtain ⟨n, rfl⟩ := suc_n (show 0 < n by omega)
      unfold wp_X12_laysSpan_l43
      obtain ⟨-, e, hc⟩ := q0 rfl
      subst e
      exact ⟨fun _ => hq _ s (ss_lo hg hi8 s hp (fun r hr => hc r (Nat.zero_le _) hr)), fun h => absurd rfl h⟩
    · rcases q1 rfl with h | h
      · exfalso; omega
      · have q2 := sumN_lt 12 (f := fun a => rl τ1 a i j) (g := fun a => rl τ a i j) (fun k hk => le1 k (by omega) (by omega)) h
        exact ih τ1 n (by push_cast at hN; omega) (by omega) s1 (hp.le hg le1)
theorem r_span2 {g τ0 : St} (hg : Wg g) (hs8 : g 0 8 ≤ 8) {i j : Int} (hi : 0 ≤ i ∧ i < j ∧ j ≤ g 0 8) (hH : HS g τ0 i j) {Q : Int → St → Prop} (hq : ∀ τ1, SS g τ0 τ1 i j → (∀ a : Int, 0 ≤ a → a < 12 → Lo g jA a i j (rl τ1 a i j) 1000000000) → Q 0 τ1) : ∀ (d r : Nat) (τ : St) (n : Nat), (r : Int) + d = g 0 4 → d < n → SS g τ0 τ i j → PB g τ i j r → wp_X12_laysSpan_l2 Q n i j (r : Int) τ := by
  intro d
  have hi8 : 0 ≤ i ∧ i < j ∧ j ≤ 8 := by omega
  have h0 := hg.1
  have hb := hg.2.1
  induction d with
  | zero =>
    intro r τ n hd hn s hp
    obtain ⟨n, rfl⟩ := suc_n hn
    unfold wp_X12_laysSpan_l2
    rw [s.1.1]
    refine ⟨fun _ => r_passes hg hs8 hi hH hq (sumN (fun a => rl τ a i j) 12).toNat τ bigN (by omega) ?_ s (by rw [show (g 0 4).toNat = r by omega]; exact hp), fun h => absurd h (by omega)⟩
    have := sumN_ub 12 (f := fun a => rl τ a i j) (b := 1000000000) (fun k hk => (s.nn hg (by omega)).2)
    unfold bigN; omega
  | succ d ih =>
    intro r τ n hd hn s hp
    obtain ⟨n, rfl⟩ := suc_n hn
    have hr : (r : Int) < g 0 4 := by omega
    obtain ⟨k1, k2, k3, k4⟩ := s.1.2.2.2.1 r hr
    unfold wp_X12_laysSpan_l2 wp_X12_laysSpan_b35
    have nx : ∀ τ1, SS g τ0 τ1 i j → SLe i j τ τ1 → (∀ (m c1 c2 : Int), g 8 r = 0 → g 5 r ≠ -1 → i < m → m < j → Te g jA (g 4 r) i m c1 → Te g jA (g 5 r) m j c2 → rl τ1 (g 3 r) i j ≤ jA (g 6 r) (jA c1 c2)) → ∀ v : Int, v = w32 ((r : Int) + 1) → wp_X12_laysSpan_l2 Q n i j v τ1 := by
      intro τ1 s1 le1 hc v ev
      rw [ev, w32_of (by omega) (by omega), show (r : Int) + 1 = ((r + 1 : Nat) : Int) by omega]
      refine ih (r + 1) τ1 n (by push_cast at hd ⊢; omega) (by omega) s1 (fun r' m c1 c2 a1 a2 a3 a4 a5 a6 t1 t2 => ?_)
      by_cases e : r' = r
      · subst e; exact hc m c1 c2 a3 a4 a5 a6 t1 t2
      · exact (hp.le hg le1) r' m c1 c2 (by omega) a2 a3 a4 a5 a6 t1 t2
    rw [s.1.1]
    refine ⟨fun h => absurd h (by omega), fun _ => r_isIn hg s.1.2.1 hr ?_⟩
    by_cases h8 : g 8 r = 0
    · rw [if_pos h8, Int.toNat_natCast, k3]
      refine ⟨fun h => absurd h (by decide), fun _ => ⟨by omega, fun h5 => nx τ s SLe.rf (fun m c1 c2 _ h => absurd h5 h), fun h5 => ?_⟩⟩
      unfold wp_X12_laysTwos
      intro v ev
      rw [ev, w32_of (x := i + 1) (by omega) (by omega)]
      refine r_twos (Q := fun _ σ4 => ∀ v5 : Int, v5 = w32 ((r : Int) + 1) → wp_X12_laysSpan_l2 Q n i j v5 σ4) hg hs8 hi hH hr h8 h5 (j - (i + 1)).toNat (i + 1) τ bigN (by omega) (by omega) (by unfold bigN; omega) s (fun τ1 s1 le1 hc => nx τ1 s1 le1 (fun m c1 c2 _ _ hm1 hm2 t1 t2 => hc m c1 c2 (by omega) hm2 t1 t2))
    · rw [if_neg h8]
      exact ⟨fun _ => nx τ s SLe.rf (fun m c1 c2 h => absurd h h8), fun h => absurd rfl h⟩
theorem r_laysSpan {g τ : St} (hg : Wg g) (hs8 : g 0 8 ≤ 8) {i j : Int} (hi : 0 ≤ i ∧ i < j ∧ j ≤ g 0 8) (hH : HS g τ i j) (v : RG τ g) (hf : ∀ a : Int, 0 ≤ a → a < 12 → rl τ a i j = 1000000000) {Q : Int → St → Prop} (hq : ∀ τ1, SS g τ τ1 i j → (∀ a : Int, 0 ≤ a → a < 12 → Lo g jA a i j (rl τ1 a i j) 1000000000) → Q 0 τ1) : wp_X12_laysSpan i j τ Q := by
  unfold wp_X12_laysSpan
  have h0 := hg.1
  have hb := hg.2.1
  exact r_span2 hg hs8 hi hH hq (g 0 4).toNat 0 τ bigN (by omega) (by unfold bigN; omega) ⟨v, fun _ _ => rfl, fun a h0 h1 => Or.inl (hf a h0 h1)⟩ (fun r m c1 c2 h => by omega)
