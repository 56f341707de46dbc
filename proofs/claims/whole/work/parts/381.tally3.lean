/-! the class's numbers by cost: spans, and all up to a cost -/
def TaO (ρ σ : St) (m : Nat → Nat) (t : Nat) : Prop := ∃ k : Nat, k ≤ 300 ∧ m t ≤ k ∧ σ 77 t = (k : Int) ∧ ∀ a, a < 12 → Taq ρ σ (12 * t + a) k
def TaM (ρ σ : St) (m : Nat → Nat) : Prop := (∀ q, q < 432 → σ 83 (301 * q) = 0) ∧ ∀ t, t < spN (LL ρ) → TaO ρ σ m t
def BL (ρ σ : St) : Prop := Bt ρ σ ∧ σ 36 7 = 1 ∧ Lw ρ σ
def TaX (ρ σ : St) (m : Nat → Nat) (s c a : Nat) : Prop := BL ρ σ ∧ (∀ q, q < 432 → σ 83 (301 * q) = 0) ∧ (∀ t, t < spN (LL ρ) → t ≠ s → TaO ρ σ m t) ∧ σ 77 s = ((c - 1 : Nat) : Int) ∧ ∀ b, b < 12 → Taq ρ σ (12 * s + b) (if b < a then c else c - 1)
theorem Taq.oth {ρ σ σ1 : St} {q c : Nat} (hc : c ≤ 300) (e83 : ∀ j, j ≠ 301 * q + c → σ1 83 j = σ 83 j) (e78 : ∀ j, j ≠ q → σ1 78 j = σ 78 j) (e79 : ∀ j, j ≠ q → σ1 79 j = σ 79 j) {x k : Nat} (hx : x ≠ q) (hk : k ≤ 300) (h : Taq ρ σ x k) : Taq ρ σ1 x k := by
  obtain ⟨a, b, d⟩ := h
  refine ⟨fun y hy => ?_, by rw [e79 x hx]; exact b, by rw [e78 x hx]; exact d⟩
  rw [e83 _ (by omega)]; exact a y hy
theorem BL.ext {ρ σ σ1 : St} (e : ∀ k, k ≠ 77 → k ≠ 78 → k ≠ 79 → k ≠ 83 → σ1 k = σ k) (h : BL ρ σ) : BL ρ σ1 := by
  obtain ⟨a, b, d⟩ := h
  refine ⟨a.ext ?_ (fun k _ _ => e k (by omega) (by omega) (by omega) (by omega)) (fun k _ _ => e k (by omega) (by omega) (by omega) (by omega)) ?_, ?_, ?_⟩
  · rw [e 14 (by decide) (by decide) (by decide) (by decide)]
  · rw [e 24 (by decide) (by decide) (by decide) (by decide)]; exact ⟨rfl, rfl, rfl, rfl, rfl, rfl⟩
  · rw [e 36 (by decide) (by decide) (by decide) (by decide)]; exact b
  · unfold Lw; rw [e 37 (by decide) (by decide) (by decide) (by decide)]; exact d
theorem TaX.step {ρ σ σ1 : St} (hg : Wg ρ) (hL : LL ρ < 9) {m : Nat → Nat} {s c a : Nat} (hs : s < spN (LL ρ)) (ha : a < 12) (hc : 1 ≤ c ∧ c ≤ 300) (h : TaX ρ σ m s c a) (e : ∀ k, k ≠ 78 → k ≠ 79 → k ≠ 83 → σ1 k = σ k) (e83 : ∀ j, j ≠ 301 * (12 * s + a) + c → σ1 83 j = σ 83 j) (en : σ1 83 (301 * (12 * s + a) + c) = nn ρ (12 * s + a) c) (e78 : ∀ j, j ≠ 12 * s + a → σ1 78 j = σ 78 j) (e79 : ∀ j, j ≠ 12 * s + a → σ1 79 j = σ 79 j) (ho : (nn ρ (12 * s + a) c = 0 ∧ σ1 78 (12 * s + a) = σ 78 (12 * s + a) ∧ σ1 79 (12 * s + a) = σ 79 (12 * s + a)) ∨ (nn ρ (12 * s + a) c ≠ 0 ∧ σ1 78 (12 * s + a) = (c : Int) ∧ σ1 79 (12 * s + a) = min B0 (σ 79 (12 * s + a) + nn ρ (12 * s + a) c))) : TaX ρ σ1 m s c (a + 1) := by
  obtain ⟨hb, hz, hO, h77, hT⟩ := h
  have e77 : σ1 77 = σ 77 := e 77 (by decide) (by decide) (by decide)
  refine ⟨hb.ext (fun k _ h2 h3 h4 => e k h2 h3 h4), fun q hq => ?_, fun t ht hne => ?_, by rw [e77]; exact h77, fun b hb2 => ?_⟩
  · rw [e83 _ (by omega)]; exact hz q hq
  · obtain ⟨k, k1, k2, k3, k4⟩ := hO t ht hne
    exact ⟨k, k1, k2, by rw [e77]; exact k3, fun b hb2 => (k4 b hb2).oth hc.2 e83 e78 e79 (by omega) k1⟩
  · by_cases hab : b = a
    · subst hab
      have t0 := hT b hb2
      rw [if_neg (by omega)] at t0
      rw [if_pos (by omega)]
      obtain ⟨t1, t2, t3, t4, t5⟩ := t0
      generalize 12 * s + b = q at *
      rw [show c - 1 + 1 = c by omega] at t2
      refine ⟨fun y hy => ?_, ?_, ?_⟩
      · by_cases ey : y = c
        · rw [ey]; exact en
        · rw [e83 _ (by omega)]; exact t1 y (by omega)
      · rw [nn_s hg]
        rcases ho with ⟨o1, o2, o3⟩ | ⟨o1, o2, o3⟩
        · rw [o3, t2, o1, Int.add_zero]
          have := sat_r (sumN_nn (f := ct ρ q) c (fun k _ => ct_n hg q k))
          unfold sR at this; omega
        · rw [o3, t2]
      · rcases ho with ⟨o1, o2, o3⟩ | ⟨o1, o2, o3⟩
        · rw [o2]
          refine ⟨t3, by omega, fun y hy hne => ?_⟩
          by_cases ey : y = c
          · rw [ey] at hne; exact absurd o1 hne
          · exact t5 y (by omega) hne
        · rw [o2]
          exact ⟨by omega, by omega, fun y hy _ => by omega⟩
    · have t0 := hT b hb2
      have e2 : (if b < a + 1 then c else c - 1) = (if b < a then c else c - 1) := by
        by_cases z : b < a
        · rw [if_pos z, if_pos (by omega)]
        · rw [if_neg z, if_neg (by omega)]
      rw [e2]
      exact t0.oth hc.2 e83 e78 e79 (by omega) (by split <;> omega)
def insS (ρ : St) (t s : Nat) : Prop := spB (LL ρ) s ≤ spB (LL ρ) t ∧ spF (LL ρ) t ≤ spF (LL ρ) s
theorem TaX.kn {ρ σ : St} (hg : Wg ρ) (hL : LL ρ < 9) {m : Nat → Nat} {s c a mo : Nat} (hs : s < spN (LL ρ)) (ha : a < 12) (hc : 1 ≤ c ∧ c ≤ 300) (hmo : c ≤ mo) (hm : ∀ t, t < spN (LL ρ) → insS ρ t s → t ≠ s → mo ≤ m t) (h : TaX ρ σ m s c a) {k : Cs} (hk : k ∈ cI ρ (12 * s + a)) : KN ρ σ k.2.2.1 (c - 1) ∧ KN ρ σ k.2.2.2 (c - 1) := by
  obtain ⟨hb, hz, hO, h77, hT⟩ := h
  have sp := sp_s hL hs
  have part : ∀ (p : Int) (i j : Nat), isPart p → spB (LL ρ) s ≤ i → i < j → j ≤ spF (LL ρ) s → KN ρ σ (pv ρ p i j) (c - 1) := by
    intro p i j hp h1 h2 h3 h0
    have q := sp_a (L := LL ρ) hL (i := i) (j := j) (by omega)
    unfold isPart at hp
    have hl : p < 100 := by
      refine Classical.byContradiction (fun z => ?_)
      by_cases hcc : j = i + 1 ∧ ρ 11 i = p - 100
      · rw [pv_yes (by omega) hcc] at h0; omega
      · rw [pv_no (by omega) hcc] at h0; omega
    have e : (pv ρ p i j).toNat = 12 * spA (LL ρ) i j + p.toNat := by rw [pv_lab hl]; omega
    rw [e]
    by_cases es : spA (LL ρ) i j = s
    · rw [es]
      have := hT p.toNat (by omega)
      by_cases z : p.toNat < a
      · rw [if_pos z] at this; exact ⟨c, by omega, by omega, this⟩
      · rw [if_neg z] at this; exact ⟨c - 1, by omega, by omega, this⟩
    · obtain ⟨kk, k1, k2, k3, k4⟩ := hO _ q.1 es
      have := hm _ q.1 (by unfold insS; rw [q.2.1, q.2.2]; exact ⟨h1, h3⟩) es
      exact ⟨kk, by omega, k1, k4 _ (by omega)⟩
  obtain ⟨r, r1, r2, r3, r4, rr⟩ := cI_info ha hk
  have hp1 := (hg.2.2 r r1).2.1
  have hp2 := (hg.2.2 r r1).2.2.1
  rcases rr with ⟨h5, h6, -, h7, h8⟩ | ⟨h5, mm, m1, m2, h6, h7, -, h8, h9⟩
  · rw [h7, h8]
    exact ⟨part _ _ _ hp1 (by omega) (by omega) (by omega), fun z => absurd z (by decide)⟩
  · rw [h8, h9]
    exact ⟨part _ _ _ hp1 (by omega) (by omega) (by omega), part _ _ _ (hp2.resolve_left h5) (by omega) (by omega) (by omega)⟩
theorem c_tSpan {ρ σ : St} (hg : Wg ρ) (hL : LL ρ < 9) {m : Nat → Nat} {s mo : Nat} (hs : s < spN (LL ρ)) (hmo : mo ≤ 300) (hm : ∀ t, t < spN (LL ρ) → insS ρ t s → t ≠ s → mo ≤ m t) (hB : BL ρ σ) (hT : TaM ρ σ m) {Q : Int → St → Prop} (hq : ∀ σ1, BL ρ σ1 → TaM ρ σ1 (fun t => if t = s then mo else m t) → Q 0 σ1) : wp_X8_countSpan (s : Int) (mo : Int) σ Q := by
  have h3 := sp_3 _ hL
  have lp32 : ∀ (K : Int → Int → Int → Int → St → Prop) (c : Nat), 1 ≤ c → c ≤ 300 → c ≤ mo → (∀ σ1, TaX ρ σ1 m s c 12 → K (s : Int) (mo : Int) ((12 * s : Nat) : Int) ((c + 1 : Nat) : Int) (upS σ1 77 s c)) → ∀ (d a : Nat) (σ : St) (n : Nat), a + d = 12 → d < n → TaX ρ σ m s c a → wp_X8_countSpan_l32 Q K n (s : Int) (mo : Int) ((12 * s : Nat) : Int) (c : Int) ((12 * s + a : Nat) : Int) σ := by
    intro K c hc1 hc2 hcm hK d
    induction d with
    | zero =>
      intro a σ n hd hn hX
      obtain ⟨n, rfl⟩ := suc_n hn
      unfold wp_X8_countSpan_l32
      rw [w32_of (x := ((12 * s : Nat) : Int) + 12) (by omega) (by omega)]
      refine ⟨fun _ => ⟨by omega, fun σ3 e3 v4 e4 => ?_⟩, fun w => absurd (by omega) w⟩
      rw [e4, e3, w32_of (by omega) (by omega), Int.toNat_natCast, show (c : Int) + 1 = ((c + 1 : Nat) : Int) by omega]
      exact hK σ (by rw [show a = 12 by omega] at hX; exact hX)
    | succ d ih =>
      intro a σ n hd hn hX
      obtain ⟨n, rfl⟩ := suc_n hn
      have ha : a < 12 := by omega
      have t0 := hX.2.2.2.2 a ha
      rw [if_neg (by omega)] at t0
      have t79 := t0.2.1
      rw [show c - 1 + 1 = c by omega] at t79
      unfold wp_X8_countSpan_l32
      rw [w32_of (x := ((12 * s : Nat) : Int) + 12) (by omega) (by omega)]
      refine ⟨fun w => absurd w (by omega), fun _ => c_countItem hg hL hX.1.1 hX.1.2.2 (q := 12 * s + a) (c := c) (by omega) ⟨hc1, hc2⟩ t79 (fun k hk => hX.kn hg hL hs ha ⟨hc1, hc2⟩ hcm hm hk) ?_⟩
      have ei : (w32 (w32 (((12 * s + a : Nat) : Int) * 301) + (c : Int))) = ((301 * (12 * s + a) + c : Nat) : Int) := by
        rw [w32_of (x := ((12 * s + a : Nat) : Int) * 301) (by omega) (by omega), w32_of (by omega) (by omega)]; omega
      rw [ei, Int.toNat_natCast]
      refine ⟨by omega, fun σ7 e7 => ?_⟩
      have nx : ∀ σ1, TaX ρ σ1 m s c (a + 1) → wp_X8_countSpan_b102 Q K (wp_X8_countSpan_l32 Q K n) (s : Int) (mo : Int) ((12 * s : Nat) : Int) (c : Int) ((12 * s + a : Nat) : Int) σ1 := by
        intro σ1 h1
        unfold wp_X8_countSpan_b102
        intro v ev
        rw [ev, w32_of (by omega) (by omega), show ((12 * s + a : Nat) : Int) + 1 = ((12 * s + (a + 1) : Nat) : Int) by omega]
        exact ih (a + 1) σ1 n (by omega) (by omega) h1
      rw [Int.toNat_natCast]
      refine ⟨fun z => nx σ7 ?_, fun z => ⟨by omega, fun σ8 e8 => ⟨by omega, ?_⟩⟩⟩
      · refine hX.step hg hL hs ha ⟨hc1, hc2⟩ (fun k h1 h2 h4 => ?_) (fun j hj => ?_) ?_ (fun j hj => ?_) (fun j hj => ?_) (Or.inl ⟨z, ?_, ?_⟩)
        · rw [e7]; exact upS_k h4
        · rw [e7, upS_j hj]
        · rw [e7, upS_s]
        · rw [e7, upS_k (by decide)]
        · rw [e7, upS_k (by decide)]
        · rw [e7, upS_k (by decide)]
        · rw [e7, upS_k (by decide)]
      · have e79 : σ8 79 (12 * s + a) = σ 79 (12 * s + a) := by rw [e8, upS_k (by decide), e7, upS_k (by decide)]
        rw [e79]
        have r79 : sR (σ 79 (12 * s + a)) := by rw [t79]; exact sat_r (sumN_nn _ (fun k _ => ct_n hg _ k))
        refine c_add r79 (nn_r hg _ _) ⟨by omega, fun σ11 e11 => nx σ11 ?_⟩
        refine hX.step hg hL hs ha ⟨hc1, hc2⟩ (fun k h1 h2 h4 => ?_) (fun j hj => ?_) ?_ (fun j hj => ?_) (fun j hj => ?_) (Or.inr ⟨z, ?_, ?_⟩)
        · rw [e11, e8, e7, upS_k h2, upS_k h1, upS_k h4]
        · rw [e11, upS_k (by decide), e8, upS_k (by decide), e7, upS_j hj]
        · rw [e11, upS_k (by decide), e8, upS_k (by decide), e7, upS_s]
        · rw [e11, upS_k (by decide), e8, upS_j hj, e7, upS_k (by decide)]
        · rw [e11, upS_j hj, e8, upS_k (by decide), e7, upS_k (by decide)]
        · rw [e11, upS_k (by decide), e8, upS_s]
        · rw [e11, upS_s]
  have lp15 : ∀ (d c : Nat) (σ : St) (n : Nat), mo + 1 ≤ c + d → d < n → c ≤ 301 → 1 ≤ c → BL ρ σ → TaM ρ σ m → σ 77 s = ((c - 1 : Nat) : Int) → wp_X8_countSpan_l15 Q n (s : Int) (mo : Int) ((12 * s : Nat) : Int) (c : Int) σ := by
    intro d
    induction d with
    | zero =>
      intro c σ n hd hn hc hc1 hb hM h7
      obtain ⟨n, rfl⟩ := suc_n hn
      unfold wp_X8_countSpan_l15
      refine ⟨fun _ => hq σ hb ⟨hM.1, fun t ht => ?_⟩, fun w => absurd (by omega) w⟩
      obtain ⟨k, k1, k2, k3, k4⟩ := hM.2 t ht
      refine ⟨k, k1, show (if t = s then mo else m t) ≤ k from ?_, k3, k4⟩
      by_cases e : t = s
      · rw [if_pos e]; rw [e, h7] at k3; omega
      · rw [if_neg e]; exact k2
    | succ d ih =>
      intro c σ n hd hn hc hc1 hb hM h7
      obtain ⟨n, rfl⟩ := suc_n hn
      unfold wp_X8_countSpan_l15
      have out : mo < c → Q 0 σ := by
        intro hlt
        refine hq σ hb ⟨hM.1, fun t ht => ?_⟩
        obtain ⟨k, k1, k2, k3, k4⟩ := hM.2 t ht
        refine ⟨k, k1, show (if t = s then mo else m t) ≤ k from ?_, k3, k4⟩
        by_cases e : t = s
        · rw [if_pos e]; rw [e, h7] at k3; omega
        · rw [if_neg e]; exact k2
      refine ⟨fun w => out (by omega), fun w => ⟨fun w2 => out (by omega), fun w2 => ?_⟩⟩
      have hX : TaX ρ σ m s c 0 := by
        refine ⟨hb, hM.1, fun t ht _ => hM.2 t ht, h7, fun b hb2 => ?_⟩
        obtain ⟨k, k1, k2, k3, k4⟩ := hM.2 s hs
        rw [h7] at k3
        rw [if_neg (by omega), show c - 1 = k by omega]
        exact k4 b hb2
      have := lp32 (wp_X8_countSpan_l15 Q n) c hc1 (by omega) (by omega) (fun σ1 h1 => by
        obtain ⟨x1, x2, x3, x4, x5⟩ := h1
        have oth : ∀ t k, Taq ρ σ1 t k → Taq ρ (upS σ1 77 s (c : Int)) t k := fun t k hh => hh
        refine ih (c + 1) _ n (by omega) (by omega) (by omega) (by omega) (x1.ext (fun k h1 _ _ _ => upS_k h1)) ⟨x2, fun t ht => ?_⟩ (by rw [upS_s]; rfl)
        by_cases e : t = s
        · subst e
          obtain ⟨k, k1, k2, k3, k4⟩ := hM.2 t ht
          rw [h7] at k3
          refine ⟨c, by omega, by omega, by rw [upS_s], fun b hb2 => oth _ _ ?_⟩
          have := x5 b hb2
          rw [if_pos hb2] at this; exact this
        · obtain ⟨k, k1, k2, k3, k4⟩ := x3 t ht e
          exact ⟨k, k1, k2, by rw [upS_j e]; exact k3, fun b hb2 => oth _ _ (k4 b hb2)⟩) 12 0 σ bigN (by omega) (by unfold bigN; omega) hX
      exact this
  unfold wp_X8_countSpan
  intro v1 e1
  rw [Int.toNat_natCast]
  refine ⟨by omega, fun v2 e2 => ?_⟩
  obtain ⟨k, k1, k2, k3, k4⟩ := hT.2 s hs
  rw [k3, w32_of (by omega) (by omega)] at e2
  rw [w32_of (by omega) (by omega)] at e1
  rw [e1, e2, show (s : Int) * 12 = ((12 * s : Nat) : Int) by omega, show (k : Int) + 1 = ((k + 1 : Nat) : Int) by omega]
  exact lp15 (mo + 1) (k + 1) σ bigN (by omega) (by unfold bigN; omega) (by omega) (by omega) hB hT (by rw [k3]; rfl)
theorem insS.tr {ρ : St} {a b c : Nat} (h : insS ρ a b) (h2 : insS ρ b c) : insS ρ a c := by unfold insS at *; omega
theorem c_isInside {ρ σ : St} (hL : LL ρ < 9) (hB : Bt ρ σ) {t s : Nat} (ht : t < spN (LL ρ)) (hs : s < spN (LL ρ)) {Q : Int → St → Prop} (hno : ¬ insS ρ t s → Q 0 σ) (hyes : insS ρ t s → Q 1 σ) : wp_X0_isInside (t : Int) (s : Int) σ Q := by
  have h3 := sp_3 _ hL
  have sp := hB.1.2.1.2.2.1
  unfold wp_X0_isInside wp_X0_isInside_b34
  rw [Int.toNat_natCast, Int.toNat_natCast, (sp t ht).1, (sp s hs).1, (sp t ht).2, (sp s hs).2]
  unfold insS at *
  exact ⟨by omega, by omega, fun w => hno (by omega), fun w => ⟨by omega, by omega, fun w2 => hno (by omega), fun w2 => hyes (by omega)⟩⟩
theorem c_upTo {ρ σ : St} (hg : Wg ρ) (hL : LL ρ < 9) (hB : BL ρ σ) (hT : TaM ρ σ (fun _ => 0)) {q mo : Nat} (hq : q < 12 * spN (LL ρ)) (hmo : mo ≤ 300) {Q : Int → St → Prop} (h : ∀ σ1, BL ρ σ1 → TaM ρ σ1 (fun _ => 0) → Q (min B0 (sumN (ct ρ q) (mo + 1))) σ1) : wp_X8_upTo_b22 Q (q : Int) (mo : Int) σ := by
  have h3 := sp_3 _ hL
  have hs : q / 12 < spN (LL ρ) := by omega
  have l68 : ∀ (σ : St), BL ρ σ → TaM ρ σ (fun _ => 0) → (∃ k, mo ≤ k ∧ Taq ρ σ q k) → ∀ (d x : Nat) (n : Nat), x + d = mo + 1 → d < n → wp_X8_upTo_l68 Q n (q : Int) (mo : Int) (min B0 (sumN (ct ρ q) x)) (x : Int) σ := by
    intro σ hb hM hk d
    obtain ⟨k, hk, t1, -⟩ := hk
    induction d with
    | zero =>
      intro x n hd hn
      obtain ⟨n, rfl⟩ := suc_n hn
      unfold wp_X8_upTo_l68
      refine ⟨fun _ => ?_, fun w => absurd (by omega) w⟩
      rw [show x = mo + 1 by omega]; exact h σ hb hM
    | succ d ih =>
      intro x n hd hn
      obtain ⟨n, rfl⟩ := suc_n hn
      unfold wp_X8_upTo_l68
      rw [w32_of (x := (q : Int) * 301) (by omega) (by omega), w32_of (x := (q : Int) * 301 + (x : Int)) (by omega) (by omega), show ((q : Int) * 301 + (x : Int)).toNat = 301 * q + x by omega, t1 x (by omega)]
      refine ⟨fun w => absurd w (by omega), fun _ => ⟨fun w => absurd w (by omega), fun _ => ⟨by omega, c_add (sat_r (sumN_nn _ (fun k _ => ct_n hg q k))) (nn_r hg q x) (fun v ev => ?_)⟩⟩⟩
      rw [ev, w32_of (by omega) (by omega), ← nn_s hg]
      exact ih (x + 1) n (by omega) (by omega)
  have l30 : ∀ (d x : Nat) (σ : St) (n : Nat), x + d = q / 12 + 1 → d < n → BL ρ σ → (∃ m, TaM ρ σ m ∧ ∀ t, t < x → insS ρ t (q / 12) → mo ≤ m t) → wp_X8_upTo_l30 Q n (q : Int) (mo : Int) ((q / 12 : Nat) : Int) (x : Int) σ := by
    intro d
    induction d with
    | zero =>
      intro x σ n hd hn hb hM
      obtain ⟨n, rfl⟩ := suc_n hn
      obtain ⟨m, hM, hm⟩ := hM
      unfold wp_X8_upTo_l30
      refine ⟨fun _ => ?_, fun w => absurd (by omega) w⟩
      obtain ⟨k, k1, k2, k3, k4⟩ := hM.2 (q / 12) hs
      have := hm (q / 12) (by omega) (by unfold insS; omega)
      have t := k4 (q % 12) (Nat.mod_lt _ (by decide))
      rw [show 12 * (q / 12) + q % 12 = q by omega] at t
      have l := l68 σ hb ⟨hM.1, fun t ht => by
        obtain ⟨k, k1, k2, k3⟩ := hM.2 t ht
        exact ⟨k, k1, Nat.zero_le _, k3⟩⟩ ⟨k, by omega, t⟩ mo 1 bigN (by omega) (by unfold bigN; omega)
      rw [show min B0 (sumN (ct ρ q) 1) = 0 by show min B0 (0 + ct ρ q 0) = 0; rw [ct_0]; unfold B0; decide] at l
      exact l
    | succ d ih =>
      intro x σ n hd hn hb hM
      obtain ⟨n, rfl⟩ := suc_n hn
      obtain ⟨m, hM, hm⟩ := hM
      unfold wp_X8_upTo_l30
      have nx : ∀ σ1, BL ρ σ1 → (∃ m, TaM ρ σ1 m ∧ ∀ t, t < x + 1 → insS ρ t (q / 12) → mo ≤ m t) → wp_X8_upTo_b56 Q (wp_X8_upTo_l30 Q n) (q : Int) (mo : Int) ((q / 12 : Nat) : Int) (x : Int) σ1 := by
        intro σ1 h1 h2
        unfold wp_X8_upTo_b56
        intro v ev
        rw [ev, w32_of (by omega) (by omega)]
        exact ih (x + 1) σ1 n (by omega) (by omega) h1 h2
      refine ⟨fun w => absurd w (by omega), fun _ => c_isInside hL hb.1 (t := x) (by omega) hs (fun hi => ⟨fun _ => nx σ hb ⟨m, hM, fun t ht hit => ?_⟩, fun w => absurd rfl w⟩) (fun hi => ⟨fun w => absurd w (by decide), fun _ => ?_⟩)⟩
      · by_cases e : t = x
        · subst e; exact absurd hit hi
        · exact hm t (by omega) hit
      · refine c_tSpan hg hL (m := m) (s := x) (by omega) hmo (fun t ht hit hne => hm t ?_ (hit.tr hi)) hb hM (fun σ1 h1 h2 => nx σ1 h1 ⟨_, h2, fun t ht hit => ?_⟩)
        · have a1 := sp_s hL ht
          have a2 := sp_s hL (show x < spN (LL ρ) by omega)
          unfold insS at hit
          have : ¬ (spF (LL ρ) t - spB (LL ρ) t = spF (LL ρ) x - spB (LL ρ) x) := fun z => hne (by rw [← a1.2.2, ← a2.2.2, show spB (LL ρ) t = spB (LL ρ) x by omega, show spF (LL ρ) t = spF (LL ρ) x by omega])
          have := sp_lt hL ⟨a1.1, a1.2.1⟩ ⟨a2.1, a2.2.1⟩ (Or.inl (by omega))
          rw [a1.2.2, a2.2.2] at this
          exact this
        · show mo ≤ if t = x then mo else m t
          by_cases e : t = x
          · rw [if_pos e]; exact Nat.le_refl _
          · rw [if_neg e]; exact hm t (by omega) hit
  unfold wp_X8_upTo_b22
  intro v ev
  rw [show b_div (q : Int) 12 = ((q / 12 : Nat) : Int) from ?_] at ev
  · rw [ev]
    exact l30 (q / 12 + 1) 0 σ bigN (by omega) (by unfold bigN; omega) hB ⟨_, hT, fun t ht => by omega⟩
  · rw [b_div_eq (by omega) (by omega) (by decide) (by decide)]; omega
