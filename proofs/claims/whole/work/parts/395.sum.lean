/-! sum -/
section LS4
variable {ρ : St} {s : Nat}
theorem r_ls76 (hg : Wg ρ) (hL : LL ρ < 9) (h80 : 0 ≤ ρ 0 8) (hs : s < spN (LL ρ)) {Q : Int → St → Prop} (hq : ∀ τ1, LA ρ τ1 → SuR ρ τ1 (s + 1) → Q 0 τ1) : ∀ (d x : Nat) (τ : St) (n : Nat), x + d = rwN ρ s 12 → d < n → LG ρ τ s → (∀ k, k < 156 → τ 24 k = if k / 13 < x ∧ k / 13 = k % 13 then 1 else 0) → wp_X12_laysSums_l76 Q n ((spB (LL ρ) s : Nat) : Int) ((spF (LL ρ) s : Nat) : Int) (x : Int) τ := by
  have u12 : rwN ρ s 12 ≤ 12 := rw_12
  intro d
  induction d with
  | zero =>
    intro x τ n hd hn hG h24
    obtain ⟨n, rfl⟩ := suc_n hn
    unfold wp_X12_laysSums_l76
    rw [hG.2.2.2]
    refine ⟨fun _ => ?_, fun z => absurd (by omega) z⟩
    have h40 := hg.2.1
    have row : ∀ a, a < 12 → hsB ρ s a = true → ∀ j, j < 13 → τ 24 (13 * rwN ρ s a + j) = ix (rwN ρ s a = j) := by
      intro a ha hh j hj
      have := rw_lt hh ha
      rw [h24 _ (by omega)]
      by_cases e : rwN ρ s a = j
      · rw [if_pos (by omega), ix_y e]
      · rw [if_neg (by omega), ix_n e]
    refine r_ls105 hg hL h80 hs hq (ρ 0 4).toNat 0 1 τ bigN (by have := hg.1; omega) (by unfold bigN; omega) hG (fun a ha hh j hj => ?_) (fun k hk hz => by rw [h24 k hk, if_neg (by omega)]) (Or.inl ⟨rfl, ?_, fun a ha hh j hj => ?_⟩)
    · rw [row a ha hh j hj]; have := ix_r (rwN ρ s a = j); omega
    · rintro ⟨a, -, -, k, hk, -⟩; cases hk
    · rw [row a ha hh j hj]
      unfold ent
      show _ = if j < 12 then (ix (rwN ρ s a = j) - 0) % 9973 else 0 % 9973
      by_cases e : j < 12
      · rw [if_pos e, Int.sub_zero]
      · have := rw_lt hh ha
        rw [if_neg e, ix_n (by omega)]
  | succ d ih =>
    intro x τ n hd hn hG h24
    obtain ⟨n, rfl⟩ := suc_n hn
    unfold wp_X12_laysSums_l76
    rw [hG.2.2.2, w32_of (x := 14 * (x : Int)) (by omega) (by omega), show (14 * (x : Int)).toNat = 13 * x + x by omega]
    refine ⟨fun z => absurd z (by omega), fun _ => ⟨by omega, fun τ2 e2 v ev => ?_⟩⟩
    rw [ev, w32_of (by omega) (by omega), e2]
    refine ih (x + 1) _ n (by omega) (by omega) (hG.e24 (fun k hk => upS_k hk)) (fun k hk => ?_)
    by_cases z : k = 13 * x + x
    · rw [z, upS_s, if_pos (by omega)]
    · rw [upS_j z, h24 k hk]
      by_cases y : k / 13 < x ∧ k / 13 = k % 13
      · rw [if_pos y, if_pos (by omega)]
      · rw [if_neg y, if_neg (by omega)]
theorem r_ls54 (hg : Wg ρ) (hL : LL ρ < 9) (h80 : 0 ≤ ρ 0 8) (hs : s < spN (LL ρ)) {Q : Int → St → Prop} (hq : ∀ τ1, LA ρ τ1 → SuR ρ τ1 (s + 1) → Q 0 τ1) : ∀ (d x : Nat) (τ : St) (n : Nat), x + d = 156 → d < n → LG ρ τ s → (∀ k, k < x → τ 24 k = 0) → wp_X12_laysSums_l54 Q n ((spB (LL ρ) s : Nat) : Int) ((spF (LL ρ) s : Nat) : Int) (x : Int) τ := by
  intro d
  induction d with
  | zero =>
    intro x τ n hd hn hG h24
    obtain ⟨n, rfl⟩ := suc_n hn
    unfold wp_X12_laysSums_l54
    exact ⟨fun _ => r_ls76 hg hL h80 hs hq (rwN ρ s 12) 0 τ bigN (by omega) (by have := rw_12 (ρ := ρ) (s := s) (a := 12); unfold bigN; omega) hG (fun k hk => by rw [if_neg (by omega)]; exact h24 k (by omega)), fun z => absurd (by omega) z⟩
  | succ d ih =>
    intro x τ n hd hn hG h24
    obtain ⟨n, rfl⟩ := suc_n hn
    unfold wp_X12_laysSums_l54
    rw [Int.toNat_natCast]
    refine ⟨fun z => absurd z (by omega), fun _ => ⟨by omega, fun τ2 e2 v ev => ?_⟩⟩
    rw [ev, w32_of (by omega) (by omega), e2]
    refine ih (x + 1) _ n (by omega) (by omega) (hG.e24 (fun k hk => upS_k hk)) (fun k hk => ?_)
    by_cases z : k = x
    · rw [z, upS_s]
    · rw [upS_j z]; exact h24 k (by omega)
theorem LA.up41 {τ : St} (h : LA ρ τ) {v : Int} : LA ρ (upS τ 0 41 v) := by
  unfold LA RG at *
  rw [upS_j (by decide), upS_j (by decide), upS_j (by decide), upS_k (by decide), upS_k (by decide), upS_k (by decide), upS_k (by decide), upS_k (by decide)]
  exact h
theorem r_laysSums (hg : Wg ρ) (hL : LL ρ < 9) (h80 : 0 ≤ ρ 0 8) (hs : s < spN (LL ρ)) {τ : St} (hA : LA ρ τ) (hS : SuR ρ τ s) {Q : Int → St → Prop} (hq : ∀ τ1, LA ρ τ1 → SuR ρ τ1 (s + 1) → Q 0 τ1) : wp_X12_laysSums ((spB (LL ρ) s : Nat) : Int) ((spF (LL ρ) s : Nat) : Int) τ Q := by
  have eL : ((LL ρ : Nat) : Int) = ρ 0 8 := by unfold LL; omega
  have hs8 : ρ 0 8 ≤ 8 := by unfold LL at hL; omega
  have sp := sp_s hL hs
  have l7 : ∀ (d x : Nat) (τ : St) (n : Nat), x + d = 12 → d < n → LA ρ τ → SuR ρ τ s → τ 0 41 = ((rwN ρ s x : Nat) : Int) → (∀ b, b < x → hsB ρ s b = true → τ 25 (rwN ρ s b) = (b : Int)) → wp_X12_laysSums_l7 Q n ((spB (LL ρ) s : Nat) : Int) ((spF (LL ρ) s : Nat) : Int) (x : Int) τ := by
    intro d
    induction d with
    | zero =>
      intro x τ n hd hn h1 h2 h3 h4
      obtain ⟨n, rfl⟩ := suc_n hn
      unfold wp_X12_laysSums_l7
      rw [show x = 12 by omega] at h3 h4 ⊢
      exact ⟨fun _ => r_ls54 hg hL h80 hs hq 156 0 τ bigN (by omega) (by unfold bigN; omega) ⟨h1, h2, h4, h3⟩ (fun k hk => by omega), fun z => absurd (by decide) z⟩
    | succ d ih =>
      intro x τ n hd hn h1 h2 h3 h4
      obtain ⟨n, rfl⟩ := suc_n hn
      have hx : x < 12 := by omega
      have rx := rw_12 (ρ := ρ) (s := s) (a := x)
      have st : rwN ρ s (x + 1) = rwN ρ s x + (if hsB ρ s x then 1 else 0) := rfl
      have nx : ∀ τ2, LA ρ τ2 → SuR ρ τ2 s → τ2 0 41 = ((rwN ρ s (x + 1) : Nat) : Int) → (∀ b, b < x + 1 → hsB ρ s b = true → τ2 25 (rwN ρ s b) = (b : Int)) → wp_X12_laysSums_b46 Q (wp_X12_laysSums_l7 Q n) ((spB (LL ρ) s : Nat) : Int) ((spF (LL ρ) s : Nat) : Int) (x : Int) τ2 := by
        intro τ2 g1 g2 g3 g4
        unfold wp_X12_laysSums_b46
        intro v ev
        rw [ev, w32_of (by omega) (by omega)]
        exact ih (x + 1) τ2 n (by omega) (by omega) g1 g2 g3 g4
      unfold wp_X12_laysSums_l7
      refine ⟨fun z => absurd z (by omega), fun _ => r_has2 h1 hs8 ⟨by omega, by omega, by omega, by omega⟩ (fun h => ⟨fun z => absurd rfl z, fun _ => ?_⟩) (fun h => ⟨fun _ => ⟨by omega, fun τ4 e4 τ5 e5 => ?_⟩, fun z => absurd (by decide) z⟩)⟩
      · have nh : ¬ hsB ρ s x = true := fun z => h ((hPt_it hx).1 (hsB_iff.1 z))
        refine nx τ h1 h2 (by rw [st, if_neg nh]; exact h3) (fun b hb hh => ?_)
        by_cases e : b = x
        · subst e; exact absurd hh nh
        · exact h4 b (by omega) hh
      · have hh : hsB ρ s x = true := hsB_iff.2 ((hPt_it hx).2 h)
        rw [h3, Int.toNat_natCast] at e4
        have e41 : τ4 0 41 = ((rwN ρ s x : Nat) : Int) := by rw [e4, upS_k (by decide)]; exact h3
        rw [e41, w32_of (by omega) (by omega)] at e5
        have A4 : LA ρ τ4 := by rw [e4]; exact h1
        refine nx τ5 (by rw [e5]; exact A4.up41) ?_ (by rw [e5, upS_s, st, if_pos hh]; omega) (fun b hb hhb => ?_)
        · unfold SuR
          rw [e5, upS_k (by decide), upS_k (by decide), e4, upS_k (by decide), upS_k (by decide)]; exact h2
        · rw [e5, upS_k (by decide), e4]
          by_cases e : b = x
          · rw [e, upS_s]
          · rw [upS_j (fun z => e (rw_inj hhb hh z))]; exact h4 b (by omega) hhb
  unfold wp_X12_laysSums
  intro τ1 e1
  refine l7 12 0 τ1 bigN (by omega) (by unfold bigN; omega) (by rw [e1]; exact hA.up41) ?_ (by rw [e1, upS_s]; rfl) (fun b hb => by omega)
  unfold SuR
  rw [e1, upS_k (by decide), upS_k (by decide)]; exact hS
end LS4
theorem sp_next : ∀ L, L < 9 → ∀ n, n < 9 → 1 ≤ n → n ≤ L → ∀ i, i < 9 → i + n ≤ L → spA L i (i + n) = spO L n + i := by
  intro L _ n _ _ _ i _ _
  unfold spA
  rw [show i + n - i = n by omega]
theorem r_sum {ρ τ : St} (hW : WW ρ) (hV : VR τ ρ) {x1 x2 x3 : Int} {Q : Int → St → Prop} (hno : ¬ isItm ρ x1 x2 x3 → Q (-2) τ) (hyes : isItm ρ x1 x2 x3 → ∀ τ1, Q (sV ρ (itN ρ x1 x2 x3)) τ1) : wp_X12_sum x1 x2 x3 τ Q := by
  have hg := hW.2.2.1
  have h80 := hW.2.2.2.2.1
  have hs8 := hW.2.2.2.2.2.1
  have hL : LL ρ < 9 := by unfold LL; omega
  have eL : ((LL ρ : Nat) : Int) = ρ 0 8 := by unfold LL; omega
  unfold wp_X12_sum
  refine r_isItem hV.2.2.2.2.2.1 (fun h => ⟨fun q => absurd rfl q, fun _ => hno h⟩) (fun h => ⟨fun _ => r_looks hW hV (fun τ1 hA => ?_), fun q => absurd (by decide) q⟩)
  have hy := hyes h
  have eh := hPt_itN hL h
  unfold sV at hy
  refine r_has2 hA hs8 h (fun hn => ⟨fun z => absurd rfl z, fun _ => ?_⟩) (fun hn => ⟨fun _ => ?_, fun z => absurd (by decide) z⟩)
  · have := hy τ1
    rw [if_neg (fun z => hn (eh.1 z))] at this; exact this
  rw [if_pos (eh.2 hn)] at hy
  have h2 := h.2
  have hij : x2.toNat < x3.toNat ∧ x3.toNat ≤ LL ρ := ⟨by omega, by omega⟩
  have q := sp_a (L := LL ρ) hL hij
  have eN : itN ρ x1 x2 x3 = 12 * spA (LL ρ) x2.toNat x3.toNat + x1.toNat := rfl
  have hh : hsB ρ (spA (LL ρ) x2.toNat x3.toNat) x1.toNat = true := hsB_iff.2 (by rw [← eN]; exact eh.2 hn)
  have fin : ∀ τ1, LA ρ τ1 → SuR ρ τ1 (spN (LL ρ)) → wp_X12_span x2 x3 τ1 (fun r7 σ8 => (0 ≤ r7 ∧ r7 < 64) ∧ ((σ8 23 (r7.toNat) = 0) → wp_X12_item x1 x2 x3 σ8 (fun r9 σ10 => (0 ≤ r9 ∧ r9 < 768) ∧ Q (l_int (σ10 22 (r9.toNat))) σ10)) ∧ (¬ (σ8 23 (r7.toNat) = 0) → Q ((-1)) σ8)) := by
    intro τ1 _ hS
    obtain ⟨a1, a2⟩ := hS _ q.1
    rw [q.2.1, q.2.2] at a1 a2
    have b := a2 x1.toNat (by have := h.1; omega) hh
    have hf := hy τ1
    have h1 := h.1
    rw [eN, show (12 * spA (LL ρ) x2.toNat x3.toNat + x1.toNat) / 12 = spA (LL ρ) x2.toNat x3.toNat by omega] at hf
    rw [show ((x1.toNat : Nat) : Int) = x1 by omega, show ((x2.toNat : Nat) : Int) = x2 by omega, show ((x3.toNat : Nat) : Int) = x3 by omega] at b
    unfold wp_X12_span
    have ie : w32 (w32 (w32 (x2 * 8) + x3) - 1) = ((x2.toNat * 8 + x3.toNat - 1 : Nat) : Int) := by
      rw [w32_of (x := x2 * 8) (by omega) (by omega), w32_of (x := x2 * 8 + x3) (by omega) (by omega), w32_of (by omega) (by omega)]; omega
    rw [ie]
    show (0 ≤ ((x2.toNat * 8 + x3.toNat - 1 : Nat) : Int) ∧ ((x2.toNat * 8 + x3.toNat - 1 : Nat) : Int) < 64) ∧ ((τ1 23 (((x2.toNat * 8 + x3.toNat - 1 : Nat) : Int)).toNat = 0) → _) ∧ (¬ (τ1 23 (((x2.toNat * 8 + x3.toNat - 1 : Nat) : Int)).toNat = 0) → _)
    rw [Int.toNat_natCast, a1]
    refine ⟨by omega, fun z => r_item h.1 (by omega) ⟨it_r h.1 (by omega), ?_⟩, fun z => ?_⟩
    · cases w : (RS ρ (spN (LL ρ))).1 (spA (LL ρ) x2.toNat x3.toNat) with
      | true => rw [w] at z; exact absurd z (by decide)
      | false =>
        rw [w] at hf
        have e := b.2 w
        have mr := b.1
        rw [e] at mr ⊢
        have : l_int ((RS ρ (spN (LL ρ))).2 (12 * spA (LL ρ) x2.toNat x3.toNat + x1.toNat)) = (RS ρ (spN (LL ρ))).2 (12 * spA (LL ρ) x2.toNat x3.toNat + x1.toNat) := by
          unfold mR at mr
          exact l_int_n ⟨by omega, by omega⟩
        rw [this]; exact hf
    · cases w : (RS ρ (spN (LL ρ))).1 (spA (LL ρ) x2.toNat x3.toNat) with
      | true => rw [w] at hf; exact hf
      | false => rw [w] at z; exact absurd rfl z
  have l44 : ∀ (K : Int → Int → Int → Int → St → Prop) (len : Nat), 1 ≤ len → len ≤ LL ρ → (∀ τ1, LA ρ τ1 → SuR ρ τ1 (spO (LL ρ) (len + 1)) → K x1 x2 x3 ((len + 1 : Nat) : Int) τ1) → ∀ (d a : Nat) (τ1 : St) (n : Nat), a + len + d = LL ρ + 1 → d < n → LA ρ τ1 → SuR ρ τ1 (spO (LL ρ) len + a) → wp_X12_sum_l44 Q K n x1 x2 x3 (len : Int) (a : Int) τ1 := by
    intro K len hl1 hl2 hK d
    induction d with
    | zero =>
      intro a τ1 n hd hn hA hS
      obtain ⟨n, rfl⟩ := suc_n hn
      unfold wp_X12_sum_l44
      rw [hA.1.2.2.1, w32_of (x := (a : Int) + (len : Int)) (by omega) (by omega)]
      refine ⟨fun _ v ev => ?_, fun w => absurd (by omega) w⟩
      rw [ev, w32_of (by omega) (by omega)]
      refine hK τ1 hA ?_
      rw [sp_4 _ hL len (by omega) hl1 hl2, show LL ρ + 1 - len = a by omega]; exact hS
    | succ d ih =>
      intro a τ1 n hd hn hA hS
      obtain ⟨n, rfl⟩ := suc_n hn
      unfold wp_X12_sum_l44
      rw [hA.1.2.2.1, w32_of (x := (a : Int) + (len : Int)) (by omega) (by omega)]
      refine ⟨fun w => absurd w (by omega), fun _ => ?_⟩
      have qa := sp_a (L := LL ρ) hL (i := a) (j := a + len) (by omega)
      have es : spA (LL ρ) a (a + len) = spO (LL ρ) len + a := sp_next _ hL len (by omega) hl1 hl2 a (by omega) (by omega)
      rw [es] at qa
      have := r_laysSums hg hL h80 (s := spO (LL ρ) len + a) qa.1 hA hS (Q := fun _ σ14 => ∀ v14 : Int, v14 = w32 ((a : Int) + 1) → (wp_X12_sum_l44 Q K n) x1 x2 x3 (len : Int) v14 σ14) (fun τ2 b1 b2 v ev => by
        rw [ev, w32_of (by omega) (by omega), show (a : Int) + 1 = ((a + 1 : Nat) : Int) by omega]
        exact ih (a + 1) τ2 n (by omega) (by omega) b1 b2)
      rw [qa.2.1, qa.2.2, show ((a + len : Nat) : Int) = (a : Int) + (len : Int) by omega] at this
      exact this
  have l32 : ∀ (d len : Nat) (τ1 : St) (n : Nat), len + d = LL ρ + 1 → 1 ≤ len → d < n → LA ρ τ1 → SuR ρ τ1 (spO (LL ρ) len) → wp_X12_sum_l32 Q n x1 x2 x3 (len : Int) τ1 := by
    intro d
    induction d with
    | zero =>
      intro len τ1 n hd h1 hn hA hS
      obtain ⟨n, rfl⟩ := suc_n hn
      unfold wp_X12_sum_l32
      rw [hA.1.2.2.1]
      refine ⟨fun _ => fin τ1 hA ?_, fun w => absurd (by omega) w⟩
      unfold spN
      rw [show LL ρ + 1 = len by omega]; exact hS
    | succ d ih =>
      intro len τ1 n hd h1 hn hA hS
      obtain ⟨n, rfl⟩ := suc_n hn
      unfold wp_X12_sum_l32
      rw [hA.1.2.2.1]
      refine ⟨fun w => absurd w (by omega), fun _ => ?_⟩
      exact l44 (wp_X12_sum_l32 Q n) len h1 (by omega) (fun τ2 b1 b2 => ih (len + 1) τ2 n (by omega) (by omega) (by omega) b1 b2) (LL ρ + 1 - len) 0 τ1 bigN (by omega) (by unfold bigN; omega) hA hS
  exact l32 (LL ρ) 1 τ1 bigN (by omega) (by omega) (by unfold bigN; omega) hA (fun s hs => by rw [sp_5 _ hL] at hs; omega)
/-! the op -/
def CcS (Cc : Bool → St → St → Prop) : Prop := (∀ b σ ρ, Cc b σ ρ → (σ 45 7 = 0 ∨ (σ 45 7 = 1 ∧ SuK ρ σ (spN (LL ρ))))) ∧ (∀ b σ σ1 ρ, Cc b σ ρ → BL ρ σ1 → (σ1 45 7 = 1 ∧ SuK ρ σ1 (spN (LL ρ))) → Fr S_X11_sum σ σ1 → Cc b σ1 ρ)
section OPS
variable {Cc : Bool → St → St → Prop}
theorem s_sum (hC : CcL Cc) (hT : CcS Cc) : Step_sum (Inv Cc) := by
  rintro b σ τ ⟨ρ, hW, hVC, hVR, hc⟩ x1 x2 x3 c1 c2 c3
  have hk := hC.kl hVC hc
  have ht := hT.1 b σ ρ hc
  have hL : LL ρ < 9 := by have := hW.2.2.2.2.2.1; unfold LL; omega
  refine mf_X11_sum (Q := fun r σ1 => (¬ isItm ρ x1 x2 x3 ∧ r = -2 ∧ σ1 = σ) ∨ (isItm ρ x1 x2 x3 ∧ BL ρ σ1 ∧ (σ1 45 7 = 1 ∧ SuK ρ σ1 (spN (LL ρ))) ∧ r = sV ρ (itN ρ x1 x2 x3))) (fun r σ1 h f => ?_) Fr.rf (by
    unfold wp_X11_sum
    refine c_itemOf hW hk.1 hk.2.1 hk.2.2.1 (fun h => ⟨fun q => absurd q (by decide), fun _ => Or.inl ⟨h, rfl, rfl⟩⟩) (fun h σ1 hB f => ⟨fun _ => ?_, fun q => absurd (by omega) q⟩)
    have e7 : σ1 45 7 = σ 45 7 := f.at rfl
    have e46 : σ1 46 = σ 46 := funext (fun j => f.at rfl)
    have e47 : σ1 47 = σ 47 := funext (fun j => f.at rfl)
    exact c_sumOf hW (hk.bt hB f) (by unfold SuK; rw [e7, e46, e47]; exact ht) (itN_r hL h).1 (fun σ2 a1 a2 a3 => Or.inr ⟨h, a1, ⟨a2, a3⟩, rfl⟩))
  refine mf_X12_sum (Q := fun r _ => (¬ isItm ρ x1 x2 x3 ∧ r = -2) ∨ (isItm ρ x1 x2 x3 ∧ r = sV ρ (itN ρ x1 x2 x3))) (fun r1 τ1 h1 f1 => ?_) Fr.rf (r_sum hW hVR (fun h => Or.inl ⟨h, rfl⟩) (fun h τ1 => Or.inr ⟨h, rfl⟩))
  have hR : VR τ1 ρ := VR.frB f1 (by decide) hVR
  rcases h with ⟨g0, rfl, rfl⟩ | ⟨g0, g1, g2, rfl⟩
  · rcases h1 with ⟨k0, rfl⟩ | ⟨k0, -⟩
    · exact ⟨rfl, ρ, hW, hVC, hR, hc⟩
    · exact absurd k0 g0
  · rcases h1 with ⟨k0, -⟩ | ⟨k0, rfl⟩
    · exact absurd g0 k0
    · exact ⟨rfl, ρ, hW, VC.frB f (by decide) hVC, hR, hT.2 b σ σ1 ρ hc g1 g2 f⟩
end OPS
