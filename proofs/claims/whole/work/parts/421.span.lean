/-! a span grows -/
theorem ClF.add {ρ : St} {F : Fo} {D : Nat → Prop} (h : ClF ρ F D) {q : Nat} (hq : D q) {z : En} (hz : CandE ρ F q z) (hall : ∀ k, k < F.1 q → ltE ρ F q (F.2 q k) z) : ClF ρ (addF F q z) D := by
  have hx : ExD D F (addF F q z) := addF_ex
  have z0 := (h.sub hq hz).1
  intro p hp
  refine ⟨fun k hk => ?_, fun k l hkl hl => ?_, (h p hp).2.2⟩
  · rw [addF_h] at hk
    rw [addF_e]
    split
    · next e => rw [e.1]; exact ⟨hx.cand h hq hz, z0⟩
    · next e =>
      have hk2 : k < F.1 p := by
        split at hk
        · next e2 =>
          have : k ≠ F.1 q := fun q2 => e ⟨e2, q2⟩
          rw [e2]; omega
        · exact hk
      have := (h p hp).1 k hk2
      exact ⟨hx.cand h hp this.1, this.2⟩
  · rw [addF_h] at hl
    have hkq : k < F.1 p := by
      split at hl
      · next e2 => rw [e2]; omega
      · omega
    rw [addF_e, addF_e, if_neg (by rintro ⟨rfl, e⟩; omega)]
    split
    · next e =>
      obtain ⟨e1, e2⟩ := e
      subst e1
      exact (hx.lt h hp ((h _ hp).1 k hkq).1 hz).1 (hall k hkq)
    · next e =>
      have hl2 : l < F.1 p := by
        split at hl
        · next e2 =>
          have : l ≠ F.1 q := fun q2 => e ⟨e2, q2⟩
          rw [e2]; omega
        · exact hl
      exact (hx.lt h hp ((h p hp).1 k hkq).1 ((h p hp).1 l hl2).1).1 ((h p hp).2.1 k l hkl hl2)
theorem c_caseOfRule {ρ σ : St} (hg : Wg ρ) (hL : LL ρ < 9) (hB : Bt ρ σ) {s r t : Nat} (hs : s < spN (LL ρ)) (hr : r ∈ uyL ρ 12) (ht : uTc ρ s r t) {Q : Int → St → Prop} (hq : Q (((PL ρ (12 * s + (ρ 3 r).toNat)).length + t : Nat) : Int) σ) : wp_X3_caseOfRule ((12 * s + (ρ 3 r).toNat : Nat) : Int) (r : Int) σ Q := by
  have h3360 := PL_3360 hg hL
  obtain ⟨u1, u2, u3, u4, u5, u6⟩ := uy_info hg hr
  have hqi : 12 * s + (ρ 3 r).toNat < 12 * spN (LL ρ) := by omega
  have lp : ∀ (d x m : Nat), x + d = t → d < m → wp_X3_caseOfRule_l9 Q m ((12 * s + (ρ 3 r).toNat : Nat) : Int) (r : Int) (((PL ρ (12 * s + (ρ 3 r).toNat)).length + x : Nat) : Int) σ := by
    intro d
    induction d with
    | zero =>
      intro x m hx hm
      obtain ⟨m, rfl⟩ := suc_n hm
      have ex : x = t := by omega
      subst ex
      obtain ⟨e0, e29, -⟩ := hB.csq hqi ht.1
      have hlen := ht.1
      unfold wp_X3_caseOfRule_l9
      refine c_caseEnd hL hB hqi ⟨fun h => absurd h (by omega), fun _ => ⟨by omega, ?_⟩⟩
      rw [Int.toNat_natCast, e29, ht.2]
      exact ⟨fun h => absurd rfl h, fun _ => hq⟩
    | succ d ih =>
      intro x m hx hm
      obtain ⟨m, rfl⟩ := suc_n hm
      have hlen := ht.1
      obtain ⟨e0, e29, -⟩ := hB.csq hqi (t := x) (by omega)
      have hne : (cq ρ (12 * s + (ρ 3 r).toNat) x).1 ≠ (r : Int) := by
        intro e
        rcases cI_pw (ρ := ρ) (q := 12 * s + (ρ 3 r).toNat) (t := x) (u := t) (by omega) ht.1 with g | ⟨-, g⟩
        · rw [ht.2] at g
          have : (cq ρ (12 * s + (ρ 3 r).toNat) x).1 < (r : Int) := g
          omega
        · rw [ht.2] at g
          have g : (cq ρ (12 * s + (ρ 3 r).toNat) x).2.1 < -1 := g
          have kd := cs_kind hg hL (s := s) (a := (ρ 3 r).toNat) (t := x) (by omega) hs (by omega)
          obtain ⟨r2, -, -, -, -, -, -, -, -, kd⟩ := kd
          unfold cm at kd
          rcases kd with ⟨-, -, e2, -⟩ | ⟨-, m2, -, -, e2, -⟩ <;> omega
      unfold wp_X3_caseOfRule_l9
      refine c_caseEnd hL hB hqi ⟨fun h => absurd h (by omega), fun _ => ⟨by omega, ?_⟩⟩
      rw [Int.toNat_natCast, e29]
      refine ⟨fun _ v5 e5 => ?_, fun h => absurd hne h⟩
      rw [w32_of (by omega) (by omega), show (((PL ρ (12 * s + (ρ 3 r).toNat)).length + x : Nat) : Int) + 1 = (((PL ρ (12 * s + (ρ 3 r).toNat)).length + (x + 1) : Nat) : Int) by omega] at e5
      rw [e5]
      exact ih (x + 1) m (by omega) (by omega)
  unfold wp_X3_caseOfRule
  refine c_caseStart hL hB hqi ?_
  have hlt : t < 3360 := by
    have := (hB.csq hqi ht.1).1; omega
  exact lp t 0 bigN (by omega) (by unfold bigN; omega)
/-- all of a base list is taken -/
theorem c_takeAll {ρ : St} (hg : Wg ρ) (hL : LL ρ < 9) {D : Nat → Prop} {q a n : Nat} {L : Nat → En} (hq : D q) (ha : a < 12) (hn16 : n ≤ 16) {σ0 : St} {F0 : Fo} {s : Nat} (hqs : q / 12 = s) (hz16 : ∀ i, i < n → (L i).2.2.1 < 16 ∧ (L i).2.2.2 < 16) {Q : Int → St → Prop} (hQ : ∀ σ1 F1, GSt ρ σ1 F1 D → ClF ρ F1 D → F1.1 q = n → (∀ k, k < n → F1.2 q k = L k) → LowEq F0 F1 s → (∀ p, p ≠ q → F1.1 p = F0.1 p ∧ ∀ k, F1.2 p k = F0.2 p k) → (∀ k, k ≠ 65 → (k < 55 ∨ 59 < k) → σ1 k = σ0 k) → (∀ j, j ≠ q → σ1 59 j = σ0 59 j) → (∀ j, j ≠ a → σ1 65 j = σ0 65 j) → Q 0 σ1) : ∀ (d i : Nat) (σ : St) (F : Fo) (m : Nat), i + d = n → d < m → GSt ρ σ F D → ClF ρ F D → F.1 q = i → (∀ k, k < i → F.2 q k = L k) → LowEq F0 F s → (∀ p, p ≠ q → F.1 p = F0.1 p ∧ ∀ k, F.2 p k = F0.2 p k) → (∀ k, k < n → CandE ρ F q (L k)) → (∀ k l, k < l → l < n → ltE ρ F q (L k) (L l)) → (∀ k, k ≠ 65 → (k < 55 ∨ 59 < k) → σ k = σ0 k) → (∀ j, j ≠ q → σ 59 j = σ0 59 j) → (∀ j, j ≠ a → σ 65 j = σ0 65 j) → σ 65 a = (i : Int) → σ 64 a = (n : Int) → (∀ k, k < n → BEc ρ σ q a k (L k)) → wp_X3_takeAllOfBase_l2 Q m (q : Int) (a : Int) (i : Int) σ := by
  intro d
  induction d with
  | zero =>
    intro i σ F m hd hm hG hF h1 h2 hlow hoth hC hS e1 e2 e3 e65 e64 hE
    obtain ⟨m, rfl⟩ := suc_n hm
    unfold wp_X3_takeAllOfBase_l2
    have fin : Q 0 σ := hQ σ F hG hF (by omega) (fun k hk => h2 k (by omega)) hlow hoth e1 e2 e3
    rw [Int.toNat_natCast, e65, e64]
    exact ⟨fun _ => fin, fun _ => ⟨by omega, by omega, fun _ => fin, fun h => absurd (by omega) h⟩⟩
  | succ d ih =>
    intro i σ F m hd hm hG hF h1 h2 hlow hoth hC hS e1 e2 e3 e65 e64 hE
    obtain ⟨m, rfl⟩ := suc_n hm
    have hz := hC i (by omega)
    have hall : ∀ k, k < F.1 q → ltE ρ F q (F.2 q k) (L i) := fun k hk => by
      rw [h2 k (by omega)]; exact hS k i (by omega) (by omega)
    have hx : ExD D F (addF F q (L i)) := addF_ex
    obtain ⟨c1, c2, c3, c4⟩ := hE i (by omega)
    unfold wp_X3_takeAllOfBase_l2 wp_X3_takeOfBase
    rw [Int.toNat_natCast, e65, e64, w32_of (x := (i : Int) + 1) (by omega) (by omega), show (i : Int) + 1 = ((i + 1 : Nat) : Int) by omega, w32_of (x := (a : Int) * 16) (by omega) (by omega), w32_of (x := (a : Int) * 16 + (i : Int)) (by omega) (by omega), show (a : Int) * 16 + (i : Int) = ((16 * a + i : Nat) : Int) by push_cast; omega]
    refine ⟨fun h => absurd h (by omega), fun _ => ⟨by omega, by omega, fun h => absurd h (by omega), fun _ => ⟨by omega, fun v1 ev1 => ?_⟩⟩⟩
    subst ev1
    rw [Int.toNat_natCast, c1, c2, c3]
    refine ⟨by omega, by omega, by omega, c_append hg hL hF hG hq (by omega) hz (fun l hl => (hall l hl).ne) (hz16 i (by omega)) (fun σ2 f2 hG2 => ⟨by omega, by omega, fun σ3 ev3 v3 evv => ?_⟩)⟩
    rw [f2.1 65 (by decide), e65, w32_of (by omega) (by omega)] at ev3
    rw [evv]
    refine ih (i + 1) σ3 (addF F q (L i)) m (by omega) (by omega) (hG2.ext (fun k hk => by rw [ev3, upS_k (by unfold okG at hk; omega)])) (hF.add hq hz hall) (by rw [addF_h, if_pos rfl]; omega) (fun k hk => ?_) (hlow.add hqs) (fun p hp => ?_) (fun k hk => hx.cand hF hq (hC k hk)) (fun k l hkl hl => (hx.lt hF hq (hC k (by omega)) (hC l hl)).1 (hS k l hkl hl)) (fun k h3 h4 => by rw [ev3, upS_k h3, f2.1 k h4]; exact e1 k h3 h4) (fun j hj => by rw [ev3, upS_k (by decide), f2.2.2 j hj]; exact e2 j hj) (fun j hj => by rw [ev3, upS_j hj, f2.1 65 (by decide)]; exact e3 j hj) (by rw [ev3, upS_s]; omega) (by rw [ev3, upS_k (by decide), f2.1 64 (by decide)]; exact e64) (fun k hk => ?_)
    · rw [addF_e]
      by_cases e : k = F.1 q
      · rw [if_pos ⟨rfl, e⟩, e, h1]
      · rw [if_neg (fun g => e g.2)]; exact h2 k (by omega)
    · rw [addF_h, if_neg hp]
      refine ⟨(hoth p hp).1, fun k => ?_⟩
      rw [addF_e, if_neg (fun g => hp g.1)]; exact (hoth p hp).2 k
    · have := hE k hk
      unfold BEc at this ⊢
      rw [ev3, upS_k (by decide), upS_k (by decide), upS_k (by decide), f2.1 61 (by decide), f2.1 62 (by decide), f2.1 63 (by decide)]
      exact this
/-- labels below a are laid -/
def LIs (ρ σ : St) (Fs F : Fo) (D0 : Nat → Prop) (s a : Nat) : Prop := GSt ρ σ F (fun q => D0 q ∨ ∃ b, b < a ∧ ¬ Wgo ρ b ∧ q = 12 * s + b) ∧ ClF ρ F (fun q => D0 q ∨ ∃ b, b < a ∧ ¬ Wgo ρ b ∧ q = 12 * s + b) ∧ LowEq Fs F s ∧ (∀ b, b < 12 → (Wgo ρ b ∨ a ≤ b) → F.1 (12 * s + b) = 0) ∧ (∀ q, D0 q → SgF ρ F q) ∧ (∀ b, b < a → ¬ Wgo ρ b → TopP (ltE ρ F (12 * s + b)) (CandE ρ F (12 * s + b)) (F.1 (12 * s + b)) (F.2 (12 * s + b))) ∧ (∀ b, b < a → Wgo ρ b → σ 59 (12 * s + b) = 0 ∧ ∃ n L, TopP (ltE ρ Fs (12 * s + b)) (BaseC ρ Fs (12 * s + b)) n L ∧ σ 64 b = (n : Int) ∧ (∀ i, i < n → BEc ρ σ (12 * s + b) b i (L i)) ∧ σ 65 b = 0) ∧ UCs ρ σ s ∧ (∀ u, u < (uyL ρ 12).length → σ 67 u = 0)
theorem TopP.lt2 {lt lt2 : En → En → Prop} {P : En → Prop} {n : Nat} {L : Nat → En} (h : TopP lt P n L) (he : ∀ z w, P z → P w → (lt z w ↔ lt2 z w)) : TopP lt2 P n L := by
  obtain ⟨h1, h2, h3, h4⟩ := h
  refine ⟨h1, h2, fun i j hij hj => (he _ _ (h2 i (by omega)) (h2 j hj)).1 (h3 i j hij hj), fun z hz => ?_⟩
  rcases h4 z hz with g | ⟨e, g⟩
  · exact Or.inl g
  · exact Or.inr ⟨e, fun i hi => (he _ _ (h2 i (by omega)) hz).1 (g i hi)⟩
theorem nw_base {ρ : St} (hg : Wg ρ) (hL : LL ρ < 9) {s a t : Nat} (ha : a < 12) (hs : s < spN (LL ρ)) (ht : t < (cI ρ (12 * s + a)).length) (h : ¬ Wgo ρ a) : ¬ (cm ρ (12 * s + a) t = -1 ∧ 0 ≤ cf ρ (12 * s + a) t) := fun hu => by
  obtain ⟨r, hr, h3, -⟩ := uTc_of hg hL ha hs ht hu
  exact h ⟨r, hr, h3⟩
theorem c_labels {ρ : St} (hg : Wg ρ) (hL : LL ρ < 9) {Fs : Fo} {D0 : Nat → Prop} {s : Nat} (hs : s < spN (LL ρ)) (hD0 : ∀ q, D0 q → q < 12 * spN (LL ρ) ∧ q / 12 ≠ s) (hFs : ClF ρ Fs D0) (hP0 : ∀ a, a < 12 → ∀ t, t < (cI ρ (12 * s + a)).length → ¬ (cm ρ (12 * s + a) t = -1 ∧ 0 ≤ cf ρ (12 * s + a) t) → PDf ρ D0 (12 * s + a) t) {x3 : Int} (h3 : P32 x3) (hgo : ∀ a, a < 12 → (tb x3 a = true ↔ Wgo ρ a)) {σ0 : St} {Q : Int → St → Prop} (hq : ∀ σ1 F1, LIs ρ σ1 Fs F1 D0 s 12 → (∀ k, (k < 54 ∨ k = 60 ∨ 67 < k) → σ1 k = σ0 k) → wp_X3_growSpan_b168 Q ((12 * s : Nat) : Int) x3 (if x3 = 0 then 0 else 1) σ1) : ∀ (d a : Nat) (σ : St) (F : Fo) (m : Nat), a + d = 12 → d < m → LIs ρ σ Fs F D0 s a → (∀ k, (k < 54 ∨ k = 60 ∨ 67 < k) → σ k = σ0 k) → wp_X3_growSpan_l91 Q m ((12 * s : Nat) : Int) x3 (a : Int) σ := by
  have q3 := sp_3 _ hL
  intro d
  induction d with
  | zero =>
    intro a σ F m hd hm hI hk
    obtain ⟨m, rfl⟩ := suc_n hm
    have ea : a = 12 := by omega
    subst ea
    unfold wp_X3_growSpan_l91
    have go := hq σ F hI hk
    refine ⟨fun _ => ⟨fun h0 => ?_, fun h0 => ?_⟩, fun h => absurd (by omega) h⟩
    · rw [if_pos h0] at go; exact go
    · rw [if_neg h0] at go; exact go
  | succ d ih =>
    intro a σ F m hd hm hI hk
    obtain ⟨m, rfl⟩ := suc_n hm
    have ha : a < 12 := by omega
    obtain ⟨hG, hF, hlow, hz0, hSg, hT, hBw, hUC, h67⟩ := hI
    have ei : w32 (((12 * s : Nat) : Int) + (a : Int)) = ((12 * s + a : Nat) : Int) := by rw [w32_of (by omega) (by omega)]; omega
    have hDa : ∀ q, (D0 q ∨ ∃ b, b < a ∧ ¬ Wgo ρ b ∧ q = 12 * s + b) → q < 12 * spN (LL ρ) := by
      rintro q (h | ⟨b, hb, -, rfl⟩)
      · exact (hD0 q h).1
      · omega
    have hSgA : ∀ q, (D0 q ∨ ∃ b, b < a ∧ ¬ Wgo ρ b ∧ q = 12 * s + b) → SgF ρ F q := by
      rintro q (h | ⟨b, hb, hn, rfl⟩)
      · exact hSg q h
      · exact (hT b hb hn).sg
    have hU : ubF F (fun q => D0 q ∨ ∃ b, b < a ∧ ¬ Wgo ρ b ∧ q = 12 * s + b) := fun q hq k hkq => by
      have := ub_of hg hL hF hSgA hDa hq hkq
      omega
    have exS : ExD D0 Fs F := fun q hq => by
      have := hlow q (hD0 q hq).2
      exact ⟨by omega, fun k _ => this.2 k⟩
    -- base cases: the same at the start and now
    have bC : ∀ b, b < 12 → ∀ z, BaseC ρ F (12 * s + b) z ↔ BaseC ρ Fs (12 * s + b) z := by
      intro b hb z
      constructor
      · rintro ⟨h1, h2⟩
        have bl := base_low hg hL hb hs h1.1 h2
        exact ⟨(hlow.cand (fun h => by have := bl.1 h; omega) (fun h => by have := bl.2 h; omega)).1 h1, h2⟩
      · rintro ⟨h1, h2⟩
        have bl := base_low hg hL hb hs h1.1 h2
        exact ⟨(hlow.cand (fun h => by have := bl.1 h; omega) (fun h => by have := bl.2 h; omega)).2 h1, h2⟩
    have bL : ∀ b, b < 12 → ∀ z w, BaseC ρ Fs (12 * s + b) z → BaseC ρ Fs (12 * s + b) w → (ltE ρ Fs (12 * s + b) z w ↔ ltE ρ F (12 * s + b) z w) := fun b hb z w hz hw => exS.ltp hFs (hP0 b hb _ hz.1.1 hz.2) hz.1 hw.1
    unfold wp_X3_growSpan_l91 wp_X3_growSpan_b153
    rw [ei, Int.toNat_natCast, Int.toNat_natCast, b_bit h3 (k := a) (by omega), w32_of (x := (a : Int) + 1) (by omega) (by omega), show (a : Int) + 1 = ((a + 1 : Nat) : Int) by omega]
    refine ⟨fun h => absurd h (by omega), fun _ => ⟨by omega, fun σ9 e9 => ⟨by omega, fun σ10 e10 => ⟨by omega, fun σ11 e11 => ?_⟩⟩⟩⟩
    have k11 : ∀ k, k ≠ 59 → k ≠ 64 → k ≠ 65 → σ11 k = σ k := fun k h1 h2 h3 => by rw [e11, upS_k h3, e10, upS_k h2, e9, upS_k h1]
    have c59 : ∀ j, j ≠ 12 * s + a → σ11 59 j = σ 59 j := fun j hj => by rw [e11, upS_k (by decide), e10, upS_k (by decide), e9, upS_j hj]
    have c59a : σ11 59 (12 * s + a) = 0 := by rw [e11, upS_k (by decide), e10, upS_k (by decide), e9, upS_s]
    have c64 : ∀ j, j ≠ a → σ11 64 j = σ 64 j := fun j hj => by rw [e11, upS_k (by decide), e10, upS_j hj, e9, upS_k (by decide)]
    have c64a : σ11 64 a = 0 := by rw [e11, upS_k (by decide), e10, upS_s]
    have c65 : ∀ j, j ≠ a → σ11 65 j = σ 65 j := fun j hj => by rw [e11, upS_j hj, e10, upS_k (by decide), e9, upS_k (by decide)]
    have c65a : σ11 65 a = 0 := by rw [e11, upS_s]
    have hG11 : GSt ρ σ11 F (fun q => D0 q ∨ ∃ b, b < a ∧ ¬ Wgo ρ b ∧ q = 12 * s + b) := by
      obtain ⟨g1, g2, g3⟩ := hG
      refine ⟨g1.extK (fun k h => k11 k (by omega) (by omega) (by omega)), fun q hq => ?_, fun q hq k hkq => by rw [k11 58 (by decide) (by decide) (by decide)]; exact g3 q hq k hkq⟩
      obtain ⟨p1, p2, p3, p4⟩ := g2 q hq
      have hne : q ≠ 12 * s + a := by
        rcases hq with h | ⟨b, hb, -, rfl⟩
        · have := (hD0 q h).2; omega
        · omega
      refine ⟨p1, p2, by rw [c59 q hne]; exact p3, fun k hkq => ?_⟩
      rw [k11 55 (by decide) (by decide) (by decide), k11 56 (by decide) (by decide) (by decide), k11 57 (by decide) (by decide) (by decide)]
      exact p4 k hkq
    refine c_gatherBase hg hL hF hU hDa hs ha (fun t ht hb => ?_) hG11 c64a (fun σ13 n L f13 hBL => ?_)
    · have := hP0 a ha t ht hb
      exact ⟨fun h => Or.inl (this.1 h), fun h => Or.inl (this.2.1 h), this.2.2⟩
    have hG13 := f13.gs hG11
    have k13 : ∀ k, k ≠ 59 → k ≠ 61 → k ≠ 62 → k ≠ 63 → k ≠ 64 → k ≠ 65 → σ13 k = σ k := fun k h1 h2 h3 h4 h5 h6 => by rw [f13.1 k h2 h3 h4 h5, k11 k h1 h5 h6]
    have d59 : ∀ j, j ≠ 12 * s + a → σ13 59 j = σ 59 j := fun j hj => by rw [f13.1 59 (by decide) (by decide) (by decide) (by decide)]; exact c59 j hj
    have d59a : σ13 59 (12 * s + a) = 0 := by rw [f13.1 59 (by decide) (by decide) (by decide) (by decide)]; exact c59a
    have d64 : ∀ j, j ≠ a → σ13 64 j = σ 64 j := fun j hj => by rw [f13.2.2 j hj]; exact c64 j hj
    have d65 : ∀ j, j ≠ a → σ13 65 j = σ 65 j := fun j hj => by rw [f13.1 65 (by decide) (by decide) (by decide) (by decide)]; exact c65 j hj
    have d65a : σ13 65 a = 0 := by rw [f13.1 65 (by decide) (by decide) (by decide) (by decide)]; exact c65a
    have dBE : ∀ b, b ≠ a → ∀ i z, i < 16 → BEc ρ σ (12 * s + b) b i z → BEc ρ σ13 (12 * s + b) b i z := fun b hb i z hi h => by
      unfold BEc at *
      rw [f13.2.1 61 (by decide) (by decide) _ (by omega), f13.2.1 62 (by decide) (by decide) _ (by omega), f13.2.1 63 (by decide) (by decide) _ (by omega), k11 61 (by decide) (by decide) (by decide), k11 62 (by decide) (by decide) (by decide), k11 63 (by decide) (by decide) (by decide)]
      exact h
    obtain ⟨bT, b64, bE, bP⟩ := hBL
    have bT2 : TopP (ltE ρ Fs (12 * s + a)) (BaseC ρ Fs (12 * s + a)) n L := (bT.cg (bC a ha) (fun _ _ => rfl)).lt2 (fun z w hz hw => (bL a ha z w hz hw).symm)
    by_cases hw : Wgo ρ a
    · rw [if_pos ((hgo a ha).2 hw)]
      refine ⟨fun _ v16 e16 => ?_, fun h => absurd (by decide) h⟩
      rw [e16]
      have eD : (fun q => D0 q ∨ ∃ b, b < a ∧ ¬ Wgo ρ b ∧ q = 12 * s + b) = (fun q => D0 q ∨ ∃ b, b < a + 1 ∧ ¬ Wgo ρ b ∧ q = 12 * s + b) := by
        funext q
        refine propext ⟨fun h => ?_, fun h => ?_⟩
        · rcases h with h | ⟨b, hb, h⟩
          · exact Or.inl h
          · exact Or.inr ⟨b, by omega, h⟩
        · rcases h with h | ⟨b, hb, hn, h⟩
          · exact Or.inl h
          · refine Or.inr ⟨b, ?_, hn, h⟩
            have : b ≠ a := fun e => hn (e ▸ hw)
            omega
      refine ih (a + 1) σ13 F m (by omega) (by omega) ⟨by rw [← eD]; exact hG13, by rw [← eD]; exact hF, hlow, fun b hb h => ?_, hSg, fun b hb hn => ?_, fun b hb hWb => ?_, ?_, fun u hu => ?_⟩ (fun k h => by
        rcases h with h | h | h
        · rw [k13 k (by omega) (by omega) (by omega) (by omega) (by omega) (by omega)]; exact hk k (by omega)
        · rw [h, k13 60 (by decide) (by decide) (by decide) (by decide) (by decide) (by decide)]; exact hk 60 (by decide)
        · rw [k13 k (by omega) (by omega) (by omega) (by omega) (by omega) (by omega)]; exact hk k (by omega))
      · by_cases e : b = a
        · rw [e]; exact hz0 a ha (Or.inl hw)
        · exact hz0 b hb (by rcases h with h | h; exact Or.inl h; exact Or.inr (by omega))
      · have : b ≠ a := fun e => hn (e ▸ hw)
        exact hT b (by omega) hn
      · by_cases e : b = a
        · subst e
          exact ⟨d59a, n, L, bT2, b64, bE, d65a⟩
        · obtain ⟨g1, n2, L2, g2, g3, g4, g5⟩ := hBw b (by omega) hWb
          refine ⟨by rw [d59 _ (by omega)]; exact g1, n2, L2, g2, by rw [d64 b e]; exact g3, fun i hi => dBE b e i _ (by have := g2.1; omega) (g4 i hi), by rw [d65 b e]; exact g5⟩
      · unfold UCs
        rw [k13 66 (by decide) (by decide) (by decide) (by decide) (by decide) (by decide)]; exact hUC
      · rw [k13 67 (by decide) (by decide) (by decide) (by decide) (by decide) (by decide)]; exact h67 u hu
    · rw [if_neg (fun h => hw ((hgo a ha).1 h))]
      refine ⟨fun h => absurd rfl h, fun _ => ?_⟩
      have hD' : ∀ q, (D0 q ∨ ∃ b, b < a + 1 ∧ ¬ Wgo ρ b ∧ q = 12 * s + b) → (D0 q ∨ ∃ b, b < a ∧ ¬ Wgo ρ b ∧ q = 12 * s + b) ∨ q = 12 * s + a := by
        rintro q (h | ⟨b, hb, hn, h⟩)
        · exact Or.inl (Or.inl h)
        · by_cases e : b = a
          · right; rw [h, e]
          · exact Or.inl (Or.inr ⟨b, by omega, hn, h⟩)
      have up : ∀ q, (D0 q ∨ ∃ b, b < a ∧ ¬ Wgo ρ b ∧ q = 12 * s + b) → (D0 q ∨ ∃ b, b < a + 1 ∧ ¬ Wgo ρ b ∧ q = 12 * s + b) := by
        rintro q (h | ⟨b, hb, h⟩)
        · exact Or.inl h
        · exact Or.inr ⟨b, by omega, h⟩
      have hqa : (D0 (12 * s + a) ∨ ∃ b, b < a + 1 ∧ ¬ Wgo ρ b ∧ 12 * s + a = 12 * s + b) := Or.inr ⟨a, by omega, hw, rfl⟩
      have F0a : F.1 (12 * s + a) = 0 := hz0 a ha (Or.inr (Nat.le_refl _))
      have hF' : ClF ρ F (fun q => D0 q ∨ ∃ b, b < a + 1 ∧ ¬ Wgo ρ b ∧ q = 12 * s + b) := by
        intro q hq
        rcases hD' q hq with h | h
        · obtain ⟨g1, g2, g3⟩ := hF q h
          exact ⟨g1, g2, fun t ht => ⟨fun h0 => up _ ((g3 t ht).1 h0), fun h0 => up _ ((g3 t ht).2.1 h0), (g3 t ht).2.2⟩⟩
        · subst h
          refine ⟨fun k hkq => by omega, fun k l _ hl => by omega, fun t ht => ?_⟩
          have := hP0 a ha t ht (nw_base hg hL ha hs ht hw)
          exact ⟨fun h0 => Or.inl (this.1 h0), fun h0 => Or.inl (this.2.1 h0), this.2.2⟩
      have hG' : GSt ρ σ13 F (fun q => D0 q ∨ ∃ b, b < a + 1 ∧ ¬ Wgo ρ b ∧ q = 12 * s + b) := by
        obtain ⟨g1, g2, g3⟩ := hG13
        refine ⟨g1, fun q hq => ?_, fun q hq k hkq => ?_⟩
        · rcases hD' q hq with h | h
          · exact g2 q h
          · subst h
            exact ⟨by omega, by omega, by rw [d59a, F0a]; rfl, fun k hkq => by omega⟩
        · rcases hD' q hq with h | h
          · exact g3 q h k hkq
          · subst h; omega
      have cB : ∀ z, CandE ρ F (12 * s + a) z ↔ BaseC ρ F (12 * s + a) z := fun z => ⟨fun h => ⟨h, nw_base hg hL ha hs h.1 hw⟩, fun h => h.1⟩
      have n16 := bT.1
      unfold wp_X3_takeAllOfBase
      refine c_takeAll hg hL (D := fun q => D0 q ∨ ∃ b, b < a + 1 ∧ ¬ Wgo ρ b ∧ q = 12 * s + b) (σ0 := σ13) (F0 := F) (s := s) hqa ha n16 (by omega) (fun i hi => (bE i hi).2.2.2) (fun σ15 F1 hG1 hF1 f1 f2 flow foth k15 k59 k65 v16 e16 => ?_) n 0 σ13 F bigN (by omega) (by unfold bigN; omega) hG' hF' F0a (fun k hk => by omega) LowEq.rf (fun p _ => ⟨rfl, fun _ => rfl⟩) (fun k hk => (bT.2.1 k hk).1) (fun k l hkl hl => bT.2.2.1 k l hkl hl) (fun _ _ _ => rfl) (fun _ _ => rfl) (fun _ _ => rfl) d65a b64 bE
      rw [e16]
      have exF : ExD (fun q => D0 q ∨ ∃ b, b < a + 1 ∧ ¬ Wgo ρ b ∧ q = 12 * s + b) F F1 := fun q hq => by
        by_cases e : q = 12 * s + a
        · subst e
          exact ⟨by omega, fun k hkq => by omega⟩
        · have := foth q e
          exact ⟨by omega, fun k _ => this.2 k⟩
      -- items of the old ones keep their lists
      have keepT : ∀ q, (D0 q ∨ ∃ b, b < a ∧ ¬ Wgo ρ b ∧ q = 12 * s + b) → q ≠ 12 * s + a ∧ ∀ z, CandE ρ F1 q z ↔ CandE ρ F q z := by
        intro q hq
        have hne : q ≠ 12 * s + a := by
          rcases hq with h | ⟨b, hb, -, h⟩
          · have := (hD0 q h).2; omega
          · omega
        refine ⟨hne, fun z => ?_⟩
        have pt : ∀ (p : Int) (x : Nat), (0 ≤ p → p.toNat ≠ 12 * s + a) → hsF F1 p = hsF F p ∧ scF F1 p x = scF F p x := by
          intro p x hp
          by_cases h0 : p < 0
          · rw [hsF_neg h0, hsF_neg h0, scF_neg h0, scF_neg h0]; exact ⟨rfl, rfl⟩
          · have hp := hp (by omega)
            rw [hsF_pos (by omega), hsF_pos (by omega), scF_pos (by omega), scF_pos (by omega), (foth _ hp).1, (foth _ hp).2]
            exact ⟨rfl, rfl⟩
        have nn : z.2.1 < (cI ρ q).length → (0 ≤ cf ρ q z.2.1 → (cf ρ q z.2.1).toNat ≠ 12 * s + a) ∧ (0 ≤ cg ρ q z.2.1 → (cg ρ q z.2.1).toNat ≠ 12 * s + a) := by
          intro ht
          have g3 := (hF q hq).2.2 _ ht
          refine ⟨fun h0 e => ?_, fun h0 e => ?_⟩
          · have := g3.1 h0
            rw [e] at this
            rcases this with h | ⟨b, hb, -, h⟩
            · have := (hD0 _ h).2; omega
            · omega
          · have := g3.2.1 h0
            rw [e] at this
            rcases this with h | ⟨b, hb, -, h⟩
            · have := (hD0 _ h).2; omega
            · omega
        unfold CandE
        constructor
        · rintro ⟨h1, h2, h3', h4⟩
          have A := pt _ z.2.2.1 (nn h1).1
          have B := pt _ z.2.2.2 (nn h1).2
          rw [A.1] at h2
          rw [B.1] at h3'
          rw [A.2, B.2] at h4
          exact ⟨h1, h2, h3', h4⟩
        · rintro ⟨h1, h2, h3', h4⟩
          have A := pt _ z.2.2.1 (nn h1).1
          have B := pt _ z.2.2.2 (nn h1).2
          refine ⟨h1, by rw [A.1]; exact h2, by rw [B.1]; exact h3', by rw [A.2, B.2]; exact h4⟩
      refine ih (a + 1) σ15 F1 m (by omega) (by omega) ⟨hG1, hF1, ?_, fun b hb h => ?_, fun q hq => ?_, fun b hb hn => ?_, fun b hb hWb => ?_, ?_, fun u hu => ?_⟩ (fun k h => by
        rcases h with h | h | h
        · rw [k15 k (by omega) (by omega), k13 k (by omega) (by omega) (by omega) (by omega) (by omega) (by omega)]; exact hk k (by omega)
        · rw [h, k15 60 (by decide) (by decide), k13 60 (by decide) (by decide) (by decide) (by decide) (by decide) (by decide)]; exact hk 60 (by decide)
        · rw [k15 k (by omega) (by omega), k13 k (by omega) (by omega) (by omega) (by omega) (by omega) (by omega)]; exact hk k (by omega))
      · intro q hq
        have l1 := hlow q hq
        have l2 := flow q hq
        exact ⟨l2.1.trans l1.1, fun k => (l2.2 k).trans (l1.2 k)⟩
      · have hne : b ≠ a := by
          rcases h with h | h
          · exact fun e => hw (e ▸ h)
          · omega
        rw [(foth (12 * s + b) (by omega)).1]
        exact hz0 b hb (by rcases h with h | h; exact Or.inl h; exact Or.inr (by omega))
      · obtain ⟨hne, hc⟩ := keepT q (Or.inl hq)
        have sg := hSg q hq
        refine ⟨by rw [(foth q hne).1]; exact sg.1, fun z hz => ?_⟩
        have cz := (hc z).1 hz
        rcases sg.2 z cz with ⟨k, hk2, e⟩ | g
        · exact Or.inl ⟨k, by rw [(foth q hne).1]; exact hk2, by rw [(foth q hne).2]; exact e⟩
        · refine Or.inr (fun k hk2 => ?_)
          rw [(foth q hne).1] at hk2
          rw [(foth q hne).2]
          exact (exF.lt hF' (up q (Or.inl hq)) ((hF q (Or.inl hq)).1 k hk2).1 cz).1 (g k hk2)
      · by_cases e : b = a
        · subst e
          rw [f1]
          have := ((bT.cg (fun z => (cB z).symm) (L2 := F1.2 (12 * s + b)) (fun i hi => f2 i hi)).lt2 (fun z w hz hw' => exF.lt hF' hqa hz hw'))
          refine this.cg (fun z => ?_) (fun _ _ => rfl)
          refine ⟨fun h => exF.cand hF' hqa h, fun h => ?_⟩
          have hb1 := nw_base hg hL ha hs h.1 hw
          have bl := base_low hg hL ha hs h.1 hb1
          exact (flow.cand (fun h => by have := bl.1 h; omega) (fun h => by have := bl.2 h; omega)).1 h
        · have hb2 : D0 (12 * s + b) ∨ ∃ b', b' < a ∧ ¬ Wgo ρ b' ∧ 12 * s + b = 12 * s + b' := Or.inr ⟨b, by omega, hn, rfl⟩
          obtain ⟨hne, hc⟩ := keepT _ hb2
          rw [(foth _ hne).1]
          exact (((hT b (by omega) hn).cg (L2 := F1.2 (12 * s + b)) (fun _ => Iff.rfl) (fun i _ => (foth _ hne).2 i)).lt2 (fun z w hz hw' => exF.lt hF' (up _ hb2) hz hw')).cg (fun z => (hc z).symm) (fun _ _ => rfl)
      · have hne : b ≠ a := fun e => hw (e ▸ hWb)
        obtain ⟨g1, n2, L2, g2, g3, g4, g5⟩ := hBw b (by omega) hWb
        refine ⟨by rw [k59 _ (by omega), d59 _ (by omega)]; exact g1, n2, L2, g2, by rw [k15 64 (by decide) (by decide), d64 b hne]; exact g3, fun i hi => ?_, by rw [k65 b hne, d65 b hne]; exact g5⟩
        have := dBE b hne i _ (by have := g2.1; omega) (g4 i hi)
        unfold BEc at this ⊢
        rw [k15 61 (by decide) (by decide), k15 62 (by decide) (by decide), k15 63 (by decide) (by decide)]
        exact this
      · unfold UCs
        rw [k15 66 (by decide) (by decide), k13 66 (by decide) (by decide) (by decide) (by decide) (by decide) (by decide)]; exact hUC
      · rw [k15 67 (by decide) (by decide), k13 67 (by decide) (by decide) (by decide) (by decide) (by decide) (by decide)]; exact h67 u hu
