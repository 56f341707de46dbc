/-! the reference marks what has no end -/
def eLe (i j : Int) (τ τ1 : St) : Prop := ∀ a : Int, 0 ≤ a → a < 12 → en τ a i j ≠ 0 → en τ1 a i j ≠ 0
theorem eLe.rf {i j : Int} {τ : St} : eLe i j τ τ := fun _ _ _ h => h
theorem eLe.tr {i j : Int} {τ τ1 τ2 : St} (h : eLe i j τ τ1) (h2 : eLe i j τ1 τ2) : eLe i j τ τ2 := fun a h0 h1 z => h2 a h0 h1 (h a h0 h1 z)
def eC (τ : St) (i j : Int) (a : Nat) : Bool := decide (en τ (a : Int) i j = 0)
theorem en_up {τ : St} {i j a b : Int} (ha : 0 ≤ a ∧ a < 12) (hb : 0 ≤ b ∧ b < 12) (hi : 0 ≤ i ∧ i < j ∧ j ≤ 8) : en (upS τ 16 (it a i j).toNat 1) b i j = if b = a then 1 else en τ b i j := by
  unfold en
  by_cases h : b = a
  · rw [h, upS_s, if_pos rfl]
  · rw [if_neg h, upS_j]
    intro e; exact h (it_inj hb hi ha hi e).1
theorem eLe.up {τ : St} {i j a : Int} (ha : 0 ≤ a ∧ a < 12) (hi : 0 ≤ i ∧ i < j ∧ j ≤ 8) : eLe i j τ (upS τ 16 (it a i j).toNat 1) := fun b h0 h1 z => by
  rw [en_up ha ⟨h0, h1⟩ hi]
  by_cases e : b = a
  · rw [if_pos e]; decide
  · rw [if_neg e]; exact z
theorem r_le60 {ρ τ0 : St} (hg : Wg ρ) (hL : LL ρ < 9) (h80 : 0 ≤ ρ 0 8) {i j : Nat} (hi : i < j ∧ j ≤ LL ρ) (hH : HE ρ τ0 i j) {Q : Int → St → Prop} {K : Int → Int → Int → St → Prop} : ∀ (d r : Nat) (τ : St) (f : Int) (n : Nat), (r : Int) + d = ρ 0 4 → d < n → SE ρ τ0 τ i j → (f = 0 ∨ f = 1) → (∀ τ1 f1, SE ρ τ0 τ1 i j → eLe i j τ τ1 → (f1 = 0 ∨ f1 = 1) → (f1 = 0 → f = 0 ∧ τ1 = τ ∧ ∀ r' : Nat, r ≤ r' → (r' : Int) < ρ 0 4 → ρ 8 r' = 0 → en τ (ρ 3 r') i j = 0 → ¬ GO ρ τ i j r') → (f1 = 1 → f = 1 ∨ cntB (eC τ1 i j) 12 < cntB (eC τ i j) 12) → K i j f1 τ1) → wp_X12_laysEndlessSpan_l60 Q K n (i : Int) (j : Int) f (r : Int) τ := by
  have h40 := hg.2.1
  have hs8 : ρ 0 8 ≤ 8 := by unfold LL at hL; omega
  have eL : ((LL ρ : Nat) : Int) = ρ 0 8 := by unfold LL; omega
  have hi8 : (0 : Int) ≤ i ∧ (i : Int) < j ∧ (j : Int) ≤ 8 := by omega
  intro d
  induction d with
  | zero =>
    intro r τ f n hd hn s hf hk
    obtain ⟨n, rfl⟩ := suc_n hn
    unfold wp_X12_laysEndlessSpan_l60
    rw [s.1.1.1]
    exact ⟨fun _ => hk τ f s eLe.rf hf (fun h => ⟨h, rfl, fun r' h1 h2 => by omega⟩) (fun h => Or.inl h), fun h => absurd h (by omega)⟩
  | succ d ih =>
    intro r τ f n hd hn s hf hk
    obtain ⟨n, rfl⟩ := suc_n hn
    have hr : (r : Int) < ρ 0 4 := by push_cast at hd; omega
    obtain ⟨k1, k2, k3, k4⟩ := s.1.1.2.2.2.1 r hr
    have hh := (hg.2.2 r hr).1
    have no : (ρ 8 r = 0 → en τ (ρ 3 r) i j = 0 → ¬ GO ρ τ i j r) → wp_X12_laysEndlessSpan_b133 Q K (wp_X12_laysEndlessSpan_l60 Q K n) (i : Int) (j : Int) f (r : Int) τ := by
      intro hc
      unfold wp_X12_laysEndlessSpan_b133
      intro v ev
      rw [ev, w32_of (by omega) (by omega), show (r : Int) + 1 = ((r + 1 : Nat) : Int) by omega]
      refine ih (r + 1) τ f n (by push_cast at hd ⊢; omega) (by omega) s hf (fun τ1 f1 s1 le1 hf1 h0 h1 => hk τ1 f1 s1 le1 hf1 (fun h => ?_) h1)
      obtain ⟨q1, q2, q3⟩ := h0 h
      refine ⟨q1, q2, fun r' a1 a2 a3 a4 => ?_⟩
      by_cases e : r' = r
      · subst e; exact hc a3 a4
      · exact q3 r' (by omega) a2 a3 a4
    have hI : isItm ρ (ρ 3 r) (i : Int) (j : Int) := ⟨hh, by omega, by omega, by omega⟩
    unfold wp_X12_laysEndlessSpan_l60
    rw [s.1.1.1]
    refine ⟨fun h => absurd h (by omega), fun _ => r_isIn hg s.1.1.2.1 hr ?_⟩
    by_cases h8 : ρ 8 r = 0
    · rw [if_pos h8, Int.toNat_natCast, k1]
      refine ⟨fun h => absurd h (by decide), fun _ => ⟨by omega, r_item hh hi8 ⟨it_r hh hi8, fun z => no (fun _ w => absurd w z), fun z => ?_⟩⟩⟩
      have z0 : en τ (ρ 3 r) i j = 0 := by unfold en; omega
      refine r_goesOn hg s.1 hs8 (by omega) hr (fun h => ⟨fun w => absurd rfl w, fun _ => no (fun _ _ => h)⟩) (fun h => ⟨fun _ => ⟨by omega, ?_⟩, fun w => absurd (by decide) w⟩)
      rw [k1]
      refine r_item hh hi8 ⟨it_r hh hi8, fun τ1 e1 => ?_⟩
      rw [show b_and 1 1 = 1 by decide] at e1
      have nf := go_nf hg hL h80 hi hH s hr h8 h
      have s1 : SE ρ τ0 τ1 i j := by rw [e1]; exact s.mark hs8 hI nf
      have le1 : eLe i j τ τ1 := by rw [e1]; exact eLe.up hh hi8
      have lt : cntB (eC τ1 i j) 12 < cntB (eC τ i j) 12 := by
        refine cntB_lt 12 (fun k hk2 hkt => ?_) ⟨(ρ 3 r).toNat, by omega, ?_, ?_⟩
        · unfold eC at *
          rw [decide_eq_true_iff] at *
          exact Classical.byContradiction (fun w => le1 k (by omega) (by omega) w hkt)
        · unfold eC
          rw [decide_eq_true_iff, show (((ρ 3 r).toNat : Nat) : Int) = ρ 3 r by omega]; exact z0
        · unfold eC
          rw [decide_eq_false_iff_not, show (((ρ 3 r).toNat : Nat) : Int) = ρ 3 r by omega, e1, en_up hh hh hi8, if_pos rfl]; decide
      unfold wp_X12_laysEndlessSpan_b133
      intro v ev
      rw [ev, w32_of (by omega) (by omega), show (r : Int) + 1 = ((r + 1 : Nat) : Int) by omega]
      refine ih (r + 1) τ1 1 n (by push_cast at hd ⊢; omega) (by omega) s1 (Or.inr rfl) (fun τ2 f2 s2 le2 hf2 h0 h1 => hk τ2 f2 s2 (le1.tr le2) hf2 (fun h => ?_) (fun h => Or.inr ?_))
      · have := (h0 h).1; omega
      · have mono : cntB (eC τ2 i j) 12 ≤ cntB (eC τ1 i j) 12 := cntB_mono 12 (fun k hk2 hkt => by
          unfold eC at *
          rw [decide_eq_true_iff] at *
          exact Classical.byContradiction (fun w => le2 k (by omega) (by omega) w hkt))
        omega
    · rw [if_neg h8]
      exact ⟨fun _ => no (fun h => absurd h h8), fun h => absurd rfl h⟩
theorem r_le49 {ρ τ0 : St} (hg : Wg ρ) (hL : LL ρ < 9) (h80 : 0 ≤ ρ 0 8) {i j : Nat} (hi : i < j ∧ j ≤ LL ρ) (hH : HE ρ τ0 i j) {Q : Int → St → Prop} (hq : ∀ τ1, SE ρ τ0 τ1 i j → (∀ a : Int, 0 ≤ a → a < 12 → eOk ρ τ1 a i j) → Q 0 τ1) : ∀ (N : Nat) (τ : St) (n : Nat), cntB (eC τ i j) 12 ≤ N → N + 1 < n → SE ρ τ0 τ i j → (∀ a : Nat, a < 12 → PT (Ed ρ (spA (LL ρ) i j)) 12 a a → en τ a i j ≠ 0) → wp_X12_laysEndlessSpan_l49 Q n (i : Int) (j : Int) 1 τ := by
  have h0 := hg.1
  have h40 := hg.2.1
  intro N
  induction N with
  | zero =>
    intro τ n hN hn s hr
    obtain ⟨n, rfl⟩ := suc_n (show 0 < n by omega)
    unfold wp_X12_laysEndlessSpan_l49
    refine ⟨fun h => absurd h (by decide), fun _ => r_le60 hg hL h80 hi hH (ρ 0 4).toNat 0 τ 0 bigN (by omega) (by unfold bigN; omega) s (Or.inl rfl) (fun τ1 f1 s1 le1 hf1 q0 q1 => ?_)⟩
    obtain ⟨n, rfl⟩ := suc_n (show 0 < n by omega)
    unfold wp_X12_laysEndlessSpan_l49
    rcases hf1 with rfl | rfl
    · obtain ⟨-, e, hc⟩ := q0 rfl
      subst e
      exact ⟨fun _ => hq _ s (se_fin hg hL h80 hi hH s hr (fun r hr => hc r (Nat.zero_le _) hr)), fun h => absurd rfl h⟩
    · exfalso
      rcases q1 rfl with h | h
      · omega
      · omega
  | succ N ih =>
    intro τ n hN hn s hr
    obtain ⟨n, rfl⟩ := suc_n (show 0 < n by omega)
    unfold wp_X12_laysEndlessSpan_l49
    refine ⟨fun h => absurd h (by decide), fun _ => r_le60 hg hL h80 hi hH (ρ 0 4).toNat 0 τ 0 bigN (by omega) (by unfold bigN; omega) s (Or.inl rfl) (fun τ1 f1 s1 le1 hf1 q0 q1 => ?_)⟩
    rcases hf1 with rfl | rfl
    · obtain ⟨n, rfl⟩ := suc_n (show 0 < n by omega)
      unfold wp_X12_laysEndlessSpan_l49
      obtain ⟨-, e, hc⟩ := q0 rfl
      subst e
      exact ⟨fun _ => hq _ s (se_fin hg hL h80 hi hH s hr (fun r hr => hc r (Nat.zero_le _) hr)), fun h => absurd rfl h⟩
    · rcases q1 rfl with h | h
      · exfalso; omega
      · exact ih τ1 n (by omega) (by omega) s1 (fun a ha hp => le1 a (by omega) (by omega) (hr a ha hp))
theorem r_laysEndlessSpan {ρ τ : St} (hg : Wg ρ) (hL : LL ρ < 9) (h80 : 0 ≤ ρ 0 8) (ha : LA ρ τ) {i j : Nat} (hi : i < j ∧ j ≤ LL ρ) (hH : HE ρ τ i j) (hf : ∀ a : Int, 0 ≤ a → a < 12 → en τ a i j = 0) {Q : Int → St → Prop} (hq : ∀ τ1, SE ρ τ τ1 i j → (∀ a : Int, 0 ≤ a → a < 12 → eOk ρ τ1 a i j) → Q 0 τ1) : wp_X12_laysEndlessSpan (i : Int) (j : Int) τ Q := by
  have hs8 : ρ 0 8 ≤ 8 := by unfold LL at hL; omega
  have eL : ((LL ρ : Nat) : Int) = ρ 0 8 := by unfold LL; omega
  have q := sp_a (L := LL ρ) hL hi
  have hi8 : (0 : Int) ≤ i ∧ (i : Int) < j ∧ (j : Int) ≤ 8 := by omega
  unfold wp_X12_laysEndlessSpan
  refine r_ringsAt hg hL h80 ha hi (fun τ1 r f hr hbits => ?_)
  have e16 : τ1 16 = τ 16 := funext (fun k => f.at rfl)
  have e17 : τ1 17 = τ 17 := funext (fun k => f.at rfl)
  have lp : ∀ (d x : Nat) (τ2 : St) (n : Nat), x + d = 12 → d < n → SE ρ τ τ2 i j → (∀ a : Nat, a < x → PT (Ed ρ (spA (LL ρ) i j)) 12 a a → en τ2 a i j ≠ 0) → wp_X12_laysEndlessSpan_l10 Q n (i : Int) (j : Int) r (x : Int) τ2 := by
    intro d
    induction d with
    | zero =>
      intro x τ2 n hd hn s hm
      obtain ⟨n, rfl⟩ := suc_n hn
      unfold wp_X12_laysEndlessSpan_l10
      refine ⟨fun _ => r_le49 hg hL h80 hi hH hq 12 τ2 bigN (cntB_le _ _) (by unfold bigN; omega) s (fun a ha2 hp => hm a (by omega) hp), fun w => absurd (by omega) w⟩
    | succ d ih =>
      intro x τ2 n hd hn s hm
      obtain ⟨n, rfl⟩ := suc_n hn
      have hI : isItm ρ (x : Int) (i : Int) (j : Int) := ⟨by omega, by omega, by omega, by omega⟩
      unfold wp_X12_laysEndlessSpan_l10
      refine ⟨fun w => absurd w (by omega), fun _ => bit_1 hr (by omega) (fun hb => r_item hI.1 hi8 ⟨it_r hI.1 hi8, fun τ3 e3 => ?_⟩) (fun hb => ?_)⟩
      · rw [show b_and 1 1 = 1 by decide] at e3
        have hp := ((hbits x).1 hb).2
        have nf : ¬ FN ρ (itN ρ (x : Int) i j) := by
          rintro ⟨k, hk⟩
          unfold itN at hk
          rw [Int.toNat_natCast, Int.toNat_natCast, Int.toNat_natCast] at hk
          exact ring_nf hL q.1 (by omega) hp k hk
        unfold wp_X12_laysEndlessSpan_b40
        intro v ev
        rw [ev, w32_of (by omega) (by omega), show (x : Int) + 1 = ((x + 1 : Nat) : Int) by omega]
        refine ih (x + 1) τ3 n (by omega) (by omega) (by rw [e3]; exact s.mark hs8 hI nf) (fun a ha2 hp2 => ?_)
        rw [e3, en_up hI.1 (by omega) hi8]
        by_cases e : (a : Int) = (x : Int)
        · rw [if_pos e]; decide
        · rw [if_neg e]; exact hm a (by omega) hp2
      · unfold wp_X12_laysEndlessSpan_b40
        intro v ev
        rw [ev, w32_of (by omega) (by omega), show (x : Int) + 1 = ((x + 1 : Nat) : Int) by omega]
        refine ih (x + 1) τ2 n (by omega) (by omega) s (fun a ha2 hp2 => ?_)
        by_cases e : a = x
        · subst e
          rw [(hbits a).2 ⟨by omega, hp2⟩] at hb; cases hb
        · exact hm a (by omega) hp2
  exact lp 12 0 τ1 bigN (by omega) (by unfold bigN; omega) ⟨LA.frB f (by decide) ha, fun k _ => by rw [e16], fun a h0 h1 => Or.inl (by unfold en; rw [e16]; exact hf a h0 h1), e17⟩ (fun a h => by omega)
def DE (ρ τ : St) (n i : Int) : Prop := LA ρ τ ∧ (∀ k : Nat, k < 768 → τ 17 k = 0) ∧ ∀ a k l : Int, 0 ≤ a → a < 12 → 0 ≤ k → k < l → l ≤ ρ 0 8 → ((l - k < n ∨ (l - k = n ∧ k < i)) → eOk ρ τ a k l) ∧ (¬ (l - k < n ∨ (l - k = n ∧ k < i)) → en τ a k l = 0)
theorem r_en41 {ρ : St} (hg : Wg ρ) (hL : LL ρ < 9) (h80 : 0 ≤ ρ 0 8) {Q : Int → St → Prop} {K : Int → St → Prop} {m : Nat} (hm : 1 ≤ m ∧ m ≤ LL ρ) : ∀ (d i : Nat) (τ : St) (f : Nat), i + m + d = LL ρ + 1 → d < f → DE ρ τ m i → (∀ τ1, DE ρ τ1 ((m : Int) + 1) 0 → K ((m + 1 : Nat) : Int) τ1) → wp_X12_laysEndless_l41 Q K f (m : Int) (i : Int) τ := by
  have hs8 : ρ 0 8 ≤ 8 := by unfold LL at hL; omega
  have eL : ((LL ρ : Nat) : Int) = ρ 0 8 := by unfold LL; omega
  intro d
  induction d with
  | zero =>
    intro i τ f hd hf hl hk
    obtain ⟨f, rfl⟩ := suc_n hf
    unfold wp_X12_laysEndless_l41
    rw [w32_of (x := (i : Int) + m) (by omega) (by omega), hl.1.1.2.2.1]
    refine ⟨fun _ v ev => ?_, fun h => absurd (by omega) h⟩
    rw [ev, w32_of (by omega) (by omega), show (m : Int) + 1 = ((m + 1 : Nat) : Int) by omega]
    refine hk τ ⟨hl.1, hl.2.1, fun a k l a0 a1 k0 kl lg => ⟨fun h => (hl.2.2 a k l a0 a1 k0 kl lg).1 (by omega), fun h => (hl.2.2 a k l a0 a1 k0 kl lg).2 (by omega)⟩⟩
  | succ d ih =>
    intro i τ f hd hf hl hk
    obtain ⟨f, rfl⟩ := suc_n hf
    unfold wp_X12_laysEndless_l41
    rw [w32_of (x := (i : Int) + m) (by omega) (by omega), hl.1.1.2.2.1, show (i : Int) + m = ((i + m : Nat) : Int) by omega]
    refine ⟨fun h => absurd h (by omega), fun _ => r_laysEndlessSpan hg hL h80 hl.1 (i := i) (j := i + m) (by omega) (fun a k l a0 a1 h2 h3 h4 h5 => (hl.2.2 a k l a0 a1 (by omega) h3 (by omega)).1 (by omega)) (fun a a0 a1 => (hl.2.2 a i ((i + m : Nat) : Int) a0 a1 (by omega) (by omega) (by omega)).2 (by omega)) (fun τ1 s1 hlo v ev => ?_)⟩
    rw [ev, w32_of (by omega) (by omega), show (i : Int) + 1 = ((i + 1 : Nat) : Int) by omega]
    refine ih (i + 1) τ1 f (by omega) (by omega) ⟨s1.1, fun k hk2 => by rw [s1.2.2.2]; exact hl.2.1 k hk2, fun a k l a0 a1 k0 kl lg => ?_⟩ hk
    by_cases e : k = (i : Int) ∧ l = ((i + m : Nat) : Int)
    · obtain ⟨rfl, rfl⟩ := e
      exact ⟨fun _ => hlo a a0 a1, fun h => absurd (by omega) h⟩
    · have e2 : en τ1 a k l = en τ a k l := s1.2.1 _ (fun b b0 b1 h => e (by
        have := it_inj ⟨a0, a1⟩ (by omega) ⟨b0, b1⟩ (by omega) h
        exact ⟨this.2.1, this.2.2⟩))
      have q := hl.2.2 a k l a0 a1 k0 kl lg
      unfold eOk at *
      rw [e2]
      exact ⟨fun h => q.1 (by omega), fun h => q.2 (by omega)⟩
/-- all is marked -/
def EA (ρ τ : St) : Prop := LA ρ τ ∧ (∀ k : Nat, k < 768 → τ 17 k = 0) ∧ ∀ a k l : Int, isItm ρ a k l → eOk ρ τ a k l
theorem r_laysEndless {ρ τ : St} (hg : Wg ρ) (hL : LL ρ < 9) (h80 : 0 ≤ ρ 0 8) (ha : LA ρ τ) {Q : Int → St → Prop} (hq : ∀ τ1, EA ρ τ1 → Q 0 τ1) : wp_X12_laysEndless τ Q := by
  have hs8 : ρ 0 8 ≤ 8 := by unfold LL at hL; omega
  have eL : ((LL ρ : Nat) : Int) = ρ 0 8 := by unfold LL; omega
  have lp1 : ∀ (d m : Nat) (τ : St) (f : Nat), 1 ≤ m → m + d = LL ρ + 1 → d < f → DE ρ τ m 0 → wp_X12_laysEndless_l31 Q f (m : Int) τ := by
    intro d
    induction d with
    | zero =>
      intro m τ f h1 hd hf hl
      obtain ⟨f, rfl⟩ := suc_n hf
      unfold wp_X12_laysEndless_l31
      rw [hl.1.1.2.2.1]
      exact ⟨fun _ => hq τ ⟨hl.1, hl.2.1, fun a k l h => (hl.2.2 a k l h.1.1 h.1.2 h.2.1 h.2.2.1 h.2.2.2).1 (by have := h.2; omega)⟩, fun h => absurd (by omega) h⟩
    | succ d ih =>
      intro m τ f h1 hd hf hl
      obtain ⟨f, rfl⟩ := suc_n hf
      unfold wp_X12_laysEndless_l31
      rw [hl.1.1.2.2.1]
      refine ⟨fun h => absurd h (by omega), fun _ => r_en41 hg hL h80 (m := m) (by omega) (LL ρ + 1 - m) 0 τ bigN (by omega) (by unfold bigN; omega) hl (fun τ1 h1 => ih (m + 1) τ1 f (by omega) (by omega) (by omega) (by
        rw [show ((m + 1 : Nat) : Int) = (m : Int) + 1 by omega]; exact h1))⟩
  have lp0 : ∀ (d x : Nat) (τ : St) (f : Nat), x + d = 768 → d < f → LA ρ τ → (∀ k : Nat, k < x → τ 16 k = 0 ∧ τ 17 k = 0) → wp_X12_laysEndless_l2 Q f (x : Int) τ := by
    intro d
    induction d with
    | zero =>
      intro x τ f hd hf v hz
      obtain ⟨f, rfl⟩ := suc_n hf
      unfold wp_X12_laysEndless_l2
      refine ⟨fun _ => lp1 (LL ρ) 1 τ bigN (by omega) (by omega) (by unfold bigN; omega) ⟨v, fun k hk => (hz k (by omega)).2, fun a k l a0 a1 k0 kl lg => ⟨fun h => absurd h (by omega), fun _ => ?_⟩⟩, fun h => absurd (by omega) h⟩
      have := it_r (i := k) (j := l) ⟨a0, a1⟩ (by omega)
      exact (hz _ (by omega)).1
    | succ d ih =>
      intro x τ f hd hf v hz
      obtain ⟨f, rfl⟩ := suc_n hf
      unfold wp_X12_laysEndless_l2
      refine ⟨fun h => absurd h (by omega), fun _ => ⟨by omega, fun τ1 e1 => ⟨by omega, fun τ2 e2 w ew => ?_⟩⟩⟩
      rw [ew, w32_of (by omega) (by omega), show (x : Int) + 1 = ((x + 1 : Nat) : Int) by omega]
      rw [show b_and 0 1 = 0 by decide, Int.toNat_natCast] at e1 e2
      refine ih (x + 1) τ2 f (by omega) (by omega) (by rw [e2, e1]; exact v) (fun k hk => ?_)
      by_cases e : k = x
      · rw [e, e2, upS_s, upS_k (by decide), e1, upS_s]; exact ⟨rfl, rfl⟩
      · rw [e2, upS_j e, upS_k (by decide), e1, upS_j e, upS_k (by decide)]; exact hz k (by omega)
  unfold wp_X12_laysEndless
  exact lp0 768 0 τ bigN (by omega) (by unfold bigN; omega) ha (fun k h => by omega)
