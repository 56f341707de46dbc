/-! the rules that are in, by label -/
def inA (ρ : St) (a k : Nat) : Bool := decide (ρ 3 k = (a : Int)) && decide (ρ 8 k = 0)
def unR (ρ : St) (k : Nat) : Bool := decide (ρ 5 k = -1) && decide (ρ 4 k < 12)
def liA (ρ : St) (a : Nat) : Nat → List Nat
  | 0 => []
  | n + 1 => liA ρ a n ++ (if inA ρ a n then [n] else [])
def uyA (ρ : St) (a : Nat) : Nat → List Nat
  | 0 => []
  | n + 1 => uyA ρ a n ++ (if inA ρ a n && unR ρ n then [n] else [])
def liL (ρ : St) : Nat → List Nat
  | 0 => []
  | a + 1 => liL ρ a ++ liA ρ a (ρ 0 4).toNat
def uyL (ρ : St) : Nat → List Nat
  | 0 => []
  | a + 1 => uyL ρ a ++ uyA ρ a (ρ 0 4).toNat
theorem mem_liA {ρ : St} {a r : Nat} : ∀ n, r ∈ liA ρ a n ↔ r < n ∧ inA ρ a r = true
  | 0 => by simp [liA]
  | n + 1 => by
    unfold liA
    rw [List.mem_append, mem_liA n]
    by_cases h : inA ρ a n = true
    · rw [if_pos h, List.mem_singleton]
      constructor
      · rintro (⟨h1, h2⟩ | rfl)
        · exact ⟨by omega, h2⟩
        · exact ⟨by omega, h⟩
      · rintro ⟨h1, h2⟩
        by_cases e : r = n
        · exact Or.inr e
        · exact Or.inl ⟨by omega, h2⟩
    · rw [if_neg h]
      constructor
      · rintro (⟨h1, h2⟩ | h1)
        · exact ⟨by omega, h2⟩
        · cases h1
      · rintro ⟨h1, h2⟩
        by_cases e : r = n
        · subst e; exact absurd h2 h
        · exact Or.inl ⟨by omega, h2⟩
theorem mem_uyA {ρ : St} {a r : Nat} : ∀ n, r ∈ uyA ρ a n ↔ r < n ∧ (inA ρ a r && unR ρ r) = true
  | 0 => by simp [uyA]
  | n + 1 => by
    unfold uyA
    rw [List.mem_append, mem_uyA n]
    by_cases h : (inA ρ a n && unR ρ n) = true
    · rw [if_pos h, List.mem_singleton]
      constructor
      · rintro (⟨h1, h2⟩ | rfl)
        · exact ⟨by omega, h2⟩
        · exact ⟨by omega, h⟩
      · rintro ⟨h1, h2⟩
        by_cases e : r = n
        · exact Or.inr e
        · exact Or.inl ⟨by omega, h2⟩
    · rw [if_neg h]
      constructor
      · rintro (⟨h1, h2⟩ | h1)
        · exact ⟨by omega, h2⟩
        · cases h1
      · rintro ⟨h1, h2⟩
        by_cases e : r = n
        · subst e; exact absurd h2 h
        · exact Or.inl ⟨by omega, h2⟩
theorem mem_uyL {ρ : St} {r : Nat} : ∀ b, r ∈ uyL ρ b ↔ r < (ρ 0 4).toNat ∧ ∃ a, a < b ∧ (inA ρ a r && unR ρ r) = true
  | 0 => by simp [uyL]
  | b + 1 => by
    unfold uyL
    rw [List.mem_append, mem_uyL b, mem_uyA]
    constructor
    · rintro (⟨h1, a, ha, h2⟩ | ⟨h1, h2⟩)
      · exact ⟨h1, a, by omega, h2⟩
      · exact ⟨h1, b, by omega, h2⟩
    · rintro ⟨h1, a, ha, h2⟩
      by_cases e : a = b
      · subst e; exact Or.inr ⟨h1, h2⟩
      · exact Or.inl ⟨h1, a, by omega, h2⟩
theorem mem_liL {ρ : St} {r : Nat} : ∀ b, r ∈ liL ρ b ↔ r < (ρ 0 4).toNat ∧ ∃ a, a < b ∧ inA ρ a r = true
  | 0 => by simp [liL]
  | b + 1 => by
    unfold liL
    rw [List.mem_append, mem_liL b, mem_liA]
    constructor
    · rintro (⟨h1, a, ha, h2⟩ | ⟨h1, h2⟩)
      · exact ⟨h1, a, by omega, h2⟩
      · exact ⟨h1, b, by omega, h2⟩
    · rintro ⟨h1, a, ha, h2⟩
      by_cases e : a = b
      · subst e; exact Or.inr ⟨h1, h2⟩
      · exact Or.inl ⟨h1, a, by omega, h2⟩
theorem liA_len {ρ : St} {a : Nat} : ∀ n, (liA ρ a n).length = cntB (inA ρ a) n
  | 0 => rfl
  | n + 1 => by unfold liA cntB; rw [List.length_append, liA_len n]; split <;> rfl
theorem cntB_add {f g : Nat → Bool} : ∀ n, (∀ k, k < n → f k = true → g k = false) → cntB f n + cntB g n = cntB (fun k => f k || g k) n
  | 0, _ => rfl
  | n + 1, h => by
    have ih := cntB_add n (fun k hk => h k (by omega))
    have hn := h n (by omega)
    unfold cntB
    cases e : f n with
    | true => rw [hn e]; simp; omega
    | false => simp; omega
theorem cntB_eq {f g : Nat → Bool} : ∀ n, (∀ k, k < n → f k = g k) → cntB f n = cntB g n
  | 0, _ => rfl
  | n + 1, h => by unfold cntB; rw [cntB_eq n (fun k hk => h k (by omega)), h n (by omega)]
theorem cntB_cut {f : Nat → Bool} {r : Nat} : ∀ d, cntB (fun k => f k && decide (k < r)) (r + d) = cntB f r
  | 0 => cntB_eq r (fun k hk => by simp [hk])
  | d + 1 => by
    show cntB _ (r + d) + _ = _
    rw [cntB_cut d]; simp
theorem liL_len {ρ : St} (hg : Wg ρ) : ∀ a : Nat, (liL ρ a).length = cntB (fun k => decide (ρ 3 k < (a : Int)) && decide (ρ 8 k = 0)) (ρ 0 4).toNat
  | 0 => by
    have : ∀ n, n ≤ (ρ 0 4).toNat → cntB (fun k => decide (ρ 3 k < ((0 : Nat) : Int)) && decide (ρ 8 k = 0)) n = 0 := by
      intro n
      induction n with
      | zero => intro _; rfl
      | succ n ih =>
        intro hn
        have := w_head hg (r := n) (by omega)
        unfold cntB
        rw [ih (by omega), decide_eq_false (by omega)]; rfl
    rw [this _ (Nat.le_refl _)]; rfl
  | a + 1 => by
    unfold liL
    rw [List.length_append, liL_len hg a, liA_len, cntB_add]
    · refine cntB_eq _ (fun k hk => ?_)
      unfold inA
      by_cases h8 : ρ 8 k = 0
      · rw [decide_eq_true h8]
        simp only [Bool.and_true]
        rw [← Bool.decide_or]
        exact decide_eq_decide.2 (by push_cast; omega)
      · rw [decide_eq_false h8]; simp
    · intro k hk h
      unfold inA
      simp only [Bool.and_eq_true, decide_eq_true_eq] at h
      rw [decide_eq_false (by omega)]; rfl
theorem li_lt {ρ : St} (hg : Wg ρ) {a r : Nat} (hr : (r : Int) < ρ 0 4) (h3 : ρ 3 r = a) : (liL ρ a ++ liA ρ a r).length < (ρ 0 4).toNat := by
  have h0 := hg.1
  obtain ⟨d, hd⟩ : ∃ d, (ρ 0 4).toNat = r + d := ⟨(ρ 0 4).toNat - r, by omega⟩
  rw [List.length_append, liL_len hg, liA_len, ← cntB_cut (f := inA ρ a) (r := r) d, ← hd, cntB_add]
  · refine Nat.lt_of_lt_of_le (cntB_lt (g := fun _ => true) _ (fun _ _ _ => rfl) ⟨r, by omega, rfl, ?_⟩) (cntB_le _ _)
    simp [h3]
  · intro k hk h
    unfold inA
    simp only [Bool.and_eq_true, decide_eq_true_eq] at h
    rw [decide_eq_false (by omega)]; rfl
theorem uyA_le {ρ : St} {a : Nat} : ∀ n, (uyA ρ a n).length ≤ (liA ρ a n).length
  | 0 => Nat.le_refl 0
  | n + 1 => by
    have := uyA_le (ρ := ρ) (a := a) n
    unfold uyA liA
    rw [List.length_append, List.length_append]
    cases e : inA ρ a n with
    | true => rw [if_pos rfl]; split <;> simp <;> omega
    | false => simp; omega
theorem uyL_le {ρ : St} : ∀ a, (uyL ρ a).length ≤ (liL ρ a).length
  | 0 => Nat.le_refl 0
  | a + 1 => by
    have := uyL_le (ρ := ρ) a
    have := uyA_le (ρ := ρ) (a := a) (ρ 0 4).toNat
    unfold uyL liL
    rw [List.length_append, List.length_append]; omega
/-- an array spells a list -/
def ArL (f : Nat → Int) (l : List Nat) : Prop := ∀ t (h : t < l.length), f t = ((l[t] : Nat) : Int)
theorem ArL.push {σ : St} {k : Nat} {l : List Nat} {v : Nat} (h : ArL (σ k) l) : ArL (upS σ k l.length v k) (l ++ [v]) := by
  intro t ht
  rw [List.length_append] at ht
  by_cases e : t = l.length
  · subst e; rw [upS_s]; simp
  · have ht2 : t < l.length := by simp at ht; omega
    rw [upS_j e, h t ht2, List.getElem_append_left ht2]
/-- what gatherLive has gathered -/
def GL2 (ρ σ : St) (l u : List Nat) : Prop := VCg σ ρ ∧ σ 24 14 = l.length ∧ ArL (σ 34) l ∧ σ 24 12 = u.length ∧ ArL (σ 33) u
theorem c_gl20 {Q : Int → St → Prop} {K : Int → St → Prop} {ρ : St} (hg : Wg ρ) {a : Nat} (ha : a < 12) : ∀ (d r : Nat) (σ : St) (n : Nat), (r : Int) + d = ρ 0 4 → d < n → GL2 ρ σ (liL ρ a ++ liA ρ a r) (uyL ρ a ++ uyA ρ a r) → (∀ σ1, GL2 ρ σ1 (liL ρ (a + 1)) (uyL ρ (a + 1)) → K ((a + 1 : Nat) : Int) σ1) → wp_X0_gatherLive_l20 Q K n (a : Int) (r : Int) σ := by
  intro d
  have h0 := hg.1
  have hb := hg.2.1
  induction d with
  | zero =>
    intro r σ n hd hn h hk
    obtain ⟨n, rfl⟩ := suc_n hn
    unfold wp_X0_gatherLive_l20
    rw [h.1.1]
    refine ⟨fun _ v ev => ?_, fun hh => absurd hh (by omega)⟩
    rw [ev, w32_of (by omega) (by omega), show (a : Int) + 1 = ((a + 1 : Nat) : Int) by omega]
    refine hk σ ?_
    unfold liL uyL
    rw [show (ρ 0 4).toNat = r by omega]; exact h
  | succ d ih =>
    intro r σ n hd hn h hk
    obtain ⟨n, rfl⟩ := suc_n hn
    have hr : (r : Int) < ρ 0 4 := by omega
    obtain ⟨hv, h1, h2, h3, h4⟩ := h
    obtain ⟨k1, k2, k3, k4, k5, k6⟩ := hv.2 r hr
    unfold wp_X0_gatherLive_l20 wp_X0_gatherLive_b107
    have nx : ∀ σ1 l u, GL2 ρ σ1 l u → l = liL ρ a ++ liA ρ a (r + 1) → u = uyL ρ a ++ uyA ρ a (r + 1) → ∀ v : Int, v = w32 ((r : Int) + 1) → wp_X0_gatherLive_l20 Q K n (a : Int) v σ1 := by
      intro σ1 l u h el eu v ev
      rw [ev, w32_of (by omega) (by omega), show (r : Int) + 1 = ((r + 1 : Nat) : Int) by omega]
      rw [el, eu] at h
      exact ih (r + 1) σ1 n (by push_cast at hd ⊢; omega) (by omega) h hk
    have no : inA ρ a r = false → ∀ v : Int, v = w32 ((r : Int) + 1) → wp_X0_gatherLive_l20 Q K n (a : Int) v σ := by
      intro hi
      refine nx σ _ _ ⟨hv, h1, h2, h3, h4⟩ ?_ ?_
      · show _ = _ ++ (liA ρ a r ++ _); rw [hi, if_neg (by decide), List.append_nil]
      · show _ = _ ++ (uyA ρ a r ++ _); rw [hi, Bool.false_and, if_neg (by decide), List.append_nil]
    rw [hv.1, Int.toNat_natCast, k1, k6]
    refine ⟨fun hh => absurd hh (by omega), fun _ => ⟨by omega, fun hh => no (by unfold inA; rw [decide_eq_false hh]; rfl), fun hh => ⟨by omega, fun h8 => no (by unfold inA; rw [decide_eq_false h8, Bool.and_false]), fun h8 => ?_⟩⟩⟩
    have hh : ρ 3 r = a := by omega
    have h8 : ρ 8 r = 0 := by omega
    have hi : inA ρ a r = true := by unfold inA; rw [decide_eq_true hh, decide_eq_true h8]; rfl
    have hlt := li_lt hg hr hh
    have hle : (uyL ρ a ++ uyA ρ a r).length ≤ (liL ρ a ++ liA ρ a r).length := by
      have := uyL_le (ρ := ρ) a
      have := uyA_le (ρ := ρ) (a := a) r
      rw [List.length_append, List.length_append]; omega
    refine ⟨by omega, fun σ4 e4 σ5 e5 => ?_⟩
    have c14 : σ4 24 14 = σ 24 14 := by rw [e4, upS_k (by decide)]
    rw [c14, h1, w32_of (by omega) (by omega)] at e5
    rw [h1, Int.toNat_natCast] at e4
    have v5 : VCg σ5 ρ := by rw [e5, e4]; exact hv
    have el : liL ρ a ++ liA ρ a r ++ [r] = liL ρ a ++ liA ρ a (r + 1) := by
      show _ = _ ++ (liA ρ a r ++ _); rw [hi, if_pos rfl, List.append_assoc]
    have a34 : ArL (σ5 34) (liL ρ a ++ liA ρ a (r + 1)) := by
      rw [← el, e5, upS_k (by decide), e4]; exact h2.push
    have n14 : σ5 24 14 = (liL ρ a ++ liA ρ a (r + 1)).length := by
      rw [← el, e5, upS_s, List.length_append]; simp; omega
    have c12 : σ5 24 12 = (uyL ρ a ++ uyA ρ a r).length := by
      rw [e5, upS_j (by decide), e4, upS_k (by decide)]; exact h3
    have a33 : ArL (σ5 33) (uyL ρ a ++ uyA ρ a r) := by
      rw [e5, upS_k (by decide), e4, upS_k (by decide)]; exact h4
    refine c_isUnary hg v5 hr ?_
    by_cases hu : ρ 5 r = -1 ∧ ρ 4 r < 12
    · rw [if_pos hu, c12]
      refine ⟨fun q => absurd q (by decide), fun _ => ⟨by omega, fun σ8 e8 σ9 e9 => ?_⟩⟩
      have c8 : σ8 24 12 = (uyL ρ a ++ uyA ρ a r).length := by rw [e8, upS_k (by decide)]; exact c12
      rw [c8, w32_of (by omega) (by omega)] at e9
      rw [Int.toNat_natCast] at e8
      have eu : uyL ρ a ++ uyA ρ a r ++ [r] = uyL ρ a ++ uyA ρ a (r + 1) := by
        show _ = _ ++ (uyA ρ a r ++ _)
        rw [if_pos (by rw [hi]; unfold unR; rw [decide_eq_true hu.1, decide_eq_true hu.2]; rfl), List.append_assoc]
      refine nx σ9 _ _ ⟨by rw [e9, e8]; exact v5, ?_, ?_, ?_, ?_⟩ rfl eu
      · rw [e9, upS_j (by decide), e8, upS_k (by decide)]; exact n14
      · rw [e9, upS_k (by decide), e8, upS_k (by decide)]; exact a34
      · rw [e9, upS_s, List.length_append]; simp; omega
      · rw [e9, upS_k (by decide), e8]; exact a33.push
    · rw [if_neg hu]
      refine ⟨fun _ => nx σ5 _ _ ⟨v5, n14, a34, c12, a33⟩ rfl ?_, fun q => absurd rfl q⟩
      show _ = _ ++ (uyA ρ a r ++ _)
      rw [if_neg, List.append_nil]
      unfold unR
      rw [← Bool.decide_and, decide_eq_false hu, Bool.and_false]; decide
theorem c_gl12 {Q : Int → St → Prop} {ρ : St} (hg : Wg ρ) (hq : ∀ σ1, GL2 ρ σ1 (liL ρ 12) (uyL ρ 12) → Q 0 σ1) : ∀ (d a : Nat) (σ : St) (n : Nat), a + d = 12 → d < n → GL2 ρ σ (liL ρ a) (uyL ρ a) → wp_X0_gatherLive_l12 Q n (a : Int) σ := by
  intro d
  have h0 := hg.1
  have hb := hg.2.1
  induction d with
  | zero =>
    intro a σ n hd hn h
    obtain ⟨n, rfl⟩ := suc_n hn
    have : a = 12 := by omega
    subst this
    unfold wp_X0_gatherLive_l12
    exact ⟨fun _ => hq σ h, fun hh => absurd hh (by omega)⟩
  | succ d ih =>
    intro a σ n hd hn h
    obtain ⟨n, rfl⟩ := suc_n hn
    unfold wp_X0_gatherLive_l12
    refine ⟨fun hh => absurd hh (by omega), fun _ => c_gl20 hg (by omega) (ρ 0 4).toNat 0 σ bigN (by omega) (by unfold bigN; omega) ?_ (fun σ1 h1 => ih (a + 1) σ1 n (by omega) (by omega) h1)⟩
    show GL2 ρ σ (liL ρ a ++ []) (uyL ρ a ++ [])
    rw [List.append_nil, List.append_nil]; exact h
theorem c_gatherLive {ρ σ : St} (hg : Wg ρ) (hv : VCg σ ρ) {Q : Int → St → Prop} (hq : ∀ σ1, GL2 ρ σ1 (liL ρ 12) (uyL ρ 12) → Q 0 σ1) : wp_X0_gatherLive σ Q := by
  unfold wp_X0_gatherLive
  intro σ1 e1 σ2 e2
  refine c_gl12 hg hq 12 0 σ2 bigN rfl (by unfold bigN; omega) ⟨by rw [e2, e1]; exact hv, ?_, fun t ht => absurd ht (by simp [liL]), ?_, fun t ht => absurd ht (by simp [uyL])⟩
  · rw [e2, upS_j (by decide), e1, upS_s]; rfl
  · rw [e2, upS_s]; rfl
