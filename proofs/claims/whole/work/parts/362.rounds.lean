/-! a round of the reference; value, rounds -/
def T1 (ρ : St) (w : Nat → Int) (V : Int → Int → Int → Prop) (τ : St) : Prop := RVS ρ w τ ∧ ∀ a i j, isItm ρ a i j → V a i j → τ 27 (it a i j).toNat = vNew ρ w (itN ρ a i j)
theorem T1.mono {ρ : St} {w : Nat → Int} {V V' : Int → Int → Int → Prop} {τ : St} (h : T1 ρ w V τ) (hV : ∀ a i j, isItm ρ a i j → V' a i j → V a i j) : T1 ρ w V' τ := ⟨h.1, fun a i j h1 h2 => h.2 a i j h1 (hV a i j h1 h2)⟩
theorem itm_inj {ρ : St} (h8 : ρ 0 8 ≤ 8) {a i j b k l : Int} (h : isItm ρ a i j) (h2 : isItm ρ b k l) (e : (it a i j).toNat = (it b k l).toNat) : a = b ∧ i = k ∧ j = l := it_inj h.1 (by have := h.2; omega) h2.1 (by have := h2.2; omega) e
theorem r_to27 {ρ : St} (hg : Wg ρ) (hL : LL ρ < 9) (h80 : 0 ≤ ρ 0 8) (hw : Wb ρ) {w : Nat → Int} (hr : WV ρ w) {i j : Nat} (hi : i < j ∧ j ≤ LL ρ) {x1 : Int} {Q : Int → St → Prop} {K4 : Int → Int → St → Prop} {K : Int → Int → Int → St → Prop} (hk : ∀ τ1, τ1 0 44 = x1 → T1 ρ w (vsd i ((j + 1 : Nat) : Int) 0) τ1 → K 0 i ((j + 1 : Nat) : Int) τ1) : ∀ (d a : Nat) (τ : St) (n : Nat), a + d = 12 → d < n → τ 0 44 = x1 → T1 ρ w (vsd i j a) τ → wp_X12_turnsOnce_l27 Q K4 K n 0 i j (a : Int) τ := by
  have hs8 : ρ 0 8 ≤ 8 := by unfold LL at hL; omega
  have eL : ((LL ρ : Nat) : Int) = ρ 0 8 := by unfold LL; omega
  intro d
  induction d with
  | zero =>
    intro a τ n hd hn h44 ht
    obtain ⟨n, rfl⟩ := suc_n hn
    unfold wp_X12_turnsOnce_l27
    refine ⟨fun _ v ev => ?_, fun w => absurd (by omega) w⟩
    rw [ev, w32_of (by omega) (by omega), show (j : Int) + 1 = ((j + 1 : Nat) : Int) by omega]
    refine hk τ h44 (ht.mono (fun a' i' j' h1 h2 => ?_))
    have := h1.1
    unfold vsd at *; omega
  | succ d ih =>
    intro a τ n hd hn h44 ht
    obtain ⟨n, rfl⟩ := suc_n hn
    have hI : isItm ρ (a : Int) (i : Int) (j : Int) := ⟨by omega, by omega, by omega, by omega⟩
    unfold wp_X12_turnsOnce_l27
    refine ⟨fun w => absurd w (by omega), fun _ => r_item hI.1 (by omega) (r_valueAnew hg hL h80 hw hr ht.1 hI ⟨it_r hI.1 (by omega), fun τ1 e1 v ev => ?_⟩)⟩
    rw [ev, w32_of (by omega) (by omega), show (a : Int) + 1 = ((a + 1 : Nat) : Int) by omega]
    refine ih (a + 1) τ1 n (by omega) (by omega) (by rw [e1]; exact h44) ⟨by rw [e1]; exact ht.1, fun a' i' j' h1 h2 => ?_⟩
    rw [e1]
    by_cases e : (it a' i' j').toNat = (it a i j).toNat
    · have e2 := itm_inj hs8 h1 hI e
      rw [e, upS_s, e2.1, e2.2.1, e2.2.2]
    · rw [upS_j e]
      refine ht.2 a' i' j' h1 ?_
      have : ¬ (a' = (a : Int) ∧ i' = (i : Int) ∧ j' = (j : Int)) := by
        rintro ⟨rfl, rfl, rfl⟩; exact e rfl
      unfold vsd at *; omega
theorem r_to16 {ρ : St} (hg : Wg ρ) (hL : LL ρ < 9) (h80 : 0 ≤ ρ 0 8) (hw : Wb ρ) {w : Nat → Int} (hr : WV ρ w) {i : Nat} (hi : i < LL ρ) {x1 : Int} {Q : Int → St → Prop} {K : Int → Int → St → Prop} (hk : ∀ τ1, τ1 0 44 = x1 → T1 ρ w (vsd ((i + 1 : Nat) : Int) 0 0) τ1 → K 0 ((i + 1 : Nat) : Int) τ1) : ∀ (d t : Nat) (τ : St) (n : Nat), i + t + d = LL ρ → d < n → τ 0 44 = x1 → T1 ρ w (vsd i ((i + 1 + t : Nat) : Int) 0) τ → wp_X12_turnsOnce_l16 Q K n 0 i ((i + 1 + t : Nat) : Int) τ := by
  have eL : ((LL ρ : Nat) : Int) = ρ 0 8 := by unfold LL; omega
  intro d
  induction d with
  | zero =>
    intro t τ n hd hn h44 ht
    obtain ⟨n, rfl⟩ := suc_n hn
    unfold wp_X12_turnsOnce_l16
    rw [ht.1.1.1.2.2.1]
    refine ⟨fun _ v ev => ?_, fun w => absurd (by omega) w⟩
    rw [ev, w32_of (by omega) (by omega), show (i : Int) + 1 = ((i + 1 : Nat) : Int) by omega]
    refine hk τ h44 (ht.mono (fun a' i' j' h1 h2 => ?_))
    have := h1.2
    unfold vsd at *; omega
  | succ d ih =>
    intro t τ n hd hn h44 ht
    obtain ⟨n, rfl⟩ := suc_n hn
    unfold wp_X12_turnsOnce_l16
    rw [ht.1.1.1.2.2.1]
    refine ⟨fun w => absurd w (by omega), fun _ => ?_⟩
    exact r_to27 hg hL h80 hw hr (i := i) (j := i + 1 + t) (by omega) (fun τ1 g44 h1 => ih (t + 1) τ1 n (by omega) (by omega) g44 h1) 12 0 τ bigN (by omega) (by unfold bigN; omega) h44 ht
/-- while the new values are taken -/
def T2 (ρ : St) (w : Nat → Int) (V : Int → Int → Int → Prop) (x : Int) (τ : St) : Prop := LA ρ τ ∧ VRg τ ρ ∧ VRb τ ρ ∧ (∀ a i j, isItm ρ a i j → τ 27 (it a i j).toNat = vNew ρ w (itN ρ a i j)) ∧ (∀ a i j, isItm ρ a i j → V a i j → τ 26 (it a i j).toNat = vNew ρ w (itN ρ a i j)) ∧ (∀ a i j, isItm ρ a i j → ¬ V a i j → τ 26 (it a i j).toNat = w (itN ρ a i j)) ∧ (x = 0 ∨ x = 1) ∧ (x = 1 ↔ ∃ a i j, isItm ρ a i j ∧ V a i j ∧ vNew ρ w (itN ρ a i j) ≠ w (itN ρ a i j))
theorem T2.mono {ρ : St} {w : Nat → Int} {V V' : Int → Int → Int → Prop} {x : Int} {τ : St} (h : T2 ρ w V x τ) (hV : ∀ a i j, isItm ρ a i j → (V' a i j ↔ V a i j)) : T2 ρ w V' x τ := by
  obtain ⟨h1, h2, h3, h4, h5, h6, h7, h8⟩ := h
  refine ⟨h1, h2, h3, h4, fun a i j a1 a2 => h5 a i j a1 ((hV a i j a1).1 a2), fun a i j a1 a2 => h6 a i j a1 (fun z => a2 ((hV a i j a1).2 z)), h7, h8.trans ⟨fun ⟨a, i, j, a1, a2, a3⟩ => ⟨a, i, j, a1, (hV a i j a1).2 a2, a3⟩, fun ⟨a, i, j, a1, a2, a3⟩ => ⟨a, i, j, a1, (hV a i j a1).1 a2, a3⟩⟩⟩
theorem r_to97 {ρ : St} (hL : LL ρ < 9) (h80 : 0 ≤ ρ 0 8) {w : Nat → Int} {i j : Nat} (hi : i < j ∧ j ≤ LL ρ) {y : Int} {Q : Int → St → Prop} {K74 : Int → Int → St → Prop} {K : Int → Int → Int → St → Prop} (hk : ∀ τ1 x, τ1 0 44 = y → T2 ρ w (vsd i ((j + 1 : Nat) : Int) 0) x τ1 → K x i ((j + 1 : Nat) : Int) τ1) : ∀ (d a : Nat) (x : Int) (τ : St) (n : Nat), a + d = 12 → d < n → τ 0 44 = y → T2 ρ w (vsd i j a) x τ → wp_X12_turnsOnce_l97 Q K74 K n x i j (a : Int) τ := by
  have hs8 : ρ 0 8 ≤ 8 := by unfold LL at hL; omega
  have eL : ((LL ρ : Nat) : Int) = ρ 0 8 := by unfold LL; omega
  intro d
  induction d with
  | zero =>
    intro a x τ n hd hn h44 ht
    obtain ⟨n, rfl⟩ := suc_n hn
    unfold wp_X12_turnsOnce_l97
    refine ⟨fun _ v ev => ?_, fun w => absurd (by omega) w⟩
    rw [ev, w32_of (by omega) (by omega), show (j : Int) + 1 = ((j + 1 : Nat) : Int) by omega]
    refine hk τ x h44 (ht.mono (fun a' i' j' h1 => ?_))
    have := h1.1
    unfold vsd; omega
  | succ d ih =>
    intro a x τ n hd hn h44 ht
    obtain ⟨n, rfl⟩ := suc_n hn
    have hI : isItm ρ (a : Int) (i : Int) (j : Int) := ⟨by omega, by omega, by omega, by omega⟩
    have hnv : ¬ vsd i j a (a : Int) (i : Int) (j : Int) := by unfold vsd; omega
    obtain ⟨h1, h2, h3, h4, h5, h6, h7, h8⟩ := ht
    have e27 := h4 _ _ _ hI
    have e26 := h6 _ _ _ hI hnv
    have itr := it_r hI.1 (i := (i : Int)) (j := (j : Int)) (by omega)
    have ext : ∀ a' i' j', isItm ρ a' i' j' → (vsd i j ((a + 1 : Nat) : Int) a' i' j' ↔ (vsd i j a a' i' j' ∨ (a' = (a : Int) ∧ i' = (i : Int) ∧ j' = (j : Int)))) := by
      intro a' i' j' _
      unfold vsd; omega
    have nx : ∀ x', (x' = 0 ∨ x' = 1) → (x' = 1 ↔ (x = 1 ∨ vNew ρ w (itN ρ a i j) ≠ w (itN ρ a i j))) → wp_X12_turnsOnce_b139 Q K74 K (wp_X12_turnsOnce_l97 Q K74 K n) i j (a : Int) (it a i j) x' τ := by
      intro x' hx' hx2
      unfold wp_X12_turnsOnce_b139
      refine ⟨itr, itr, fun τ1 e1 v ev => ?_⟩
      rw [ev, w32_of (by omega) (by omega), show (a : Int) + 1 = ((a + 1 : Nat) : Int) by omega]
      refine ih (a + 1) x' τ1 n (by omega) (by omega) (by rw [e1]; exact h44) ⟨by rw [e1]; exact h1, by rw [e1]; exact h2, by rw [e1]; exact h3, fun a' i' j' g1 => by rw [e1]; exact h4 a' i' j' g1, fun a' i' j' g1 g2 => ?_, fun a' i' j' g1 g2 => ?_, hx', hx2.trans ⟨fun z => ?_, fun ⟨a', i', j', g1, g2, g3⟩ => ?_⟩⟩
      · rw [e1]
        by_cases e : (it a' i' j').toNat = (it a i j).toNat
        · have e2 := itm_inj hs8 g1 hI e
          rw [e, upS_s, e27, e2.1, e2.2.1, e2.2.2]
        · rw [upS_j e]
          rcases (ext a' i' j' g1).1 g2 with z | ⟨rfl, rfl, rfl⟩
          · exact h5 a' i' j' g1 z
          · exact absurd rfl e
      · rw [e1]
        have ne : (it a' i' j').toNat ≠ (it a i j).toNat := fun e => by
          have e2 := itm_inj hs8 g1 hI e
          exact g2 ((ext a' i' j' g1).2 (Or.inr e2))
        rw [upS_j ne]
        exact h6 a' i' j' g1 (fun z => g2 ((ext a' i' j' g1).2 (Or.inl z)))
      · rcases z with z | z
        · obtain ⟨a', i', j', g1, g2, g3⟩ := h8.1 z
          exact ⟨a', i', j', g1, (ext a' i' j' g1).2 (Or.inl g2), g3⟩
        · exact ⟨a, i, j, hI, (ext _ _ _ hI).2 (Or.inr ⟨rfl, rfl, rfl⟩), z⟩
      · rcases (ext a' i' j' g1).1 g2 with z | ⟨rfl, rfl, rfl⟩
        · exact Or.inl (h8.2 ⟨a', i', j', g1, z, g3⟩)
        · exact Or.inr g3
    unfold wp_X12_turnsOnce_l97 wp_X12_turnsOnce_b134
    refine ⟨fun w => absurd w (by omega), fun _ => r_item hI.1 (by omega) ⟨fun hx => nx 1 (Or.inr rfl) ⟨fun _ => Or.inl (by omega), fun _ => rfl⟩, fun hx => ⟨itr, itr, fun he => nx 0 (Or.inl rfl) ⟨fun z => absurd z (by decide), fun z => ?_⟩, fun he => nx 1 (Or.inr rfl) ⟨fun _ => Or.inr ?_, fun _ => rfl⟩⟩⟩⟩
    · rcases z with z | z
      · omega
      · rw [e27, e26] at he; exact absurd he z
    · rw [e27, e26] at he; exact he
theorem r_to86 {ρ : St} (hL : LL ρ < 9) (h80 : 0 ≤ ρ 0 8) {w : Nat → Int} {i : Nat} (hi : i < LL ρ) {y : Int} {Q : Int → St → Prop} {K : Int → Int → St → Prop} (hk : ∀ τ1 x, τ1 0 44 = y → T2 ρ w (vsd ((i + 1 : Nat) : Int) 0 0) x τ1 → K x ((i + 1 : Nat) : Int) τ1) : ∀ (d t : Nat) (x : Int) (τ : St) (n : Nat), i + t + d = LL ρ → d < n → τ 0 44 = y → T2 ρ w (vsd i ((i + 1 + t : Nat) : Int) 0) x τ → wp_X12_turnsOnce_l86 Q K n x i ((i + 1 + t : Nat) : Int) τ := by
  have eL : ((LL ρ : Nat) : Int) = ρ 0 8 := by unfold LL; omega
  intro d
  induction d with
  | zero =>
    intro t x τ n hd hn h44 ht
    obtain ⟨n, rfl⟩ := suc_n hn
    unfold wp_X12_turnsOnce_l86
    rw [ht.1.1.2.2.1]
    refine ⟨fun _ v ev => ?_, fun w => absurd (by omega) w⟩
    rw [ev, w32_of (by omega) (by omega), show (i : Int) + 1 = ((i + 1 : Nat) : Int) by omega]
    refine hk τ x h44 (ht.mono (fun a' i' j' h1 => ?_))
    have := h1.1
    have := h1.2
    unfold vsd; omega
  | succ d ih =>
    intro t x τ n hd hn h44 ht
    obtain ⟨n, rfl⟩ := suc_n hn
    unfold wp_X12_turnsOnce_l86
    rw [ht.1.1.2.2.1]
    refine ⟨fun w => absurd w (by omega), fun _ => ?_⟩
    exact r_to97 hL h80 (i := i) (j := i + 1 + t) (by omega) (fun τ1 x1 g44 h1 => ih (t + 1) x1 τ1 n (by omega) (by omega) g44 h1) 12 0 x τ bigN (by omega) (by unfold bigN; omega) h44 ht
theorem chg_iff {ρ : St} (hL : LL ρ < 9) (h80 : 0 ≤ ρ 0 8) {w : Nat → Int} : chg ρ w (12 * spN (LL ρ)) ↔ ∃ a i j, isItm ρ a i j ∧ vNew ρ w (itN ρ a i j) ≠ w (itN ρ a i j) := by
  constructor
  · rintro ⟨q, h1, h2⟩
    obtain ⟨i1, i2⟩ := it_of hL h80 h1
    exact ⟨_, _, _, i1, by rw [i2]; exact h2⟩
  · rintro ⟨a, i, j, h1, h2⟩
    exact ⟨_, (itN_r hL h1).1, h2⟩
theorem r_to74 {ρ : St} (hL : LL ρ < 9) (h80 : 0 ≤ ρ 0 8) {w : Nat → Int} {y : Int} {Q : Int → St → Prop} (hq : ∀ τ1 r, τ1 0 44 = y → RVS ρ (vNew ρ w) τ1 → (r = 0 ∨ r = 1) → (r = 1 ↔ chg ρ w (12 * spN (LL ρ))) → Q r τ1) : ∀ (d i : Nat) (x : Int) (τ : St) (n : Nat), i + d = LL ρ → d < n → τ 0 44 = y → T2 ρ w (vsd i 0 0) x τ → wp_X12_turnsOnce_l74 Q n x (i : Int) τ := by
  have eL : ((LL ρ : Nat) : Int) = ρ 0 8 := by unfold LL; omega
  intro d
  induction d with
  | zero =>
    intro i x τ n hd hn h44 ht
    obtain ⟨n, rfl⟩ := suc_n hn
    unfold wp_X12_turnsOnce_l74
    rw [ht.1.1.2.2.1]
    have all : ∀ a' i' j', isItm ρ a' i' j' → vsd (i : Int) 0 0 a' i' j' := fun a' i' j' h1 => by have := h1.2; unfold vsd; omega
    refine ⟨fun _ => ⟨ht.2.2.2.2.2.2.1, hq τ x h44 ⟨ht.1, ht.2.1, ht.2.2.1, fun a' i' j' h1 => ht.2.2.2.2.1 a' i' j' h1 (all _ _ _ h1)⟩ ht.2.2.2.2.2.2.1 (ht.2.2.2.2.2.2.2.trans ?_)⟩, fun w => absurd (by omega) w⟩
    rw [chg_iff hL h80]
    exact ⟨fun ⟨a, i, j, h1, _, h2⟩ => ⟨a, i, j, h1, h2⟩, fun ⟨a, i, j, h1, h2⟩ => ⟨a, i, j, h1, all _ _ _ h1, h2⟩⟩
  | succ d ih =>
    intro i x τ n hd hn h44 ht
    obtain ⟨n, rfl⟩ := suc_n hn
    unfold wp_X12_turnsOnce_l74
    rw [ht.1.1.2.2.1]
    refine ⟨fun w => absurd w (by omega), fun _ v ev => ?_⟩
    rw [ev, w32_of (by omega) (by omega), show (i : Int) + 1 = ((i + 1 + 0 : Nat) : Int) by omega]
    refine r_to86 hL h80 (i := i) (by omega) (fun τ1 x1 g44 h1 => ih (i + 1) x1 τ1 n (by omega) (by omega) g44 h1) (LL ρ - i) 0 x τ bigN (by omega) (by unfold bigN; omega) h44 (ht.mono (fun a' i' j' h1 => ?_))
    have := h1.1
    have := h1.2
    unfold vsd; omega
theorem r_to4 {ρ : St} (hg : Wg ρ) (hL : LL ρ < 9) (h80 : 0 ≤ ρ 0 8) (hw : Wb ρ) {w : Nat → Int} (hr : WV ρ w) {y : Int} {Q : Int → St → Prop} (hq : ∀ τ1 r, τ1 0 44 = y → RVS ρ (vNew ρ w) τ1 → (r = 0 ∨ r = 1) → (r = 1 ↔ chg ρ w (12 * spN (LL ρ))) → Q r τ1) : ∀ (d i : Nat) (τ : St) (n : Nat), i + d = LL ρ → d < n → τ 0 44 = y → T1 ρ w (vsd i 0 0) τ → wp_X12_turnsOnce_l4 Q n 0 (i : Int) τ := by
  have eL : ((LL ρ : Nat) : Int) = ρ 0 8 := by unfold LL; omega
  intro d
  induction d with
  | zero =>
    intro i τ n hd hn h44 ht
    obtain ⟨n, rfl⟩ := suc_n hn
    unfold wp_X12_turnsOnce_l4
    rw [ht.1.1.1.2.2.1]
    refine ⟨fun _ => r_to74 hL h80 hq (LL ρ) 0 0 τ bigN (by omega) (by unfold bigN; omega) h44 ⟨ht.1.1, ht.1.2.1, ht.1.2.2.1, fun a' i' j' h1 => ht.2 a' i' j' h1 ?_, fun a' i' j' h1 h2 => ?_, fun a' i' j' h1 h2 => ht.1.2.2.2 a' i' j' h1, Or.inl rfl, ⟨fun z => absurd z (by decide), fun ⟨a', i', j', h1, h2, _⟩ => ?_⟩⟩, fun w => absurd (by omega) w⟩
    · have := h1.2
      unfold vsd; omega
    · have := h1.2
      unfold vsd at h2; omega
    · have := h1.2
      unfold vsd at h2; omega
  | succ d ih =>
    intro i τ n hd hn h44 ht
    obtain ⟨n, rfl⟩ := suc_n hn
    unfold wp_X12_turnsOnce_l4
    rw [ht.1.1.1.2.2.1]
    refine ⟨fun w => absurd w (by omega), fun _ v ev => ?_⟩
    rw [ev, w32_of (by omega) (by omega), show (i : Int) + 1 = ((i + 1 + 0 : Nat) : Int) by omega]
    refine r_to16 hg hL h80 hw hr (i := i) (by omega) (fun τ1 g44 h1 => ih (i + 1) τ1 n (by omega) (by omega) g44 h1) (LL ρ - i) 0 τ bigN (by omega) (by unfold bigN; omega) h44 (ht.mono (fun a' i' j' h1 h2 => ?_))
    have := h1.1
    have := h1.2
    unfold vsd at *; omega
theorem r_turnsOnce {ρ τ : St} (hg : Wg ρ) (hL : LL ρ < 9) (h80 : 0 ≤ ρ 0 8) (hw : Wb ρ) {w : Nat → Int} (hr : WV ρ w) (hs : RVS ρ w τ) {Q : Int → St → Prop} (hq : ∀ τ1 r, τ1 0 44 = τ 0 44 → RVS ρ (vNew ρ w) τ1 → (r = 0 ∨ r = 1) → (r = 1 ↔ chg ρ w (12 * spN (LL ρ))) → Q r τ1) : wp_X12_turnsOnce τ Q := by
  unfold wp_X12_turnsOnce
  refine r_to4 hg hL h80 hw hr hq (LL ρ) 0 τ bigN (by omega) (by unfold bigN; omega) rfl ⟨hs, fun a' i' j' h1 h2 => ?_⟩
  have := h1.2
  unfold vsd at h2; omega
/-- what settles leaves -/
def RVT (ρ τ : St) (r : Int) : Prop := LA ρ τ ∧ VRg τ ρ ∧ VRb τ ρ ∧ ((r = 0 ∧ VT ρ (-6)) ∨ (r = 1 ∧ VT ρ (τ 0 44) ∧ 1 ≤ τ 0 44 ∧ ∀ a i j, isItm ρ a i j → τ 26 (it a i j).toNat = vIt ρ (τ 0 44).toNat (itN ρ a i j)))
theorem r_se36 {ρ : St} (hg : Wg ρ) (hL : LL ρ < 9) (h80 : 0 ≤ ρ 0 8) (hw : Wb ρ) {Q : Int → St → Prop} (hq : ∀ τ1 r, RVT ρ τ1 r → Q r τ1) : ∀ (d m : Nat) (τ : St) (n : Nat), m + d = 100 → d < n → RVS ρ (vIt ρ m) τ → τ 0 44 = ((m + 1 : Nat) : Int) → (∀ k : Nat, k < m → chg ρ (vIt ρ k) (12 * spN (LL ρ))) → wp_X12_settles_l36 Q n τ := by
  intro d
  induction d with
  | zero =>
    intro m τ n hm hn hs h44 hc
    obtain ⟨n, rfl⟩ := suc_n hn
    unfold wp_X12_settles_l36
    rw [h44]
    exact ⟨fun _ => hq τ 0 ⟨hs.1, hs.2.1, hs.2.2.1, Or.inl ⟨rfl, Or.inl ⟨rfl, fun k hk => hc k (by omega)⟩⟩⟩, fun w => absurd (by omega) w⟩
  | succ d ih =>
    intro m τ n hm hn hs h44 hc
    obtain ⟨n, rfl⟩ := suc_n hn
    unfold wp_X12_settles_l36
    rw [h44]
    refine ⟨fun w => absurd w (by omega), fun _ => r_turnsOnce hg hL h80 hw (vIt_r hg hL hw m) hs (fun τ1 r g44 hs1 hr hch => ⟨fun z τ2 e2 => ?_, fun z => ?_⟩)⟩
    · have hch2 := hch.1 (by omega)
      rw [g44, h44, w32_of (by omega) (by omega)] at e2
      refine ih (m + 1) τ2 n (by omega) (by omega) (by rw [e2]; exact hs1) (by rw [e2, upS_s]; omega) (fun k hk => ?_)
      by_cases e : k = m
      · rw [e]; exact hch2
      · exact hc k (by omega)
    · have hch2 : ¬ chg ρ (vIt ρ m) (12 * spN (LL ρ)) := fun z2 => by have := hch.2 z2; omega
      refine hq τ1 1 ⟨hs1.1, hs1.2.1, hs1.2.2.1, Or.inr ⟨rfl, ?_, by omega, fun a i j h1 => ?_⟩⟩
      · rw [g44, h44]
        refine Or.inr ⟨by omega, by omega, by rw [show (((m + 1 : Nat) : Int)).toNat - 1 = m by omega]; exact hch2, fun k hk => hc k (by omega)⟩
      · rw [g44, h44, Int.toNat_natCast]
        exact hs1.2.2.2 a i j h1
theorem r_settles {ρ τ : St} (hW : WW ρ) (hV : VR τ ρ) {Q : Int → St → Prop} (hq : ∀ τ1 r, RVT ρ τ1 r → Q r τ1) : wp_X12_settles τ Q := by
  have hg := hW.2.2.1
  have hw := hW.2.2.2.1
  have h80 := hW.2.2.2.2.1
  have hL : LL ρ < 9 := by have := hW.2.2.2.2.2.1; unfold LL; omega
  have hs8 : ρ 0 8 ≤ 8 := hW.2.2.2.2.2.1
  have lp : ∀ (d x : Nat) (τ : St) (n : Nat), x + d = 768 → d < n → LA ρ τ → VRg τ ρ → VRb τ ρ → (∀ k : Nat, k < x → τ 26 k = ρ 0 6) → wp_X12_settles_l6 Q n (x : Int) τ := by
    intro d
    induction d with
    | zero =>
      intro x τ n hd hn a1 a2 a3 a4
      obtain ⟨n, rfl⟩ := suc_n hn
      unfold wp_X12_settles_l6
      refine ⟨fun _ τ3 e3 => ?_, fun w => absurd (by omega) w⟩
      refine r_se36 hg hL h80 hw hq 100 0 τ3 bigN (by omega) (by unfold bigN; omega) (by rw [e3]; exact ⟨a1, a2, a3, fun a i j h1 => a4 _ (by have := it_r h1.1 (i := i) (j := j) (by have := h1.2; omega); omega)⟩) (by rw [e3, upS_s]; rfl) (fun k hk => by omega)
    | succ d ih =>
      intro x τ n hd hn a1 a2 a3 a4
      obtain ⟨n, rfl⟩ := suc_n hn
      unfold wp_X12_settles_l6
      refine ⟨fun w => absurd w (by omega), fun _ => ⟨by omega, fun τ4 e4 v ev => ?_⟩⟩
      rw [ev, w32_of (by omega) (by omega), show (x : Int) + 1 = ((x + 1 : Nat) : Int) by omega]
      rw [show τ 7 (Int.toNat 0) = ρ 0 6 from a3.2.1, Int.toNat_natCast] at e4
      refine ih (x + 1) τ4 n (by omega) (by omega) (by rw [e4]; exact a1) (by rw [e4]; exact a2) (by rw [e4]; exact a3) (fun k hk => ?_)
      by_cases e : k = x
      · rw [e4, e, upS_s]
      · rw [e4, upS_j e]; exact a4 k (by omega)
  unfold wp_X12_settles
  refine mf_X12_looks (Q := fun _ τ1 => LA ρ τ1) (fun r τ1 ha f => ?_) Fr.rf (r_looks hW hV (fun _ h => h))
  have hV1 : VR τ1 ρ := VR.frB f (by decide) hV
  exact lp 768 0 τ1 bigN (by omega) (by unfold bigN; omega) ha hV1.2.2.2.1 hV1.2.2.2.2.1 (fun k hk => by omega)
/-! the ops -/
def CcV (Cc : Bool → St → St → Prop) : Prop := (∀ b σ ρ, Cc b σ ρ → (σ 50 6 = 0 ∨ (σ 50 6 = 1 ∧ VK ρ σ))) ∧ (∀ b σ σ1 ρ, Cc b σ ρ → Bt ρ σ1 → (σ1 50 6 = 1 ∧ VK ρ σ1) → Fr S_X11_laws σ σ1 → Cc b σ1 ρ)
section OPS
variable {Cc : Bool → St → St → Prop}
theorem s_rounds (hC : CcL Cc) (hv : CcV Cc) : Step_rounds (Inv Cc) := by
  rintro b σ τ ⟨ρ, hW, hVC, hVR, hc⟩
  have hk := hC.kl hVC hc
  refine mf_X11_rounds (Q := fun r σ1 => Bt ρ σ1 ∧ σ1 50 6 = 1 ∧ VK ρ σ1 ∧ r = σ1 50 5) (fun r σ1 h f => ?_) Fr.rf (by
    unfold wp_X11_rounds
    exact c_roundsTaken hW hk hVC.2.2.2.2.1 (hv.1 b σ ρ hc) (fun σ1 a1 a2 a3 a4 => ⟨a1, a3, a4, rfl⟩))
  obtain ⟨g1, g2, g3, rfl⟩ := h
  refine mf_X12_rounds (Q := fun r _ => VT ρ r) (fun r1 τ1 h1 f1 => ⟨g3.1.uniq h1, ρ, hW, VC.frB f (by decide) hVC, VR.frB f1 (by decide) hVR, hv.2 b σ σ1 ρ hc g1 ⟨g2, g3⟩ (Fr.rf.tr f (mkS_sub (by decide) (by decide)))⟩) Fr.rf ?_
  unfold wp_X12_rounds
  refine r_settles hW hVR (fun τ1 r hr => ⟨fun e => ?_, fun e => ?_⟩)
  · rcases hr.2.2.2 with ⟨-, z⟩ | ⟨z, -⟩
    · exact z
    · omega
  · rcases hr.2.2.2 with ⟨z, -⟩ | ⟨-, z, -⟩
    · omega
    · exact z
theorem s_value (hC : CcL Cc) (hv : CcV Cc) (hB : CcB Cc) : Step_value (Inv Cc) := by
  rintro b σ τ ⟨ρ, hW, hVC, hVR, hc⟩ x1 x2 x3 c1 c2 c3
  have hk := hC.kl hVC hc
  have hL : LL ρ < 9 := by have := hW.2.2.2.2.2.1; unfold LL; omega
  have hs8 := hW.2.2.2.2.2.1
  have hvk := hv.1 b σ ρ hc
  refine mf_X11_value (Q := fun r σ1 => (¬ isItm ρ x1 x2 x3 ∧ r = -2 ∧ σ1 = σ) ∨ (isItm ρ x1 x2 x3 ∧ Bt ρ σ1 ∧ σ1 50 6 = 1 ∧ VK ρ σ1 ∧ ((σ1 50 5 = -6 ∧ r = -6) ∨ (σ1 50 5 ≠ -6 ∧ r = vIt ρ (σ1 50 5).toNat (itN ρ x1 x2 x3))))) (fun r σ1 h f => ?_) Fr.rf (by
    unfold wp_X11_value
    refine c_itemOf hW hk.1 hk.2.1 hk.2.2.1 (fun h => ⟨fun q => absurd q (by decide), fun _ => Or.inl ⟨h, rfl, rfl⟩⟩) (fun h σ1 hB1 f => ⟨fun _ => ?_, fun q => absurd (by omega) q⟩)
    have e50 : σ1 50 = σ 50 := funext (fun j => f.at rfl)
    have e51 : σ1 51 = σ 51 := funext (fun j => f.at rfl)
    unfold wp_X9_valueOf
    refine c_roundsTaken hW (hk.bt hB1 f) (hVC.2.2.2.2.1.fr f ⟨rfl, rfl, rfl, fun _ => rfl, fun _ => rfl⟩) (by unfold VK; rw [e50, e51]; exact hvk) (fun σ2 a1 a2 a3 a4 => ⟨fun w => ⟨by have := (itN_r hL h).2; omega, ?_⟩, fun w => Or.inr ⟨h, a1, a3, a4, Or.inl ⟨by omega, rfl⟩⟩⟩)
    rw [Int.toNat_natCast, a4.2 w _ (itN_r hL h).1]
    exact Or.inr ⟨h, a1, a3, a4, Or.inr ⟨w, rfl⟩⟩)
  refine mf_X12_value (Q := fun r _ => (¬ isItm ρ x1 x2 x3 ∧ r = -2) ∨ (isItm ρ x1 x2 x3 ∧ ∃ t, VT ρ t ∧ ((t = -6 ∧ r = -6) ∨ (t ≠ -6 ∧ r = vIt ρ t.toNat (itN ρ x1 x2 x3))))) (fun r1 τ1 h1 f1 => ?_) Fr.rf (by
    unfold wp_X12_value
    refine r_isItem hVR.2.2.2.2.2.1 (fun h => ⟨fun q => absurd rfl q, fun _ => Or.inl ⟨h, rfl⟩⟩) (fun h => ⟨fun _ => r_settles hW hVR (fun τ1 r hr => ⟨fun e => ?_, fun e => ?_⟩), fun q => absurd (by decide) q⟩)
    · rcases hr.2.2.2 with ⟨-, z⟩ | ⟨z, -⟩
      · exact Or.inr ⟨h, -6, z, Or.inl ⟨rfl, rfl⟩⟩
      · omega
    · rcases hr.2.2.2 with ⟨z, -⟩ | ⟨-, z, z2, z3⟩
      · omega
      · have := h.2
        refine r_item h.1 (by omega) ⟨it_r h.1 (by omega), Or.inr ⟨h, _, z, Or.inr ⟨by omega, z3 _ _ _ h⟩⟩⟩)
  have hR : VR τ1 ρ := VR.frB f1 (by decide) hVR
  rcases h with ⟨g0, rfl, rfl⟩ | ⟨g0, g1, g2, g3, g4⟩
  · rcases h1 with ⟨k0, rfl⟩ | ⟨k0, -⟩
    · exact ⟨rfl, ρ, hW, hVC, hR, hc⟩
    · exact absurd k0 g0
  · rcases h1 with ⟨k0, -⟩ | ⟨k0, t, k1, k2⟩
    · exact absurd g0 k0
    · have e := g3.1.uniq k1
      refine ⟨?_, ρ, hW, VC.frB f (by decide) hVC, hR, hv.2 b σ σ1 ρ hc g1 ⟨g2, g3⟩ (Fr.rf.tr f (mkS_sub (by decide) (by decide)))⟩
      rw [e] at g4
      rcases g4 with ⟨z1, z2⟩ | ⟨z1, z2⟩ <;> rcases k2 with ⟨y1, y2⟩ | ⟨y1, y2⟩
      · rw [z2, y2]
      · exact absurd z1 y1
      · exact absurd y1 z1
      · rw [z2, y2]
end OPS
