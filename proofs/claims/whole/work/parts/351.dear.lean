/-! the reference's dearest -/
def jM (a b : Int) : Int := max a b
theorem jY0 : jY 0 = jM := by funext a b; rw [jY_0]; rfl
theorem jokM : Jok jM := jok_max
def rd (τ : St) (a i j : Int) : Int := τ 20 (it a i j).toNat
def VD (g τ : St) (p i j : Int) : Int := if 100 ≤ p then (if j = i + 1 ∧ g 11 i.toNat = p - 100 then 0 else 1000000000) else rd τ p i j
theorem VD_lab {g τ : St} {p i j : Int} (h : p < 100) : VD g τ p i j = rd τ p i j := by unfold VD; rw [if_neg (by omega)]
theorem VD_let {g τ : St} {p i j : Int} (h : 100 ≤ p) : VD g τ p i j = VP g τ p i j := by unfold VD VP; rw [if_pos h, if_pos h]
def SD (g τ0 τ : St) (i j : Int) : Prop := LA g τ ∧ (∀ k : Nat, (∀ a : Int, 0 ≤ a → a < 12 → k ≠ (it a i j).toNat) → τ 20 k = τ0 20 k) ∧ (∀ a : Int, 0 ≤ a → a < 12 → rd τ a i j = 1000000000 ∨ (rd τ a i j < 1000000000 ∧ Te g jM a i j (rd τ a i j)))
def DLe (i j : Int) (τ τ1 : St) : Prop := ∀ a : Int, 0 ≤ a → a < 12 → rd τ1 a i j ≤ rd τ a i j
theorem DLe.rf {i j : Int} {τ : St} : DLe i j τ τ := fun a _ _ => Int.le_refl _
theorem DLe.tr {i j : Int} {τ τ1 τ2 : St} (h : DLe i j τ τ1) (h2 : DLe i j τ1 τ2) : DLe i j τ τ2 := fun a h0 h1 => Int.le_trans (h2 a h0 h1) (h a h0 h1)
theorem rd_up {τ : St} {a i j b x : Int} (ha : 0 ≤ a ∧ a < 12) (hb : 0 ≤ b ∧ b < 12) (hi : 0 ≤ i ∧ i < j ∧ j ≤ 8) : rd (upS τ 20 (it a i j).toNat x) b i j = if b = a then x else rd τ b i j := by
  unfold rd
  by_cases h : b = a
  · rw [h, upS_s, if_pos rfl]
  · rw [if_neg h, upS_j]
    intro e; exact h (it_inj hb hi ha hi e).1
theorem SD.low {g τ0 τ : St} {i j a x : Int} (h : SD g τ0 τ i j) (ha : 0 ≤ a ∧ a < 12) (hi : 0 ≤ i ∧ i < j ∧ j ≤ 8) (hx : x < rd τ a i j) (ht : Te g jM a i j x) : SD g τ0 (upS τ 20 (it a i j).toNat x) i j ∧ DLe i j τ (upS τ 20 (it a i j).toNat x) ∧ rd (upS τ 20 (it a i j).toNat x) a i j = x := by
  obtain ⟨h1, h2, h3⟩ := h
  refine ⟨⟨h1, fun k hk => ?_, fun b hb0 hb1 => ?_⟩, fun b hb0 hb1 => ?_, ?_⟩
  · rw [upS_j (hk a ha.1 ha.2)]; exact h2 k hk
  · rw [rd_up ha ⟨hb0, hb1⟩ hi]
    by_cases hb : b = a
    · rw [if_pos hb, hb]
      rcases h3 a ha.1 ha.2 with q | q
      · exact Or.inr ⟨by omega, ht⟩
      · exact Or.inr ⟨by omega, ht⟩
    · rw [if_neg hb]; exact h3 b hb0 hb1
  · rw [rd_up ha ⟨hb0, hb1⟩ hi]
    by_cases hb : b = a
    · rw [if_pos hb, hb]; omega
    · rw [if_neg hb]; exact Int.le_refl _
  · rw [rd_up ha ha hi, if_pos rfl]
def HD (g τ : St) (i j : Int) : Prop := ∀ p k l : Int, isPart p → i ≤ k → k < l → l ≤ j → l - k < j - i → Lo g jM p k l (VD g τ p k l) 1000000000
theorem HD.ss {g τ0 τ : St} {i j : Int} (hi : 0 ≤ i ∧ i < j ∧ j ≤ 8) (h : HD g τ0 i j) (s : SD g τ0 τ i j) : HD g τ i j := by
  intro p k l hp h1 h2 h3 h4
  have := h p k l hp h1 h2 h3 h4
  have e : VD g τ p k l = VD g τ0 p k l := by
    unfold VD
    by_cases hp1 : 100 ≤ p
    · rw [if_pos hp1, if_pos hp1]
    · rw [if_neg hp1, if_neg hp1]
      unfold isPart at hp
      refine s.2.1 _ (fun a h0 h1 e => ?_)
      have := it_inj (by omega) (by omega) ⟨h0, h1⟩ hi e
      omega
  rw [e]; exact this
theorem SD.nn {g τ0 τ : St} {i j a : Int} (hg : Wg g) (s : SD g τ0 τ i j) (ha : 0 ≤ a ∧ a < 12) : 0 ≤ rd τ a i j ∧ rd τ a i j ≤ 1000000000 := by
  rcases s.2.2 a ha.1 ha.2 with h | ⟨h, t⟩
  · omega
  · have := Te.nn jokM hg t; omega
theorem SD.vd {g τ0 τ : St} {i j p k l : Int} (hg : Wg g) (hi : 0 ≤ i ∧ i < j ∧ j ≤ 8) (hH : HD g τ0 i j) (s : SD g τ0 τ i j) (hp : isPart p) (hk : i ≤ k ∧ k < l ∧ l ≤ j) : (0 ≤ VD g τ p k l ∧ VD g τ p k l ≤ 1000000000) ∧ (VD g τ p k l < 1000000000 → Te g jM p k l (VD g τ p k l)) := by
  have t : VD g τ p k l = 1000000000 ∨ (VD g τ p k l < 1000000000 ∧ Te g jM p k l (VD g τ p k l)) := by
    by_cases hl : l - k < j - i
    · rcases hH.ss hi s p k l hp hk.1 hk.2.1 hk.2.2 hl with ⟨h, -⟩ | ⟨h, h2, -⟩
      · exact Or.inl h
      · exact Or.inr ⟨h, h2⟩
    · have e1 : k = i := by omega
      have e2 : l = j := by omega
      subst e1 e2
      by_cases hp1 : 100 ≤ p
      · rw [VD_let hp1]
        rcases lo_letter (τ := τ) (J := jM) (k := k) (l := l) hg hp1 with ⟨h, -⟩ | ⟨h, h2, -⟩
        · exact Or.inl h
        · exact Or.inr ⟨h, h2⟩
      · rw [VD_lab (by omega)]
        unfold isPart at hp
        exact s.2.2 p (by omega) (by omega)
  rcases t with h | ⟨h, t⟩
  · exact ⟨by omega, fun q => by omega⟩
  · have := Te.nn jokM hg t
    exact ⟨by omega, fun _ => t⟩
theorem r_dearPart {g τ : St} (ha : LA g τ) (h8 : g 0 8 ≤ 8) {p i j : Int} (hp : isPart p) (hi : 0 ≤ i ∧ i < j ∧ j ≤ g 0 8) {Q : Int → St → Prop} (h : Q (VD g τ p i j) τ) : wp_X12_dearPart p i j τ Q := by
  unfold wp_X12_dearPart
  refine ⟨fun hl => ?_, fun hl => ?_⟩
  · unfold isPart at hp
    refine r_item (by omega) (by omega) ⟨it_r (by omega) (by omega), ?_⟩
    rw [VD_lab hl] at h; exact h
  · refine r_fits ha.1 hp hi h8 ?_
    rw [VD_let (by omega)] at h
    by_cases hc : j = i + 1 ∧ g 11 i.toNat = p - 100
    · rw [VP_yes (by omega) hc] at h ⊢
      rw [if_pos (by decide)]
      exact ⟨fun q => absurd q (by decide), fun _ => h⟩
    · rw [VP_no (by omega) hc] at h ⊢
      rw [if_neg (by decide)]
      exact ⟨fun _ => h, fun q => absurd rfl q⟩
/-- rule r can't lower -/
def CD (g τ : St) (i j : Int) (r : Nat) : Prop := (g 5 r = -1 → rd τ (g 3 r) i j ≤ max (g 6 r) (VD g τ (g 4 r) i j)) ∧ (g 5 r ≠ -1 → ∀ m, i < m → m < j → rd τ (g 3 r) i j ≤ max (g 6 r) (max (VD g τ (g 4 r) i m) (VD g τ (g 5 r) m j)))
theorem r_ld92 {g τ0 τ : St} (hg : Wg g) {i j : Int} (hi : 0 ≤ i ∧ i < j ∧ j ≤ 8) (s : SD g τ0 τ i j) {r : Nat} (hr : (r : Int) < g 0 4) {x : Int} (hx : 0 ≤ x ∧ x ≤ 1000000000) (ht : x < 1000000000 → Te g jM (g 3 r) i j (max (g 6 r) x)) {Q : Int → St → Prop} (h1 : ∀ τ1, SD g τ0 τ1 i j → DLe i j τ τ1 → rd τ1 (g 3 r) i j < rd τ (g 3 r) i j → Q 1 τ1) (h0 : rd τ (g 3 r) i j ≤ max (g 6 r) x → Q 0 τ) : wp_X12_lowersDear_b92 Q (r : Int) i j x τ := by
  have hb := hg.2.1
  obtain ⟨k1, k2, k3, k4⟩ := s.1.1.2.2.2.1 r hr
  obtain ⟨hh, hp1, hp2, hpr, -⟩ := hg.2.2 r hr
  unfold wp_X12_lowersDear_b92
  rw [Int.toNat_natCast, k4, k1]
  refine ⟨by omega, fun v ev => ⟨by omega, r_item hh hi ⟨it_r hh hi, fun q => ?_, fun q => h0 ?_⟩⟩⟩
  · refine ⟨by omega, ?_⟩
    rw [k1]
    refine r_item hh hi ⟨it_r hh hi, fun τ1 e1 => ?_⟩
    have hv : v < rd τ (g 3 r) i j := q
    have hn := s.nn hg hh
    have ht2 : Te g jM (g 3 r) i j v := by
      rw [ev, show max x (g 6 r) = max (g 6 r) x by omega]; exact ht (by omega)
    obtain ⟨q1, q2, q3⟩ := s.low hh hi hv ht2
    rw [← e1] at q1 q2 q3
    exact h1 τ1 q1 q2 (by rw [q3]; exact hv)
  · have : ¬ v < rd τ (g 3 r) i j := q
    omega
theorem r_ld34 {g τ0 τ : St} (hg : Wg g) (hs8 : g 0 8 ≤ 8) {i j : Int} (hi : 0 ≤ i ∧ i < j ∧ j ≤ g 0 8) (hH : HD g τ0 i j) (s : SD g τ0 τ i j) {r : Nat} (hr : (r : Int) < g 0 4) (h8 : g 8 r = 0) (h5 : g 5 r ≠ -1) {Q : Int → St → Prop} (h1 : ∀ τ1, SD g τ0 τ1 i j → DLe i j τ τ1 → rd τ1 (g 3 r) i j < rd τ (g 3 r) i j → Q 1 τ1) (h0 : CD g τ i j r → Q 0 τ) : ∀ (d : Nat) (m x : Int) (n : Nat), m + d = j → i < m → d < n → (0 ≤ x ∧ x ≤ 1000000000) → (x < 1000000000 → Te g jM (g 3 r) i j (max (g 6 r) x)) → (∀ m', i < m' → m' < m → x ≤ max (VD g τ (g 4 r) i m') (VD g τ (g 5 r) m' j)) → wp_X12_lowersDear_l34 Q n (r : Int) i j x m τ := by
  intro d
  have hb := hg.2.1
  obtain ⟨k1, k2, k3, k4⟩ := s.1.1.2.2.2.1 r hr
  obtain ⟨hh, hp1, hp2, hpr, -⟩ := hg.2.2 r hr
  have hp2 : isPart (g 5 r) := by rcases hp2 with h | h; exact absurd h h5; exact h
  have hi8 : 0 ≤ i ∧ i < j ∧ j ≤ 8 := by omega
  induction d with
  | zero =>
    intro m x n hd hm hn hx ht hc
    obtain ⟨n, rfl⟩ := suc_n hn
    unfold wp_X12_lowersDear_l34
    refine ⟨fun _ => r_ld92 hg hi8 s hr hx ht h1 (fun q => h0 ⟨fun w => absurd w h5, fun _ m' a1 a2 => ?_⟩), fun h => absurd h (by omega)⟩
    have := hc m' a1 (by omega)
    omega
  | succ d ih =>
    intro m x n hd hm hn hx ht hc
    obtain ⟨n, rfl⟩ := suc_n hn
    unfold wp_X12_lowersDear_l34
    rw [Int.toNat_natCast, k3, k2]
    refine ⟨fun h => absurd h (by push_cast at hd; omega), fun _ => ⟨by omega, fun h => absurd h h5, fun _ => ⟨by omega, ?_⟩⟩⟩
    refine r_dearPart s.1 hs8 hp1 (by push_cast at hd; omega) ⟨by omega, ?_⟩
    rw [k3]
    refine r_dearPart s.1 hs8 hp2 (by push_cast at hd; omega) (fun v8 e8 v9 e9 => ?_)
    rw [w32_of (by omega) (by push_cast at hd; omega)] at e9
    rw [e9]
    obtain ⟨b1, t1⟩ := s.vd hg hi8 hH hp1 (k := i) (l := m) (by push_cast at hd; omega)
    obtain ⟨b2, t2⟩ := s.vd hg hi8 hH hp2 (k := m) (l := j) (by push_cast at hd; omega)
    refine ih (m + 1) v8 n (by push_cast at hd; omega) (by omega) (by omega) (by omega) (fun q => ?_) (fun m' a1 a2 => ?_)
    · by_cases hx2 : x ≤ max (VD g τ (g 4 r) i m) (VD g τ (g 5 r) m j)
      · rw [e8, show min x (max (VD g τ (g 4 r) i m) (VD g τ (g 5 r) m j)) = x by omega]
        exact ht (by omega)
      · rw [e8, show min x (max (VD g τ (g 4 r) i m) (VD g τ (g 5 r) m j)) = max (VD g τ (g 4 r) i m) (VD g τ (g 5 r) m j) by omega]
        exact Te.pair hr h8 h5 hm (by push_cast at hd; omega) (t1 (by omega)) (t2 (by omega))
    · by_cases e : m' = m
      · subst e; omega
      · have := hc m' a1 (by omega)
        omega
theorem r_lowersDear {g τ0 τ : St} (hg : Wg g) (hs8 : g 0 8 ≤ 8) {i j : Int} (hi : 0 ≤ i ∧ i < j ∧ j ≤ g 0 8) (hH : HD g τ0 i j) (s : SD g τ0 τ i j) {r : Nat} (hr : (r : Int) < g 0 4) (h8 : g 8 r = 0) {Q : Int → St → Prop} (h1 : ∀ τ1, SD g τ0 τ1 i j → DLe i j τ τ1 → rd τ1 (g 3 r) i j < rd τ (g 3 r) i j → Q 1 τ1) (h0 : CD g τ i j r → Q 0 τ) : wp_X12_lowersDear (r : Int) i j τ Q := by
  have hb := hg.2.1
  obtain ⟨k1, k2, k3, k4⟩ := s.1.1.2.2.2.1 r hr
  obtain ⟨hh, hp1, hp2, hpr, -⟩ := hg.2.2 r hr
  have hi8 : 0 ≤ i ∧ i < j ∧ j ≤ 8 := by omega
  unfold wp_X12_lowersDear
  rw [Int.toNat_natCast, k3, k2]
  refine ⟨by omega, fun h5 => ?_, fun h5 => ⟨by omega, r_dearPart s.1 hs8 hp1 hi ?_⟩⟩
  · unfold wp_X12_lowersDear_b29
    intro v ev
    rw [ev, w32_of (by omega) (by omega)]
    exact r_ld34 hg hs8 hi hH s hr h8 h5 h1 h0 (j - (i + 1)).toNat (i + 1) 1000000000 bigN (by omega) (by omega) (by unfold bigN; omega) (by omega) (fun q => by omega) (fun m' a1 a2 => by omega)
  · unfold wp_X12_lowersDear_b29
    intro v ev
    have h5 : g 5 r = -1 := by omega
    obtain ⟨b1, t1⟩ := s.vd hg hi8 hH hp1 (k := i) (l := j) (by omega)
    have fin : wp_X12_lowersDear_b92 Q (r : Int) i j (VD g τ (g 4 r) i j) τ := r_ld92 hg hi8 s hr b1 (fun q => Te.single hr h8 h5 (t1 q)) h1 (fun q => h0 ⟨fun _ => q, fun w => absurd h5 w⟩)
    rw [ev, w32_of (by omega) (by omega)]
    obtain ⟨n, hn⟩ := suc_n (show 0 < bigN by unfold bigN; omega)
    rw [hn]
    unfold wp_X12_lowersDear_l34
    rw [Int.toNat_natCast, k3]
    exact ⟨fun _ => fin, fun _ => ⟨by omega, fun _ => fin, fun q => absurd h5 q⟩⟩
theorem r_dpass {g τ0 : St} (hg : Wg g) (hs8 : g 0 8 ≤ 8) {i j : Int} (hi : 0 ≤ i ∧ i < j ∧ j ≤ g 0 8) (hH : HD g τ0 i j) {Q : Int → St → Prop} {K : Int → Int → Int → St → Prop} : ∀ (d r : Nat) (τ : St) (f : Int) (n : Nat), (r : Int) + d = g 0 4 → d < n → SD g τ0 τ i j → (f = 0 ∨ f = 1) → (∀ τ1 f1, SD g τ0 τ1 i j → DLe i j τ τ1 → (f1 = 0 ∨ f1 = 1) → (f1 = 0 → f = 0 ∧ τ1 = τ ∧ ∀ r' : Nat, r ≤ r' → (r' : Int) < g 0 4 → g 8 r' = 0 → CD g τ i j r') → (f1 = 1 → f = 1 ∨ ∃ a : Nat, a < 12 ∧ rd τ1 a i j < rd τ a i j) → K i j f1 τ1) → wp_X12_laysDear_l11 Q K n i j f (r : Int) τ := by
  intro d
  have hb := hg.2.1
  induction d with
  | zero =>
    intro r τ f n hd hn s hf hk
    obtain ⟨n, rfl⟩ := suc_n hn
    unfold wp_X12_laysDear_l11
    rw [s.1.1.1]
    exact ⟨fun _ => hk τ f s DLe.rf hf (fun h => ⟨h, rfl, fun r' h1 h2 => by omega⟩) (fun h => Or.inl h), fun h => absurd h (by omega)⟩
  | succ d ih =>
    intro r τ f n hd hn s hf hk
    obtain ⟨n, rfl⟩ := suc_n hn
    have hr : (r : Int) < g 0 4 := by omega
    obtain ⟨hh, -⟩ := hg.2.2 r hr
    unfold wp_X12_laysDear_l11 wp_X12_laysDear_b44 wp_X12_laysDear_b49 wp_X12_laysDear_b50
    have no : (g 8 r = 0 → CD g τ i j r) → ∀ f' : Int, f' = f → ∀ v : Int, v = w32 ((r : Int) + 1) → wp_X12_laysDear_l11 Q K n i j f' v τ := by
      intro hc f' ef v ev
      rw [ev, w32_of (by omega) (by omega), show (r : Int) + 1 = ((r + 1 : Nat) : Int) by omega, ef]
      refine ih (r + 1) τ f n (by push_cast at hd ⊢; omega) (by omega) s hf (fun τ1 f1 s1 le1 hf1 h0 h1 => hk τ1 f1 s1 le1 hf1 (fun h => ?_) h1)
      obtain ⟨q1, q2, q3⟩ := h0 h
      refine ⟨q1, q2, fun r' a1 a2 a3 => ?_⟩
      by_cases e : r' = r
      · subst e; exact hc a3
      · exact q3 r' (by omega) a2 a3
    rw [s.1.1.1]
    refine ⟨fun h => absurd h (by omega), fun _ => r_isIn hg s.1.1.2.1 hr ?_⟩
    by_cases h8 : g 8 r = 0
    · rw [if_pos h8]
      refine ⟨fun h => absurd h (by decide), fun _ => r_lowersDear hg hs8 hi hH s hr h8 (fun τ1 s1 le1 lt1 => ⟨fun _ v ev => ?_, fun h => absurd (by decide) h⟩) (fun hc => ⟨fun h => absurd rfl h, fun _ => ⟨fun h => no (fun _ => hc) 0 h.symm, fun h => no (fun _ => hc) 1 (by omega)⟩⟩)⟩
      rw [ev, w32_of (by omega) (by omega), show (r : Int) + 1 = ((r + 1 : Nat) : Int) by omega]
      refine ih (r + 1) τ1 1 n (by push_cast at hd ⊢; omega) (by omega) s1 (Or.inr rfl) (fun τ2 f2 s2 le2 hf2 h0 h1 => hk τ2 f2 s2 (le1.tr le2) hf2 (fun h => ?_) (fun h => Or.inr ?_))
      · have := (h0 h).1; omega
      · refine ⟨(g 3 r).toNat, by omega, ?_⟩
        rw [show (((g 3 r).toNat : Nat) : Int) = g 3 r by omega]
        have := le2 (g 3 r) hh.1 hh.2
        omega
    · rw [if_neg h8]
      exact ⟨fun _ => no (fun h => absurd h h8) f rfl, fun h => absurd rfl h⟩
theorem sd_lo {g τ0 τ : St} (hg : Wg g) {i j : Int} (hi : 0 ≤ i ∧ i < j ∧ j ≤ 8) (hH : HD g τ0 i j) (s : SD g τ0 τ i j) (hc : ∀ r : Nat, (r : Int) < g 0 4 → g 8 r = 0 → CD g τ i j r) : ∀ a : Int, 0 ≤ a → a < 12 → Lo g jM a i j (rd τ a i j) 1000000000 := by
  have hH2 := hH.ss hi s
  have key : ∀ (k : Nat) (a c : Int), 0 ≤ a → a < 12 → TP g jM k a i j c → rd τ a i j ≤ c := by
    intro k
    induction k with
    | zero => intro a c h0 h1 h; have := h.1; omega
    | succ k ih =>
      intro a c h0 h1 h
      rcases h with h | ⟨r, hr, h8, h3, ⟨h5, c1, hc1, rfl⟩ | ⟨h5, m, c1, c2, hm1, hm2, hc1, hc2, rfl⟩⟩
      · exact ih a c h0 h1 h
      · rw [← h3]
        have q := (hc r hr h8).1 h5
        have hp := (hg.2.2 r hr).2.1
        have hv : VD g τ (g 4 r) i j ≤ c1 := by
          by_cases hl : 100 ≤ g 4 r
          · rw [VD_let hl]
            exact (lo_letter hg hl).le (⟨k, hc1⟩ : Te g jM (g 4 r) i j c1) |>.1
          · unfold isPart at hp
            rw [VD_lab (by omega)]
            exact ih _ c1 (by omega) (by omega) hc1
        unfold jM; omega
      · rw [← h3]
        have q := (hc r hr h8).2 h5 m hm1 hm2
        have hp1 := (hg.2.2 r hr).2.1
        have hp2 : isPart (g 5 r) := by rcases (hg.2.2 r hr).2.2.1 with h | h; exact absurd h h5; exact h
        have v1 := (hH2 _ i m hp1 (by omega) hm1 (by omega) (by omega)).le (⟨k, hc1⟩ : Te g jM (g 4 r) i m c1) |>.1
        have v2 := (hH2 _ m j hp2 (by omega) hm2 (by omega) (by omega)).le (⟨k, hc2⟩ : Te g jM (g 5 r) m j c2) |>.1
        unfold jM; omega
  intro a h0 h1
  rcases s.2.2 a h0 h1 with h | ⟨h, t⟩
  · refine Or.inl ⟨h, fun c hc => ?_⟩
    rw [← jY0] at hc
    obtain ⟨c', hc', k, hk⟩ := te_smallY hg 0 8 hc (by omega)
    rw [jY0] at hk
    rw [bdS_8] at hc'
    have := key k a c' h0 h1 hk
    omega
  · exact Or.inr ⟨h, t, fun c ⟨k, hk⟩ => key k a c h0 h1 hk⟩
theorem r_dpasses {g τ0 : St} (hg : Wg g) (hs8 : g 0 8 ≤ 8) {i j : Int} (hi : 0 ≤ i ∧ i < j ∧ j ≤ g 0 8) (hH : HD g τ0 i j) {Q : Int → St → Prop} (hq : ∀ τ1, SD g τ0 τ1 i j → (∀ a : Int, 0 ≤ a → a < 12 → Lo g jM a i j (rd τ1 a i j) 1000000000) → Q 0 τ1) : ∀ (N : Nat) (τ : St) (n : Nat), sumN (fun a => rd τ a i j) 12 ≤ N → N + 1 < n → SD g τ0 τ i j → wp_X12_laysDear_l2 Q n i j 1 τ := by
  intro N
  have hi8 : 0 ≤ i ∧ i < j ∧ j ≤ 8 := by omega
  have h0 := hg.1
  have hb := hg.2.1
  induction N with
  | zero =>
    intro τ n hN hn s
    obtain ⟨n, rfl⟩ := suc_n (show 0 < n by omega)
    unfold wp_X12_laysDear_l2
    refine ⟨fun h => absurd h (by decide), fun _ => r_dpass hg hs8 hi hH (g 0 4).toNat 0 τ 0 bigN (by omega) (by unfold bigN; omega) s (Or.inl rfl) (fun τ1 f1 s1 le1 hf1 q0 q1 => ?_)⟩
    obtain ⟨n, rfl⟩ := suc_n (show 0 < n by omega)
    unfold wp_X12_laysDear_l2
    rcases hf1 with rfl | rfl
    · obtain ⟨-, e, hc⟩ := q0 rfl
      subst e
      exact ⟨fun _ => hq _ s (sd_lo hg hi8 hH s (fun r hr => hc r (Nat.zero_le _) hr)), fun h => absurd rfl h⟩
    · exfalso
      rcases q1 rfl with h | h
      · omega
      · have q2 := sumN_lt 12 (f := fun a => rd τ1 a i j) (g := fun a => rd τ a i j) (fun k hk => le1 k (by omega) (by omega)) h
        have q3 := sumN_nn 12 (f := fun a => rd τ1 a i j) (fun k hk => (s1.nn hg (by omega)).1)
        omega
  | succ N ih =>
    intro τ n hN hn s
    obtain ⟨n, rfl⟩ := suc_n (show 0 < n by omega)
    unfold wp_X12_laysDear_l2
    refine ⟨fun h => absurd h (by decide), fun _ => r_dpass hg hs8 hi hH (g 0 4).toNat 0 τ 0 bigN (by omega) (by unfold bigN; omega) s (Or.inl rfl) (fun τ1 f1 s1 le1 hf1 q0 q1 => ?_)⟩
    rcases hf1 with rfl | rfl
    · obtain ⟨n, rfl⟩ := suc_n (show 0 < n by omega)
      unfold wp_X12_laysDear_l2
      obtain ⟨-, e, hc⟩ := q0 rfl
      subst e
      exact ⟨fun _ => hq _ s (sd_lo hg hi8 hH s (fun r hr => hc r (Nat.zero_le _) hr)), fun h => absurd rfl h⟩
    · rcases q1 rfl with h | h
      · exfalso; omega
      · have q2 := sumN_lt 12 (f := fun a => rd τ1 a i j) (g := fun a => rd τ a i j) (fun k hk => le1 k (by omega) (by omega)) h
        exact ih τ1 n (by push_cast at hN; omega) (by omega) s1
theorem r_laysDear {g τ : St} (hg : Wg g) (hs8 : g 0 8 ≤ 8) {i j : Int} (hi : 0 ≤ i ∧ i < j ∧ j ≤ g 0 8) (hH : HD g τ i j) (v : LA g τ) (hf : ∀ a : Int, 0 ≤ a → a < 12 → rd τ a i j = 1000000000) {Q : Int → St → Prop} (hq : ∀ τ1, SD g τ τ1 i j → (∀ a : Int, 0 ≤ a → a < 12 → Lo g jM a i j (rd τ1 a i j) 1000000000) → Q 0 τ1) : wp_X12_laysDear i j τ Q := by
  unfold wp_X12_laysDear
  have s : SD g τ τ i j := ⟨v, fun _ _ => rfl, fun a h0 h1 => Or.inl (hf a h0 h1)⟩
  refine r_dpasses hg hs8 hi hH hq (sumN (fun a => rd τ a i j) 12).toNat τ bigN (by omega) ?_ s
  have := sumN_ub 12 (f := fun a => rd τ a i j) (b := 1000000000) (fun k hk => (s.nn hg (by omega)).2)
  unfold bigN; omega
def DD (g τ : St) (n i : Int) : Prop := LA g τ ∧ ∀ a k l : Int, 0 ≤ a → a < 12 → 0 ≤ k → k < l → l ≤ g 0 8 → ((l - k < n ∨ (l - k = n ∧ k < i)) → Lo g jM a k l (rd τ a k l) 1000000000) ∧ (¬ (l - k < n ∨ (l - k = n ∧ k < i)) → rd τ a k l = 1000000000)
theorem r_d59 {g : St} (hg : Wg g) (hs8 : g 0 8 ≤ 8) {Q : Int → St → Prop} {K : Int → Int → Int → Int → St → Prop} {n x1 x2 x3 : Int} (hn : 1 ≤ n ∧ n ≤ g 0 8) : ∀ (d : Nat) (i : Int) (τ : St) (f : Nat), 0 ≤ i → i + n + d = g 0 8 + 1 → d < f → DD g τ n i → (∀ τ1, DD g τ1 (n + 1) 0 → K x1 x2 x3 (n + 1) τ1) → wp_X12_dearest_l59 Q K f x1 x2 x3 n i τ := by
  intro d
  induction d with
  | zero =>
    intro i τ f h0 hd hf hl hk
    obtain ⟨f, rfl⟩ := suc_n hf
    unfold wp_X12_dearest_l59
    rw [w32_of (x := i + n) (by omega) (by omega), hl.1.1.2.2.1]
    refine ⟨fun _ v ev => ?_, fun h => absurd h (by omega)⟩
    rw [ev, w32_of (by omega) (by omega)]
    refine hk τ ⟨hl.1, fun a k l a0 a1 k0 kl lg => ⟨fun h => (hl.2 a k l a0 a1 k0 kl lg).1 (by omega), fun h => (hl.2 a k l a0 a1 k0 kl lg).2 (by omega)⟩⟩
  | succ d ih =>
    intro i τ f h0 hd hf hl hk
    obtain ⟨f, rfl⟩ := suc_n hf
    unfold wp_X12_dearest_l59
    rw [w32_of (x := i + n) (by omega) (by omega), hl.1.1.2.2.1]
    refine ⟨fun h => absurd h (by push_cast at hd; omega), fun _ => r_laysDear hg hs8 (by push_cast at hd; omega) ?_ hl.1 (fun a a0 a1 => (hl.2 a i (i + n) a0 a1 h0 (by omega) (by push_cast at hd; omega)).2 (by omega)) (fun τ1 s1 hlo v ev => ?_)⟩
    · intro p k l hp h1 h2 h3 h4
      by_cases hp1 : 100 ≤ p
      · rw [VD_let hp1]; exact lo_letter hg hp1
      · rw [VD_lab (by omega)]
        unfold isPart at hp
        exact (hl.2 p k l (by omega) (by omega) (by omega) h2 (by push_cast at hd; omega)).1 (by omega)
    · rw [ev, w32_of (by omega) (by omega)]
      refine ih (i + 1) τ1 f (by omega) (by push_cast at hd; omega) (by omega) ⟨s1.1, fun a k l a0 a1 k0 kl lg => ?_⟩ hk
      by_cases e : k = i ∧ l = i + n
      · obtain ⟨rfl, rfl⟩ := e
        exact ⟨fun _ => hlo a a0 a1, fun h => absurd (by omega) h⟩
      · have e2 : rd τ1 a k l = rd τ a k l := s1.2.1 _ (fun b b0 b1 h => e (by
          have := it_inj ⟨a0, a1⟩ (by omega) ⟨b0, b1⟩ (by push_cast at hd; omega) h
          exact ⟨this.2.1, this.2.2⟩))
        rw [e2]
        have q := hl.2 a k l a0 a1 k0 kl lg
        exact ⟨fun h => q.1 (by omega), fun h => q.2 (by omega)⟩
theorem r_d47 {g : St} (hg : Wg g) (hs8 : 0 ≤ g 0 8 ∧ g 0 8 ≤ 8) {x1 x2 x3 : Int} (hx : isItm g x1 x2 x3) {Q : Int → St → Prop} (hq : ∀ τ1 v, Lo g jM x1 x2 x3 v 1000000000 → Q (if v < 1000000000 then v else -1) τ1) : ∀ (d : Nat) (n : Int) (τ : St) (f : Nat), 1 ≤ n → n + d = g 0 8 + 1 → d < f → DD g τ n 0 → wp_X12_dearest_l47 Q f x1 x2 x3 n τ := by
  intro d
  induction d with
  | zero =>
    intro n τ f h0 hd hf hl
    obtain ⟨f, rfl⟩ := suc_n hf
    unfold wp_X12_dearest_l47
    rw [hl.1.1.2.2.1]
    obtain ⟨i1, i2, i3, i4⟩ := hx
    have lo := (hl.2 x1 x2 x3 i1.1 i1.2 i2 i3 i4).1 (by omega)
    have hy := hq τ _ lo
    have iff : rd τ x1 x2 x3 < 1000000000 ↔ hT g x1 x2 x3 := by
      rcases lo with ⟨e, h⟩ | ⟨e, h, -⟩
      · refine ⟨fun q => by omega, fun ⟨c, k, hk⟩ => ?_⟩
        obtain ⟨c', hc'⟩ := tp_any (J' := jM) hk
        exact absurd ⟨k, hc'⟩ (h c')
      · obtain ⟨k, hk⟩ := h
        obtain ⟨c', hc'⟩ := tp_any (J' := jA) hk
        exact ⟨fun _ => ⟨c', k, hc'⟩, fun _ => e⟩
    refine ⟨fun _ => r_has2 hl.1 hs8.2 ⟨i1, i2, i3, i4⟩ (fun hn => ⟨fun _ => ?_, fun q => absurd rfl q⟩) (fun hy2 => ⟨fun q => absurd q (by decide), fun _ => r_item i1 (by omega) ⟨it_r i1 (by omega), ?_⟩⟩), fun h => absurd h (by omega)⟩
    · rw [if_neg (fun q => hn (iff.mp q))] at hy; exact hy
    · rw [if_pos (iff.mpr hy2)] at hy; exact hy
  | succ d ih =>
    intro n τ f h0 hd hf hl
    obtain ⟨f, rfl⟩ := suc_n hf
    unfold wp_X12_dearest_l47
    rw [hl.1.1.2.2.1]
    refine ⟨fun h => absurd h (by push_cast at hd; omega), fun _ => r_d59 hg hs8.2 (by push_cast at hd; omega) (g 0 8 + 1 - n).toNat 0 τ bigN (by omega) (by push_cast at hd; omega) (by unfold bigN; omega) hl (fun τ1 h1 => ih (n + 1) τ1 f (by omega) (by push_cast at hd; omega) (by omega) h1)⟩
theorem r_d20 {g : St} (hg : Wg g) (hs8 : 0 ≤ g 0 8 ∧ g 0 8 ≤ 8) {x1 x2 x3 : Int} (hx : isItm g x1 x2 x3) {Q : Int → St → Prop} (hq : ∀ τ1 v, Lo g jM x1 x2 x3 v 1000000000 → Q (if v < 1000000000 then v else -1) τ1) : ∀ (d : Nat) (x : Int) (τ : St) (f : Nat), 0 ≤ x → x + d = 768 → d < f → LA g τ → (∀ k : Nat, (k : Int) < x → τ 20 k = 1000000000) → wp_X12_dearest_l20 Q f x1 x2 x3 x τ := by
  intro d
  induction d with
  | zero =>
    intro x τ f h0 hd hf v hz
    obtain ⟨f, rfl⟩ := suc_n hf
    unfold wp_X12_dearest_l20
    refine ⟨fun _ => r_d47 hg hs8 hx hq (g 0 8).toNat 1 τ bigN (by omega) (by omega) (by unfold bigN; omega) ⟨v, fun a k l a0 a1 k0 kl lg => ⟨fun h => absurd h (by omega), fun _ => ?_⟩⟩, fun h => absurd h (by omega)⟩
    have := it_r (i := k) (j := l) ⟨a0, a1⟩ (by omega)
    exact hz _ (by omega)
  | succ d ih =>
    intro x τ f h0 hd hf v hz
    obtain ⟨f, rfl⟩ := suc_n hf
    unfold wp_X12_dearest_l20
    refine ⟨fun h => absurd h (by push_cast at hd; omega), fun _ => ⟨by push_cast at hd; omega, fun τ1 e1 w ew => ?_⟩⟩
    rw [ew, w32_of (by push_cast at hd; omega) (by push_cast at hd; omega)]
    refine ih (x + 1) τ1 f (by omega) (by push_cast at hd; omega) (by omega) (by rw [e1]; exact v) (fun k hk => ?_)
    rw [e1]
    by_cases e : k = x.toNat
    · rw [e, upS_s]
    · rw [upS_j e]; exact hz k (by omega)
theorem r_dearest {ρ τ : St} (hW : WW ρ) (hV : VR τ ρ) {x1 x2 x3 : Int} {Q : Int → St → Prop} (hno : ¬ isItm ρ x1 x2 x3 → Q (-2) τ) (hyes : isItm ρ x1 x2 x3 → ∀ τ1 v, Lo ρ jM x1 x2 x3 v 1000000000 → Q (if v < 1000000000 then v else -1) τ1) : wp_X12_dearest x1 x2 x3 τ Q := by
  unfold wp_X12_dearest
  refine r_isItem hV.2.2.2.2.2.1 (fun h => ⟨fun q => absurd rfl q, fun _ => hno h⟩) (fun h => ⟨fun _ => r_looks hW hV (fun τ1 hA => ?_), fun q => absurd (by decide) q⟩)
  exact r_d20 hW.2.2.1 ⟨hW.2.2.2.2.1, hW.2.2.2.2.2.1⟩ h (hyes h) 768 0 τ1 bigN (by omega) (by omega) (by unfold bigN; omega) hA (fun k hk => by omega)
/-! the class's -/
def Ml (ρ σ : St) : Prop := DR ρ ρ jM (σ 38) (spN (LL ρ))
theorem c_mildestOf {ρ σ : St} (hW : WW ρ) (hB : Bt ρ σ) (hl : σ 36 8 = 0 ∨ (σ 36 8 = 1 ∧ Ml ρ σ)) {q : Nat} (hq4 : q < 432) {Q : Int → St → Prop} (hq : ∀ σ1, Bt ρ σ1 → σ1 36 8 = 1 → Ml ρ σ1 → Q (σ1 38 q) σ1) : wp_X1_mildestOf (q : Int) σ Q := by
  have hL : LL ρ < 9 := by have := hW.2.2.2.2.2.1; unfold LL; omega
  unfold wp_X1_mildestOf wp_X1_mildestOf_b29
  refine mf_X0_build (σ0 := σ) (Q := fun _ σ1 => Bt ρ σ1) (fun r1 σ2 hB f => ?_) Fr.rf (c_build hW hB.1.2.2.1.1 hB.1.1 (Or.inr hB) (fun _ h => h))
  have e8 : σ2 36 8 = σ 36 8 := f.at rfl
  have e38 : σ2 38 = σ 38 := funext (fun j => f.at rfl)
  rw [e8, Int.toNat_natCast]
  refine ⟨fun h => ⟨by omega, hq σ2 hB (by omega) ?_⟩, fun h σ3 e3 => ?_⟩
  · rcases hl with q | q
    · exact absurd q h
    · unfold Ml; rw [e38]; exact q.2
  · have hB3 : Bt ρ σ3 := by rw [e3]; exact hB
    refine mf_X1_fill_c38 (σ0 := σ3) (Q := fun _ σ1 => Bt ρ σ1 ∧ DR ρ (gO ρ (-1)) (jY 0) (σ1 38) (spN (LL ρ))) (fun r1 σ4 h4 f4 => ?_) Fr.rf (c_fill38 hW.2.2.1 hL hB3 (fun _ a b => ⟨a, b⟩))
    obtain ⟨h5, h6⟩ := h4
    rw [gO_m, jY0] at h6
    refine ⟨by omega, hq σ4 h5 ?_ h6⟩
    rw [f4.at rfl, e3, upS_s]
def CcM (Cc : Bool → St → St → Prop) : Prop := (∀ b σ ρ, Cc b σ ρ → (σ 36 8 = 0 ∨ (σ 36 8 = 1 ∧ Ml ρ σ))) ∧ (∀ b σ σ1 ρ, Cc b σ ρ → Bt ρ σ1 → (σ1 36 8 = 1 ∧ Ml ρ σ1) → Fr S_X11_dearest σ σ1 → Cc b σ1 ρ)
section OPS
variable {Cc : Bool → St → St → Prop}
theorem s_dearest (hC : CcL Cc) (hM : CcM Cc) : Step_dearest (Inv Cc) := by
  rintro b σ τ ⟨ρ, hW, hVC, hVR, hc⟩ x1 x2 x3 c1 c2 c3
  have hk := hC.kl hVC hc
  have hL : LL ρ < 9 := by have := hW.2.2.2.2.2.1; unfold LL; omega
  have h80 := hW.2.2.2.2.1
  have hl := hM.1 b σ ρ hc
  refine mf_X11_dearest (Q := fun r σ1 => (¬ isItm ρ x1 x2 x3 ∧ r = -2 ∧ σ1 = σ) ∨ (isItm ρ x1 x2 x3 ∧ Bt ρ σ1 ∧ σ1 36 8 = 1 ∧ Ml ρ σ1 ∧ r = σ1 38 (itN ρ x1 x2 x3))) (fun r σ1 h f => ?_) Fr.rf (by
    unfold wp_X11_dearest
    refine c_itemOf hW hk.1 hk.2.1 hk.2.2.1 (fun h => ⟨fun q => absurd q (by decide), fun _ => Or.inl ⟨h, rfl, rfl⟩⟩) (fun h σ1 hB f => ⟨fun _ => ?_, fun q => absurd (by omega) q⟩)
    have e8 : σ1 36 8 = σ 36 8 := f.at rfl
    have e38 : σ1 38 = σ 38 := funext (fun j => f.at rfl)
    refine c_mildestOf hW hB ?_ (itN_r hL h).2 (fun σ2 a1 a2 a3 => Or.inr ⟨h, a1, a2, a3, rfl⟩)
    rw [e8]; unfold Ml; rw [e38]; exact hl)
  refine mf_X12_dearest (Q := fun r _ => (¬ isItm ρ x1 x2 x3 ∧ r = -2) ∨ (isItm ρ x1 x2 x3 ∧ ∃ v, Lo ρ jM x1 x2 x3 v 1000000000 ∧ r = (if v < 1000000000 then v else -1))) (fun r1 τ1 h1 f1 => ?_) Fr.rf (r_dearest hW hVR (fun h => Or.inl ⟨h, rfl⟩) (fun h τ1 v h3 => Or.inr ⟨h, v, h3, rfl⟩))
  have hR : VR τ1 ρ := VR.frB f1 (by decide) hVR
  have hS : VC σ1 ρ := VC.frB f (by decide) hVC
  rcases h with ⟨g0, rfl, rfl⟩ | ⟨g0, g1, g2, g3, rfl⟩
  · rcases h1 with ⟨k0, rfl⟩ | ⟨k0, -⟩
    · exact ⟨rfl, ρ, hW, hVC, hR, hc⟩
    · exact absurd k0 g0
  · rcases h1 with ⟨k0, -⟩ | ⟨k0, v, k2, rfl⟩
    · exact absurd g0 k0
    · refine ⟨?_, ρ, hW, hS, hR, hM.2 b σ σ1 ρ hc g1 ⟨g2, g3⟩ f⟩
      obtain ⟨h1, h2, h3, h4⟩ := g0
      have hij : x2.toNat < x3.toNat ∧ x3.toNat ≤ LL ρ := ⟨by omega, by unfold LL; omega⟩
      have q := sp_a (L := LL ρ) hL hij
      have a := g3 (spA (LL ρ) x2.toNat x3.toNat) x1.toNat q.1 (by omega)
      rw [q.2.1, q.2.2, show ((x1.toNat : Nat) : Int) = x1 by omega, show ((x2.toNat : Nat) : Int) = x2 by omega, show ((x3.toNat : Nat) : Int) = x3 by omega] at a
      exact lo_agree a k2
end OPS
