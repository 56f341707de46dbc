/-! laws: the class's -/
def BI (x : Int) (C : Nat → Prop) : Prop := P32 x ∧ ∀ k : Nat, tb x k = true ↔ (k < 9 ∧ C k)
theorem BI.iff {x : Int} {C D : Nat → Prop} (h : BI x C) (hc : ∀ k, k < 9 → (C k ↔ D k)) : BI x D := ⟨h.1, fun k => (h.2 k).trans ⟨fun z => ⟨z.1, (hc k z.1).1 z.2⟩, fun z => ⟨z.1, (hc k z.1).2 z.2⟩⟩⟩
theorem BI.uniq {x y : Int} {C : Nat → Prop} (h : BI x C) (h2 : BI y C) : x = y := by
  refine tb_ext h.1.1 h2.1.1 (fun k => ?_)
  have : tb x k = true ↔ tb y k = true := (h.2 k).trans (h2.2 k).symm
  cases e : tb x k <;> cases e2 : tb y k <;> simp_all
theorem BI.all : BI 511 (fun _ => True) := by
  refine ⟨⟨by decide, by decide⟩, fun k => ?_⟩
  have e : tb 511 k = decide (k < 9) := by
    unfold tb
    rw [show (511 : Int).toNat = 2 ^ 9 - 1 from rfl, Nat.testBit_two_pow_sub_one]
  rw [e, decide_eq_true_iff]
  exact ⟨fun h => ⟨h, trivial⟩, fun h => h.1⟩
theorem BI.and {x y : Int} {C D : Nat → Prop} (h : BI x C) (h2 : BI y D) : BI (b_and x y) (fun k => C k ∧ D k) := by
  refine ⟨b_and_p h.1 h2.1, fun k => ?_⟩
  rw [tb_and h.1 h2.1, Bool.and_eq_true, h.2, h2.2]
  exact ⟨fun z => ⟨z.1.1, z.1.2, z.2.2⟩, fun z => ⟨⟨z.1, z.2.1⟩, z.1, z.2.2⟩⟩
theorem b_clr {x : Int} (hx : P32 x) {r : Nat} (hr : r < 31) : P32 (b_and x (b_xor (b_shl 1 (r : Int)) (-1))) ∧ ∀ k, tb (b_and x (b_xor (b_shl 1 (r : Int)) (-1))) k = (tb x k && decide (r ≠ k)) := by
  have e : b_and x (b_xor (b_shl 1 (r : Int)) (-1)) = ((x.toNat &&& (2 ^ r ^^^ (2 ^ 32 - 1)) : Nat) : Int) := by
    unfold b_and b_xor
    rw [Int32.ofInt_toInt]
    refine of32 ?_ ?_
    · rw [Int32.toBitVec_and, BitVec.toNat_and, Int32.toBitVec_xor, BitVec.toNat_xor, nat32 hx.1 hx.2, b_shl_1 r hr, nat32 (pow31 hr).1 (pow31 hr).2, Int.toNat_natCast, show (Int32.ofInt (-1)).toBitVec.toNat = 2 ^ 32 - 1 by decide]
    · have := Nat.and_le_left (n := x.toNat) (m := (2 ^ r ^^^ (2 ^ 32 - 1)))
      unfold P32 at hx; omega
  rw [e]
  have hle := Nat.and_le_left (n := x.toNat) (m := (2 ^ r ^^^ (2 ^ 32 - 1)))
  refine ⟨?_, fun k => ?_⟩
  · unfold P32 at *
    generalize (x.toNat &&& (2 ^ r ^^^ (2 ^ 32 - 1))) = t at *
    omega
  · unfold tb
    rw [Int.toNat_natCast, Nat.testBit_and, Nat.testBit_xor, Nat.testBit_two_pow, Nat.testBit_two_pow_sub_one]
    by_cases hk : k < 32
    · by_cases hrk : r = k
      · simp [hrk, hk]
      · simp [hrk, hk]
    · have : x.toNat.testBit k = false := by
        refine Nat.testBit_lt_two_pow ?_
        have h1 : 2 ^ 32 ≤ 2 ^ k := Nat.pow_le_pow_right (by decide) (by omega)
        unfold P32 at hx
        omega
      rw [this]; simp
theorem c_keep {x : Int} {C : Nat → Prop} (h : BI x C) {k : Nat} (hk : k < 9) {a b : Int} {σ : St} {Q : Int → St → Prop} (hq : ∀ y, BI y (fun j => C j ∧ (j = k → a = b)) → Q y σ) : wp_X9_keep x (k : Int) a b σ Q := by
  unfold wp_X9_keep
  refine ⟨fun hne => hq _ ?_, fun he => hq _ (h.iff (fun j _ => ⟨fun z => ⟨z, fun _ => by omega⟩, fun z => z.1⟩))⟩
  have c := b_clr h.1 (r := k) (by omega)
  refine ⟨c.1, fun j => ?_⟩
  rw [c.2, Bool.and_eq_true, h.2, decide_eq_true_iff]
  exact ⟨fun z => ⟨z.1.1, z.1.2, fun e => absurd e.symm z.2⟩, fun z => ⟨⟨z.1, z.2.1⟩, fun e => hne (z.2.2 e.symm)⟩⟩
/-! what is met -/
def Mt (ρ : St) (w : Nat → Int) (x : Int) : Prop := x = ρ 0 6 ∨ x = ρ 0 7 ∨ (∃ r : Nat, (r : Int) < ρ 0 4 ∧ ρ 8 r = 0 ∧ ρ 7 r = x) ∨ ∃ q, q < 12 * spN (LL ρ) ∧ w q = x
def MP (P : Int → Prop) (σ : St) : Prop := ∀ x : Nat, x < 5 → (σ 53 x = 0 ∨ σ 53 x = 1) ∧ (σ 53 x = 1 ↔ P x)
theorem MP.put {P : Int → Prop} {σ σ1 : St} (h : MP P σ) {y : Int} (e : σ1 = upS σ 53 y.toNat 1) (hy : 0 ≤ y ∧ y < 5) : MP (fun x => P x ∨ x = y) σ1 := by
  intro x hx
  rw [e]
  by_cases hxy : x = y.toNat
  · rw [hxy, upS_s]
    exact ⟨Or.inr rfl, fun _ => Or.inr (by omega), fun _ => rfl⟩
  · rw [upS_j hxy]
    obtain ⟨h1, h2⟩ := h x hx
    exact ⟨h1, h2.trans ⟨fun z => Or.inl z, fun z => z.resolve_right (by omega)⟩⟩
theorem MP.iff {P R : Int → Prop} {σ : St} (h : MP P σ) (hp : ∀ x, P x ↔ R x) : MP R σ := fun x hx => ⟨(h x hx).1, (h x hx).2.trans (hp x)⟩
theorem c_meetAll {ρ σ : St} (hg : Wg ρ) (hL : LL ρ < 9) (hw : Wb ρ) {w : Nat → Int} (hr : WV ρ w) (hs : VS ρ w σ) {Q : Int → St → Prop} (hq : ∀ σ1, VS ρ w σ1 → MP (Mt ρ w) σ1 → Q 0 σ1) : wp_X9_meetAll σ Q := by
  have h3 := sp_3 _ hL
  have h40 := hg.2.1
  have hN := hw.2.1
  have lp3 : ∀ (d r : Nat) (σ : St) (n : Nat), (r : Int) + d = ρ 0 4 → d < n → VS ρ w σ → MP (fun x => ((x = ρ 0 6 ∨ x = ρ 0 7) ∨ ∃ q, q < 12 * spN (LL ρ) ∧ w q = x) ∨ ∃ r' : Nat, r' < r ∧ ρ 8 r' = 0 ∧ ρ 7 r' = x) σ → wp_X9_meetAll_l79 Q n (r : Int) σ := by
    intro d
    induction d with
    | zero =>
      intro r σ n hd hn hs hm
      obtain ⟨n, rfl⟩ := suc_n hn
      unfold wp_X9_meetAll_l79
      rw [hs.1.1.2.2.1.1.1]
      refine ⟨fun _ => hq σ hs (hm.iff (fun x => ?_)), fun w => absurd (by omega) w⟩
      unfold Mt
      constructor
      · rintro ((z | z) | ⟨r', z1, z2, z3⟩)
        · rcases z with z | z
          · exact Or.inl z
          · exact Or.inr (Or.inl z)
        · exact Or.inr (Or.inr (Or.inr z))
        · exact Or.inr (Or.inr (Or.inl ⟨r', by omega, z2, z3⟩))
      · rintro (z | z | ⟨r', z1, z2, z3⟩ | z)
        · exact Or.inl (Or.inl (Or.inl z))
        · exact Or.inl (Or.inl (Or.inr z))
        · exact Or.inr ⟨r', by omega, z2, z3⟩
        · exact Or.inl (Or.inr z)
    | succ d ih =>
      intro r σ n hd hn hs hm
      obtain ⟨n, rfl⟩ := suc_n hn
      have hr4 : (r : Int) < ρ 0 4 := by push_cast at hd; omega
      have vg := hs.1.1.2.2.1.1
      have e20 := (vg.2 r hr4).2.2.2.2.2
      have e19 := (vg.2 r hr4).2.2.2.2.1
      have i7 := (hg.2.2 r hr4).2.2.2.2.1
      unfold wp_X9_meetAll_l79 wp_X9_meetAll_b117
      rw [vg.1, Int.toNat_natCast, e20, e19]
      refine ⟨fun w => absurd w (by omega), fun _ => ⟨by omega, fun h8 v ev => ?_, fun h8 => ⟨by omega, by omega, fun σ7 e7 v ev => ?_⟩⟩⟩
      · rw [ev, w32_of (by omega) (by omega), show (r : Int) + 1 = ((r + 1 : Nat) : Int) by omega]
        refine ih (r + 1) σ n (by push_cast at hd ⊢; omega) (by omega) hs (hm.iff (fun x => ?_))
        constructor
        · rintro (z | ⟨r', z1, z2⟩)
          · exact Or.inl z
          · exact Or.inr ⟨r', by omega, z2⟩
        · rintro (z | ⟨r', z1, z2⟩)
          · exact Or.inl z
          · by_cases e : r' = r
            · subst e; exact absurd z2.1 h8
            · exact Or.inr ⟨r', by omega, z2⟩
      · rw [ev, w32_of (by omega) (by omega), show (r : Int) + 1 = ((r + 1 : Nat) : Int) by omega]
        rw [show b_and 1 1 = 1 by decide] at e7
        refine ih (r + 1) σ7 n (by push_cast at hd ⊢; omega) (by omega) (by rw [e7]; exact hs) ((hm.put e7 (by omega)).iff (fun x => ?_))
        constructor
        · rintro ((z | ⟨r', z1, z2⟩) | z)
          · exact Or.inl z
          · exact Or.inr ⟨r', by omega, z2⟩
          · exact Or.inr ⟨r, by omega, by omega, z.symm⟩
        · rintro (z | ⟨r', z1, z2⟩)
          · exact Or.inl (Or.inl z)
          · by_cases e : r' = r
            · subst e; exact Or.inr z2.2.symm
            · exact Or.inl (Or.inr ⟨r', by omega, z2⟩)
  have lp2 : ∀ (d q : Nat) (σ : St) (n : Nat), q + d = 12 * spN (LL ρ) → d < n → VS ρ w σ → MP (fun x => (x = ρ 0 6 ∨ x = ρ 0 7) ∨ ∃ q', q' < q ∧ w q' = x) σ → wp_X9_meetAll_l48 Q n (q : Int) σ := by
    intro d
    induction d with
    | zero =>
      intro q σ n hd hn hs hm
      obtain ⟨n, rfl⟩ := suc_n hn
      unfold wp_X9_meetAll_l48 wp_X0_itemCount
      rw [hs.1.1.2.1.2.1, w32_of (x := (spN (LL ρ) : Int) * 12) (by omega) (by omega)]
      refine ⟨fun _ => lp3 (ρ 0 4).toNat 0 σ bigN (by have := hg.1; omega) (by unfold bigN; omega) hs (hm.iff (fun x => ?_)), fun w => absurd (by omega) w⟩
      rw [show 12 * spN (LL ρ) = q by omega]
      exact ⟨fun z => Or.inl z, fun z => z.resolve_right (fun ⟨r', h, _⟩ => by omega)⟩
    | succ d ih =>
      intro q σ n hd hn hs hm
      obtain ⟨n, rfl⟩ := suc_n hn
      have e51 := hs.2.2 q (by omega)
      have iq := hr q (by omega)
      unfold inB at iq
      unfold wp_X9_meetAll_l48 wp_X0_itemCount
      rw [hs.1.1.2.1.2.1, w32_of (x := (spN (LL ρ) : Int) * 12) (by omega) (by omega)]
      refine ⟨fun w => absurd w (by omega), fun _ => ?_⟩
      rw [Int.toNat_natCast, e51]
      refine ⟨by omega, by omega, fun σ3 e3 v ev => ?_⟩
      rw [ev, w32_of (by omega) (by omega), show (q : Int) + 1 = ((q + 1 : Nat) : Int) by omega]
      rw [show b_and 1 1 = 1 by decide] at e3
      refine ih (q + 1) σ3 n (by omega) (by omega) (by rw [e3]; exact hs) ((hm.put e3 (by omega)).iff (fun x => ?_))
      constructor
      · rintro ((z | ⟨q', z1, z2⟩) | z)
        · exact Or.inl z
        · exact Or.inr ⟨q', by omega, z2⟩
        · exact Or.inr ⟨q, by omega, z.symm⟩
      · rintro (z | ⟨q', z1, z2⟩)
        · exact Or.inl (Or.inl z)
        · by_cases e : q' = q
          · subst e; exact Or.inr z2.symm
          · exact Or.inl (Or.inr ⟨q', by omega, z2⟩)
  have lp1 : ∀ (d x : Nat) (σ : St) (n : Nat), x + d = 5 → d < n → VS ρ w σ → (∀ y : Nat, y < x → (σ 53 y = 0 ∨ σ 53 y = 1) ∧ (σ 53 y = 1 ↔ ((y : Int) = ρ 0 6 ∨ (y : Int) = ρ 0 7))) → wp_X9_meetAll_l2 Q n (x : Int) σ := by
    intro d
    induction d with
    | zero =>
      intro x σ n hd hn hs hm
      obtain ⟨n, rfl⟩ := suc_n hn
      unfold wp_X9_meetAll_l2
      refine ⟨fun _ => lp2 (12 * spN (LL ρ)) 0 σ bigN (by omega) (by unfold bigN; omega) hs (fun y hy => ?_), fun w => absurd (by omega) w⟩
      obtain ⟨m1, m2⟩ := hm y (by omega)
      exact ⟨m1, m2.trans ⟨fun z => Or.inl z, fun z => z.resolve_right (fun ⟨q', h, _⟩ => by omega)⟩⟩
    | succ d ih =>
      intro x σ n hd hn hs hm
      obtain ⟨n, rfl⟩ := suc_n hn
      have nx : ∀ y, (y = 0 ∨ y = 1) → (y = 1 ↔ ((x : Int) = ρ 0 6 ∨ (x : Int) = ρ 0 7)) → wp_X9_meetAll_b39 Q (wp_X9_meetAll_l2 Q n) (x : Int) y (x : Int) σ := by
        intro y hy hy2
        unfold wp_X9_meetAll_b39
        refine ⟨by omega, fun σ5 e5 v ev => ?_⟩
        rw [show b_and y 1 = y by rcases hy with z | z <;> rw [z] <;> decide, Int.toNat_natCast] at e5
        rw [ev, w32_of (by omega) (by omega), show (x : Int) + 1 = ((x + 1 : Nat) : Int) by omega]
        refine ih (x + 1) σ5 n (by omega) (by omega) (by rw [e5]; exact hs) (fun y' hy' => ?_)
        rw [e5]
        by_cases e : y' = x
        · rw [e, upS_s]; exact ⟨hy, hy2⟩
        · rw [upS_j e]; exact hm y' (by omega)
      unfold wp_X9_meetAll_l2 wp_X9_meetAll_b34
      rw [hs.2.1.2.1, hs.2.1.2.2.1]
      refine ⟨fun w => absurd w (by omega), fun _ => ⟨fun z => nx 1 (Or.inr rfl) ⟨fun _ => Or.inl z, fun _ => rfl⟩, fun z => ⟨fun z2 => nx 0 (Or.inl rfl) ⟨fun w => absurd w (by decide), fun w => ?_⟩, fun z2 => nx 1 (Or.inr rfl) ⟨fun _ => Or.inr (by omega), fun _ => rfl⟩⟩⟩⟩
      rcases w with w | w
      · exact absurd w z
      · exact absurd w z2
  unfold wp_X9_meetAll
  exact lp1 5 0 σ bigN (by omega) (by unfold bigN; omega) hs (fun y hy => by omega)
/-! the laws -/
def l1 (ρ : St) (j : Nat) (a : Int) : Prop := (j = 2 → vPl ρ a (ρ 0 6) = a) ∧ (j = 4 → vTi ρ (ρ 0 7) a = a) ∧ (j = 4 → vTi ρ a (ρ 0 7) = a) ∧ (j = 5 → vTi ρ (ρ 0 6) a = ρ 0 6) ∧ (j = 5 → vTi ρ a (ρ 0 6) = ρ 0 6) ∧ (j = 8 → vPl ρ a a = a)
def l2 (ρ : St) (j : Nat) (a b : Int) : Prop := j = 0 → vPl ρ a b = vPl ρ b a
def l3 (ρ : St) (j : Nat) (a b c : Int) : Prop := (j = 1 → vPl ρ (vPl ρ a b) c = vPl ρ a (vPl ρ b c)) ∧ (j = 3 → vTi ρ (vTi ρ a b) c = vTi ρ a (vTi ρ b c)) ∧ (j = 6 → vTi ρ a (vPl ρ b c) = vPl ρ (vTi ρ a b) (vTi ρ a c)) ∧ (j = 7 → vTi ρ (vPl ρ a b) c = vPl ρ (vTi ρ a c) (vTi ρ b c))
theorem c_lawsOfOne {ρ σ : St} (hw : Wb ρ) (vb : VCb σ ρ) {a : Int} (ha : inB ρ a) {Q : Int → St → Prop} (hq : ∀ y, BI y (fun j => l1 ρ j a) → Q y σ) : wp_X9_lawsOfOne a σ Q := by
  have z := hw.2.2.1
  have o := hw.2.2.2.1
  unfold wp_X9_lawsOfOne
  intro v1 e1 v2 e2
  rw [e1, e2, vb.2.1, vb.2.2.1]
  refine c_plus hw vb ha z (c_keep BI.all (k := 2) (by decide) (fun y1 b1 => c_times hw vb o ha (c_keep b1 (k := 4) (by decide) (fun y2 b2 => c_times hw vb ha o (c_keep b2 (k := 4) (by decide) (fun y3 b3 => c_times hw vb z ha (c_keep b3 (k := 5) (by decide) (fun y4 b4 => c_times hw vb ha z (c_keep b4 (k := 5) (by decide) (fun y5 b5 => c_plus hw vb ha ha (c_keep b5 (k := 8) (by decide) (fun y6 b6 => hq y6 (b6.iff (fun j _ => ?_))))))))))))))
  unfold l1 vPl vTi
  exact ⟨fun w => ⟨w.1.1.1.1.1.2, w.1.1.1.1.2, w.1.1.1.2, w.1.1.2, w.1.2, w.2⟩, fun w => ⟨⟨⟨⟨⟨⟨trivial, w.1⟩, w.2.1⟩, w.2.2.1⟩, w.2.2.2.1⟩, w.2.2.2.2.1⟩, w.2.2.2.2.2⟩⟩
theorem c_lawsOfMore {ρ σ : St} (hw : Wb ρ) (vb : VCb σ ρ) {P : Int → Prop} (hm : MP P σ) {a b : Int} (ha : inB ρ a) (hb : inB ρ b) {Q : Int → St → Prop} (hq : ∀ y, BI y (fun j => l2 ρ j a b ∧ ∀ c : Nat, (c : Int) < ρ 0 5 → P c → l3 ρ j a b c) → Q y σ) : wp_X9_lawsOfMore a b σ Q := by
  have hN := hw.2.1
  have lp : ∀ (d c : Nat) (y : Int) (n : Nat), (c : Int) + d = ρ 0 5 → d < n → BI y (fun j => l2 ρ j a b ∧ ∀ c' : Nat, c' < c → P c' → l3 ρ j a b c') → wp_X9_lawsOfMore_l29 Q n a b y (c : Int) σ := by
    intro d
    induction d with
    | zero =>
      intro c y n hd hn hy
      obtain ⟨n, rfl⟩ := suc_n hn
      unfold wp_X9_lawsOfMore_l29
      rw [vb.1]
      refine ⟨fun _ => hq y (hy.iff (fun j _ => ⟨fun z => ⟨z.1, fun c' h1 h2 => z.2 c' (by omega) h2⟩, fun z => ⟨z.1, fun c' h1 h2 => z.2 c' (by omega) h2⟩⟩)), fun w => absurd (by omega) w⟩
    | succ d ih =>
      intro c y n hd hn hy
      obtain ⟨n, rfl⟩ := suc_n hn
      have hc5 : (c : Int) < ρ 0 5 := by push_cast at hd; omega
      have hc : inB ρ (c : Int) := ⟨by omega, hc5⟩
      obtain ⟨m1, m2⟩ := hm c (by omega)
      have nx : ∀ y', BI y' (fun j => l2 ρ j a b ∧ ∀ c' : Nat, c' < c + 1 → P c' → l3 ρ j a b c') → wp_X9_lawsOfMore_b246 Q (wp_X9_lawsOfMore_l29 Q n) a b y' (c : Int) σ := by
        intro y' hy'
        unfold wp_X9_lawsOfMore_b246
        intro v ev
        rw [ev, w32_of (by omega) (by omega), show (c : Int) + 1 = ((c + 1 : Nat) : Int) by omega]
        exact ih (c + 1) y' n (by push_cast at hd ⊢; omega) (by omega) hy'
      unfold wp_X9_lawsOfMore_l29
      rw [vb.1, Int.toNat_natCast]
      refine ⟨fun w => absurd w (by omega), fun _ => ⟨by omega, fun h0 => nx y (hy.iff (fun j _ => ⟨fun z => ⟨z.1, fun c' h1 h2 => ?_⟩, fun z => ⟨z.1, fun c' h1 h2 => z.2 c' (by omega) h2⟩⟩)), fun h0 => ?_⟩⟩
      · by_cases e : c' = c
        · subst e
          have := m2.2 h2; omega
        · exact z.2 c' (by omega) h2
      · have hP : P c := m2.1 (by omega)
        have pab := vPl_r hw ha hb
        have pbc := vPl_r hw hb hc
        have tab := vTi_r hw ha hb
        have tbc := vTi_r hw hb hc
        have tac := vTi_r hw ha hc
        refine c_plus hw vb ha hb (c_plus hw vb pab hc (c_plus hw vb hb hc (c_plus hw vb ha pbc (c_keep hy (k := 1) (by decide) (fun y1 b1 => c_times hw vb ha hb (c_times hw vb tab hc (c_times hw vb hb hc (c_times hw vb ha tbc (c_keep b1 (k := 3) (by decide) (fun y2 b2 => c_times hw vb ha hb (c_times hw vb ha hc (c_plus hw vb tab tac (c_plus hw vb hb hc (c_times hw vb ha pbc (c_keep b2 (k := 6) (by decide) (fun y3 b3 => c_times hw vb ha hc (c_times hw vb hb hc (c_plus hw vb tac tbc (c_plus hw vb ha hb (c_times hw vb pab hc (c_keep b3 (k := 7) (by decide) (fun y4 b4 => nx y4 (b4.iff (fun j _ => ?_))))))))))))))))))))))))
        constructor
        · rintro ⟨⟨⟨⟨⟨z1, z2⟩, k1⟩, k3⟩, k6⟩, k7⟩
          refine ⟨z1, fun c' h1 h2 => ?_⟩
          by_cases e : c' = c
          · subst e; exact ⟨k1, k3, k6, k7⟩
          · exact z2 c' (by omega) h2
        · rintro ⟨z1, z2⟩
          obtain ⟨k1, k3, k6, k7⟩ := z2 c (by omega) hP
          exact ⟨⟨⟨⟨⟨z1, fun c' h1 h2 => z2 c' (by omega) h2⟩, k1⟩, k3⟩, k6⟩, k7⟩
  unfold wp_X9_lawsOfMore
  refine c_plus hw vb ha hb (c_plus hw vb hb ha (c_keep BI.all (k := 0) (by decide) (fun y1 b1 => lp (ρ 0 5).toNat 0 y1 bigN (by have := hw.1; omega) (by unfold bigN; omega) (b1.iff (fun j _ => ?_)))))
  exact ⟨fun z => ⟨z.2, fun c' h => by omega⟩, fun z => ⟨trivial, z.1⟩⟩
def LwP (ρ : St) (P : Int → Prop) (j : Nat) : Prop := ∀ a : Nat, (a : Int) < ρ 0 5 → P a → l1 ρ j a ∧ ∀ b : Nat, (b : Int) < ρ 0 5 → P b → l2 ρ j a b ∧ ∀ c : Nat, (c : Int) < ρ 0 5 → P c → l3 ρ j a b c
theorem c_lawsLoop {ρ σ : St} (hw : Wb ρ) (vb : VCb σ ρ) {P : Int → Prop} (hm : MP P σ) {Q : Int → St → Prop} (hq : ∀ y, BI y (LwP ρ P) → Q y σ) : wp_X9_lawsKept_l22 Q bigN 511 0 σ := by
  have hN := hw.2.1
  have lp2 : ∀ (a : Nat) (n0 : Nat) (C : Nat → Prop), (a : Int) < ρ 0 5 → (∀ y, BI y (fun j => C j ∧ ∀ b : Nat, (b : Int) < ρ 0 5 → P b → l2 ρ j a b ∧ ∀ c : Nat, (c : Int) < ρ 0 5 → P c → l3 ρ j a b c) → wp_X9_lawsKept_b87 Q (wp_X9_lawsKept_l22 Q n0) y (a : Int) σ) → ∀ (d b : Nat) (y : Int) (n : Nat), (b : Int) + d = ρ 0 5 → d < n → BI y (fun j => C j ∧ ∀ b' : Nat, b' < b → P b' → l2 ρ j a b' ∧ ∀ c : Nat, (c : Int) < ρ 0 5 → P c → l3 ρ j a b' c) → wp_X9_lawsKept_l52 Q (wp_X9_lawsKept_l22 Q n0) n y (a : Int) (b : Int) σ := by
    intro a n0 C ha hk d
    induction d with
    | zero =>
      intro b y n hd hn hy
      obtain ⟨n, rfl⟩ := suc_n hn
      unfold wp_X9_lawsKept_l52
      rw [vb.1]
      exact ⟨fun _ => hk y (hy.iff (fun j _ => ⟨fun z => ⟨z.1, fun b' h1 h2 => z.2 b' (by omega) h2⟩, fun z => ⟨z.1, fun b' h1 h2 => z.2 b' (by omega) h2⟩⟩)), fun w => absurd (by omega) w⟩
    | succ d ih =>
      intro b y n hd hn hy
      obtain ⟨n, rfl⟩ := suc_n hn
      have hb5 : (b : Int) < ρ 0 5 := by push_cast at hd; omega
      obtain ⟨m1, m2⟩ := hm b (by omega)
      unfold wp_X9_lawsKept_l52 wp_X9_lawsKept_b81
      rw [vb.1, Int.toNat_natCast]
      refine ⟨fun w => absurd w (by omega), fun _ => ⟨by omega, fun h0 v ev => ?_, fun h0 => ?_⟩⟩
      · rw [ev, w32_of (by omega) (by omega), show (b : Int) + 1 = ((b + 1 : Nat) : Int) by omega]
        refine ih (b + 1) y n (by push_cast at hd ⊢; omega) (by omega) (hy.iff (fun j _ => ⟨fun z => ⟨z.1, fun b' h1 h2 => ?_⟩, fun z => ⟨z.1, fun b' h1 h2 => z.2 b' (by omega) h2⟩⟩))
        by_cases e : b' = b
        · subst e
          have := m2.2 h2; omega
        · exact z.2 b' (by omega) h2
      · have hP : P b := m2.1 (by omega)
        refine c_lawsOfMore hw vb hm ⟨by omega, ha⟩ ⟨by omega, hb5⟩ (fun y1 b1 v1 ev1 v ev => ?_)
        rw [ev, w32_of (by omega) (by omega), show (b : Int) + 1 = ((b + 1 : Nat) : Int) by omega, ev1]
        refine ih (b + 1) _ n (by push_cast at hd ⊢; omega) (by omega) ((hy.and b1).iff (fun j _ => ?_))
        constructor
        · rintro ⟨⟨z1, z2⟩, z3⟩
          refine ⟨z1, fun b' h1 h2 => ?_⟩
          by_cases e : b' = b
          · subst e; exact z3
          · exact z2 b' (by omega) h2
        · rintro ⟨z1, z2⟩
          exact ⟨⟨z1, fun b' h1 h2 => z2 b' (by omega) h2⟩, z2 b (by omega) hP⟩
  have lp : ∀ (d a : Nat) (y : Int) (n : Nat), (a : Int) + d = ρ 0 5 → d < n → BI y (fun j => ∀ a' : Nat, a' < a → P a' → l1 ρ j a' ∧ ∀ b : Nat, (b : Int) < ρ 0 5 → P b → l2 ρ j a' b ∧ ∀ c : Nat, (c : Int) < ρ 0 5 → P c → l3 ρ j a' b c) → wp_X9_lawsKept_l22 Q n y (a : Int) σ := by
    intro d
    induction d with
    | zero =>
      intro a y n hd hn hy
      obtain ⟨n, rfl⟩ := suc_n hn
      unfold wp_X9_lawsKept_l22
      rw [vb.1]
      exact ⟨fun _ => hq y (hy.iff (fun j _ => ⟨fun z a' h1 h2 => z a' (by omega) h2, fun z a' h1 h2 => z a' (by omega) h2⟩)), fun w => absurd (by omega) w⟩
    | succ d ih =>
      intro a y n hd hn hy
      obtain ⟨n, rfl⟩ := suc_n hn
      have ha5 : (a : Int) < ρ 0 5 := by push_cast at hd; omega
      obtain ⟨m1, m2⟩ := hm a (by omega)
      have nx : ∀ y', BI y' (fun j => ∀ a' : Nat, a' < a + 1 → P a' → l1 ρ j a' ∧ ∀ b : Nat, (b : Int) < ρ 0 5 → P b → l2 ρ j a' b ∧ ∀ c : Nat, (c : Int) < ρ 0 5 → P c → l3 ρ j a' b c) → wp_X9_lawsKept_b87 Q (wp_X9_lawsKept_l22 Q n) y' (a : Int) σ := by
        intro y' hy'
        unfold wp_X9_lawsKept_b87
        intro v ev
        rw [ev, w32_of (by omega) (by omega), show (a : Int) + 1 = ((a + 1 : Nat) : Int) by omega]
        exact ih (a + 1) y' n (by push_cast at hd ⊢; omega) (by omega) hy'
      unfold wp_X9_lawsKept_l22
      rw [vb.1, Int.toNat_natCast]
      refine ⟨fun w => absurd w (by omega), fun _ => ⟨by omega, fun h0 => nx y (hy.iff (fun j _ => ⟨fun z a' h1 h2 => ?_, fun z a' h1 h2 => z a' (by omega) h2⟩)), fun h0 => ?_⟩⟩
      · by_cases e : a' = a
        · subst e
          have := m2.2 h2; omega
        · exact z a' (by omega) h2
      · have hP : P a := m2.1 (by omega)
        refine c_lawsOfOne hw vb ⟨by omega, ha5⟩ (fun y1 b1 v1 ev1 => ?_)
        rw [ev1]
        refine lp2 a n (fun j => (∀ a' : Nat, a' < a → P a' → l1 ρ j a' ∧ ∀ b : Nat, (b : Int) < ρ 0 5 → P b → l2 ρ j a' b ∧ ∀ c : Nat, (c : Int) < ρ 0 5 → P c → l3 ρ j a' b c) ∧ l1 ρ j a) ha5 (fun y2 b2 => nx y2 (b2.iff (fun j _ => ?_))) (ρ 0 5).toNat 0 _ bigN (by have := hw.1; omega) (by unfold bigN; omega) ((hy.and b1).iff (fun j _ => ⟨fun z => ⟨z, fun b' h => by omega⟩, fun z => z.1⟩))
        constructor
        · rintro ⟨⟨z1, z2⟩, z3⟩ a' h1 h2
          by_cases e : a' = a
          · subst e; exact ⟨z2, z3⟩
          · exact z1 a' (by omega) h2
        · intro z
          exact ⟨⟨fun a' h1 h2 => z a' (by omega) h2, (z a (by omega) hP).1⟩, (z a (by omega) hP).2⟩
  exact lp (ρ 0 5).toNat 0 511 bigN (by have := hw.1; omega) (by unfold bigN; omega) (BI.all.iff (fun j _ => ⟨fun _ a' h => by omega, fun _ => trivial⟩))
