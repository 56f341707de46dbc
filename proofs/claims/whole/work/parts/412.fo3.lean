/-! cases of an item; how many steps a tree has -/
def cm (ρ : St) (q t : Nat) : Int := (cq ρ q t).2.1
theorem cq_get {ρ : St} {q t : Nat} (h : t < (cI ρ q).length) : cq ρ q t = (cI ρ q)[t] := by
  unfold cq
  rw [List.getD_eq_getElem?_getD, List.getElem?_eq_getElem h]; rfl
theorem cq_mem {ρ : St} {q t : Nat} (h : t < (cI ρ q).length) : cq ρ q t ∈ cI ρ q := by rw [cq_get h]; exact List.getElem_mem h
theorem pv_item {ρ : St} (hL : LL ρ < 9) {p : Int} (hp : isPart p) {i j : Nat} (hij : i < j ∧ j ≤ LL ρ) (hn : pv ρ p i j ≠ -2) : -1 ≤ pv ρ p i j ∧ (0 ≤ pv ρ p i j → ∃ b : Nat, b < 12 ∧ p = (b : Int) ∧ pv ρ p i j = ((12 * spA (LL ρ) i j + b : Nat) : Int)) ∧ (pv ρ p i j < 0 → 100 ≤ p) := by
  unfold isPart at hp
  by_cases h1 : 100 ≤ p
  · by_cases h2 : j = i + 1 ∧ ρ 11 i = p - 100
    · rw [pv_yes h1 h2]; exact ⟨by decide, fun h => absurd h (by decide), fun _ => h1⟩
    · rw [pv_no h1 h2] at hn; exact absurd rfl hn
  · rw [pv_lab (by omega)]
    exact ⟨by omega, fun _ => ⟨p.toNat, by omega, by omega, by push_cast; omega⟩, fun h => by omega⟩
theorem cs_kind {ρ : St} (hg : Wg ρ) (hL : LL ρ < 9) {s a t : Nat} (ha : a < 12) (hs : s < spN (LL ρ)) (ht : t < (cI ρ (12 * s + a)).length) : ∃ r : Nat, (r : Int) < ρ 0 4 ∧ ρ 8 r = 0 ∧ ρ 3 r = (a : Int) ∧ (cq ρ (12 * s + a) t).1 = (r : Int) ∧ cp ρ (12 * s + a) t = ρ 6 r ∧ (1 ≤ ρ 6 r ∧ ρ 6 r ≤ 99) ∧ -1 ≤ cf ρ (12 * s + a) t ∧ -1 ≤ cg ρ (12 * s + a) t ∧ ((ρ 5 r = -1 ∧ cg ρ (12 * s + a) t = -1 ∧ cm ρ (12 * s + a) t = -1 ∧ pv ρ (ρ 4 r) (spB (LL ρ) s) (spF (LL ρ) s) ≠ -2 ∧ cf ρ (12 * s + a) t = pv ρ (ρ 4 r) (spB (LL ρ) s) (spF (LL ρ) s) ∧ ((100 ≤ ρ 4 r ∧ cf ρ (12 * s + a) t = -1) ∨ ∃ b : Nat, b < 12 ∧ ρ 4 r = (b : Int) ∧ cf ρ (12 * s + a) t = ((12 * s + b : Nat) : Int))) ∨ (ρ 5 r ≠ -1 ∧ ∃ m : Nat, spB (LL ρ) s < m ∧ m < spF (LL ρ) s ∧ cm ρ (12 * s + a) t = (m : Int) ∧ pv ρ (ρ 4 r) (spB (LL ρ) s) m ≠ -2 ∧ pv ρ (ρ 5 r) m (spF (LL ρ) s) ≠ -2 ∧ cf ρ (12 * s + a) t = pv ρ (ρ 4 r) (spB (LL ρ) s) m ∧ cg ρ (12 * s + a) t = pv ρ (ρ 5 r) m (spF (LL ρ) s) ∧ (0 ≤ cf ρ (12 * s + a) t → ∃ b : Nat, b < 12 ∧ ρ 4 r = (b : Int) ∧ cf ρ (12 * s + a) t = ((12 * spA (LL ρ) (spB (LL ρ) s) m + b : Nat) : Int)) ∧ (0 ≤ cg ρ (12 * s + a) t → ∃ b : Nat, b < 12 ∧ ρ 5 r = (b : Int) ∧ cg ρ (12 * s + a) t = ((12 * spA (LL ρ) m (spF (LL ρ) s) + b : Nat) : Int)))) := by
  have qs := sp_s hL hs
  obtain ⟨r, hr, h8, h3, h1, h⟩ := cI_info ha (cq_mem ht)
  have hp1 := (hg.2.2 r hr).2.1
  have hp2 := (hg.2.2 r hr).2.2.1
  have hpr := (hg.2.2 r hr).2.2.2.1
  refine ⟨r, hr, h8, h3, h1, ?_, hpr, ?_⟩
  · unfold cp; rw [h1, Int.toNat_natCast]
  · unfold cf cg cm
    rcases h with ⟨h5, hn, e1, e2, e3⟩ | ⟨h5, m, m1, m2, n1, n2, e1, e2, e3⟩
    · obtain ⟨p1, p2, p3⟩ := pv_item hL hp1 ⟨qs.1, qs.2.1⟩ hn
      rw [e2, e3]
      refine ⟨p1, by decide, Or.inl ⟨h5, rfl, e1, hn, rfl, ?_⟩⟩
      by_cases h0 : 0 ≤ pv ρ (ρ 4 r) (spB (LL ρ) s) (spF (LL ρ) s)
      · obtain ⟨b, b1, b2, b3⟩ := p2 h0
        rw [qs.2.2] at b3
        exact Or.inr ⟨b, b1, b2, b3⟩
      · exact Or.inl ⟨p3 (by omega), by omega⟩
    · obtain ⟨p1, p2, p3⟩ := pv_item hL hp1 ⟨m1, by omega⟩ n1
      obtain ⟨q1, q2, q3⟩ := pv_item hL (hp2.resolve_left h5) ⟨m2, qs.2.1⟩ n2
      rw [e2, e3]
      exact ⟨p1, q1, Or.inr ⟨h5, m, m1, m2, e1, n1, n2, rfl, rfl, p2, q2⟩⟩
theorem inside_lt {ρ : St} (hL : LL ρ < 9) {s m : Nat} (hs : s < spN (LL ρ)) (m1 : spB (LL ρ) s < m) (m2 : m < spF (LL ρ) s) : spA (LL ρ) (spB (LL ρ) s) m < s ∧ spA (LL ρ) m (spF (LL ρ) s) < s := by
  have qs := sp_s hL hs
  have a := sp_lt (L := LL ρ) hL (i := spB (LL ρ) s) (j := m) (k := spB (LL ρ) s) (l := spF (LL ρ) s) ⟨m1, by omega⟩ ⟨qs.1, qs.2.1⟩ (Or.inl (by omega))
  have b := sp_lt (L := LL ρ) hL (i := m) (j := spF (LL ρ) s) (k := spB (LL ρ) s) (l := spF (LL ρ) s) ⟨m2, qs.2.1⟩ ⟨qs.1, qs.2.1⟩ (Or.inl (by omega))
  rw [qs.2.2] at a b
  exact ⟨a, b⟩
/-- an item has the first of its cases, and no others -/
def SgF (ρ : St) (F : Fo) (q : Nat) : Prop := F.1 q ≤ 16 ∧ ∀ z, CandE ρ F q z → inF F q z ∨ ∀ k, k < F.1 q → ltE ρ F q (F.2 q k) z
theorem TopP.sg {ρ : St} {F : Fo} {q : Nat} (h : TopP (ltE ρ F q) (CandE ρ F q) (F.1 q) (F.2 q)) : SgF ρ F q := ⟨h.1, fun z hz => by
  rcases h.2.2.2 z hz with g | ⟨e, g⟩
  · exact Or.inl g
  · exact Or.inr (fun k hk => g k (by omega))⟩
/-- an entry's places together are no more than its own -/
theorem xy_le {ρ : St} {F : Fo} {D : Nat → Prop} (hF : ClF ρ F D) {q : Nat} (hq : D q) (tF : SgF ρ F q) : ∀ (N k : Nat), k < F.1 q → (F.2 q k).2.2.1 + (F.2 q k).2.2.2 = N → N ≤ k := by
  intro N
  induction N with
  | zero => intro k _ _; omega
  | succ N ih =>
    intro k hk hN
    have cz := ((hF q hq).1 k hk).1
    have k16 : k < 16 := by have := tF.1; omega
    obtain ⟨a1, a2, a3⟩ := (hF q hq).2.2 _ cz.1
    have fin : ∀ w : En, CandE ρ F q w → ltE ρ F q w (F.2 q k) → w.2.2.1 + w.2.2.2 = N → N + 1 ≤ k := by
      intro w cw hl hw
      rcases tF.2 w cw with ⟨j, hj, e⟩ | g
      · have hjk : j < k := by
          rcases Nat.lt_trichotomy j k with g | g | g
          · exact g
          · subst g; rw [e] at hl; exact (ltE.irr hl).elim
          · have := (hF q hq).2.1 k j g hj
            rw [e] at this
            exact (ltE.irr (hl.tr this)).elim
        have := ih j hj (by rw [e]; exact hw)
        omega
      · exact (ltE.irr (hl.tr (g k hk))).elim
    generalize hz : F.2 q k = z at *
    obtain ⟨c, t, x, y⟩ := z
    simp only at hN
    obtain ⟨z1, z2, z3, z4⟩ := id cz
    simp only at z1 z2 z3 z4
    by_cases hx : 0 < x
    · have cw : CandE ρ F q (cp ρ q t + scF F (cf ρ q t) (x - 1) + scF F (cg ρ q t) y, t, x - 1, y) := ⟨z1, by show x - 1 < hsF F (cf ρ q t); omega, z3, rfl⟩
      exact fin _ cw (hF.up1 hq cw cz (by omega)) (by show x - 1 + y = N; omega)
    · have cw : CandE ρ F q (cp ρ q t + scF F (cf ρ q t) x + scF F (cg ρ q t) (y - 1), t, x, y - 1) := ⟨z1, z2, by show y - 1 < hsF F (cg ρ q t); omega, rfl⟩
      exact fin _ cw (hF.up2 hq cw cz (by omega)) (by show x + (y - 1) = N; omega)
def sN (ρ : St) (F : Fo) : Nat → Nat → Nat → Nat
  | 0, _, _ => 0
  | n + 1, q, k => 1 + (if cf ρ q (F.2 q k).2.1 < 0 then 0 else sN ρ F n (cf ρ q (F.2 q k).2.1).toNat (F.2 q k).2.2.1) + (if cg ρ q (F.2 q k).2.1 < 0 then 0 else sN ρ F n (cg ρ q (F.2 q k).2.1).toNat (F.2 q k).2.2.2)
def mN (F : Fo) (s k : Nat) (c : Int) : Nat := cntB (fun b => decide (k < F.1 (12 * s + b)) && decide ((F.2 (12 * s + b) k).1 < c)) 12
def lnq (ρ : St) (q : Nat) : Nat := spF (LL ρ) (q / 12) - spB (LL ρ) (q / 12)
theorem mN_11 {F : Fo} {s k a : Nat} (ha : a < 12) : mN F s k (F.2 (12 * s + a) k).1 ≤ 11 := by
  unfold mN
  refine cntB_11 ha ?_
  rw [decide_eq_false (p := (F.2 (12 * s + a) k).1 < (F.2 (12 * s + a) k).1) (by omega), Bool.and_false]
theorem mN_lt {F : Fo} {s k b : Nat} {c : Int} (hb : b < 12) (hk : k < F.1 (12 * s + b)) (hc : (F.2 (12 * s + b) k).1 < c) : mN F s k (F.2 (12 * s + b) k).1 < mN F s k c := by
  unfold mN
  refine cntB_lt 12 (fun e he h => ?_) ⟨b, hb, ?_, ?_⟩
  · rw [Bool.and_eq_true, decide_eq_true_iff, decide_eq_true_iff] at h ⊢
    exact ⟨h.1, by omega⟩
  · rw [decide_eq_true hk, decide_eq_true hc]; rfl
  · rw [decide_eq_false (p := (F.2 (12 * s + b) k).1 < (F.2 (12 * s + b) k).1) (by omega), Bool.and_false]
theorem sN_le {ρ : St} (hg : Wg ρ) (hL : LL ρ < 9) {F : Fo} {D : Nat → Prop} (hF : ClF ρ F D) (hT : ∀ q, D q → SgF ρ F q) (hD : ∀ q, D q → q < 12 * spN (LL ρ)) : ∀ (n q k : Nat), D q → k < F.1 q → sN ρ F n q k ≤ 12 * k + mN F (q / 12) k (F.2 q k).1 + 1 + 24 * (lnq ρ q - 1)
  | 0, q, k, _, _ => Nat.zero_le _
  | n + 1, q, k, hq, hk => by
    have ih := sN_le hg hL hF hT hD n
    have cz := ((hF q hq).1 k hk).1
    have hxy := xy_le hF hq (hT q hq) _ k hk rfl
    have sub := hF.sub hq cz
    obtain ⟨z1, z2, z3, z4⟩ := cz
    obtain ⟨a1, a2, a3⟩ := (hF q hq).2.2 _ z1
    have hqs := hD q hq
    have hsq : q / 12 < spN (LL ρ) := by omega
    have haq : q % 12 < 12 := by omega
    have eq : q = 12 * (q / 12) + q % 12 := by omega
    have qs := sp_s hL hsq
    have kind := cs_kind hg hL haq hsq (t := (F.2 q k).2.1) (by rw [← eq]; exact z1)
    rw [← eq] at kind
    obtain ⟨r, -, -, -, -, -, -, -, -, kind⟩ := kind
    unfold sN
    rcases kind with ⟨-, e1, -, -, -, ⟨-, e2⟩ | ⟨b, b1, -, e2⟩⟩ | ⟨-, m, m1, m2, -, -, -, -, -, e1, e2⟩
    · rw [e1, e2, if_pos (by decide), if_pos (by decide)]; omega
    · rw [e1, if_pos (c := (-1 : Int) < 0) (by decide), e2, if_neg (by omega), Int.toNat_natCast]
      rw [e2, hsF_pos (by omega), Int.toNat_natCast] at z2
      have d1 := a1 (by omega)
      rw [e2, Int.toNat_natCast] at d1
      have s1 := sub.2.1
      rw [e2, scF_pos (by omega), Int.toNat_natCast] at s1
      have i1 := ih (12 * (q / 12) + b) (F.2 q k).2.2.1 d1 z2
      have l1 : lnq ρ (12 * (q / 12) + b) = lnq ρ q := by unfold lnq; rw [show (12 * (q / 12) + b) / 12 = q / 12 by omega]
      rw [show (12 * (q / 12) + b) / 12 = q / 12 by omega, l1] at i1
      by_cases hxk : (F.2 q k).2.2.1 = k
      · rw [hxk] at i1 s1 z2 ⊢
        have := mN_lt b1 z2 s1
        omega
      · have := mN_11 (F := F) (s := q / 12) (k := (F.2 q k).2.2.1) b1
        omega
    · have il := inside_lt hL hsq m1 m2
      have lf : ∀ x : Nat, 0 ≤ cf ρ q (F.2 q k).2.1 → x < hsF F (cf ρ q (F.2 q k).2.1) → sN ρ F n (cf ρ q (F.2 q k).2.1).toNat x ≤ 12 * x + 12 + 24 * (m - spB (LL ρ) (q / 12) - 1) := by
        intro x h0 hx
        obtain ⟨b, b1, -, b2⟩ := e1 h0
        have d1 := a1 h0
        rw [hsF_pos h0] at hx
        rw [b2, Int.toNat_natCast] at d1 hx ⊢
        have i1 := ih _ x d1 hx
        have := mN_11 (F := F) (s := spA (LL ρ) (spB (LL ρ) (q / 12)) m) (k := x) b1
        have l1 : lnq ρ (12 * spA (LL ρ) (spB (LL ρ) (q / 12)) m + b) = m - spB (LL ρ) (q / 12) := by
          unfold lnq
          have := sp_a hL (i := spB (LL ρ) (q / 12)) (j := m) ⟨m1, by omega⟩
          rw [show (12 * spA (LL ρ) (spB (LL ρ) (q / 12)) m + b) / 12 = spA (LL ρ) (spB (LL ρ) (q / 12)) m by omega, this.2.1, this.2.2]
        rw [l1, show (12 * spA (LL ρ) (spB (LL ρ) (q / 12)) m + b) / 12 = spA (LL ρ) (spB (LL ρ) (q / 12)) m by omega] at i1
        omega
      have lg : ∀ x : Nat, 0 ≤ cg ρ q (F.2 q k).2.1 → x < hsF F (cg ρ q (F.2 q k).2.1) → sN ρ F n (cg ρ q (F.2 q k).2.1).toNat x ≤ 12 * x + 12 + 24 * (spF (LL ρ) (q / 12) - m - 1) := by
        intro x h0 hx
        obtain ⟨b, b1, -, b2⟩ := e2 h0
        have d1 := a2 h0
        rw [hsF_pos h0] at hx
        rw [b2, Int.toNat_natCast] at d1 hx ⊢
        have i1 := ih _ x d1 hx
        have := mN_11 (F := F) (s := spA (LL ρ) m (spF (LL ρ) (q / 12))) (k := x) b1
        have l1 : lnq ρ (12 * spA (LL ρ) m (spF (LL ρ) (q / 12)) + b) = spF (LL ρ) (q / 12) - m := by
          unfold lnq
          have := sp_a hL (i := m) (j := spF (LL ρ) (q / 12)) ⟨m2, qs.2.1⟩
          rw [show (12 * spA (LL ρ) m (spF (LL ρ) (q / 12)) + b) / 12 = spA (LL ρ) m (spF (LL ρ) (q / 12)) by omega, this.2.1, this.2.2]
        rw [l1, show (12 * spA (LL ρ) m (spF (LL ρ) (q / 12)) + b) / 12 = spA (LL ρ) m (spF (LL ρ) (q / 12)) by omega] at i1
        omega
      have A : (if cf ρ q (F.2 q k).2.1 < 0 then 0 else sN ρ F n (cf ρ q (F.2 q k).2.1).toNat (F.2 q k).2.2.1) ≤ 12 * (F.2 q k).2.2.1 + 12 + 24 * (m - spB (LL ρ) (q / 12) - 1) := by
        split
        · omega
        · next h0 => exact lf _ (by omega) z2
      have B : (if cg ρ q (F.2 q k).2.1 < 0 then 0 else sN ρ F n (cg ρ q (F.2 q k).2.1).toNat (F.2 q k).2.2.2) ≤ 12 * (F.2 q k).2.2.2 + 12 + 24 * (spF (LL ρ) (q / 12) - m - 1) := by
        split
        · omega
        · next h0 => exact lg _ (by omega) z3
      have el : lnq ρ q = spF (LL ρ) (q / 12) - spB (LL ρ) (q / 12) := rfl
      omega
theorem sN_360 {ρ : St} (hg : Wg ρ) (hL : LL ρ < 9) {F : Fo} {D : Nat → Prop} (hF : ClF ρ F D) (hT : ∀ q, D q → SgF ρ F q) (hD : ∀ q, D q → q < 12 * spN (LL ρ)) {n q k : Nat} (hq : D q) (hk : k < F.1 q) : sN ρ F n q k ≤ 360 := by
  have h := sN_le hg hL hF hT hD n q k hq hk
  have := (hT q hq).1
  have hqs := hD q hq
  have qs := sp_s hL (show q / 12 < spN (LL ρ) by omega)
  have m := mN_11 (F := F) (s := q / 12) (k := k) (a := q % 12) (by omega)
  rw [show 12 * (q / 12) + q % 12 = q by omega] at m
  unfold lnq at h
  omega
/-- an entry is a tree -/
theorem en_te {ρ : St} (hg : Wg ρ) (hL : LL ρ < 9) {F : Fo} {D : Nat → Prop} (hF : ClF ρ F D) (hD : ∀ q, D q → q < 12 * spN (LL ρ)) : ∀ (N s a k : Nat), a < 12 → D (12 * s + a) → k < F.1 (12 * s + a) → (F.2 (12 * s + a) k).1.toNat < N → Te ρ jA (a : Int) (spB (LL ρ) s : Nat) (spF (LL ρ) s : Nat) (F.2 (12 * s + a) k).1 := by
  intro N
  induction N with
  | zero => intro s a k _ _ _ h; omega
  | succ N ih =>
    intro s a k ha hq hk hN
    have hs : s < spN (LL ρ) := by have := hD _ hq; omega
    have cz := ((hF _ hq).1 k hk).1
    have sub := hF.sub hq cz
    obtain ⟨z1, z2, z3, z4⟩ := cz
    obtain ⟨a1, a2, a3⟩ := (hF _ hq).2.2 _ z1
    have qs := sp_s hL hs
    have part : ∀ (p : Int) (i j : Nat) (v : Int) (x : Nat), i < j ∧ j ≤ LL ρ → isPart p → pv ρ p i j ≠ -2 → v = pv ρ p i j → (0 ≤ v → D v.toNat) → x < hsF F v → scF F v x < (F.2 (12 * s + a) k).1 → Te ρ jA p (i : Int) (j : Int) (scF F v x) := by
      intro p i j v x hij hp hn hv hDv hx hlt
      obtain ⟨p1, p2, p3⟩ := pv_item hL hp hij hn
      rw [hv] at hx hlt hDv ⊢
      by_cases h0 : 0 ≤ pv ρ p i j
      · obtain ⟨b, b1, b2, b3⟩ := p2 h0
        have dd := hDv h0
        rw [hsF_pos h0] at hx
        rw [scF_pos h0] at hlt ⊢
        rw [b3, Int.toNat_natCast] at hx hlt dd ⊢
        have hh : (F.2 (12 * spA (LL ρ) i j + b) x).1.toNat < N := by clear p1 p2 p3; omega
        have := ih (spA (LL ρ) i j) b x b1 dd hx hh
        have q := sp_a hL hij
        rw [q.2.1, q.2.2] at this
        rw [b2]; exact this
      · have h100 := p3 (by omega)
        rw [scF_neg (by omega)]
        by_cases h2 : j = i + 1 ∧ ρ 11 i = p - 100
        · obtain ⟨e, e2⟩ := h2
          subst e
          push_cast
          exact Te.letter h100 (by rw [Int.toNat_natCast]; exact e2)
        · rw [pv_no h100 h2] at hn; exact absurd rfl hn
    obtain ⟨r, hr, h8, h3, hc, hcp, -, -, -, kind⟩ := cs_kind hg hL ha hs z1
    rw [hcp] at z4
    have hw := hg.2.2 r hr
    rcases kind with ⟨h5, e1, -, hn, ef, -⟩ | ⟨h5, m, m1, m2, -, n1, n2, ef, eg, -, -⟩
    · have t1 := part (ρ 4 r) (spB (LL ρ) s) (spF (LL ρ) s) _ _ ⟨qs.1, qs.2.1⟩ hw.2.1 hn ef a1 z2 sub.2.1
      rw [e1, scF_neg (p := -1) (by decide), Int.add_zero] at z4
      have := Te.single hr h8 h5 t1
      rw [h3] at this
      rw [z4]; exact this
    · have t1 := part (ρ 4 r) (spB (LL ρ) s) m _ _ ⟨m1, by omega⟩ hw.2.1 n1 ef a1 z2 sub.2.1
      have t2 := part (ρ 5 r) m (spF (LL ρ) s) _ _ ⟨m2, qs.2.1⟩ (hw.2.2.1.resolve_left h5) n2 eg a2 z3 sub.2.2
      have := Te.pair hr h8 h5 (by omega) (by omega) t1 t2
      rw [h3] at this
      rw [z4, Int.add_assoc]; exact this
/-- what a tree costs at most -/
theorem en_ub {ρ : St} (hg : Wg ρ) (hL : LL ρ < 9) {F : Fo} {D : Nat → Prop} (hF : ClF ρ F D) (hD : ∀ q, D q → q < 12 * spN (LL ρ)) : ∀ (N q k : Nat), D q → k < F.1 q → (F.2 q k).1.toNat < N → (F.2 q k).1 ≤ 99 * (sN ρ F N q k : Nat) := by
  intro N
  induction N with
  | zero => intro q k _ _ h; omega
  | succ N ih =>
    intro q k hq hk hN
    have cz := ((hF q hq).1 k hk).1
    have sub := hF.sub hq cz
    obtain ⟨z1, z2, z3, z4⟩ := cz
    obtain ⟨a1, a2, a3⟩ := (hF q hq).2.2 _ z1
    have hqs := hD q hq
    have eqq : 12 * (q / 12) + q % 12 = q := by omega
    have kind := cs_kind hg hL (show q % 12 < 12 by omega) (show q / 12 < spN (LL ρ) by omega) (t := (F.2 q k).2.1) (by rw [eqq]; exact z1)
    rw [eqq] at kind
    obtain ⟨r, -, -, -, -, hcp, hpr, -⟩ := kind
    have part : ∀ (p : Int) (x : Nat), (0 ≤ p → D p.toNat) → x < hsF F p → scF F p x < (F.2 q k).1 → scF F p x ≤ 99 * ((if p < 0 then 0 else sN ρ F N p.toNat x : Nat) : Int) := by
      intro p x hp hx hlt
      by_cases h0 : p < 0
      · rw [scF_neg h0, if_pos h0]; decide
      · rw [if_neg h0]
        rw [hsF_pos (by omega)] at hx
        rw [scF_pos (by omega)] at hlt ⊢
        exact ih _ x (hp (by omega)) hx (by omega)
    have A := part _ _ a1 z2 sub.2.1
    have B := part _ _ a2 z3 sub.2.2
    rw [z4]
    unfold sN
    push_cast at A B ⊢
    omega
theorem ub_of {ρ : St} (hg : Wg ρ) (hL : LL ρ < 9) {F : Fo} {D : Nat → Prop} (hF : ClF ρ F D) (hT : ∀ q, D q → SgF ρ F q) (hD : ∀ q, D q → q < 12 * spN (LL ρ)) {q k : Nat} (hq : D q) (hk : k < F.1 q) : (F.2 q k).1 ≤ 35640 := by
  have h := en_ub hg hL hF hD ((F.2 q k).1.toNat + 1) q k hq hk (by omega)
  have := sN_360 hg hL hF hT hD (n := (F.2 q k).1.toNat + 1) hq hk
  omega
/-! cases stand by rule, then by where they part -/
def Rcs (c d : Int × Int × Int × Int) : Prop := c.1 < d.1 ∨ (c.1 = d.1 ∧ c.2.1 < d.2.1)
theorem cOne_pw {r : Nat} {m f s : Int} : List.Pairwise Rcs (cOne r m f s) := by
  unfold cOne
  split
  · exact List.Pairwise.nil
  · exact List.pairwise_singleton _ _
theorem cB_pw {ρ : St} {r i j : Nat} : ∀ d, List.Pairwise Rcs (cB ρ r i j d)
  | 0 => List.Pairwise.nil
  | d + 1 => by
    unfold cB
    rw [List.pairwise_append]
    refine ⟨cB_pw d, cOne_pw, fun c hc e he => ?_⟩
    rw [mem_cB] at hc
    rw [mem_cOne] at he
    obtain ⟨m, m1, m2, -, -, rfl⟩ := hc
    obtain ⟨-, -, rfl⟩ := he
    exact Or.inr ⟨rfl, by show ((m : Nat) : Int) < ((i + 1 + d : Nat) : Int); omega⟩
theorem cC_pw {ρ : St} {r i j : Nat} : List.Pairwise Rcs (cC ρ i j r) := by
  unfold cC
  split
  · exact cOne_pw
  · exact cB_pw _
theorem cC_1 {ρ : St} {r i j : Nat} {c : Int × Int × Int × Int} (h : c ∈ cC ρ i j r) : c.1 = (r : Int) := by
  rw [mem_cC] at h
  rcases h with ⟨-, -, rfl⟩ | ⟨-, m, -, -, -, -, rfl⟩
  · rfl
  · rfl
theorem cS_pw {ρ : St} {s : Nat} : ∀ l : List Nat, List.Pairwise (fun a b : Nat => a < b) l → List.Pairwise Rcs (cS ρ s l)
  | [], _ => List.Pairwise.nil
  | r :: l, h => by
    rw [List.pairwise_cons] at h
    unfold cS
    rw [List.flatMap_cons, List.pairwise_append]
    refine ⟨cC_pw, cS_pw l h.2, fun c hc e he => ?_⟩
    rw [List.mem_flatMap] at he
    obtain ⟨r2, h2, he⟩ := he
    have := h.1 r2 h2
    rw [Rcs, cC_1 hc, cC_1 he]
    exact Or.inl (by omega)
theorem liA_pw {ρ : St} {a : Nat} : ∀ n, List.Pairwise (fun a b : Nat => a < b) (liA ρ a n)
  | 0 => List.Pairwise.nil
  | n + 1 => by
    show List.Pairwise _ (liA ρ a n ++ (if inA ρ a n = true then [n] else []))
    rw [List.pairwise_append]
    refine ⟨liA_pw n, ?_, fun x hx y hy => ?_⟩
    · split
      · exact List.pairwise_singleton _ _
      · exact List.Pairwise.nil
    · rw [mem_liA] at hx
      split at hy
      · rw [List.mem_singleton] at hy; omega
      · cases hy
theorem cI_pw {ρ : St} {q t u : Nat} (htu : t < u) (hu : u < (cI ρ q).length) : Rcs (cq ρ q t) (cq ρ q u) := by
  have h : List.Pairwise Rcs (cI ρ q) := cS_pw _ (liA_pw _)
  rw [cq_get (by omega), cq_get hu]
  exact List.pairwise_iff_getElem.1 h t u (by omega) hu htu
