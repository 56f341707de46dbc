/-! the best trees, as places: an entry is its cost, its case, the places of its parts' trees; a forest has a number of entries for each item, and the entries -/
abbrev En := Int × Nat × Nat × Nat
abbrev Fo := (Nat → Nat) × (Nat → Nat → En)
def cq (ρ : St) (q t : Nat) : Int × Int × Int × Int := (cI ρ q).getD t (0, 0, -1, -1)
def cf (ρ : St) (q t : Nat) : Int := (cq ρ q t).2.2.1
def cg (ρ : St) (q t : Nat) : Int := (cq ρ q t).2.2.2
def cp (ρ : St) (q t : Nat) : Int := ρ 6 (cq ρ q t).1.toNat
def hsF (F : Fo) (p : Int) : Nat := if p < 0 then 1 else F.1 p.toNat
def scF (F : Fo) (p : Int) (x : Nat) : Int := if p < 0 then 0 else (F.2 p.toNat x).1
def CandE (ρ : St) (F : Fo) (q : Nat) (z : En) : Prop := z.2.1 < (cI ρ q).length ∧ z.2.2.1 < hsF F (cf ρ q z.2.1) ∧ z.2.2.2 < hsF F (cg ρ q z.2.1) ∧ z.1 = cp ρ q z.2.1 + scF F (cf ρ q z.2.1) z.2.2.1 + scF F (cg ρ q z.2.1) z.2.2.2
def FLn (ρ : St) (F : Fo) : Nat → Nat → Nat → Nat → Prop
  | 0, _, _, _ => False
  | n + 1, q, k, l => (F.2 q k).2.1 < (F.2 q l).2.1 ∨ ((F.2 q k).2.1 = (F.2 q l).2.1 ∧ (((F.2 q k).2.2.1 ≠ (F.2 q l).2.2.1 ∧ FLn ρ F n (cf ρ q (F.2 q k).2.1).toNat (F.2 q k).2.2.1 (F.2 q l).2.2.1) ∨ ((F.2 q k).2.2.1 = (F.2 q l).2.2.1 ∧ (F.2 q k).2.2.2 ≠ (F.2 q l).2.2.2 ∧ FLn ρ F n (cg ρ q (F.2 q k).2.1).toNat (F.2 q k).2.2.2 (F.2 q l).2.2.2)))
def FL (ρ : St) (F : Fo) (q k l : Nat) : Prop := ∃ n, FLn ρ F n q k l
def SHp (ρ : St) (F : Fo) (q : Nat) (z w : En) : Prop := z.2.1 < w.2.1 ∨ (z.2.1 = w.2.1 ∧ ((z.2.2.1 ≠ w.2.2.1 ∧ FL ρ F (cf ρ q z.2.1).toNat z.2.2.1 w.2.2.1) ∨ (z.2.2.1 = w.2.2.1 ∧ z.2.2.2 ≠ w.2.2.2 ∧ FL ρ F (cg ρ q z.2.1).toNat z.2.2.2 w.2.2.2)))
def ltE (ρ : St) (F : Fo) (q : Nat) (z w : En) : Prop := z.1 < w.1 ∨ (z.1 = w.1 ∧ SHp ρ F q z w)
theorem FL_iff {ρ : St} {F : Fo} {q k l : Nat} : FL ρ F q k l ↔ SHp ρ F q (F.2 q k) (F.2 q l) := by
  constructor
  · rintro ⟨n, h⟩
    cases n with
    | zero => exact h.elim
    | succ n =>
      rcases h with h | ⟨h, ⟨h1, h2⟩ | ⟨h1, h2, h3⟩⟩
      · exact Or.inl h
      · exact Or.inr ⟨h, Or.inl ⟨h1, n, h2⟩⟩
      · exact Or.inr ⟨h, Or.inr ⟨h1, h2, n, h3⟩⟩
  · rintro (h | ⟨h, ⟨h1, n, h2⟩ | ⟨h1, h2, n, h3⟩⟩)
    · exact ⟨1, Or.inl h⟩
    · exact ⟨n + 1, Or.inr ⟨h, Or.inl ⟨h1, h2⟩⟩⟩
    · exact ⟨n + 1, Or.inr ⟨h, Or.inr ⟨h1, h2, h3⟩⟩⟩
theorem SHp.irr {ρ : St} {F : Fo} {q : Nat} {z : En} : ¬ SHp ρ F q z z := by
  rintro (h | ⟨-, ⟨h, -⟩ | ⟨-, h, -⟩⟩)
  · omega
  · exact h rfl
  · exact h rfl
theorem FL.irr {ρ : St} {F : Fo} {q k : Nat} : ¬ FL ρ F q k k := fun h => SHp.irr (FL_iff.1 h)
theorem FLn.tr {ρ : St} {F : Fo} : ∀ (n q k l m : Nat), FLn ρ F n q k l → FL ρ F q l m → FL ρ F q k m
  | 0, q, k, l, m, h, _ => h.elim
  | n + 1, q, k, l, m, h, h2 => by
    have ih := FLn.tr (ρ := ρ) (F := F) n
    rw [FL_iff] at h2 ⊢
    rcases h with h | ⟨h, ⟨a1, a2⟩ | ⟨a1, a2, a3⟩⟩
    · rcases h2 with g | ⟨g, -⟩
      · exact Or.inl (by omega)
      · exact Or.inl (by omega)
    · rcases h2 with g | ⟨g, ⟨b1, b2⟩ | ⟨b1, b2, b3⟩⟩
      · exact Or.inl (by omega)
      · rw [← h] at b2
        have t := ih _ _ _ _ a2 b2
        refine Or.inr ⟨by omega, Or.inl ⟨fun e => ?_, t⟩⟩
        rw [e] at t; exact FL.irr t
      · exact Or.inr ⟨by omega, Or.inl ⟨by omega, n, by rw [← b1]; exact a2⟩⟩
    · rcases h2 with g | ⟨g, ⟨b1, b2⟩ | ⟨b1, b2, b3⟩⟩
      · exact Or.inl (by omega)
      · rw [← h] at b2
        exact Or.inr ⟨by omega, Or.inl ⟨by omega, by rw [a1]; exact b2⟩⟩
      · rw [← h] at b3
        have t := ih _ _ _ _ a3 b3
        refine Or.inr ⟨by omega, Or.inr ⟨by omega, fun e => ?_, t⟩⟩
        rw [e] at t; exact FL.irr t
theorem FL.tr {ρ : St} {F : Fo} {q k l m : Nat} (h : FL ρ F q k l) (h2 : FL ρ F q l m) : FL ρ F q k m := by
  obtain ⟨n, h⟩ := h
  exact FLn.tr n q k l m h h2
theorem SHp.tr {ρ : St} {F : Fo} {q : Nat} {z w v : En} (h : SHp ρ F q z w) (h2 : SHp ρ F q w v) : SHp ρ F q z v := by
  rcases h with h | ⟨h, ⟨a1, a2⟩ | ⟨a1, a2, a3⟩⟩
  · rcases h2 with g | ⟨g, -⟩
    · exact Or.inl (by omega)
    · exact Or.inl (by omega)
  · rcases h2 with g | ⟨g, ⟨b1, b2⟩ | ⟨b1, b2, b3⟩⟩
    · exact Or.inl (by omega)
    · rw [← h] at b2
      have t := a2.tr b2
      refine Or.inr ⟨by omega, Or.inl ⟨fun e => ?_, t⟩⟩
      rw [e] at t; exact FL.irr t
    · exact Or.inr ⟨by omega, Or.inl ⟨by omega, by rw [← b1]; exact a2⟩⟩
  · rcases h2 with g | ⟨g, ⟨b1, b2⟩ | ⟨b1, b2, b3⟩⟩
    · exact Or.inl (by omega)
    · rw [← h] at b2
      exact Or.inr ⟨by omega, Or.inl ⟨by omega, by rw [a1]; exact b2⟩⟩
    · rw [← h] at b3
      have t := a3.tr b3
      refine Or.inr ⟨by omega, Or.inr ⟨by omega, fun e => ?_, t⟩⟩
      rw [e] at t; exact FL.irr t
theorem ltE.irr {ρ : St} {F : Fo} {q : Nat} {z : En} : ¬ ltE ρ F q z z := by
  rintro (h | ⟨-, h⟩)
  · omega
  · exact SHp.irr h
theorem ltE.tr {ρ : St} {F : Fo} {q : Nat} {z w v : En} (h : ltE ρ F q z w) (h2 : ltE ρ F q w v) : ltE ρ F q z v := by
  rcases h with h | ⟨h, h1⟩ <;> rcases h2 with g | ⟨g, g1⟩
  · exact Or.inl (by omega)
  · exact Or.inl (by omega)
  · exact Or.inl (by omega)
  · exact Or.inr ⟨by omega, h1.tr g1⟩
theorem ltE.ne {ρ : St} {F : Fo} {q : Nat} {z w : En} (h : ltE ρ F q z w) : z ≠ w := fun e => by rw [e] at h; exact ltE.irr h
theorem ltE.le {ρ : St} {F : Fo} {q : Nat} {z w : En} (h : ltE ρ F q z w) : z.1 ≤ w.1 := by
  rcases h with h | ⟨h, -⟩ <;> omega
/-- the items of D are well made: their entries are cases of parts that are there, they go up, and parts are of D too -/
def ClF (ρ : St) (F : Fo) (D : Nat → Prop) : Prop := ∀ q, D q → (∀ k, k < F.1 q → CandE ρ F q (F.2 q k) ∧ 1 ≤ (F.2 q k).1) ∧ (∀ k l, k < l → l < F.1 q → ltE ρ F q (F.2 q k) (F.2 q l)) ∧ (∀ t, t < (cI ρ q).length → (0 ≤ cf ρ q t → D (cf ρ q t).toNat) ∧ (0 ≤ cg ρ q t → D (cg ρ q t).toNat) ∧ 1 ≤ cp ρ q t)
theorem hsF_neg {F : Fo} {p : Int} (h : p < 0) : hsF F p = 1 := by unfold hsF; rw [if_pos h]
theorem hsF_pos {F : Fo} {p : Int} (h : 0 ≤ p) : hsF F p = F.1 p.toNat := by unfold hsF; rw [if_neg (by omega)]
theorem scF_neg {F : Fo} {p : Int} {x : Nat} (h : p < 0) : scF F p x = 0 := by unfold scF; rw [if_pos h]
theorem scF_pos {F : Fo} {p : Int} {x : Nat} (h : 0 ≤ p) : scF F p x = (F.2 p.toNat x).1 := by unfold scF; rw [if_neg (by omega)]
theorem ClF.sc {ρ : St} {F : Fo} {D : Nat → Prop} (h : ClF ρ F D) {p : Int} (hp : 0 ≤ p → D p.toNat) {x : Nat} (hx : x < hsF F p) : 0 ≤ scF F p x := by
  by_cases h0 : p < 0
  · rw [scF_neg h0]; exact Int.le_refl _
  · rw [hsF_pos (by omega)] at hx
    rw [scF_pos (by omega)]
    have := ((h _ (hp (by omega))).1 x hx).2
    omega
/-- a part's tree costs less -/
theorem ClF.sub {ρ : St} {F : Fo} {D : Nat → Prop} (h : ClF ρ F D) {q : Nat} (hq : D q) {z : En} (hz : CandE ρ F q z) : 1 ≤ z.1 ∧ scF F (cf ρ q z.2.1) z.2.2.1 < z.1 ∧ scF F (cg ρ q z.2.1) z.2.2.2 < z.1 := by
  obtain ⟨h1, h2, h3, h4⟩ := hz
  obtain ⟨a1, a2, a3⟩ := (h q hq).2.2 _ h1
  have b1 := h.sc a1 h2
  have b2 := h.sc a2 h3
  omega
theorem ClF.mono {ρ : St} {F : Fo} {D : Nat → Prop} (h : ClF ρ F D) {q : Nat} (hq : D q) {k l : Nat} (hkl : k ≤ l) (hl : l < F.1 q) : (F.2 q k).1 ≤ (F.2 q l).1 := by
  by_cases e : k = l
  · rw [e]; exact Int.le_refl _
  · exact ((h q hq).2.1 k l (by omega) hl).le
theorem ClF.same {ρ : St} {F : Fo} {D : Nat → Prop} (h : ClF ρ F D) {q : Nat} (hq : D q) {k l : Nat} (hkl : k < l) (hl : l < F.1 q) (e : (F.2 q k).1 = (F.2 q l).1) : FL ρ F q k l := by
  rw [FL_iff]
  rcases (h q hq).2.1 k l hkl hl with g | ⟨-, g⟩
  · omega
  · exact g
theorem ClF.smono {ρ : St} {F : Fo} {D : Nat → Prop} (h : ClF ρ F D) {p : Int} (hp : 0 ≤ p → D p.toNat) {x x2 : Nat} (hx : x ≤ x2) (h2 : x2 < hsF F p) : scF F p x ≤ scF F p x2 := by
  by_cases h0 : p < 0
  · rw [scF_neg h0, scF_neg h0]; exact Int.le_refl _
  · rw [hsF_pos (by omega)] at h2
    rw [scF_pos (by omega), scF_pos (by omega)]
    exact h.mono (hp (by omega)) hx h2
theorem ClF.up1 {ρ : St} {F : Fo} {D : Nat → Prop} (h : ClF ρ F D) {q : Nat} (hq : D q) {c c2 : Int} {t x x2 y : Nat} (hz : CandE ρ F q (c, t, x, y)) (hw : CandE ρ F q (c2, t, x2, y)) (hx : x < x2) : ltE ρ F q (c, t, x, y) (c2, t, x2, y) := by
  obtain ⟨z1, z2, z3, z4⟩ := hz
  obtain ⟨w1, w2, w3, w4⟩ := hw
  simp only at z1 z2 z3 z4 w1 w2 w3 w4
  obtain ⟨a1, a2, a3⟩ := (h q hq).2.2 t z1
  have m := h.smono a1 (Nat.le_of_lt hx) w2
  by_cases e : c = c2
  · refine Or.inr ⟨e, Or.inr ⟨rfl, Or.inl ⟨by show x ≠ x2; omega, ?_⟩⟩⟩
    show FL ρ F (cf ρ q t).toNat x x2
    by_cases h0 : cf ρ q t < 0
    · rw [hsF_neg h0] at w2; omega
    · rw [hsF_pos (by omega)] at w2
      rw [scF_pos (by omega)] at z4 w4 m
      rw [scF_pos (by omega)] at m
      exact h.same (a1 (by omega)) hx w2 (by omega)
  · exact Or.inl (by show c < c2; omega)
theorem ClF.up2 {ρ : St} {F : Fo} {D : Nat → Prop} (h : ClF ρ F D) {q : Nat} (hq : D q) {c c2 : Int} {t x y y2 : Nat} (hz : CandE ρ F q (c, t, x, y)) (hw : CandE ρ F q (c2, t, x, y2)) (hy : y < y2) : ltE ρ F q (c, t, x, y) (c2, t, x, y2) := by
  obtain ⟨z1, z2, z3, z4⟩ := hz
  obtain ⟨w1, w2, w3, w4⟩ := hw
  simp only at z1 z2 z3 z4 w1 w2 w3 w4
  obtain ⟨a1, a2, a3⟩ := (h q hq).2.2 t z1
  have m := h.smono a2 (Nat.le_of_lt hy) w3
  by_cases e : c = c2
  · refine Or.inr ⟨e, Or.inr ⟨rfl, Or.inr ⟨rfl, by show y ≠ y2; omega, ?_⟩⟩⟩
    show FL ρ F (cg ρ q t).toNat y y2
    by_cases h0 : cg ρ q t < 0
    · rw [hsF_neg h0] at w3; omega
    · rw [hsF_pos (by omega)] at w3
      rw [scF_pos (by omega)] at m
      rw [scF_pos (p := cg ρ q t) (by omega)] at m
      rw [scF_pos (p := cg ρ q t) (by omega)] at z4 w4
      exact h.same (a2 (by omega)) hy w3 (by omega)
  · exact Or.inl (by show c < c2; omega)
/-- two different trees of an item stand in some order -/
theorem ClF.tot {ρ : St} {F : Fo} {D : Nat → Prop} (h : ClF ρ F D) : ∀ (N : Nat) (q k l : Nat), D q → k < F.1 q → l < F.1 q → k ≠ l → (F.2 q k).1.toNat < N → FL ρ F q k l ∨ FL ρ F q l k := by
  intro N
  induction N with
  | zero => intro q k l _ _ _ _ h0; omega
  | succ N ih =>
    intro q k l hq hk hl hne hN
    rw [FL_iff, FL_iff]
    have ck := ((h q hq).1 k hk).1
    have cl := ((h q hq).1 l hl).1
    obtain ⟨s1, s2, s3⟩ := h.sub hq ck
    have hd : F.2 q k ≠ F.2 q l := by
      rcases Nat.lt_or_ge k l with g | g
      · exact ((h q hq).2.1 k l g hl).ne
      · exact fun e => ((h q hq).2.1 l k (by omega) hk).ne e.symm
    obtain ⟨k1, k2, k3, k4⟩ := ck
    obtain ⟨l1, l2, l3, l4⟩ := cl
    obtain ⟨a1, a2, a3⟩ := (h q hq).2.2 _ k1
    rcases Nat.lt_trichotomy (F.2 q k).2.1 (F.2 q l).2.1 with g | g | g
    · exact Or.inl (Or.inl g)
    · rw [← g] at l2 l3 l4
      by_cases hx : (F.2 q k).2.2.1 = (F.2 q l).2.2.1
      · by_cases hy : (F.2 q k).2.2.2 = (F.2 q l).2.2.2
        · exfalso
          apply hd
          have e1 : (F.2 q k).1 = (F.2 q l).1 := by rw [k4, l4, hx, hy]
          exact Prod.ext e1 (Prod.ext g (Prod.ext hx hy))
        · by_cases h0 : cg ρ q (F.2 q k).2.1 < 0
          · rw [hsF_neg h0] at k3 l3; omega
          · rw [hsF_pos (by omega)] at k3 l3
            rw [scF_pos (p := cg ρ q (F.2 q k).2.1) (by omega)] at s3
            rcases ih _ _ _ (a2 (by omega)) k3 l3 hy (by omega) with r | r
            · exact Or.inl (Or.inr ⟨g, Or.inr ⟨hx, hy, r⟩⟩)
            · refine Or.inr (Or.inr ⟨g.symm, Or.inr ⟨hx.symm, fun e => hy e.symm, ?_⟩⟩)
              rw [← g]; exact r
      · by_cases h0 : cf ρ q (F.2 q k).2.1 < 0
        · rw [hsF_neg h0] at k2 l2; omega
        · rw [hsF_pos (by omega)] at k2 l2
          rw [scF_pos (p := cf ρ q (F.2 q k).2.1) (by omega)] at s2
          rcases ih _ _ _ (a1 (by omega)) k2 l2 hx (by omega) with r | r
          · exact Or.inl (Or.inr ⟨g, Or.inl ⟨hx, r⟩⟩)
          · refine Or.inr (Or.inr ⟨g.symm, Or.inl ⟨fun e => hx e.symm, ?_⟩⟩)
            rw [← g]; exact r
    · exact Or.inr (Or.inl g)
theorem ClF.shT {ρ : St} {F : Fo} {D : Nat → Prop} (h : ClF ρ F D) {q : Nat} (hq : D q) {z w : En} (hz : CandE ρ F q z) (hw : CandE ρ F q w) (hne : z ≠ w) : SHp ρ F q z w ∨ SHp ρ F q w z := by
  obtain ⟨k1, k2, k3, k4⟩ := hz
  obtain ⟨l1, l2, l3, l4⟩ := hw
  obtain ⟨a1, a2, a3⟩ := (h q hq).2.2 _ k1
  rcases Nat.lt_trichotomy z.2.1 w.2.1 with g | g | g
  · exact Or.inl (Or.inl g)
  · rw [← g] at l2 l3 l4
    by_cases hx : z.2.2.1 = w.2.2.1
    · by_cases hy : z.2.2.2 = w.2.2.2
      · exfalso
        apply hne
        have e1 : z.1 = w.1 := by rw [k4, l4, hx, hy]
        exact Prod.ext e1 (Prod.ext g (Prod.ext hx hy))
      · by_cases h0 : cg ρ q z.2.1 < 0
        · rw [hsF_neg h0] at k3 l3; omega
        · rw [hsF_pos (by omega)] at k3 l3
          rcases h.tot _ _ _ _ (a2 (by omega)) k3 l3 hy (Nat.lt_succ_self _) with r | r
          · exact Or.inl (Or.inr ⟨g, Or.inr ⟨hx, hy, r⟩⟩)
          · refine Or.inr (Or.inr ⟨g.symm, Or.inr ⟨hx.symm, fun e => hy e.symm, ?_⟩⟩)
            rw [← g]; exact r
    · by_cases h0 : cf ρ q z.2.1 < 0
      · rw [hsF_neg h0] at k2 l2; omega
      · rw [hsF_pos (by omega)] at k2 l2
        rcases h.tot _ _ _ _ (a1 (by omega)) k2 l2 hx (Nat.lt_succ_self _) with r | r
        · exact Or.inl (Or.inr ⟨g, Or.inl ⟨hx, r⟩⟩)
        · refine Or.inr (Or.inr ⟨g.symm, Or.inl ⟨fun e => hx e.symm, ?_⟩⟩)
          rw [← g]; exact r
  · exact Or.inr (Or.inl g)
theorem ClF.ltT {ρ : St} {F : Fo} {D : Nat → Prop} (h : ClF ρ F D) {q : Nat} (hq : D q) {z w : En} (hz : CandE ρ F q z) (hw : CandE ρ F q w) (hne : z ≠ w) : ltE ρ F q z w ∨ ltE ρ F q w z := by
  rcases Int.lt_trichotomy z.1 w.1 with g | g | g
  · exact Or.inl (Or.inl g)
  · rcases h.shT hq hz hw hne with r | r
    · exact Or.inl (Or.inr ⟨g, r⟩)
    · exact Or.inr (Or.inr ⟨g.symm, r⟩)
  · exact Or.inr (Or.inl g)
/-- a forest that has more: the old order stays -/
def ExF (F F1 : Fo) : Prop := ∀ q, F.1 q ≤ F1.1 q ∧ ∀ k, k < F.1 q → F1.2 q k = F.2 q k
def ExD (D : Nat → Prop) (F F1 : Fo) : Prop := ∀ q, D q → F.1 q ≤ F1.1 q ∧ ∀ k, k < F.1 q → F1.2 q k = F.2 q k
theorem ExD.fln {ρ : St} {F F1 : Fo} {D : Nat → Prop} (h : ClF ρ F D) (hx : ExD D F F1) : ∀ (n q k l : Nat), D q → k < F.1 q → l < F.1 q → (FLn ρ F n q k l ↔ FLn ρ F1 n q k l)
  | 0, q, k, l, _, _, _ => Iff.rfl
  | n + 1, q, k, l, hq, hk, hl => by
    have ih := ExD.fln (ρ := ρ) h hx n
    have ek := (hx q hq).2 k hk
    have el := (hx q hq).2 l hl
    obtain ⟨k1, k2, k3, k4⟩ := ((h q hq).1 k hk).1
    obtain ⟨l1, l2, l3, l4⟩ := ((h q hq).1 l hl).1
    obtain ⟨a1, a2, a3⟩ := (h q hq).2.2 _ k1
    unfold FLn
    rw [ek, el]
    have sx : (F.2 q k).2.1 = (F.2 q l).2.1 → (F.2 q k).2.2.1 ≠ (F.2 q l).2.2.1 → (FLn ρ F n (cf ρ q (F.2 q k).2.1).toNat (F.2 q k).2.2.1 (F.2 q l).2.2.1 ↔ FLn ρ F1 n (cf ρ q (F.2 q k).2.1).toNat (F.2 q k).2.2.1 (F.2 q l).2.2.1) := by
      intro g hne
      rw [← g] at l2
      by_cases h0 : cf ρ q (F.2 q k).2.1 < 0
      · rw [hsF_neg h0] at k2 l2; omega
      · rw [hsF_pos (by omega)] at k2 l2
        exact ih _ _ _ (a1 (by omega)) k2 l2
    have sy : (F.2 q k).2.1 = (F.2 q l).2.1 → (F.2 q k).2.2.2 ≠ (F.2 q l).2.2.2 → (FLn ρ F n (cg ρ q (F.2 q k).2.1).toNat (F.2 q k).2.2.2 (F.2 q l).2.2.2 ↔ FLn ρ F1 n (cg ρ q (F.2 q k).2.1).toNat (F.2 q k).2.2.2 (F.2 q l).2.2.2) := by
      intro g hne
      rw [← g] at l3
      by_cases h0 : cg ρ q (F.2 q k).2.1 < 0
      · rw [hsF_neg h0] at k3 l3; omega
      · rw [hsF_pos (by omega)] at k3 l3
        exact ih _ _ _ (a2 (by omega)) k3 l3
    constructor
    · rintro (g | ⟨g, ⟨g1, g2⟩ | ⟨g1, g2, g3⟩⟩)
      · exact Or.inl g
      · exact Or.inr ⟨g, Or.inl ⟨g1, (sx g g1).1 g2⟩⟩
      · exact Or.inr ⟨g, Or.inr ⟨g1, g2, (sy g g2).1 g3⟩⟩
    · rintro (g | ⟨g, ⟨g1, g2⟩ | ⟨g1, g2, g3⟩⟩)
      · exact Or.inl g
      · exact Or.inr ⟨g, Or.inl ⟨g1, (sx g g1).2 g2⟩⟩
      · exact Or.inr ⟨g, Or.inr ⟨g1, g2, (sy g g2).2 g3⟩⟩
theorem ExD.fl {ρ : St} {F F1 : Fo} {D : Nat → Prop} (h : ClF ρ F D) (hx : ExD D F F1) {q k l : Nat} (hq : D q) (hk : k < F.1 q) (hl : l < F.1 q) : FL ρ F q k l ↔ FL ρ F1 q k l := ⟨fun ⟨n, g⟩ => ⟨n, (hx.fln h n q k l hq hk hl).1 g⟩, fun ⟨n, g⟩ => ⟨n, (hx.fln h n q k l hq hk hl).2 g⟩⟩
theorem ExD.sc {F F1 : Fo} {D : Nat → Prop} (hx : ExD D F F1) {p : Int} (hp : 0 ≤ p → D p.toNat) {x : Nat} (h : x < hsF F p) : x < hsF F1 p ∧ scF F1 p x = scF F p x := by
  by_cases h0 : p < 0
  · rw [hsF_neg h0] at *; rw [scF_neg h0, scF_neg h0]; exact ⟨h, rfl⟩
  · rw [hsF_pos (by omega)] at h
    rw [hsF_pos (by omega), scF_pos (by omega), scF_pos (by omega)]
    have := hx _ (hp (by omega))
    exact ⟨by omega, by rw [this.2 x h]⟩
theorem ExD.cand {ρ : St} {F F1 : Fo} {D : Nat → Prop} (h : ClF ρ F D) (hx : ExD D F F1) {q : Nat} (hq : D q) {z : En} (hz : CandE ρ F q z) : CandE ρ F1 q z := by
  obtain ⟨k1, k2, k3, k4⟩ := hz
  obtain ⟨a1, a2, a3⟩ := (h q hq).2.2 _ k1
  have b1 := hx.sc a1 k2
  have b2 := hx.sc a2 k3
  exact ⟨k1, b1.1, b2.1, by rw [b1.2, b2.2]; exact k4⟩
theorem ExD.sh {ρ : St} {F F1 : Fo} {D : Nat → Prop} (h : ClF ρ F D) (hx : ExD D F F1) {q : Nat} (hq : D q) {z w : En} (hz : CandE ρ F q z) (hw : CandE ρ F q w) : SHp ρ F q z w ↔ SHp ρ F1 q z w := by
  obtain ⟨k1, k2, k3, k4⟩ := hz
  obtain ⟨l1, l2, l3, l4⟩ := hw
  obtain ⟨a1, a2, a3⟩ := (h q hq).2.2 _ k1
  have sx : z.2.1 = w.2.1 → z.2.2.1 ≠ w.2.2.1 → (FL ρ F (cf ρ q z.2.1).toNat z.2.2.1 w.2.2.1 ↔ FL ρ F1 (cf ρ q z.2.1).toNat z.2.2.1 w.2.2.1) := by
    intro g hne
    rw [← g] at l2
    by_cases h0 : cf ρ q z.2.1 < 0
    · rw [hsF_neg h0] at k2 l2; omega
    · rw [hsF_pos (by omega)] at k2 l2
      exact hx.fl h (a1 (by omega)) k2 l2
  have sy : z.2.1 = w.2.1 → z.2.2.2 ≠ w.2.2.2 → (FL ρ F (cg ρ q z.2.1).toNat z.2.2.2 w.2.2.2 ↔ FL ρ F1 (cg ρ q z.2.1).toNat z.2.2.2 w.2.2.2) := by
    intro g hne
    rw [← g] at l3
    by_cases h0 : cg ρ q z.2.1 < 0
    · rw [hsF_neg h0] at k3 l3; omega
    · rw [hsF_pos (by omega)] at k3 l3
      exact hx.fl h (a2 (by omega)) k3 l3
  constructor
  · rintro (g | ⟨g, ⟨g1, g2⟩ | ⟨g1, g2, g3⟩⟩)
    · exact Or.inl g
    · exact Or.inr ⟨g, Or.inl ⟨g1, (sx g g1).1 g2⟩⟩
    · exact Or.inr ⟨g, Or.inr ⟨g1, g2, (sy g g2).1 g3⟩⟩
  · rintro (g | ⟨g, ⟨g1, g2⟩ | ⟨g1, g2, g3⟩⟩)
    · exact Or.inl g
    · exact Or.inr ⟨g, Or.inl ⟨g1, (sx g g1).2 g2⟩⟩
    · exact Or.inr ⟨g, Or.inr ⟨g1, g2, (sy g g2).2 g3⟩⟩
theorem ExD.lt {ρ : St} {F F1 : Fo} {D : Nat → Prop} (h : ClF ρ F D) (hx : ExD D F F1) {q : Nat} (hq : D q) {z w : En} (hz : CandE ρ F q z) (hw : CandE ρ F q w) : ltE ρ F q z w ↔ ltE ρ F1 q z w := by
  unfold ltE
  rw [hx.sh h hq hz hw]
/-- a row spells the first sixteen of a set -/
def TopP (lt : En → En → Prop) (P : En → Prop) (n : Nat) (L : Nat → En) : Prop := n ≤ 16 ∧ (∀ i, i < n → P (L i)) ∧ (∀ i j, i < j → j < n → lt (L i) (L j)) ∧ ∀ z, P z → (∃ i, i < n ∧ L i = z) ∨ (n = 16 ∧ ∀ i, i < 16 → lt (L i) z)
