/-! what the class reads of a walk -/
def tOf (F : Fo) (e : SpT) : Nat := (F.2 e.1 e.2.1).2.1
def rOf (ρ : St) (F : Fo) (e : SpT) : Int := (cq ρ e.1 (tOf F e)).1
def mOf (ρ : St) (F : Fo) (e : SpT) : Int := cm ρ e.1 (tOf F e)
def kyS (F : Fo) (e : SpT) : Nat × Nat := (e.1, tOf F e)
def alkL : List (Nat × Nat) → List (Nat × Nat) → Nat
  | a :: l, b :: m => if a = b then alkL l m + 1 else 0
  | _, _ => 0
theorem gd_W {ρ σ : St} {F : Fo} (hF : FoF ρ σ F) {q k d : Nat} (hq : fD ρ σ q) (hk : k < F.1 q) : ∀ e, e ∈ PTr ρ F q k d → gdS F (fD ρ σ) e := PTr_gd hF.2.1 _ q k d hq hk
def WSt (ρ σ : St) (F : Fo) (W : List SpT) : Prop := σ 68 7 = (W.length : Int) ∧ (∀ i (h : i < W.length), σ 71 i = (idS W[i] : Int)) ∧ (∀ e, e ∈ W → gdS F (fD ρ σ) e) ∧ W.length ≤ 360
def WSo (ρ σ : St) (F : Fo) (W : List SpT) : Prop := σ 72 7 = (W.length : Int) ∧ (∀ i (h : i < W.length), σ 75 i = (idS W[i] : Int)) ∧ (∀ e, e ∈ W → gdS F (fD ρ σ) e) ∧ W.length ≤ 360
theorem id_info {ρ σ : St} (hg : Wg ρ) (hL : LL ρ < 9) (hB : Bt ρ σ) {F : Fo} (hF : FoF ρ σ F) {e : SpT} (h : gdS F (fD ρ σ) e) : idS e < 6912 ∧ idS e / 16 = e.1 ∧ e.1 / 12 < spN (LL ρ) ∧ e.1 / 12 < 36 ∧ e.1 < 12 * spN (LL ρ) ∧ tOf F e < (cI ρ e.1).length ∧ σ 56 (idS e) = (((PL ρ e.1).length + tOf F e : Nat) : Int) ∧ (PL ρ e.1).length + tOf F e < 3360 ∧ σ 29 ((PL ρ e.1).length + tOf F e) = rOf ρ F e ∧ σ 30 ((PL ρ e.1).length + tOf F e) = mOf ρ F e ∧ σ 55 (idS e) = (F.2 e.1 e.2.1).1 := by
  have h3 := sp_3 _ hL
  have h4 := PL_3360 hg hL
  obtain ⟨hq, hk⟩ := h
  obtain ⟨p1, p2, p3, p4⟩ := hF.2.2.1 e.1 hq
  obtain ⟨c1, c2, c3, c4, c5⟩ := p4 e.2.1 hk
  have cz := ((hF.2.1 e.1 hq).1 e.2.1 hk).1
  obtain ⟨b0, b1, b2, b3, b4⟩ := hB.csq p1 cz.1
  unfold idS
  refine ⟨by omega, by omega, by omega, by omega, p1, cz.1, c2, ?_, b1, b2, c1⟩
  unfold tOf; omega
theorem c_ruleOf {ρ σ : St} (hg : Wg ρ) (hL : LL ρ < 9) (hB : Bt ρ σ) {F : Fo} (hF : FoF ρ σ F) {W : List SpT} (hW : WSt ρ σ F W) {x : Nat} {Q : Int → St → Prop} (h1 : ∀ h : x < W.length, Q (rOf ρ F W[x]) σ) (h2 : W.length ≤ x → Q (-1) σ) : wp_X10_ruleOf (x : Int) σ Q := by
  obtain ⟨w1, w2, w3, w4⟩ := hW
  unfold wp_X10_ruleOf wp_X10_ruleOf_b12 wp_X10_caseAt
  rw [w1, Int.toNat_natCast]
  refine ⟨fun h => absurd h (by omega), fun _ => ⟨fun h => ?_, fun h => h2 (by omega)⟩⟩
  have hx : x < W.length := by omega
  obtain ⟨i1, i2, i3, i4, i5, i6, i7, i8, i9, i10, i11⟩ := id_info hg hL hB hF (w3 _ (List.getElem_mem hx))
  rw [w2 x hx, Int.toNat_natCast, i7]
  simp only [Int.toNat_natCast, i9]
  exact ⟨by omega, by omega, by omega, h1 hx⟩
theorem c_middleOf {ρ σ : St} (hg : Wg ρ) (hL : LL ρ < 9) (hB : Bt ρ σ) {F : Fo} (hF : FoF ρ σ F) {W : List SpT} (hW : WSt ρ σ F W) {x : Nat} {Q : Int → St → Prop} (hx : x < W.length) (h1 : Q (mOf ρ F W[x]) σ) : wp_X10_middleOf (x : Int) σ Q := by
  obtain ⟨w1, w2, w3, w4⟩ := hW
  unfold wp_X10_middleOf wp_X10_middleOf_b12 wp_X10_caseAt
  rw [w1, Int.toNat_natCast]
  refine ⟨fun h => absurd h (by omega), fun _ => ⟨fun h => ?_, fun h => absurd (by omega) h⟩⟩
  obtain ⟨i1, i2, i3, i4, i5, i6, i7, i8, i9, i10, i11⟩ := id_info hg hL hB hF (w3 _ (List.getElem_mem hx))
  rw [w2 x hx, Int.toNat_natCast, i7]
  simp only [Int.toNat_natCast, i10]
  exact ⟨by omega, by omega, by omega, h1⟩
theorem c_beginOf {ρ σ : St} (hg : Wg ρ) (hL : LL ρ < 9) (hB : Bt ρ σ) {F : Fo} (hF : FoF ρ σ F) {W : List SpT} (hW : WSt ρ σ F W) {x : Nat} {Q : Int → St → Prop} (hx : x < W.length) (h1 : Q (spB (LL ρ) (W[x].1 / 12) : Nat) σ) : wp_X10_beginOf (x : Int) σ Q := by
  obtain ⟨w1, w2, w3, w4⟩ := hW
  unfold wp_X10_beginOf wp_X10_beginOf_b12 wp_X0_beginOf
  rw [w1, Int.toNat_natCast]
  refine ⟨fun h => absurd h (by omega), fun _ => ⟨fun h => ?_, fun h => absurd (by omega) h⟩⟩
  obtain ⟨i1, i2, i3, i4, i5, -⟩ := id_info hg hL hB hF (w3 _ (List.getElem_mem hx))
  rw [w2 x hx, b_div_eq (a := ((idS W[x] : Nat) : Int)) (by omega) (by omega) (by decide) (by decide), show ((idS W[x] : Nat) : Int) / 16 = (W[x].1 : Int) by omega, b_div_eq (by omega) (by omega) (by decide) (by decide), show ((W[x].1 : Nat) : Int) / 12 = ((W[x].1 / 12 : Nat) : Int) by omega, Int.toNat_natCast, (hB.1.2.1.2.2.1 _ i3).1]
  exact ⟨by omega, by omega, h1⟩
theorem c_finishOf {ρ σ : St} (hg : Wg ρ) (hL : LL ρ < 9) (hB : Bt ρ σ) {F : Fo} (hF : FoF ρ σ F) {W : List SpT} (hW : WSt ρ σ F W) {x : Nat} {Q : Int → St → Prop} (hx : x < W.length) (h1 : Q (spF (LL ρ) (W[x].1 / 12) : Nat) σ) : wp_X10_finishOf (x : Int) σ Q := by
  obtain ⟨w1, w2, w3, w4⟩ := hW
  unfold wp_X10_finishOf wp_X10_finishOf_b12 wp_X0_finishOf
  rw [w1, Int.toNat_natCast]
  refine ⟨fun h => absurd h (by omega), fun _ => ⟨fun h => ?_, fun h => absurd (by omega) h⟩⟩
  obtain ⟨i1, i2, i3, i4, i5, -⟩ := id_info hg hL hB hF (w3 _ (List.getElem_mem hx))
  rw [w2 x hx, b_div_eq (a := ((idS W[x] : Nat) : Int)) (by omega) (by omega) (by decide) (by decide), show ((idS W[x] : Nat) : Int) / 16 = (W[x].1 : Int) by omega, b_div_eq (by omega) (by omega) (by decide) (by decide), show ((W[x].1 : Nat) : Int) / 12 = ((W[x].1 / 12 : Nat) : Int) by omega, Int.toNat_natCast, (hB.1.2.1.2.2.1 _ i3).2]
  exact ⟨by omega, by omega, h1⟩
/-- a case's place tells its item -/
theorem PL_mo {ρ : St} {q p : Nat} (h : q < p) : (PL ρ q).length + (cI ρ q).length ≤ (PL ρ p).length := by
  obtain ⟨l, hl⟩ := PL_split (ρ := ρ) (q := q) (p - (q + 1))
  rw [show q + 1 + (p - (q + 1)) = p by omega] at hl
  rw [hl, List.length_append, List.length_append]; omega
theorem PL_inj {ρ : St} {q p t u : Nat} (ht : t < (cI ρ q).length) (hu : u < (cI ρ p).length) (h : (PL ρ q).length + t = (PL ρ p).length + u) : (q, t) = (p, u) := by
  rcases Nat.lt_trichotomy q p with g | g | g
  · have := PL_mo (ρ := ρ) g; omega
  · subst g
    have : t = u := by omega
    rw [this]
  · have := PL_mo (ρ := ρ) g; omega
theorem alk_drop {l m : List (Nat × Nat)} {x : Nat} (h1 : x < l.length) (h2 : x < m.length) : alkL (l.drop x) (m.drop x) = if l[x] = m[x] then alkL (l.drop (x + 1)) (m.drop (x + 1)) + 1 else 0 := by
  rw [List.drop_eq_getElem_cons h1, List.drop_eq_getElem_cons h2]
  rfl
theorem alk_end {l m : List (Nat × Nat)} (h : l = [] ∨ m = []) : alkL l m = 0 := by
  rcases h with h | h
  · subst h; unfold alkL; rfl
  · subst h; cases l <;> rfl
theorem c_alikeWith {ρ σ : St} (hg : Wg ρ) (hL : LL ρ < 9) (hB : Bt ρ σ) {F : Fo} (hF : FoF ρ σ F) {W U : List SpT} (hW : WSt ρ σ F W) (hU : WSo ρ σ F U) {Q : Int → St → Prop} (h : Q (alkL (W.map (kyS F)) (U.map (kyS F)) : Nat) σ) : wp_X10_alikeWith_c72 σ Q := by
  obtain ⟨w1, w2, w3, w4⟩ := hW
  obtain ⟨u1, u2, u3, u4⟩ := hU
  have lp : ∀ (d x n : Nat), x + d = min W.length U.length → d < n → alkL (W.map (kyS F)) (U.map (kyS F)) = x + alkL ((W.map (kyS F)).drop x) ((U.map (kyS F)).drop x) → wp_X10_alikeWith_c72_l14 Q n ((min W.length U.length : Nat) : Int) (x : Int) σ := by
    intro d
    induction d with
    | zero =>
      intro x n hd hn hx
      obtain ⟨n, rfl⟩ := suc_n hn
      unfold wp_X10_alikeWith_c72_l14
      refine ⟨fun _ => ?_, fun w => absurd (by omega) w⟩
      have ez : alkL ((W.map (kyS F)).drop x) ((U.map (kyS F)).drop x) = 0 := alk_end (by
        rcases (by omega : W.length ≤ x ∨ U.length ≤ x) with g | g
        · exact Or.inl (List.drop_eq_nil_of_le (by rw [List.length_map]; exact g))
        · exact Or.inr (List.drop_eq_nil_of_le (by rw [List.length_map]; exact g)))
      rw [ez, Nat.add_zero] at hx
      rw [hx] at h; exact h
    | succ d ih =>
      intro x n hd hn hx
      obtain ⟨n, rfl⟩ := suc_n hn
      have hw : x < W.length := by omega
      have hu : x < U.length := by omega
      obtain ⟨i1, i2, i3, i4, i5, i6, i7, i8, i9, i10, i11⟩ := id_info hg hL hB hF (w3 _ (List.getElem_mem hw))
      obtain ⟨j1, j2, j3, j4, j5, j6, j7, j8, j9, j10, j11⟩ := id_info hg hL hB hF (u3 _ (List.getElem_mem hu))
      rw [alk_drop (by rw [List.length_map]; exact hw) (by rw [List.length_map]; exact hu), List.getElem_map, List.getElem_map] at hx
      unfold wp_X10_alikeWith_c72_l14 wp_X10_caseAt wp_X10_caseAt_o
      simp only [Int.toNat_natCast, w2 x hw, u2 x hu, i7, j7]
      refine ⟨fun w => absurd w (by omega), fun _ => ⟨by omega, by omega, by omega, by omega, fun hne => ?_, fun he v ev => ?_⟩⟩
      · rw [if_neg (fun e : kyS F W[x] = kyS F U[x] => hne (by
          unfold kyS at e
          rw [Prod.mk.injEq] at e
          rw [e.1, e.2])), Nat.add_zero] at hx
        rw [hx] at h; exact h
      · have e : kyS F W[x] = kyS F U[x] := PL_inj i6 j6 (by
          have := Classical.byContradiction he
          omega)
        rw [if_pos e] at hx
        rw [ev, w32_of (by omega) (by omega)]
        exact ih (x + 1) n (by omega) (by omega) (by omega)
  unfold wp_X10_alikeWith_c72
  intro v ev
  rw [w1, u1] at ev
  rw [ev, show min (W.length : Int) (U.length : Int) = ((min W.length U.length : Nat) : Int) by omega]
  exact lp (min W.length U.length) 0 bigN (by omega) (by unfold bigN; omega) (by simp)
