/-! a tree's steps in order; the class walks them -/
abbrev SpT := Nat × Nat × Nat
def pT (ρ : St) (F : Fo) : Nat → Nat → Nat → Nat → List SpT
  | 0, _, _, _ => []
  | n + 1, q, k, d => (q, k, d) :: ((if cf ρ q (F.2 q k).2.1 < 0 then [] else pT ρ F n (cf ρ q (F.2 q k).2.1).toNat (F.2 q k).2.2.1 (d + 1)) ++ (if cg ρ q (F.2 q k).2.1 < 0 then [] else pT ρ F n (cg ρ q (F.2 q k).2.1).toNat (F.2 q k).2.2.2 (d + 1)))
theorem pT_len {ρ : St} {F : Fo} : ∀ (n q k d : Nat), (pT ρ F n q k d).length = sN ρ F n q k
  | 0, _, _, _ => rfl
  | n + 1, q, k, d => by
    unfold pT sN
    rw [List.length_cons, List.length_append]
    have a : ∀ (p : Int) (x d : Nat), (if p < 0 then [] else pT ρ F n p.toNat x d).length = if p < 0 then 0 else sN ρ F n p.toNat x := fun p x d => by
      split
      · rfl
      · exact pT_len n _ _ _
    rw [a, a]; omega
theorem pT_fu {ρ : St} {F : Fo} {D : Nat → Prop} (hF : ClF ρ F D) : ∀ (n m q k d : Nat), D q → k < F.1 q → (F.2 q k).1.toNat ≤ n → (F.2 q k).1.toNat ≤ m → pT ρ F n q k d = pT ρ F m q k d
  | 0, m, q, k, d, hq, hk, h1, h2 => by have := ((hF q hq).1 k hk).2; omega
  | n + 1, 0, q, k, d, hq, hk, h1, h2 => by have := ((hF q hq).1 k hk).2; omega
  | n + 1, m + 1, q, k, d, hq, hk, h1, h2 => by
    have cz := ((hF q hq).1 k hk).1
    have sub := hF.sub hq cz
    obtain ⟨z1, z2, z3, z4⟩ := cz
    obtain ⟨a1, a2, a3⟩ := (hF q hq).2.2 _ z1
    have part : ∀ (p : Int) (x d : Nat), (0 ≤ p → D p.toNat) → x < hsF F p → scF F p x < (F.2 q k).1 → (if p < 0 then [] else pT ρ F n p.toNat x d) = (if p < 0 then [] else pT ρ F m p.toNat x d) := by
      intro p x d hp hx hlt
      by_cases h0 : p < 0
      · rw [if_pos h0, if_pos h0]
      · rw [if_neg h0, if_neg h0]
        rw [hsF_pos (by omega)] at hx
        rw [scF_pos (by omega)] at hlt
        have := ((hF _ (hp (by omega))).1 x hx).2
        exact pT_fu hF n m _ x d (hp (by omega)) hx (by omega) (by omega)
    unfold pT
    rw [part _ _ _ a1 z2 sub.2.1, part _ _ _ a2 z3 sub.2.2]
def PTr (ρ : St) (F : Fo) (q k d : Nat) : List SpT := pT ρ F (F.2 q k).1.toNat q k d
def PTq (ρ : St) (F : Fo) (p : Int) (x d : Nat) : List SpT := if p < 0 then [] else PTr ρ F p.toNat x d
theorem PTr_eq {ρ : St} {F : Fo} {D : Nat → Prop} (hF : ClF ρ F D) {q k d : Nat} (hq : D q) (hk : k < F.1 q) : PTr ρ F q k d = (q, k, d) :: (PTq ρ F (cf ρ q (F.2 q k).2.1) (F.2 q k).2.2.1 (d + 1) ++ PTq ρ F (cg ρ q (F.2 q k).2.1) (F.2 q k).2.2.2 (d + 1)) := by
  have cz := ((hF q hq).1 k hk).1
  have sub := hF.sub hq cz
  obtain ⟨z1, z2, z3, z4⟩ := cz
  obtain ⟨a1, a2, a3⟩ := (hF q hq).2.2 _ z1
  obtain ⟨n, hn⟩ : ∃ n, (F.2 q k).1.toNat = n + 1 := ⟨(F.2 q k).1.toNat - 1, by omega⟩
  have part : ∀ (p : Int) (x d : Nat), (0 ≤ p → D p.toNat) → x < hsF F p → scF F p x < (F.2 q k).1 → (if p < 0 then [] else pT ρ F n p.toNat x d) = PTq ρ F p x d := by
    intro p x d hp hx hlt
    unfold PTq PTr
    by_cases h0 : p < 0
    · rw [if_pos h0, if_pos h0]
    · rw [if_neg h0, if_neg h0]
      rw [hsF_pos (by omega)] at hx
      rw [scF_pos (by omega)] at hlt
      exact pT_fu hF n _ _ x d (hp (by omega)) hx (by omega) (Nat.le_refl _)
  unfold PTr
  rw [hn]
  unfold pT
  rw [part _ _ _ a1 z2 sub.2.1, part _ _ _ a2 z3 sub.2.2]
theorem PTr_len {ρ : St} (hg : Wg ρ) (hL : LL ρ < 9) {F : Fo} {D : Nat → Prop} (hF : ClF ρ F D) (hT : ∀ q, D q → SgF ρ F q) (hD : ∀ q, D q → q < 12 * spN (LL ρ)) {q k d : Nat} (hq : D q) (hk : k < F.1 q) : (PTr ρ F q k d).length ≤ 360 := by
  unfold PTr
  rw [pT_len]
  exact sN_360 hg hL hF hT hD hq hk
def gdS (F : Fo) (D : Nat → Prop) (e : SpT) : Prop := D e.1 ∧ e.2.1 < F.1 e.1
/-- the trees of an entry's parts -/
theorem part_gd {ρ : St} {F : Fo} {D : Nat → Prop} (hF : ClF ρ F D) {q k : Nat} (hq : D q) (hk : k < F.1 q) : (0 ≤ cf ρ q (F.2 q k).2.1 → D (cf ρ q (F.2 q k).2.1).toNat ∧ (F.2 q k).2.2.1 < F.1 (cf ρ q (F.2 q k).2.1).toNat) ∧ (0 ≤ cg ρ q (F.2 q k).2.1 → D (cg ρ q (F.2 q k).2.1).toNat ∧ (F.2 q k).2.2.2 < F.1 (cg ρ q (F.2 q k).2.1).toNat) := by
  obtain ⟨z1, z2, z3, z4⟩ := ((hF q hq).1 k hk).1
  obtain ⟨a1, a2, a3⟩ := (hF q hq).2.2 _ z1
  refine ⟨fun h => ⟨a1 h, ?_⟩, fun h => ⟨a2 h, ?_⟩⟩
  · rw [hsF_pos h] at z2; exact z2
  · rw [hsF_pos h] at z3; exact z3
theorem PTr_gd {ρ : St} {F : Fo} {D : Nat → Prop} (hF : ClF ρ F D) : ∀ (n q k d : Nat), D q → k < F.1 q → ∀ e, e ∈ pT ρ F n q k d → gdS F D e
  | 0, _, _, _, _, _, e, he => by unfold pT at he; cases he
  | n + 1, q, k, d, hq, hk, e, he => by
    unfold pT at he
    have pg := part_gd hF hq hk
    rw [List.mem_cons, List.mem_append] at he
    rcases he with rfl | he | he
    · exact ⟨hq, hk⟩
    · split at he
      · cases he
      · next h => exact PTr_gd hF n _ _ _ (pg.1 (by omega)).1 (pg.1 (by omega)).2 e he
    · split at he
      · cases he
      · next h => exact PTr_gd hF n _ _ _ (pg.2 (by omega)).1 (pg.2 (by omega)).2 e he
def mxS : List SpT → Nat
  | [] => 0
  | e :: l => max e.2.2 (mxS l)
theorem mxS_app : ∀ (a b : List SpT), mxS (a ++ b) = max (mxS a) (mxS b)
  | [], b => by show mxS b = max 0 (mxS b); omega
  | e :: a, b => by
    show max e.2.2 (mxS (a ++ b)) = max (max e.2.2 (mxS a)) (mxS b)
    rw [mxS_app a b]; omega
/-- a tree's place among the trees kept -/
def idS (e : SpT) : Nat := 16 * e.1 + e.2.1
def Stk (a b : Nat → Int) : List (Int × Int) → Prop
  | [] => True
  | e :: S => a S.length = e.1 ∧ b S.length = e.2 ∧ Stk a b S
theorem Stk.upd {a b a1 b1 : Nat → Int} : ∀ {S : List (Int × Int)}, Stk a b S → (∀ j, j < S.length → a1 j = a j ∧ b1 j = b j) → Stk a1 b1 S
  | [], _, _ => trivial
  | e :: S, h, hj => by
    obtain ⟨h1, h2, h3⟩ := h
    have := hj S.length (by simp)
    exact ⟨by rw [this.1]; exact h1, by rw [this.2]; exact h2, h3.upd (fun j hj2 => hj j (by simp; omega))⟩
theorem c_rightTree {ρ σ : St} (hg : Wg ρ) (hL : LL ρ < 9) (hB : Bt ρ σ) {F : Fo} (hF : FoF ρ σ F) {q k : Nat} (hq : fD ρ σ q) (hk : k < F.1 q) {Q : Int → St → Prop} (h1 : cg ρ q (F.2 q k).2.1 < 0 → Q (-1) σ) (h2 : 0 ≤ cg ρ q (F.2 q k).2.1 → Q ((16 * (cg ρ q (F.2 q k).2.1).toNat + (F.2 q k).2.2.2 : Nat) : Int) σ) : wp_X3_rightTree ((16 * q + k : Nat) : Int) σ Q := by
  have h3 := sp_3 _ hL
  have h4 := PL_3360 hg hL
  obtain ⟨p1, p2, p3, p4⟩ := hF.2.2.1 q hq
  obtain ⟨c1, c2, c3, c4, c5⟩ := p4 k hk
  have cz := ((hF.2.1 q hq).1 k hk).1
  obtain ⟨b0, b1, b2, b3, b4⟩ := hB.csq p1 cz.1
  have pg := (part_gd hF.2.1 hq hk).2
  unfold wp_X3_rightTree
  rw [Int.toNat_natCast, c2, Int.toNat_natCast, b4, c3]
  refine ⟨by omega, by omega, fun v ev => ?_⟩
  rw [ev]
  refine ⟨fun h => ⟨by omega, ?_⟩, fun h => h1 (by omega)⟩
  have := h2 h
  have lt := (pg h).1.1
  rw [b_rem_eq (by omega) (by omega) (by decide) (by decide), w32_of (x := cg ρ q (F.2 q k).2.1 * 16) (by omega) (by omega), w32_of (by omega) (by omega), show cg ρ q (F.2 q k).2.1 * 16 + ((16 * (F.2 q k).2.2.1 + (F.2 q k).2.2.2 : Nat) : Int) % 16 = ((16 * (cg ρ q (F.2 q k).2.1).toNat + (F.2 q k).2.2.2 : Nat) : Int) by omega]
  exact this
theorem c_leftTree {ρ σ : St} (hg : Wg ρ) (hL : LL ρ < 9) (hB : Bt ρ σ) {F : Fo} (hF : FoF ρ σ F) {q k : Nat} (hq : fD ρ σ q) (hk : k < F.1 q) {Q : Int → St → Prop} (h1 : cf ρ q (F.2 q k).2.1 < 0 → Q (-1) σ) (h2 : 0 ≤ cf ρ q (F.2 q k).2.1 → Q ((16 * (cf ρ q (F.2 q k).2.1).toNat + (F.2 q k).2.2.1 : Nat) : Int) σ) : wp_X3_leftTree ((16 * q + k : Nat) : Int) σ Q := by
  have h3 := sp_3 _ hL
  have h4 := PL_3360 hg hL
  obtain ⟨p1, p2, p3, p4⟩ := hF.2.2.1 q hq
  obtain ⟨c1, c2, c3, c4, c5⟩ := p4 k hk
  have cz := ((hF.2.1 q hq).1 k hk).1
  obtain ⟨b0, b1, b2, b3, b4⟩ := hB.csq p1 cz.1
  have pg := (part_gd hF.2.1 hq hk).1
  unfold wp_X3_leftTree
  rw [Int.toNat_natCast, c2, Int.toNat_natCast, b3, c3]
  refine ⟨by omega, by omega, fun v ev => ?_⟩
  rw [ev]
  refine ⟨fun h => ⟨by omega, ?_⟩, fun h => h1 (by omega)⟩
  have := h2 h
  have lt := (pg h).1.1
  rw [b_div_eq (by omega) (by omega) (by decide) (by decide), w32_of (x := cf ρ q (F.2 q k).2.1 * 16) (by omega) (by omega), w32_of (by omega) (by omega), show cf ρ q (F.2 q k).2.1 * 16 + ((16 * (F.2 q k).2.2.1 + (F.2 q k).2.2.2 : Nat) : Int) / 16 = ((16 * (cf ρ q (F.2 q k).2.1).toNat + (F.2 q k).2.2.1 : Nat) : Int) by omega]
  exact this
def nS (p : Int) (x d : Nat) : List SpT := if p < 0 then [] else [(p.toNat, x, d)]
def prS (e : SpT) : Int × Int := ((idS e : Nat), (e.2.2 : Nat))
theorem nS_flat {ρ : St} {F : Fo} {p : Int} {x d : Nat} : (nS p x d).flatMap (fun e => PTr ρ F e.1 e.2.1 e.2.2) = PTq ρ F p x d := by
  unfold nS PTq
  split
  · rfl
  · simp
theorem nS_len {p : Int} {x d : Nat} : (nS p x d).length ≤ 1 := by unfold nS; split <;> simp
theorem nS_mem {p : Int} {x d : Nat} {e : SpT} (h : e ∈ nS p x d) : 0 ≤ p ∧ e = (p.toNat, x, d) := by
  unfold nS at h
  split at h
  · cases h
  · rw [List.mem_singleton] at h; exact ⟨by omega, h⟩
def KS (σ : St) (S : List (Int × Int)) : Prop := σ 68 6 = (S.length : Int) ∧ Stk (σ 69) (σ 70) S
theorem c_push {σ : St} {S : List (Int × Int)} (h : KS σ S) (hl : S.length < 2560) {v d : Int} {Q : Int → St → Prop} (hq : ∀ σ1, KS σ1 ((v, d) :: S) → (∀ k, k ≠ 68 → k ≠ 69 → k ≠ 70 → σ1 k = σ k) → (∀ j, j ≠ 6 → σ1 68 j = σ 68 j) → Q 0 σ1) : wp_X10_push v d σ Q := by
  obtain ⟨h1, h2⟩ := h
  unfold wp_X10_push
  rw [h1, Int.toNat_natCast]
  refine ⟨fun w => absurd w (by omega), fun _ => ⟨by omega, fun σ1 e1 => ?_⟩⟩
  have a1 : σ1 68 6 = (S.length : Int) := by rw [e1, upS_k (by decide)]; exact h1
  rw [a1, Int.toNat_natCast]
  refine ⟨by omega, fun σ2 e2 σ3 e3 => ?_⟩
  have a2 : σ2 68 6 = (S.length : Int) := by rw [e2, upS_k (by decide)]; exact a1
  rw [a2, w32_of (by omega) (by omega)] at e3
  have b69 : ∀ j, σ3 69 j = if j = S.length then v else σ 69 j := fun j => by
    rw [e3, upS_k (by decide), e2, upS_k (by decide), e1]
    by_cases e : j = S.length
    · rw [e, if_pos rfl, upS_s]
    · rw [if_neg e, upS_j e]
  have b70 : ∀ j, σ3 70 j = if j = S.length then d else σ 70 j := fun j => by
    rw [e3, upS_k (by decide), e2]
    by_cases e : j = S.length
    · rw [e, if_pos rfl, upS_s]
    · rw [if_neg e, upS_j e, e1, upS_k (by decide)]
  refine hq σ3 ⟨by rw [e3, upS_s, List.length_cons]; push_cast; rfl, ⟨by rw [b69, if_pos rfl], by rw [b70, if_pos rfl], h2.upd (fun j hj => ⟨by rw [b69, if_neg (by omega)], by rw [b70, if_neg (by omega)]⟩)⟩⟩ (fun k k1 k2 k3 => by rw [e3, upS_k k1, e2, upS_k k3, e1, upS_k k2]) (fun j hj => by rw [e3, upS_j hj, e2, upS_k (by decide), e1, upS_k (by decide)])
theorem c_pushT {σ : St} {S : List SpT} (h : KS σ (S.map prS)) (hl : S.length < 2560) {p : Int} {x d : Nat} {r : Int} (hr : (p < 0 ∧ r = -1) ∨ (0 ≤ p ∧ r = ((16 * p.toNat + x : Nat) : Int))) {Q : Int → St → Prop} (hq : ∀ σ1, KS σ1 ((nS p x d ++ S).map prS) → (∀ k, k ≠ 68 → k ≠ 69 → k ≠ 70 → σ1 k = σ k) → (∀ j, j ≠ 6 → σ1 68 j = σ 68 j) → Q 0 σ1) : wp_X10_pushTree r (d : Int) σ Q := by
  unfold wp_X10_pushTree
  rcases hr with ⟨hp, e⟩ | ⟨hp, e⟩
  · refine ⟨fun _ => hq σ ?_ (fun _ _ _ _ => rfl) (fun _ _ => rfl), fun w => absurd (by omega) w⟩
    unfold nS; rw [if_pos hp]; exact h
  · refine ⟨fun w => absurd w (by omega), fun _ => c_push h (by rw [List.length_map]; exact hl) (fun σ1 k1 k2 k3 => hq σ1 ?_ k2 k3)⟩
    unfold nS; rw [if_neg (by omega)]
    rw [e] at k1
    exact k1
/-- where the walk is: steps seen, steps to see -/
def WLK (ρ : St) (F : Fo) (σ : St) (W V S : List SpT) : Prop := V ++ S.flatMap (fun e => PTr ρ F e.1 e.2.1 e.2.2) = W ∧ KS σ (S.map prS) ∧ σ 68 7 = (V.length : Int) ∧ σ 68 8 = (mxS V : Int) ∧ (∀ i (h : i < V.length), σ 71 i = (idS V[i] : Int)) ∧ (∀ e, e ∈ S → gdS F (fD ρ σ) e ∧ e.2.2 ≤ V.length + 1) ∧ S.length ≤ V.length + 1 ∧ mxS V ≤ V.length
theorem c_walk {ρ : St} (hg : Wg ρ) (hL : LL ρ < 9) {F : Fo} {W : List SpT} (hW : W.length ≤ 360) {σ0 : St} {Q : Int → St → Prop} (hQ : ∀ σ1, σ1 68 7 = (W.length : Int) → σ1 68 8 = (mxS W : Int) → (∀ i (h : i < W.length), σ1 71 i = (idS W[i] : Int)) → (∀ k, (k < 68 ∨ 71 < k) → σ1 k = σ0 k) → Q 0 σ1) : ∀ (d : Nat) (σ : St) (V S : List SpT) (n : Nat), V.length + d = 360 → d < n → Bt ρ σ → FoF ρ σ F → (∀ k, (k < 68 ∨ 71 < k) → σ k = σ0 k) → WLK ρ F σ W V S → wp_X10_follow_l23 Q n (V.length : Int) σ := by
  have fin : ∀ (σ : St) (V : List SpT), (∀ k, (k < 68 ∨ 71 < k) → σ k = σ0 k) → WLK ρ F σ W V [] → Q 0 σ := by
    intro σ V hk h
    obtain ⟨h1, h2, h3, h4, h5, -⟩ := h
    rw [List.flatMap_nil, List.append_nil] at h1
    subst h1
    exact hQ σ h3 h4 h5 hk
  intro d
  induction d with
  | zero =>
    intro σ V S n hd hn hB hF hk h
    obtain ⟨n, rfl⟩ := suc_n hn
    have hS : S = [] := by
      cases S with
      | nil => rfl
      | cons e S =>
        exfalso
        have h1 := congrArg List.length h.1
        have g := (h.2.2.2.2.2.1 e (List.mem_cons_self ..)).1
        rw [List.flatMap_cons, PTr_eq hF.2.1 g.1 g.2] at h1
        simp only [List.length_append, List.length_cons] at h1
        omega
    subst hS
    unfold wp_X10_follow_l23
    have e6 : σ 68 6 = 0 := h.2.1.1
    refine ⟨fun w => absurd w (by omega), fun _ => ⟨fun _ => fin σ V hk h, fun w => absurd (by omega) w⟩⟩
  | succ d ih =>
    intro σ V S n hd hn hB hF hk h
    obtain ⟨n, rfl⟩ := suc_n hn
    unfold wp_X10_follow_l23
    cases S with
    | nil =>
      have e6 : σ 68 6 = 0 := h.2.1.1
      exact ⟨fun w => absurd w (by omega), fun _ => ⟨fun _ => fin σ V hk h, fun w => absurd (by omega) w⟩⟩
    | cons e S =>
      obtain ⟨h1, ⟨h2a, h2b⟩, h3, h4, h5, h6, h7, h8⟩ := h
      have he := h6 e (List.mem_cons_self ..)
      obtain ⟨q, k, dd⟩ := e
      have hq : fD ρ σ q := he.1.1
      have hkq : k < F.1 q := he.1.2
      have hdd : dd ≤ V.length + 1 := he.2
      rw [List.map_cons] at h2a h2b
      obtain ⟨g1, g2, g3⟩ := h2b
      rw [List.length_map] at g1 g2
      rw [List.length_cons, List.length_map] at h2a
      rw [List.length_cons] at h7
      have z3 := sp_3 _ hL
      have hq3 := hq.1
      have p2 := (hF.2.2.1 q hq).2.1
      rw [h2a]
      refine ⟨fun w => absurd w (by omega), fun _ => ⟨fun w => absurd w (by push_cast at w; omega), fun _ σ6 e6 => ?_⟩⟩
      rw [w32_of (by push_cast; omega) (by push_cast; omega), show ((S.length + 1 : Nat) : Int) - 1 = (S.length : Int) by push_cast; omega] at e6
      have c6 : σ6 68 6 = (S.length : Int) := by rw [e6, upS_s]
      have c7 : σ6 68 7 = (V.length : Int) := by rw [e6, upS_j (by decide)]; exact h3
      rw [c6, c7, Int.toNat_natCast, Int.toNat_natCast, show σ6 69 S.length = ((16 * q + k : Nat) : Int) by rw [e6, upS_k (by decide)]; exact g1, show σ6 70 S.length = (dd : Int) by rw [e6, upS_k (by decide)]; exact g2]
      refine ⟨by omega, fun v7 e7 => ⟨by omega, fun v8 e8 => ⟨by omega, fun σ9 e9 σ10 e10 σ11 e11 => ?_⟩⟩⟩
      subst e7 e8
      have d7 : σ9 68 7 = (V.length : Int) := by rw [e9, upS_k (by decide)]; exact c7
      rw [d7, w32_of (by omega) (by omega)] at e10
      have d8 : σ10 68 8 = (mxS V : Int) := by rw [e10, upS_j (by decide), e9, upS_k (by decide), e6, upS_j (by decide)]; exact h4
      rw [d8] at e11
      have k11 : ∀ i, i ≠ 68 → i ≠ 71 → σ11 i = σ i := fun i i1 i2 => by rw [e11, upS_k i1, e10, upS_k i1, e9, upS_k i2, e6, upS_k i1]
      have B11 : Bt ρ σ11 := hB.ext (by rw [k11 14 (by decide) (by decide)]) (fun i i1 i2 => k11 i (by omega) (by omega)) (fun i i1 i2 => k11 i (by omega) (by omega)) (by rw [k11 24 (by decide) (by decide)]; simp)
      have F11 : FoF ρ σ11 F := hF.ext (fun i i1 i2 => k11 i (by omega) (by omega))
      have f60 : ∀ {σx : St}, σx 60 = σ 60 → ∀ p, fD ρ σx p ↔ fD ρ σ p := fun ex p => by unfold fD; rw [ex]
      have K11 : KS σ11 (S.map prS) := by
        refine ⟨by rw [e11, upS_j (by decide), e10, upS_j (by decide), e9, upS_k (by decide), List.length_map]; exact c6, ?_⟩
        rw [k11 69 (by decide) (by decide), k11 70 (by decide) (by decide)]; exact g3
      rw [show w32 ((dd : Int) + 1) = ((dd + 1 : Nat) : Int) by rw [w32_of (by omega) (by omega)]; push_cast; rfl, show w32 ((V.length : Int) + 1) = ((V.length + 1 : Nat) : Int) by rw [w32_of (by omega) (by omega)]; push_cast; rfl]
      have pg := part_gd hF.2.1 hq hkq
      have right : ∀ r : Int, ((cg ρ q (F.2 q k).2.1 < 0 ∧ r = -1) ∨ (0 ≤ cg ρ q (F.2 q k).2.1 ∧ r = ((16 * (cg ρ q (F.2 q k).2.1).toNat + (F.2 q k).2.2.2 : Nat) : Int))) → wp_X10_pushTree r ((dd + 1 : Nat) : Int) σ11 (fun r14 σ15 => wp_X3_leftTree ((16 * q + k : Nat) : Int) σ15 (fun r16 σ17 => wp_X10_pushTree r16 ((dd + 1 : Nat) : Int) σ17 (fun r18 σ19 => ∀ v20 : Int, v20 = ((V.length + 1 : Nat) : Int) → (wp_X10_follow_l23 Q n) v20 σ19))) := by
        intro r hr
        refine c_pushT K11 (by omega) hr (fun σ15 K15 k15 j15 => ?_)
        have n1 := nS_len (p := cg ρ q (F.2 q k).2.1) (x := (F.2 q k).2.2.2) (d := dd + 1)
        have B15 : Bt ρ σ15 := B11.ext (by rw [k15 14 (by decide) (by decide) (by decide)]) (fun i i1 i2 => k15 i (by omega) (by omega) (by omega)) (fun i i1 i2 => k15 i (by omega) (by omega) (by omega)) (by rw [k15 24 (by decide) (by decide) (by decide)]; simp)
        have F15 : FoF ρ σ15 F := F11.ext (fun i i1 i2 => k15 i (by omega) (by omega) (by omega))
        have e60 : σ15 60 = σ 60 := by rw [k15 60 (by decide) (by decide) (by decide), k11 60 (by decide) (by decide)]
        have left : ∀ r : Int, ((cf ρ q (F.2 q k).2.1 < 0 ∧ r = -1) ∨ (0 ≤ cf ρ q (F.2 q k).2.1 ∧ r = ((16 * (cf ρ q (F.2 q k).2.1).toNat + (F.2 q k).2.2.1 : Nat) : Int))) → wp_X10_pushTree r ((dd + 1 : Nat) : Int) σ15 (fun r18 σ19 => ∀ v20 : Int, v20 = ((V.length + 1 : Nat) : Int) → (wp_X10_follow_l23 Q n) v20 σ19) := by
          intro r hr
          refine c_pushT K15 (by rw [List.length_append]; omega) hr (fun σ19 K19 k19 j19 v20 e20 => ?_)
          have n2 := nS_len (p := cf ρ q (F.2 q k).2.1) (x := (F.2 q k).2.2.1) (d := dd + 1)
          have B19 : Bt ρ σ19 := B15.ext (by rw [k19 14 (by decide) (by decide) (by decide)]) (fun i i1 i2 => k19 i (by omega) (by omega) (by omega)) (fun i i1 i2 => k19 i (by omega) (by omega) (by omega)) (by rw [k19 24 (by decide) (by decide) (by decide)]; simp)
          have F19 : FoF ρ σ19 F := F15.ext (fun i i1 i2 => k19 i (by omega) (by omega) (by omega))
          have e60b : σ19 60 = σ 60 := by rw [k19 60 (by decide) (by decide) (by decide)]; exact e60
          have := ih σ19 (V ++ [(q, k, dd)]) (nS (cf ρ q (F.2 q k).2.1) (F.2 q k).2.2.1 (dd + 1) ++ (nS (cg ρ q (F.2 q k).2.1) (F.2 q k).2.2.2 (dd + 1) ++ S)) n (by rw [List.length_append, List.length_singleton]; omega) (by omega) B19 F19 (fun i hi => ?_) ⟨?_, K19, ?_, ?_, ?_, ?_, ?_, ?_⟩
          · rw [List.length_append, List.length_singleton] at this
            rw [e20]; exact this
          · rw [k19 i (by omega) (by omega) (by omega), k15 i (by omega) (by omega) (by omega), k11 i (by omega) (by omega)]; exact hk i hi
          · rw [← h1, List.flatMap_cons, PTr_eq hF.2.1 hq hkq, List.flatMap_append, List.flatMap_append, nS_flat, nS_flat]
            simp only [List.append_assoc, List.cons_append, List.nil_append]
          · rw [j19 7 (by decide), j15 7 (by decide), e11, upS_j (by decide), e10, upS_s, List.length_append, List.length_singleton]; push_cast; rfl
          · rw [j19 8 (by decide), j15 8 (by decide), e11, upS_s, mxS_app]
            show max (mxS V : Int) (dd : Int) = ((max (mxS V) (max dd 0) : Nat) : Int)
            push_cast; omega
          · intro i hi
            have s71 : σ19 71 = σ9 71 := by rw [k19 71 (by decide) (by decide) (by decide), k15 71 (by decide) (by decide) (by decide), e11, upS_k (by decide), e10, upS_k (by decide)]
            rw [s71, e9]
            rw [List.length_append, List.length_singleton] at hi
            by_cases ei : i = V.length
            · subst ei
              rw [upS_s, List.getElem_append_right (Nat.le_refl _)]
              simp [idS]
            · rw [upS_j ei, e6, upS_k (by decide), List.getElem_append_left (by omega)]
              exact h5 i (by omega)
          · intro e he'
            rw [List.length_append, List.length_singleton]
            rw [List.mem_append, List.mem_append] at he'
            rcases he' with he' | he' | he'
            · obtain ⟨a1, a2⟩ := nS_mem he'
              subst a2
              exact ⟨⟨(f60 e60b _).2 (pg.1 a1).1, (pg.1 a1).2⟩, by show dd + 1 ≤ V.length + 1 + 1; omega⟩
            · obtain ⟨a1, a2⟩ := nS_mem he'
              subst a2
              exact ⟨⟨(f60 e60b _).2 (pg.2 a1).1, (pg.2 a1).2⟩, by show dd + 1 ≤ V.length + 1 + 1; omega⟩
            · obtain ⟨⟨a1, a2⟩, a3⟩ := h6 e (List.mem_cons_of_mem _ he')
              exact ⟨⟨(f60 e60b _).2 a1, a2⟩, by omega⟩
          · rw [List.length_append, List.length_append, List.length_append, List.length_singleton]; omega
          · rw [mxS_app, List.length_append, List.length_singleton]
            show max (mxS V) (max dd 0) ≤ V.length + 1
            omega
        exact c_leftTree hg hL B15 F15 ((f60 e60 q).2 hq) hkq (fun hc => left _ (Or.inl ⟨hc, rfl⟩)) (fun hc => left _ (Or.inr ⟨hc, rfl⟩))
      exact c_rightTree hg hL B11 F11 ((f60 (k11 60 (by decide) (by decide)) q).2 hq) hkq (fun hc => right _ (Or.inl ⟨hc, rfl⟩)) (fun hc => right _ (Or.inr ⟨hc, rfl⟩))
theorem c_follow {ρ σ : St} (hg : Wg ρ) (hL : LL ρ < 9) (hB : Bt ρ σ) {F : Fo} (hF : FoF ρ σ F) {q k : Nat} (hq : fD ρ σ q) (hk : k < F.1 q) {Q : Int → St → Prop} (hQ : ∀ σ1, σ1 68 7 = ((PTr ρ F q k 1).length : Int) → σ1 68 8 = (mxS (PTr ρ F q k 1) : Int) → (∀ i (h : i < (PTr ρ F q k 1).length), σ1 71 i = (idS (PTr ρ F q k 1)[i] : Int)) → (∀ k, (k < 68 ∨ 71 < k) → σ1 k = σ k) → Q 0 σ1) : wp_X10_follow ((16 * q + k : Nat) : Int) σ Q := by
  have hlen := PTr_len hg hL hF.2.1 (fun p hp => (hF.2.2.2.2.1 p hp).sg) (fun p hp => hp.1) hq hk (d := 1)
  unfold wp_X10_follow
  intro σ1 e1 σ2 e2 σ3 e3
  have k3 : ∀ i, i ≠ 68 → σ3 i = σ i := fun i hi => by rw [e3, upS_k hi, e2, upS_k hi, e1, upS_k hi]
  refine c_push (S := []) (σ := σ3) ⟨by rw [e3, upS_s]; rfl, trivial⟩ (by decide) (fun σ5 K5 k5 j5 => ?_)
  have kk : ∀ i, (i < 68 ∨ 71 < i) → σ5 i = σ i := fun i hi => by rw [k5 i (by omega) (by omega) (by omega), k3 i (by omega)]
  refine c_walk hg hL hlen (σ0 := σ) hQ 360 σ5 [] [(q, k, 1)] bigN (by rfl) (by unfold bigN; omega) (hB.ext (by rw [kk 14 (by decide)]) (fun i i1 i2 => kk i (by omega)) (fun i i1 i2 => kk i (by omega)) (by rw [kk 24 (by decide)]; simp)) (hF.ext (fun i i1 i2 => kk i (by omega))) kk ⟨by simp, K5, ?_, ?_, fun i hi => absurd hi (by simp), fun e he => ?_, by simp, by simp [mxS]⟩
  · rw [j5 7 (by decide), e3, upS_j (by decide), e2, upS_j (by decide), e1, upS_s]; rfl
  · rw [j5 8 (by decide), e3, upS_j (by decide), e2, upS_s]; rfl
  · rw [List.mem_singleton] at he
    subst he
    refine ⟨⟨?_, hk⟩, by simp⟩
    unfold fD
    rw [kk 60 (by decide)]
    exact hq
def KSo (σ : St) (S : List (Int × Int)) : Prop := σ 72 6 = (S.length : Int) ∧ Stk (σ 73) (σ 74) S
theorem c_pusho {σ : St} {S : List (Int × Int)} (h : KSo σ S) (hl : S.length < 2560) {v d : Int} {Q : Int → St → Prop} (hq : ∀ σ1, KSo σ1 ((v, d) :: S) → (∀ k, k ≠ 72 → k ≠ 73 → k ≠ 74 → σ1 k = σ k) → (∀ j, j ≠ 6 → σ1 72 j = σ 72 j) → Q 0 σ1) : wp_X10_push_o v d σ Q := by
  obtain ⟨h1, h2⟩ := h
  unfold wp_X10_push_o
  rw [h1, Int.toNat_natCast]
  refine ⟨fun w => absurd w (by omega), fun _ => ⟨by omega, fun σ1 e1 => ?_⟩⟩
  have a1 : σ1 72 6 = (S.length : Int) := by rw [e1, upS_k (by decide)]; exact h1
  rw [a1, Int.toNat_natCast]
  refine ⟨by omega, fun σ2 e2 σ3 e3 => ?_⟩
  have a2 : σ2 72 6 = (S.length : Int) := by rw [e2, upS_k (by decide)]; exact a1
  rw [a2, w32_of (by omega) (by omega)] at e3
  have b69 : ∀ j, σ3 73 j = if j = S.length then v else σ 73 j := fun j => by
    rw [e3, upS_k (by decide), e2, upS_k (by decide), e1]
    by_cases e : j = S.length
    · rw [e, if_pos rfl, upS_s]
    · rw [if_neg e, upS_j e]
  have b70 : ∀ j, σ3 74 j = if j = S.length then d else σ 74 j := fun j => by
    rw [e3, upS_k (by decide), e2]
    by_cases e : j = S.length
    · rw [e, if_pos rfl, upS_s]
    · rw [if_neg e, upS_j e, e1, upS_k (by decide)]
  refine hq σ3 ⟨by rw [e3, upS_s, List.length_cons]; push_cast; rfl, ⟨by rw [b69, if_pos rfl], by rw [b70, if_pos rfl], h2.upd (fun j hj => ⟨by rw [b69, if_neg (by omega)], by rw [b70, if_neg (by omega)]⟩)⟩⟩ (fun k k1 k2 k3 => by rw [e3, upS_k k1, e2, upS_k k3, e1, upS_k k2]) (fun j hj => by rw [e3, upS_j hj, e2, upS_k (by decide), e1, upS_k (by decide)])
theorem c_pushTo {σ : St} {S : List SpT} (h : KSo σ (S.map prS)) (hl : S.length < 2560) {p : Int} {x d : Nat} {r : Int} (hr : (p < 0 ∧ r = -1) ∨ (0 ≤ p ∧ r = ((16 * p.toNat + x : Nat) : Int))) {Q : Int → St → Prop} (hq : ∀ σ1, KSo σ1 ((nS p x d ++ S).map prS) → (∀ k, k ≠ 72 → k ≠ 73 → k ≠ 74 → σ1 k = σ k) → (∀ j, j ≠ 6 → σ1 72 j = σ 72 j) → Q 0 σ1) : wp_X10_pushTree_o r (d : Int) σ Q := by
  unfold wp_X10_pushTree_o
  rcases hr with ⟨hp, e⟩ | ⟨hp, e⟩
  · refine ⟨fun _ => hq σ ?_ (fun _ _ _ _ => rfl) (fun _ _ => rfl), fun w => absurd (by omega) w⟩
    unfold nS; rw [if_pos hp]; exact h
  · refine ⟨fun w => absurd w (by omega), fun _ => c_pusho h (by rw [List.length_map]; exact hl) (fun σ1 k1 k2 k3 => hq σ1 ?_ k2 k3)⟩
    unfold nS; rw [if_neg (by omega)]
    rw [e] at k1
    exact k1
/-- where the walk is: steps seen, steps to see -/
def WLKo (ρ : St) (F : Fo) (σ : St) (W V S : List SpT) : Prop := V ++ S.flatMap (fun e => PTr ρ F e.1 e.2.1 e.2.2) = W ∧ KSo σ (S.map prS) ∧ σ 72 7 = (V.length : Int) ∧ σ 72 8 = (mxS V : Int) ∧ (∀ i (h : i < V.length), σ 75 i = (idS V[i] : Int)) ∧ (∀ e, e ∈ S → gdS F (fD ρ σ) e ∧ e.2.2 ≤ V.length + 1) ∧ S.length ≤ V.length + 1 ∧ mxS V ≤ V.length
theorem c_walko {ρ : St} (hg : Wg ρ) (hL : LL ρ < 9) {F : Fo} {W : List SpT} (hW : W.length ≤ 360) {σ0 : St} {Q : Int → St → Prop} (hQ : ∀ σ1, σ1 72 7 = (W.length : Int) → σ1 72 8 = (mxS W : Int) → (∀ i (h : i < W.length), σ1 75 i = (idS W[i] : Int)) → (∀ k, (k < 72 ∨ 75 < k) → σ1 k = σ0 k) → Q 0 σ1) : ∀ (d : Nat) (σ : St) (V S : List SpT) (n : Nat), V.length + d = 360 → d < n → Bt ρ σ → FoF ρ σ F → (∀ k, (k < 72 ∨ 75 < k) → σ k = σ0 k) → WLKo ρ F σ W V S → wp_X10_follow_o_l23 Q n (V.length : Int) σ := by
  have fin : ∀ (σ : St) (V : List SpT), (∀ k, (k < 72 ∨ 75 < k) → σ k = σ0 k) → WLKo ρ F σ W V [] → Q 0 σ := by
    intro σ V hk h
    obtain ⟨h1, h2, h3, h4, h5, -⟩ := h
    rw [List.flatMap_nil, List.append_nil] at h1
    subst h1
    exact hQ σ h3 h4 h5 hk
  intro d
  induction d with
  | zero =>
    intro σ V S n hd hn hB hF hk h
    obtain ⟨n, rfl⟩ := suc_n hn
    have hS : S = [] := by
      cases S with
      | nil => rfl
      | cons e S =>
        exfalso
        have h1 := congrArg List.length h.1
        have g := (h.2.2.2.2.2.1 e (List.mem_cons_self ..)).1
        rw [List.flatMap_cons, PTr_eq hF.2.1 g.1 g.2] at h1
        simp only [List.length_append, List.length_cons] at h1
        omega
    subst hS
    unfold wp_X10_follow_o_l23
    have e6 : σ 72 6 = 0 := h.2.1.1
    refine ⟨fun w => absurd w (by omega), fun _ => ⟨fun _ => fin σ V hk h, fun w => absurd (by omega) w⟩⟩
  | succ d ih =>
    intro σ V S n hd hn hB hF hk h
    obtain ⟨n, rfl⟩ := suc_n hn
    unfold wp_X10_follow_o_l23
    cases S with
    | nil =>
      have e6 : σ 72 6 = 0 := h.2.1.1
      exact ⟨fun w => absurd w (by omega), fun _ => ⟨fun _ => fin σ V hk h, fun w => absurd (by omega) w⟩⟩
    | cons e S =>
      obtain ⟨h1, ⟨h2a, h2b⟩, h3, h4, h5, h6, h7, h8⟩ := h
      have he := h6 e (List.mem_cons_self ..)
      obtain ⟨q, k, dd⟩ := e
      have hq : fD ρ σ q := he.1.1
      have hkq : k < F.1 q := he.1.2
      have hdd : dd ≤ V.length + 1 := he.2
      rw [List.map_cons] at h2a h2b
      obtain ⟨g1, g2, g3⟩ := h2b
      rw [List.length_map] at g1 g2
      rw [List.length_cons, List.length_map] at h2a
      rw [List.length_cons] at h7
      have z3 := sp_3 _ hL
      have hq3 := hq.1
      have p2 := (hF.2.2.1 q hq).2.1
      rw [h2a]
      refine ⟨fun w => absurd w (by omega), fun _ => ⟨fun w => absurd w (by push_cast at w; omega), fun _ σ6 e6 => ?_⟩⟩
      rw [w32_of (by push_cast; omega) (by push_cast; omega), show ((S.length + 1 : Nat) : Int) - 1 = (S.length : Int) by push_cast; omega] at e6
      have c6 : σ6 72 6 = (S.length : Int) := by rw [e6, upS_s]
      have c7 : σ6 72 7 = (V.length : Int) := by rw [e6, upS_j (by decide)]; exact h3
      rw [c6, c7, Int.toNat_natCast, Int.toNat_natCast, show σ6 73 S.length = ((16 * q + k : Nat) : Int) by rw [e6, upS_k (by decide)]; exact g1, show σ6 74 S.length = (dd : Int) by rw [e6, upS_k (by decide)]; exact g2]
      refine ⟨by omega, fun v7 e7 => ⟨by omega, fun v8 e8 => ⟨by omega, fun σ9 e9 σ10 e10 σ11 e11 => ?_⟩⟩⟩
      subst e7 e8
      have d7 : σ9 72 7 = (V.length : Int) := by rw [e9, upS_k (by decide)]; exact c7
      rw [d7, w32_of (by omega) (by omega)] at e10
      have d8 : σ10 72 8 = (mxS V : Int) := by rw [e10, upS_j (by decide), e9, upS_k (by decide), e6, upS_j (by decide)]; exact h4
      rw [d8] at e11
      have k11 : ∀ i, i ≠ 72 → i ≠ 75 → σ11 i = σ i := fun i i1 i2 => by rw [e11, upS_k i1, e10, upS_k i1, e9, upS_k i2, e6, upS_k i1]
      have B11 : Bt ρ σ11 := hB.ext (by rw [k11 14 (by decide) (by decide)]) (fun i i1 i2 => k11 i (by omega) (by omega)) (fun i i1 i2 => k11 i (by omega) (by omega)) (by rw [k11 24 (by decide) (by decide)]; simp)
      have F11 : FoF ρ σ11 F := hF.ext (fun i i1 i2 => k11 i (by omega) (by omega))
      have f60 : ∀ {σx : St}, σx 60 = σ 60 → ∀ p, fD ρ σx p ↔ fD ρ σ p := fun ex p => by unfold fD; rw [ex]
      have K11 : KSo σ11 (S.map prS) := by
        refine ⟨by rw [e11, upS_j (by decide), e10, upS_j (by decide), e9, upS_k (by decide), List.length_map]; exact c6, ?_⟩
        rw [k11 73 (by decide) (by decide), k11 74 (by decide) (by decide)]; exact g3
      rw [show w32 ((dd : Int) + 1) = ((dd + 1 : Nat) : Int) by rw [w32_of (by omega) (by omega)]; push_cast; rfl, show w32 ((V.length : Int) + 1) = ((V.length + 1 : Nat) : Int) by rw [w32_of (by omega) (by omega)]; push_cast; rfl]
      have pg := part_gd hF.2.1 hq hkq
      have right : ∀ r : Int, ((cg ρ q (F.2 q k).2.1 < 0 ∧ r = -1) ∨ (0 ≤ cg ρ q (F.2 q k).2.1 ∧ r = ((16 * (cg ρ q (F.2 q k).2.1).toNat + (F.2 q k).2.2.2 : Nat) : Int))) → wp_X10_pushTree_o r ((dd + 1 : Nat) : Int) σ11 (fun r14 σ15 => wp_X3_leftTree ((16 * q + k : Nat) : Int) σ15 (fun r16 σ17 => wp_X10_pushTree_o r16 ((dd + 1 : Nat) : Int) σ17 (fun r18 σ19 => ∀ v20 : Int, v20 = ((V.length + 1 : Nat) : Int) → (wp_X10_follow_o_l23 Q n) v20 σ19))) := by
        intro r hr
        refine c_pushTo K11 (by omega) hr (fun σ15 K15 k15 j15 => ?_)
        have n1 := nS_len (p := cg ρ q (F.2 q k).2.1) (x := (F.2 q k).2.2.2) (d := dd + 1)
        have B15 : Bt ρ σ15 := B11.ext (by rw [k15 14 (by decide) (by decide) (by decide)]) (fun i i1 i2 => k15 i (by omega) (by omega) (by omega)) (fun i i1 i2 => k15 i (by omega) (by omega) (by omega)) (by rw [k15 24 (by decide) (by decide) (by decide)]; simp)
        have F15 : FoF ρ σ15 F := F11.ext (fun i i1 i2 => k15 i (by omega) (by omega) (by omega))
        have e60 : σ15 60 = σ 60 := by rw [k15 60 (by decide) (by decide) (by decide), k11 60 (by decide) (by decide)]
        have left : ∀ r : Int, ((cf ρ q (F.2 q k).2.1 < 0 ∧ r = -1) ∨ (0 ≤ cf ρ q (F.2 q k).2.1 ∧ r = ((16 * (cf ρ q (F.2 q k).2.1).toNat + (F.2 q k).2.2.1 : Nat) : Int))) → wp_X10_pushTree_o r ((dd + 1 : Nat) : Int) σ15 (fun r18 σ19 => ∀ v20 : Int, v20 = ((V.length + 1 : Nat) : Int) → (wp_X10_follow_o_l23 Q n) v20 σ19) := by
          intro r hr
          refine c_pushTo K15 (by rw [List.length_append]; omega) hr (fun σ19 K19 k19 j19 v20 e20 => ?_)
          have n2 := nS_len (p := cf ρ q (F.2 q k).2.1) (x := (F.2 q k).2.2.1) (d := dd + 1)
          have B19 : Bt ρ σ19 := B15.ext (by rw [k19 14 (by decide) (by decide) (by decide)]) (fun i i1 i2 => k19 i (by omega) (by omega) (by omega)) (fun i i1 i2 => k19 i (by omega) (by omega) (by omega)) (by rw [k19 24 (by decide) (by decide) (by decide)]; simp)
          have F19 : FoF ρ σ19 F := F15.ext (fun i i1 i2 => k19 i (by omega) (by omega) (by omega))
          have e60b : σ19 60 = σ 60 := by rw [k19 60 (by decide) (by decide) (by decide)]; exact e60
          have := ih σ19 (V ++ [(q, k, dd)]) (nS (cf ρ q (F.2 q k).2.1) (F.2 q k).2.2.1 (dd + 1) ++ (nS (cg ρ q (F.2 q k).2.1) (F.2 q k).2.2.2 (dd + 1) ++ S)) n (by rw [List.length_append, List.length_singleton]; omega) (by omega) B19 F19 (fun i hi => ?_) ⟨?_, K19, ?_, ?_, ?_, ?_, ?_, ?_⟩
          · rw [List.length_append, List.length_singleton] at this
            rw [e20]; exact this
          · rw [k19 i (by omega) (by omega) (by omega), k15 i (by omega) (by omega) (by omega), k11 i (by omega) (by omega)]; exact hk i hi
          · rw [← h1, List.flatMap_cons, PTr_eq hF.2.1 hq hkq, List.flatMap_append, List.flatMap_append, nS_flat, nS_flat]
            simp only [List.append_assoc, List.cons_append, List.nil_append]
          · rw [j19 7 (by decide), j15 7 (by decide), e11, upS_j (by decide), e10, upS_s, List.length_append, List.length_singleton]; push_cast; rfl
          · rw [j19 8 (by decide), j15 8 (by decide), e11, upS_s, mxS_app]
            show max (mxS V : Int) (dd : Int) = ((max (mxS V) (max dd 0) : Nat) : Int)
            push_cast; omega
          · intro i hi
            have s71 : σ19 75 = σ9 75 := by rw [k19 75 (by decide) (by decide) (by decide), k15 75 (by decide) (by decide) (by decide), e11, upS_k (by decide), e10, upS_k (by decide)]
            rw [s71, e9]
            rw [List.length_append, List.length_singleton] at hi
            by_cases ei : i = V.length
            · subst ei
              rw [upS_s, List.getElem_append_right (Nat.le_refl _)]
              simp [idS]
            · rw [upS_j ei, e6, upS_k (by decide), List.getElem_append_left (by omega)]
              exact h5 i (by omega)
          · intro e he'
            rw [List.length_append, List.length_singleton]
            rw [List.mem_append, List.mem_append] at he'
            rcases he' with he' | he' | he'
            · obtain ⟨a1, a2⟩ := nS_mem he'
              subst a2
              exact ⟨⟨(f60 e60b _).2 (pg.1 a1).1, (pg.1 a1).2⟩, by show dd + 1 ≤ V.length + 1 + 1; omega⟩
            · obtain ⟨a1, a2⟩ := nS_mem he'
              subst a2
              exact ⟨⟨(f60 e60b _).2 (pg.2 a1).1, (pg.2 a1).2⟩, by show dd + 1 ≤ V.length + 1 + 1; omega⟩
            · obtain ⟨⟨a1, a2⟩, a3⟩ := h6 e (List.mem_cons_of_mem _ he')
              exact ⟨⟨(f60 e60b _).2 a1, a2⟩, by omega⟩
          · rw [List.length_append, List.length_append, List.length_append, List.length_singleton]; omega
          · rw [mxS_app, List.length_append, List.length_singleton]
            show max (mxS V) (max dd 0) ≤ V.length + 1
            omega
        exact c_leftTree hg hL B15 F15 ((f60 e60 q).2 hq) hkq (fun hc => left _ (Or.inl ⟨hc, rfl⟩)) (fun hc => left _ (Or.inr ⟨hc, rfl⟩))
      exact c_rightTree hg hL B11 F11 ((f60 (k11 60 (by decide) (by decide)) q).2 hq) hkq (fun hc => right _ (Or.inl ⟨hc, rfl⟩)) (fun hc => right _ (Or.inr ⟨hc, rfl⟩))
theorem c_followo {ρ σ : St} (hg : Wg ρ) (hL : LL ρ < 9) (hB : Bt ρ σ) {F : Fo} (hF : FoF ρ σ F) {q k : Nat} (hq : fD ρ σ q) (hk : k < F.1 q) {Q : Int → St → Prop} (hQ : ∀ σ1, σ1 72 7 = ((PTr ρ F q k 1).length : Int) → σ1 72 8 = (mxS (PTr ρ F q k 1) : Int) → (∀ i (h : i < (PTr ρ F q k 1).length), σ1 75 i = (idS (PTr ρ F q k 1)[i] : Int)) → (∀ k, (k < 72 ∨ 75 < k) → σ1 k = σ k) → Q 0 σ1) : wp_X10_follow_o ((16 * q + k : Nat) : Int) σ Q := by
  have hlen := PTr_len hg hL hF.2.1 (fun p hp => (hF.2.2.2.2.1 p hp).sg) (fun p hp => hp.1) hq hk (d := 1)
  unfold wp_X10_follow_o
  intro σ1 e1 σ2 e2 σ3 e3
  have k3 : ∀ i, i ≠ 72 → σ3 i = σ i := fun i hi => by rw [e3, upS_k hi, e2, upS_k hi, e1, upS_k hi]
  refine c_pusho (S := []) (σ := σ3) ⟨by rw [e3, upS_s]; rfl, trivial⟩ (by decide) (fun σ5 K5 k5 j5 => ?_)
  have kk : ∀ i, (i < 72 ∨ 75 < i) → σ5 i = σ i := fun i hi => by rw [k5 i (by omega) (by omega) (by omega), k3 i (by omega)]
  refine c_walko hg hL hlen (σ0 := σ) hQ 360 σ5 [] [(q, k, 1)] bigN (by rfl) (by unfold bigN; omega) (hB.ext (by rw [kk 14 (by decide)]) (fun i i1 i2 => kk i (by omega)) (fun i i1 i2 => kk i (by omega)) (by rw [kk 24 (by decide)]; simp)) (hF.ext (fun i i1 i2 => kk i (by omega))) kk ⟨by simp, K5, ?_, ?_, fun i hi => absurd hi (by simp), fun e he => ?_, by simp, by simp [mxS]⟩
  · rw [j5 7 (by decide), e3, upS_j (by decide), e2, upS_j (by decide), e1, upS_s]; rfl
  · rw [j5 8 (by decide), e3, upS_j (by decide), e2, upS_s]; rfl
  · rw [List.mem_singleton] at he
    subst he
    refine ⟨⟨?_, hk⟩, by simp⟩
    unfold fD
    rw [kk 60 (by decide)]
    exact hq
