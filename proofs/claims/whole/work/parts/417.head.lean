/-! rules of one label over a span; a label's first tree that is left -/
def Wgo (ρ : St) (a : Nat) : Prop := ∃ r, r ∈ uyL ρ 12 ∧ ρ 3 r = (a : Int)
theorem uy_info {ρ : St} (hg : Wg ρ) {r : Nat} (h : r ∈ uyL ρ 12) : (r : Int) < ρ 0 4 ∧ ρ 8 r = 0 ∧ ρ 5 r = -1 ∧ (0 ≤ ρ 3 r ∧ ρ 3 r < 12) ∧ (0 ≤ ρ 4 r ∧ ρ 4 r < 12) ∧ (1 ≤ ρ 6 r ∧ ρ 6 r ≤ 99) := by
  rw [mem_uyL] at h
  obtain ⟨hr, a', ha', hin⟩ := h
  rw [Bool.and_eq_true] at hin
  obtain ⟨hin, hun⟩ := hin
  unfold inA at hin
  unfold unR at hun
  rw [Bool.and_eq_true, decide_eq_true_iff, decide_eq_true_iff] at hin hun
  have hr4 : (r : Int) < ρ 0 4 := by have := hg.1; omega
  obtain ⟨hh, hp1, -, hpr, -⟩ := hg.2.2 r hr4
  unfold isPart at hp1
  exact ⟨hr4, hin.2, hun.1, hh, by omega, hpr⟩
theorem uy_mem {ρ : St} (hg : Wg ρ) {r : Nat} (hr : (r : Int) < ρ 0 4) (h8 : ρ 8 r = 0) (h5 : ρ 5 r = -1) (h4 : ρ 4 r < 12) : r ∈ uyL ρ 12 := by
  have hh := w_head hg hr
  rw [mem_uyL]
  refine ⟨by omega, (ρ 3 r).toNat, by omega, ?_⟩
  unfold inA unR
  rw [decide_eq_true (by omega : ρ 3 r = (((ρ 3 r).toNat : Nat) : Int)), decide_eq_true h8, decide_eq_true h5, decide_eq_true h4]; rfl
/-- the case of such a rule -/
def uTc (ρ : St) (s r t : Nat) : Prop := t < (cI ρ (12 * s + (ρ 3 r).toNat)).length ∧ cq ρ (12 * s + (ρ 3 r).toNat) t = ((r : Int), -1, ((12 * s + (ρ 4 r).toNat : Nat) : Int), -1)
theorem uTc_ex {ρ : St} (hg : Wg ρ) (hL : LL ρ < 9) {s r : Nat} (hs : s < spN (LL ρ)) (h : r ∈ uyL ρ 12) : ∃ t, uTc ρ s r t := by
  obtain ⟨u1, u2, u3, u4, u5, u6⟩ := uy_info hg h
  have qs := sp_s hL hs
  have hm : ((r : Int), (-1 : Int), ((12 * s + (ρ 4 r).toNat : Nat) : Int), (-1 : Int)) ∈ cI ρ (12 * s + (ρ 3 r).toNat) := by
    rw [mem_cI (by omega)]
    refine ⟨r, by omega, ?_, ?_⟩
    · unfold inA
      rw [decide_eq_true (by omega : ρ 3 r = (((ρ 3 r).toNat : Nat) : Int)), decide_eq_true u2]; rfl
    · rw [mem_cC]
      have e := pv_lab (ρ := ρ) (p := ρ 4 r) (i := spB (LL ρ) s) (j := spF (LL ρ) s) (by omega)
      rw [qs.2.2] at e
      refine Or.inl ⟨u3, by rw [e]; omega, ?_⟩
      rw [e, show ((s * 12 : Nat) : Int) + ρ 4 r = ((12 * s + (ρ 4 r).toNat : Nat) : Int) by omega]
  obtain ⟨t, ht, e⟩ := List.getElem_of_mem hm
  exact ⟨t, ht, by rw [cq_get ht]; exact e⟩
theorem cq_inj {ρ : St} {q t u : Nat} (ht : t < (cI ρ q).length) (hu : u < (cI ρ q).length) (h1 : (cq ρ q t).1 = (cq ρ q u).1) (h2 : cm ρ q t = cm ρ q u) : t = u := by
  unfold cm at h2
  rcases Nat.lt_trichotomy t u with g | g | g
  · rcases cI_pw g hu with r | ⟨-, r⟩ <;> omega
  · exact g
  · rcases cI_pw g ht with r | ⟨-, r⟩ <;> omega
theorem uTc_un {ρ : St} {s r t t2 : Nat} (h : uTc ρ s r t) (h2 : uTc ρ s r t2) : t = t2 := cq_inj h.1 h2.1 (by rw [h.2, h2.2]) (by unfold cm; rw [h.2, h2.2])
/-- a case that goes on within the span is of such a rule -/
theorem uTc_of {ρ : St} (hg : Wg ρ) (hL : LL ρ < 9) {s a t : Nat} (ha : a < 12) (hs : s < spN (LL ρ)) (ht : t < (cI ρ (12 * s + a)).length) (h : cm ρ (12 * s + a) t = -1 ∧ 0 ≤ cf ρ (12 * s + a) t) : ∃ r, r ∈ uyL ρ 12 ∧ ρ 3 r = (a : Int) ∧ uTc ρ s r t ∧ (cq ρ (12 * s + a) t).1 = (r : Int) := by
  obtain ⟨r, hr, h8, h3, hc, -, -, -, -, kind⟩ := cs_kind hg hL ha hs ht
  rcases kind with ⟨h5, e1, e2, -, -, ⟨-, e3⟩ | ⟨b, b1, b2, e3⟩⟩ | ⟨-, m, m1, m2, e1, -⟩
  · omega
  · refine ⟨r, uy_mem hg hr h8 h5 (by omega), h3, ?_, hc⟩
    have ea : (ρ 3 r).toNat = a := by omega
    have eb : (ρ 4 r).toNat = b := by omega
    unfold uTc
    rw [ea, eb]
    refine ⟨ht, ?_⟩
    unfold cm at e2
    unfold cf at e3
    unfold cg at e1
    exact Prod.ext hc (Prod.ext e2 (Prod.ext e3 e1))
  · omega
/-- parts of other cases are of other spans -/
theorem base_low {ρ : St} (hg : Wg ρ) (hL : LL ρ < 9) {s a t : Nat} (ha : a < 12) (hs : s < spN (LL ρ)) (ht : t < (cI ρ (12 * s + a)).length) (h : ¬ (cm ρ (12 * s + a) t = -1 ∧ 0 ≤ cf ρ (12 * s + a) t)) : (0 ≤ cf ρ (12 * s + a) t → (cf ρ (12 * s + a) t).toNat / 12 < s) ∧ (0 ≤ cg ρ (12 * s + a) t → (cg ρ (12 * s + a) t).toNat / 12 < s) := by
  obtain ⟨r, hr, h8, h3, hc, -, -, -, -, kind⟩ := cs_kind hg hL ha hs ht
  rcases kind with ⟨h5, e1, e2, -, -, ⟨-, e3⟩ | ⟨b, b1, b2, e3⟩⟩ | ⟨-, m, m1, m2, e1, -, -, -, -, e2, e3⟩
  · rw [e1, e3]; exact ⟨fun h => absurd h (by decide), fun h => absurd h (by decide)⟩
  · exact absurd ⟨e2, by omega⟩ h
  · have il := inside_lt hL hs m1 m2
    refine ⟨fun h0 => ?_, fun h0 => ?_⟩
    · obtain ⟨b, b1, -, b2⟩ := e2 h0
      omega
    · obtain ⟨b, b1, -, b2⟩ := e3 h0
      omega
def LowEq (F0 F : Fo) (s : Nat) : Prop := ∀ q, q / 12 ≠ s → F.1 q = F0.1 q ∧ ∀ k, F.2 q k = F0.2 q k
theorem LowEq.rf {F : Fo} {s : Nat} : LowEq F F s := fun _ _ => ⟨rfl, fun _ => rfl⟩
theorem LowEq.add {F0 F : Fo} {s q : Nat} {z : En} (h : LowEq F0 F s) (hq : q / 12 = s) : LowEq F0 (addF F q z) s := by
  intro p hp
  have hne : p ≠ q := fun e => hp (by rw [e]; exact hq)
  rw [addF_h, if_neg hne]
  refine ⟨(h p hp).1, fun k => ?_⟩
  rw [addF_e, if_neg (fun g => hne g.1)]
  exact (h p hp).2 k
theorem LowEq.cand {ρ : St} {F0 F : Fo} {s q : Nat} (h : LowEq F0 F s) {z : En} (h1 : 0 ≤ cf ρ q z.2.1 → (cf ρ q z.2.1).toNat / 12 ≠ s) (h2 : 0 ≤ cg ρ q z.2.1 → (cg ρ q z.2.1).toNat / 12 ≠ s) : CandE ρ F q z ↔ CandE ρ F0 q z := by
  have part : ∀ (p : Int) (x : Nat), (0 ≤ p → p.toNat / 12 ≠ s) → hsF F p = hsF F0 p ∧ scF F p x = scF F0 p x := by
    intro p x hp
    by_cases h0 : p < 0
    · rw [hsF_neg h0, hsF_neg h0, scF_neg h0, scF_neg h0]; exact ⟨rfl, rfl⟩
    · have hp := hp (by omega)
      rw [hsF_pos (by omega), hsF_pos (by omega), scF_pos (by omega), scF_pos (by omega), (h _ hp).1, (h _ hp).2]
      exact ⟨rfl, rfl⟩
  have A := part _ z.2.2.1 h1
  have B := part _ z.2.2.2 h2
  unfold CandE
  rw [A.1, B.1, A.2, B.2]
/-- the candidate of a rule of one label at a place -/
def uC (ρ : St) (F : Fo) (s r t x : Nat) : En := (ρ 6 r + (F.2 (12 * s + (ρ 4 r).toNat) x).1, t, x, 0)
theorem uC_cand {ρ : St} {F : Fo} {s r t x : Nat} (h : uTc ρ s r t) (hx : x < F.1 (12 * s + (ρ 4 r).toNat)) : CandE ρ F (12 * s + (ρ 3 r).toNat) (uC ρ F s r t x) := by
  have ef : cf ρ (12 * s + (ρ 3 r).toNat) t = ((12 * s + (ρ 4 r).toNat : Nat) : Int) := by unfold cf; rw [h.2]
  have eg : cg ρ (12 * s + (ρ 3 r).toNat) t = -1 := by unfold cg; rw [h.2]
  have ep : cp ρ (12 * s + (ρ 3 r).toNat) t = ρ 6 r := by unfold cp; rw [h.2]; rfl
  refine ⟨h.1, ?_, ?_, ?_⟩
  · show x < hsF F (cf ρ (12 * s + (ρ 3 r).toNat) t)
    rw [ef, hsF_pos (by omega), Int.toNat_natCast]; exact hx
  · show 0 < hsF F (cg ρ (12 * s + (ρ 3 r).toNat) t)
    rw [eg, hsF_neg (by decide)]; decide
  · show ρ 6 r + (F.2 (12 * s + (ρ 4 r).toNat) x).1 = cp ρ (12 * s + (ρ 3 r).toNat) t + scF F (cf ρ (12 * s + (ρ 3 r).toNat) t) x + scF F (cg ρ (12 * s + (ρ 3 r).toNat) t) 0
    rw [ep, ef, eg, scF_pos (by omega), Int.toNat_natCast, scF_neg (by decide), Int.add_zero]
theorem uC_of {ρ : St} {F : Fo} {s r : Nat} {w : En} (h : uTc ρ s r w.2.1) (hw : CandE ρ F (12 * s + (ρ 3 r).toNat) w) : w.2.2.1 < F.1 (12 * s + (ρ 4 r).toNat) ∧ w = uC ρ F s r w.2.1 w.2.2.1 := by
  obtain ⟨c, t, x, y⟩ := w
  obtain ⟨w1, w2, w3, w4⟩ := hw
  simp only at h w1 w2 w3 w4 ⊢
  have ef : cf ρ (12 * s + (ρ 3 r).toNat) t = ((12 * s + (ρ 4 r).toNat : Nat) : Int) := by unfold cf; rw [h.2]
  have eg : cg ρ (12 * s + (ρ 3 r).toNat) t = -1 := by unfold cg; rw [h.2]
  have ep : cp ρ (12 * s + (ρ 3 r).toNat) t = ρ 6 r := by unfold cp; rw [h.2]; rfl
  rw [ef, hsF_pos (by omega), Int.toNat_natCast] at w2
  rw [eg, hsF_neg (by decide)] at w3
  rw [ep, ef, eg, scF_pos (by omega), Int.toNat_natCast, scF_neg (by decide), Int.add_zero] at w4
  refine ⟨w2, ?_⟩
  unfold uC
  have y0 : y = 0 := by omega
  rw [w4, y0]
/-- the class at work on a span -/
def UCs (ρ σ : St) (s : Nat) : Prop := ∀ u (h : u < (uyL ρ 12).length), ∃ t, uTc ρ s (uyL ρ 12)[u] t ∧ σ 66 u = (((PL ρ (12 * s + (ρ 3 (uyL ρ 12)[u]).toNat)).length + t : Nat) : Int)
def UTk (ρ σ : St) (F : Fo) (s : Nat) : Prop := ∀ u (h : u < (uyL ρ 12).length), ∃ y : Nat, σ 67 u = (y : Int) ∧ y ≤ F.1 (12 * s + (ρ 4 (uyL ρ 12)[u]).toNat) ∧ ∀ t, uTc ρ s (uyL ρ 12)[u] t → ∀ x, x < F.1 (12 * s + (ρ 4 (uyL ρ 12)[u]).toNat) → (inF F (12 * s + (ρ 3 (uyL ρ 12)[u]).toNat) (uC ρ F s (uyL ρ 12)[u] t x) ↔ x < y)
def BTk (ρ σ : St) (F0 F : Fo) (s a : Nat) (n : Nat) (L : Nat → En) (c : Nat) : Prop := TopP (ltE ρ F0 (12 * s + a)) (BaseC ρ F0 (12 * s + a)) n L ∧ σ 64 a = (n : Int) ∧ (∀ i, i < n → BEc ρ σ (12 * s + a) a i (L i)) ∧ σ 65 a = (c : Int) ∧ c ≤ n ∧ ∀ i, i < n → (inF F (12 * s + a) (L i) ↔ i < c)
def GRW (ρ σ : St) (F0 F : Fo) (D : Nat → Prop) (s : Nat) (M : Int) : Prop := GSt ρ σ F D ∧ GrI ρ F D s (Wgo ρ) M ∧ (∀ q, D q → q < 12 * spN (LL ρ)) ∧ (∀ q, D q → SgF ρ F q) ∧ ClF ρ F0 D ∧ ExD D F0 F ∧ LowEq F0 F s ∧ UCs ρ σ s ∧ UTk ρ σ F s ∧ ∀ a, a < 12 → Wgo ρ a → ∃ n L c, BTk ρ σ F0 F s a n L c
/-- the heads of a label: of its base, and of rules of one label before u -/
def HdP (ρ σ : St) (F : Fo) (s a n : Nat) (L : Nat → En) (c u : Nat) (f : Int) (z : En) : Prop := (f = -1 ∧ c < n ∧ z = L c) ∨ ∃ (v : Nat) (h : v < (uyL ρ 12).length), v < u ∧ f = (v : Int) ∧ ρ 3 (uyL ρ 12)[v] = (a : Int) ∧ ∃ t y, uTc ρ s (uyL ρ 12)[v] t ∧ σ 67 v = ((y : Nat) : Int) ∧ y < F.1 (12 * s + (ρ 4 (uyL ρ 12)[v]).toNat) ∧ z = uC ρ F s (uyL ρ 12)[v] t y
theorem HdP.up {ρ σ : St} {F : Fo} {s a n : Nat} {L : Nat → En} {c u u2 : Nat} {f : Int} {z : En} (h : HdP ρ σ F s a n L c u f z) (hu : u ≤ u2) : HdP ρ σ F s a n L c u2 f z := by
  rcases h with h | ⟨v, hv, h1, h2⟩
  · exact Or.inl h
  · exact Or.inr ⟨v, hv, by omega, h2⟩
theorem uy_nodup {ρ : St} (hg : Wg ρ) {u v : Nat} (hu : u < (uyL ρ 12).length) (hv : v < (uyL ρ 12).length) (h : (uyL ρ 12)[u] = (uyL ρ 12)[v]) : u = v := by
  have pwA : ∀ a n, List.Pairwise (fun x y : Nat => x < y) (uyA ρ a n) := by
    intro a n
    induction n with
    | zero => exact List.Pairwise.nil
    | succ n ih =>
      unfold uyA
      rw [List.pairwise_append]
      refine ⟨ih, ?_, fun x hx y hy => ?_⟩
      · split
        · exact List.pairwise_singleton _ _
        · exact List.Pairwise.nil
      · rw [mem_uyA] at hx
        split at hy
        · rw [List.mem_singleton] at hy; omega
        · cases hy
  have nd : ∀ b, List.Pairwise (fun x y : Nat => x ≠ y) (uyL ρ b) := by
    intro b
    induction b with
    | zero => exact List.Pairwise.nil
    | succ b ih =>
      unfold uyL
      rw [List.pairwise_append]
      refine ⟨ih, (pwA b _).imp (fun h => by omega), fun x hx y hy => ?_⟩
      rw [mem_uyL] at hx
      rw [mem_uyA] at hy
      obtain ⟨-, a', ha', h1⟩ := hx
      intro e
      subst e
      have h2 := hy.2
      rw [Bool.and_eq_true] at h1 h2
      unfold inA at h1 h2
      simp only [Bool.and_eq_true, decide_eq_true_iff] at h1 h2
      omega
  have p := List.pairwise_iff_getElem.1 (nd 12)
  rcases Nat.lt_trichotomy u v with g | g | g
  · exact absurd h (p u v hu hv g)
  · exact g
  · exact absurd h.symm (p v u hv hu g)
