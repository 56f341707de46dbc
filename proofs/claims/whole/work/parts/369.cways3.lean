/-! the class's trees: the turns, all spans -/
theorem tb_zero {x : Int} (h : P32 x) : x = 0 ↔ ∀ k, tb x k = false := by
  constructor
  · intro e k; rw [e]; exact tb_0 k
  · intro hk
    refine tb_ext h.1 (Int.le_refl _) (fun k => ?_)
    rw [hk k, tb_0]
theorem c_lgo {ρ σ : St} (hg : Wg ρ) (hL : LL ρ < 9) (hB : Bt ρ σ) (hw : Lw ρ σ) {s : Nat} (hs : s < spN (LL ρ)) {Q : Int → St → Prop} (h : ∀ r, P32 r → (∀ a, tb r a = true ↔ (a < 12 ∧ ∃ b, b < 12 ∧ Ed ρ s a b)) → Q r σ) : wp_X2_labelsThatGoOn ((12 * s : Nat) : Int) σ Q := by
  have lp : ∀ (d a : Nat) (x : Int) (n : Nat), a + d = 12 → d < n → P32 x → (∀ a', tb x a' = true ↔ (a' < a ∧ ∃ b, b < 12 ∧ Ed ρ s a' b)) → wp_X2_labelsThatGoOn_l4 Q n ((12 * s : Nat) : Int) x (a : Int) σ := by
    intro d
    induction d with
    | zero =>
      intro a x n hd hn hx hb
      obtain ⟨n, rfl⟩ := suc_n hn
      unfold wp_X2_labelsThatGoOn_l4
      refine ⟨fun _ => h x hx (fun a' => ?_), fun w => absurd (by omega) w⟩
      rw [show a = 12 by omega] at hb
      exact hb a'
    | succ d ih =>
      intro a x n hd hn hx hb
      obtain ⟨n, rfl⟩ := suc_n hn
      unfold wp_X2_labelsThatGoOn_l4
      refine ⟨fun w => absurd w (by omega), fun _ => c_targets hg hL hB hw hs (fun r hr hbits => ⟨fun z => ?_, fun z v ev => ?_⟩)⟩
      · unfold wp_X2_labelsThatGoOn_b25
        intro v ev
        rw [ev, w32_of (by omega) (by omega), show (a : Int) + 1 = ((a + 1 : Nat) : Int) by omega]
        refine ih (a + 1) x n (by omega) (by omega) hx (fun a' => (hb a').trans ⟨fun y => ⟨by omega, y.2⟩, fun y => ⟨?_, y.2⟩⟩)
        by_cases e : a' = a
        · subst e
          obtain ⟨b, b1, b2⟩ := y.2
          have := (hbits b).2 ⟨b1, b2⟩
          rw [(tb_zero hr).1 z b] at this; cases this
        · omega
      · unfold wp_X2_labelsThatGoOn_b25
        intro v2 ev2
        rw [ev2, w32_of (by omega) (by omega), show (a : Int) + 1 = ((a + 1 : Nat) : Int) by omega, ev, b_shl_1 a (by omega)]
        have hp := pow31 (k := a) (by omega)
        refine ih (a + 1) _ n (by omega) (by omega) (b_or_p hx hp) (fun a' => ?_)
        rw [tb_or hx hp, tb_pow, Bool.or_eq_true, hb a', decide_eq_true_iff]
        constructor
        · rintro (y | y)
          · exact ⟨by omega, y.2⟩
          · subst y
            refine ⟨by omega, Classical.byContradiction (fun w => z ((tb_zero hr).2 (fun k => ?_)))⟩
            cases e : tb r k with
            | false => rfl
            | true => exact absurd ⟨k, (hbits k).1 e⟩ w
        · rintro ⟨y1, y2⟩
          by_cases e : a = a'
          · exact Or.inr e
          · exact Or.inl ⟨by omega, y2⟩
  unfold wp_X2_labelsThatGoOn
  exact lp 12 0 0 bigN (by omega) (by unfold bigN; omega) ⟨by decide, by decide⟩ (fun a' => by rw [tb_0]; exact ⟨fun z => (by cases z), fun z => (by omega)⟩)
theorem bit_1 {x : Int} (hx : P32 x) {k : Nat} (hk : k < 31) {A B : Prop} (h1 : tb x k = true → A) (h0 : tb x k = false → B) : (b_and (b_shr x (k : Int)) 1 ≠ 1 → B) ∧ (¬ (b_and (b_shr x (k : Int)) 1 ≠ 1) → A) := by
  rw [b_bit hx hk]
  cases e : tb x k with
  | true => exact ⟨fun z => absurd rfl z, fun _ => h1 e⟩
  | false => exact ⟨fun _ => h0 e, fun z => absurd (by decide) z⟩
def stk (ρ : St) (s : Nat) (x : Int) (a : Nat) : Prop := tb x a = true → ∃ b, b < 12 ∧ tb x b = true ∧ Ed ρ s a b
theorem OV.iff {ρ : St} {s : Nat} {w0 : Nat → Int} {O O' : Nat → Prop} {σ : St} (h : OV ρ s w0 O σ) (ho : ∀ a, a < 12 → (O a ↔ O' a)) : OV ρ s w0 O' σ := ⟨h.1, h.2.1, h.2.2.1, fun a ha => ⟨fun z => (h.2.2.2 a ha).1 ((ho a ha).2 z), fun z => (h.2.2.2 a ha).2 (fun y => z ((ho a ha).1 y))⟩⟩
theorem c_cs48 {ρ : St} (hg : Wg ρ) (hL : LL ρ < 9) {s : Nat} (hs : s < spN (LL ρ)) {w0 : Nat → Int} (h0 : W0 ρ s w0) {x0 x3 : Int} {Q : Int → St → Prop} {K : Int → Int → Int → St → Prop} (hk : ∀ x σ1, P32 x → OV ρ s w0 (fun a => tb x a = true) σ1 → ((x = x0 ∧ ∀ a, a < 12 → stk ρ s x a) ∨ (cntB (tb x) 12 < cntB (tb x0) 12 ∧ ¬ ∀ a, a < 12 → stk ρ s x0 a)) → ∀ v, v = w32 (x3 + 1) → K ((12 * s : Nat) : Int) x v σ1) : ∀ (d a : Nat) (x : Int) (σ : St) (n : Nat), a + d = 12 → d < n → P32 x → OV ρ s w0 (fun b => tb x b = true) σ → ((x = x0 ∧ ∀ a', a' < a → stk ρ s x a') ∨ (cntB (tb x) 12 < cntB (tb x0) 12 ∧ ¬ ∀ a, a < 12 → stk ρ s x0 a)) → wp_X2_countSpan_l48 Q K n ((12 * s : Nat) : Int) x x3 (a : Int) σ := by
  intro d
  induction d with
  | zero =>
    intro a x σ n hd hn hx hv hs2
    obtain ⟨n, rfl⟩ := suc_n hn
    unfold wp_X2_countSpan_l48
    refine ⟨fun _ v ev => hk x σ hx hv ?_ v ev, fun w => absurd (by omega) w⟩
    rw [show a = 12 by omega] at hs2
    exact hs2
  | succ d ih =>
    intro a x σ n hd hn hx hv hs2
    obtain ⟨n, rfl⟩ := suc_n hn
    have nx : ∀ x' σ', P32 x' → OV ρ s w0 (fun b => tb x' b = true) σ' → ((x' = x0 ∧ ∀ a', a' < a + 1 → stk ρ s x' a') ∨ (cntB (tb x') 12 < cntB (tb x0) 12 ∧ ¬ ∀ a, a < 12 → stk ρ s x0 a)) → wp_X2_countSpan_b93 Q K (wp_X2_countSpan_l48 Q K n) ((12 * s : Nat) : Int) x' x3 (a : Int) σ' := by
      intro x' σ' h1 h2 h3
      unfold wp_X2_countSpan_b93
      intro v ev
      rw [ev, w32_of (by omega) (by omega), show (a : Int) + 1 = ((a + 1 : Nat) : Int) by omega]
      exact ih (a + 1) x' σ' n (by omega) (by omega) h1 h2 h3
    unfold wp_X2_countSpan_l48
    refine ⟨fun w => absurd w (by omega), fun _ => bit_1 hx (by omega) (fun hb => ?_) (fun hb => nx x σ hx hv (hs2.imp (fun z => ⟨z.1, fun a' ha' => ?_⟩) id))⟩
    · refine c_targets hg hL hv.1 hv.2.1 hs (fun r hr hbits => ⟨fun z => nx x σ hx hv (hs2.imp (fun y => ⟨y.1, fun a' ha' => ?_⟩) id), fun z => ?_⟩)
      · by_cases e : a' = a
        · subst e
          intro _
          have ne : ¬ ∀ k, tb (b_and r x) k = false := fun w => z ((tb_zero (b_and_p hr hx)).2 w)
          refine Classical.byContradiction (fun w => ne (fun k => ?_))
          cases e2 : tb (b_and r x) k with
          | false => rfl
          | true =>
            rw [tb_and hr hx, Bool.and_eq_true] at e2
            have := (hbits k).1 e2.1
            exact absurd ⟨k, this.1, e2.2, this.2⟩ w
        · exact y.2 a' (by omega)
      · have za : ∀ k, tb (b_and r x) k = false := (tb_zero (b_and_p hr hx)).1 (by omega)
        refine c_addTargets hg hL hs (by omega) h0 hv hb (fun b hb12 he ho => ?_) (fun σ1 hv1 v ev => ?_)
        · have e2 := za b
          rw [tb_and hr hx, (hbits b).2 ⟨hb12, he⟩, ho] at e2
          cases e2
        · have cl := b_clr hx (r := a) (by omega)
          rw [ev]
          refine nx _ σ1 cl.1 (hv1.iff (fun b hb12 => ?_)) (Or.inr ?_)
          · rw [cl.2, Bool.and_eq_true, decide_eq_true_iff]
            exact ⟨fun y => ⟨y.1, fun e => y.2 e.symm⟩, fun y => ⟨y.1, fun e => y.2 e.symm⟩⟩
          · have lt : cntB (tb (b_and x (b_xor (b_shl 1 (a : Int)) (-1)))) 12 < cntB (tb x) 12 := cntB_lt 12 (fun k hk hkt => by
              rw [cl.2, Bool.and_eq_true] at hkt; exact hkt.1) ⟨a, by omega, hb, by rw [cl.2]; simp⟩
            rcases hs2 with y | y
            · refine ⟨by rw [← y.1]; exact lt, fun w => ?_⟩
              rw [← y.1] at w
              obtain ⟨b, b1, b2, b3⟩ := w a (by omega) hb
              have e2 := za b
              rw [tb_and hr hx, (hbits b).2 ⟨b1, b3⟩, b2] at e2
              cases e2
            · exact ⟨by omega, y.2⟩
    · by_cases e : a' = a
      · subst e
        intro z; rw [hb] at z; cases z
      · exact z.2 a' (by omega)
def Tq (ρ : St) (s0 : Nat) (σ : St) : Prop := Bt ρ σ ∧ Lw ρ σ ∧ ∀ x, x < 12 * s0 → Rt ρ x (σ 42 x)
theorem c_cs107 {ρ : St} (hL : LL ρ < 9) {s : Nat} (hs : s < spN (LL ρ)) {w0 : Nat → Int} (h0 : W0 ρ s w0) {x : Int} (hx : P32 x) (hst : ∀ a, a < 12 → stk ρ s x a) {Q : Int → St → Prop} (hq : ∀ σ1, Tq ρ (s + 1) σ1 → Q 0 σ1) : ∀ (d a : Nat) (σ : St) (n : Nat), a + d = 12 → d < n → OV ρ s w0 (fun b => tb x b = true ∧ a ≤ b) σ → wp_X2_countSpan_l107 Q n ((12 * s : Nat) : Int) x (a : Int) σ := by
  have h3 := sp_3 _ hL
  intro d
  induction d with
  | zero =>
    intro a σ n hd hn hv
    obtain ⟨n, rfl⟩ := suc_n hn
    unfold wp_X2_countSpan_l107
    refine ⟨fun _ => hq σ ⟨hv.1, hv.2.1, fun y hy => ?_⟩, fun w => absurd (by omega) w⟩
    by_cases h : y < 12 * s
    · rw [hv.2.2.1 y h]; exact h0.2 y h
    · have := (hv.2.2.2 (y - 12 * s) (by omega)).2 (fun z => by omega)
      rw [show 12 * s + (y - 12 * s) = y by omega] at this
      exact this
  | succ d ih =>
    intro a σ n hd hn hv
    obtain ⟨n, rfl⟩ := suc_n hn
    have nx : ∀ σ', OV ρ s w0 (fun b => tb x b = true ∧ a + 1 ≤ b) σ' → wp_X2_countSpan_b133 Q (wp_X2_countSpan_l107 Q n) ((12 * s : Nat) : Int) x (a : Int) σ' := by
      intro σ' hv'
      unfold wp_X2_countSpan_b133
      intro v ev
      rw [ev, w32_of (by omega) (by omega), show (a : Int) + 1 = ((a + 1 : Nat) : Int) by omega]
      exact ih (a + 1) σ' n (by omega) (by omega) hv'
    unfold wp_X2_countSpan_l107
    rw [w32_of (x := ((12 * s : Nat) : Int) + (a : Int)) (by omega) (by omega), show ((12 * s : Nat) : Int) + (a : Int) = ((12 * s + a : Nat) : Int) by omega, Int.toNat_natCast]
    refine ⟨fun w => absurd w (by omega), fun _ => bit_1 hx (by omega) (fun hb => ⟨by omega, fun σ13 e13 => nx σ13 ⟨by rw [e13]; exact hv.1, by rw [e13]; exact hv.2.1, fun y hy => by rw [e13, upS_j (by omega)]; exact hv.2.2.1 y hy, fun b hb12 => ?_⟩⟩) (fun hb => nx σ (hv.iff (fun b hb12 => ⟨fun z => ⟨z.1, ?_⟩, fun z => ⟨z.1, by omega⟩⟩)))⟩
    · rw [e13]
      by_cases e : b = a
      · subst e
        rw [upS_s]
        refine ⟨fun z => by omega, fun _ => Or.inl ⟨rfl, ?_⟩⟩
        rintro ⟨k, hkq⟩
        exact stuck_nf hL hs (O := fun c => tb x c = true) (fun c hc hoc => hst c hc hoc) k b hb12 hb hkq
      · rw [upS_j (by omega)]
        have := hv.2.2.2 b hb12
        exact ⟨fun z => this.1 ⟨z.1, by omega⟩, fun z => this.2 (fun y => z ⟨y.1, by omega⟩)⟩
    · by_cases e : b = a
      · subst e; rw [z.1] at hb; cases hb
      · omega
theorem c_cs35 {ρ : St} (hg : Wg ρ) (hL : LL ρ < 9) {s : Nat} (hs : s < spN (LL ρ)) {w0 : Nat → Int} (h0 : W0 ρ s w0) {Q : Int → St → Prop} (hq : ∀ σ1, Tq ρ (s + 1) σ1 → Q 0 σ1) : ∀ (d t : Nat) (x : Int) (σ : St) (n : Nat), t + d = 12 → d < n → P32 x → OV ρ s w0 (fun b => tb x b = true) σ → (cntB (tb x) 12 ≤ 12 - t ∨ ∀ a, a < 12 → stk ρ s x a) → wp_X2_countSpan_l35 Q n ((12 * s : Nat) : Int) x (t : Int) σ := by
  have fin : ∀ x σ, P32 x → OV ρ s w0 (fun b => tb x b = true) σ → (∀ a, a < 12 → stk ρ s x a) → wp_X2_countSpan_b105 Q ((12 * s : Nat) : Int) x σ := by
    intro x σ hx hv hst
    unfold wp_X2_countSpan_b105
    exact c_cs107 hL hs h0 hx hst hq 12 0 σ bigN (by omega) (by unfold bigN; omega) (hv.iff (fun b _ => ⟨fun z => ⟨z, by omega⟩, fun z => z.1⟩))
  intro d
  induction d with
  | zero =>
    intro t x σ n hd hn hx hv hc
    obtain ⟨n, rfl⟩ := suc_n hn
    unfold wp_X2_countSpan_l35
    refine ⟨fun _ => fin x σ hx hv (fun a ha z => ?_), fun w => absurd (by omega) w⟩
    rcases hc with hc | hc
    · rw [cntB_none (f := tb x) (n := 12) (by omega) a ha] at z; cases z
    · exact hc a ha z
  | succ d ih =>
    intro t x σ n hd hn hx hv hc
    obtain ⟨n, rfl⟩ := suc_n hn
    unfold wp_X2_countSpan_l35
    refine ⟨fun w => absurd w (by omega), fun _ => ⟨fun z => fin x σ hx hv (fun a ha y => ?_), fun z => ?_⟩⟩
    · rw [(tb_zero hx).1 z a] at y; cases y
    · refine c_cs48 hg hL hs h0 (x0 := x) (fun x' σ1 hx' hv' hs' v ev => ?_) 12 0 x σ bigN (by omega) (by unfold bigN; omega) hx hv (Or.inl ⟨rfl, fun a' ha' => by omega⟩)
      rw [ev, w32_of (by omega) (by omega), show (t : Int) + 1 = ((t + 1 : Nat) : Int) by omega]
      refine ih (t + 1) x' σ1 n (by omega) (by omega) hx' hv' ?_
      rcases hs' with y | y
      · exact Or.inr y.2
      · rcases hc with hc | hc
        · exact Or.inl (by omega)
        · exact absurd hc y.2
theorem c_countSpan {ρ σ : St} (hg : Wg ρ) (hL : LL ρ < 9) {s : Nat} (hs : s < spN (LL ρ)) (hT : Tq ρ s σ) {Q : Int → St → Prop} (hq : ∀ σ1, Tq ρ (s + 1) σ1 → Q 0 σ1) : wp_X2_countSpan ((12 * s : Nat) : Int) σ Q := by
  have h3 := sp_3 _ hL
  have h0 : W0 ρ s (fun x => if x < 12 * s then σ 42 x else 0) := by
    refine ⟨fun x => ?_, fun x hx => ?_⟩
    · show eR (if x < 12 * s then σ 42 x else 0)
      by_cases h : x < 12 * s
      · rw [if_pos h]
        rcases (hT.2.2 x h).r with z | z
        · exact Or.inl z
        · exact Or.inr z
      · rw [if_neg h]; exact Or.inr (by unfold sR B0; omega)
    · show Rt ρ x (if x < 12 * s then σ 42 x else 0)
      rw [if_pos hx]; exact hT.2.2 x hx
  generalize hw0 : (fun x => if x < 12 * s then σ 42 x else 0) = w0 at h0
  have e0 : ∀ x, x < 12 * s → σ 42 x = w0 x := fun x hx => by rw [← hw0]; show _ = if x < 12 * s then σ 42 x else 0; rw [if_pos hx]
  have lp : ∀ (d a : Nat) (σ1 : St) (n : Nat), a + d = 12 → d < n → Bt ρ σ1 → Lw ρ σ1 → (∀ x, x < 12 * s → σ1 42 x = w0 x) → (∀ b, b < a → ccV ρ w0 (cI ρ (12 * s + b)) (σ1 42 (12 * s + b))) → wp_X2_countSpan_l2 Q n ((12 * s : Nat) : Int) ((12 * s + a : Nat) : Int) σ1 := by
    intro d
    induction d with
    | zero =>
      intro a σ1 n hd hn b1 b2 b3 b4
      obtain ⟨n, rfl⟩ := suc_n hn
      unfold wp_X2_countSpan_l2
      rw [w32_of (x := ((12 * s : Nat) : Int) + 12) (by omega) (by omega)]
      refine ⟨fun _ => c_lgo hg hL b1 b2 hs (fun r hr hbits => ?_), fun w => absurd (by omega) w⟩
      refine c_cs35 hg hL hs h0 hq 12 0 r σ1 bigN (by omega) (by unfold bigN; omega) hr ⟨b1, b2, b3, fun b hb => ⟨fun _ => b4 b (by omega), fun ho => ?_⟩⟩ (Or.inl (by have := cntB_le (tb r) 12; omega))
      have ne : ∀ c ∈ cI ρ (12 * s + b), fullC ρ c → ¬ goC c := by
        intro c hc hf hgo
        obtain ⟨x, hx12, ex⟩ := goC_lab hg hL hs hb hc hgo
        exact ho ((hbits b).2 ⟨hb, x, hx12, (Ed_case hL hs hb hx12).2 ⟨c, hc, hf, hgo, ex⟩⟩)
      rcases b4 b (by omega) with ⟨z1, c, hc, hf, hgo, hb2⟩ | ⟨z1, z2, z3⟩
      · exact Or.inl ⟨z1, cc_bad hg hL hs hb h0 hc hf hgo hb2⟩
      · have rt := Rt.of (ρ := ρ) (q := 12 * s + b) (w := w0) (fun c hc hf => (cc_fin hg hL hs hb h0 hc (ne c hc hf) (z1 c hc hf (ne c hc hf))).1) (fun c hc hf => (cc_fin hg hL hs hb h0 hc (ne c hc hf) (z1 c hc hf (ne c hc hf))).2)
        have e : wS ρ w0 (cI ρ (12 * s + b)) = bS ρ w0 (cI ρ (12 * s + b)) := by
          refine sumC_congr _ (fun c hc => ?_)
          by_cases hf : fullC ρ c
          · rw [ix_y hf, ix_y ⟨hf, ne c hc hf⟩]
          · rw [ix_n hf, ix_n (fun z => hf z.1)]
        rw [e] at rt
        rw [z3]; exact rt
    | succ d ih =>
      intro a σ1 n hd hn b1 b2 b3 b4
      obtain ⟨n, rfl⟩ := suc_n hn
      unfold wp_X2_countSpan_l2
      rw [w32_of (x := ((12 * s : Nat) : Int) + 12) (by omega) (by omega)]
      refine ⟨fun w => absurd w (by omega), fun _ => c_countCases hg hL b1 b2 hs (a := a) (by omega) h0.1 (fun c hc hf hgo => ?_) (fun v hv => ⟨by omega, fun σ5 e5 v6 e6 => ?_⟩)⟩
      · have lt := nb_lt hg hL hs (by omega) hc hgo
        exact ⟨fun z => b3 _ (by omega), fun z => b3 _ (by omega)⟩
      · rw [e6, w32_of (by omega) (by omega), show ((12 * s + a : Nat) : Int) + 1 = ((12 * s + (a + 1) : Nat) : Int) by omega]
        rw [Int.toNat_natCast] at e5
        refine ih (a + 1) σ5 n (by omega) (by omega) (by rw [e5]; exact b1) (by rw [e5]; exact b2) (fun x hx => by rw [e5, upS_j (by omega)]; exact b3 x hx) (fun b hb => ?_)
        by_cases e : b = a
        · rw [e5, e, upS_s]; exact hv
        · rw [e5, upS_j (by omega)]; exact b4 b (by omega)
  unfold wp_X2_countSpan
  exact lp 12 0 σ bigN (by omega) (by unfold bigN; omega) hT.1 hT.2.1 e0 (fun b hb => by omega)
/-- what is kept of the trees -/
def TrK (ρ σ : St) : Prop := ∀ x, x < 12 * spN (LL ρ) → Rt ρ x (σ 42 x)
theorem c_treesOf {ρ σ : St} (hW : WW ρ) (hk : KL ρ σ) (ht : σ 41 6 = 0 ∨ (σ 41 6 = 1 ∧ TrK ρ σ)) {q : Nat} (hq4 : q < 432) {Q : Int → St → Prop} (hq : ∀ σ1, Bt ρ σ1 → σ1 36 7 = 1 → Lw ρ σ1 → σ1 41 6 = 1 → TrK ρ σ1 → Q (σ1 42 q) σ1) : wp_X2_treesOf (q : Int) σ Q := by
  have hg := hW.2.2.1
  have hL : LL ρ < 9 := by have := hW.2.2.2.2.2.1; unfold LL; omega
  have h3 := sp_3 _ hL
  unfold wp_X2_treesOf
  refine mf_X1_prepare (σ0 := σ) (Q := fun _ σ1 => Bt ρ σ1 ∧ σ1 36 7 = 1 ∧ Lw ρ σ1) (fun _ σ2 h f => ?_) Fr.rf (c_prepare hW hk.1 hk.2.1 hk.2.2.1 hk.2.2.2 (fun σ1 a b c => ⟨a, b, c⟩))
  obtain ⟨b1, b2, b3⟩ := h
  have e6 : σ2 41 6 = σ 41 6 := f.at rfl
  have e42 : σ2 42 = σ 42 := funext (fun j => f.at rfl)
  have fin : ∀ σ1, Bt ρ σ1 → σ1 36 7 = 1 → Lw ρ σ1 → σ1 41 6 = 1 → TrK ρ σ1 → wp_X2_treesOf_b46 Q (q : Int) σ1 := by
    intro σ1 a1 a2 a3 a4 a5
    unfold wp_X2_treesOf_b46
    rw [Int.toNat_natCast]
    exact ⟨by omega, hq σ1 a1 a2 a3 a4 a5⟩
  refine ⟨fun w => ?_, fun w σ3 e3 => ?_⟩
  · rcases ht with z | z
    · exact absurd (by rw [e6]; exact z) w
    · exact fin σ2 b1 b2 b3 (by rw [e6]; exact z.1) (by unfold TrK; rw [e42]; exact z.2)
  · have lp : ∀ (d s : Nat) (σ1 : St) (n : Nat), s + d = spN (LL ρ) → d < n → Tq ρ s σ1 → σ1 36 7 = 1 → σ1 41 6 = 1 → wp_X2_treesOf_l21 Q n (q : Int) (s : Int) σ1 := by
      intro d
      induction d with
      | zero =>
        intro s σ1 n hd hn hT h7 h6
        obtain ⟨n, rfl⟩ := suc_n hn
        unfold wp_X2_treesOf_l21
        rw [hT.1.1.2.1.2.1]
        refine ⟨fun _ => fin σ1 hT.1 h7 hT.2.1 h6 (fun x hx => hT.2.2 x (by omega)), fun w => absurd (by omega) w⟩
      | succ d ih =>
        intro s σ1 n hd hn hT h7 h6
        obtain ⟨n, rfl⟩ := suc_n hn
        unfold wp_X2_treesOf_l21
        rw [hT.1.1.2.1.2.1, w32_of (x := (s : Int) * 12) (by omega) (by omega), show (s : Int) * 12 = ((12 * s : Nat) : Int) by omega]
        refine ⟨fun w => absurd w (by omega), fun _ => ?_⟩
        refine mf_X2_countSpan (σ0 := σ1) (Q := fun _ σ4 => Tq ρ (s + 1) σ4) (fun _ σ4 hT4 f4 v ev => ?_) Fr.rf (c_countSpan hg hL (by omega) hT (fun _ h => h))
        rw [ev, w32_of (by omega) (by omega), show (s : Int) + 1 = ((s + 1 : Nat) : Int) by omega]
        exact ih (s + 1) σ4 n (by omega) (by omega) hT4 (by rw [f4.at rfl]; exact h7) (by rw [f4.at rfl]; exact h6)
    exact lp (spN (LL ρ)) 0 σ3 bigN (by omega) (by unfold bigN; omega) ⟨by rw [e3]; exact b1, by rw [e3]; exact b3, fun x hx => by omega⟩ (by rw [e3]; exact b2) (by rw [e3, upS_s])
