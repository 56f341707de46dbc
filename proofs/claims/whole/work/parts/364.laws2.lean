/-! laws: the reference's, and the op -/
def BP (x : Int) (P : Int → Prop) : Prop := P32 x ∧ ∀ k : Nat, k < 5 → (tb x k = true ↔ P k)
theorem BP.iff {x : Int} {P R : Int → Prop} (h : BP x P) (hp : ∀ y, P y ↔ R y) : BP x R := ⟨h.1, fun k hk => (h.2 k hk).trans (hp k)⟩
theorem BP.put {x y : Int} {P : Int → Prop} (h : BP x P) (hy : 0 ≤ y ∧ y < 5) : BP (b_or x (b_shl 1 y)) (fun z => P z ∨ z = y) := by
  rw [show y = (y.toNat : Int) by omega, b_shl_1 y.toNat (by omega)]
  have hp := pow31 (k := y.toNat) (by omega)
  refine ⟨b_or_p h.1 hp, fun k hk => ?_⟩
  rw [tb_or h.1 hp, tb_pow, Bool.or_eq_true, h.2 k hk, decide_eq_true_iff]
  exact ⟨fun z => z.imp id (fun w => by omega), fun z => z.imp id (fun w => by omega)⟩
theorem b_or_z {x : Int} (h : P32 x) : b_or x 0 = x := by
  rw [b_or_n h ⟨by decide, by decide⟩]
  have := h.1
  simp; omega
def thr (j : Nat) : Prop := j = 1 ∨ j = 3 ∨ j = 6 ∨ j = 7
theorem r_keepsThree {ρ τ : St} (hw : Wb ρ) (vb : VRb τ ρ) {j : Nat} (hj : thr j) {a b c : Int} (ha : inB ρ a) (hb : inB ρ b) (hc : inB ρ c) {Q : Int → St → Prop} (h1 : l3 ρ j a b c → Q 1 τ) (h0 : ¬ l3 ρ j a b c → Q 0 τ) : wp_X12_keepsThree (j : Int) a b c τ Q := by
  have pab := vPl_r hw ha hb
  have pbc := vPl_r hw hb hc
  have tab := vTi_r hw ha hb
  have tbc := vTi_r hw hb hc
  have tac := vTi_r hw ha hc
  unfold wp_X12_keepsThree
  refine ⟨fun e => ?_, fun e => ?_, fun e => ?_, fun e => ?_⟩
  · have e : j = 1 := by omega
    subst e
    refine r_sum2 hw vb ha hb (r_sum2 hw vb pab hc (r_sum2 hw vb hb hc (r_sum2 hw vb ha pbc ⟨fun z => h0 (fun w => z (w.1 rfl)), fun z => h1 ⟨fun _ => Classical.byContradiction z, fun w => by omega, fun w => by omega, fun w => by omega⟩⟩)))
  · have e : j = 3 := by omega
    subst e
    refine r_product2 hw vb ha hb (r_product2 hw vb tab hc (r_product2 hw vb hb hc (r_product2 hw vb ha tbc ⟨fun z => h0 (fun w => z (w.2.1 rfl)), fun z => h1 ⟨fun w => by omega, fun _ => Classical.byContradiction z, fun w => by omega, fun w => by omega⟩⟩)))
  · have e : j = 6 := by omega
    subst e
    refine r_sum2 hw vb hb hc (r_product2 hw vb ha pbc (r_product2 hw vb ha hb (r_product2 hw vb ha hc (r_sum2 hw vb tab tac ⟨fun z => h0 (fun w => z (w.2.2.1 rfl)), fun z => h1 ⟨fun w => by omega, fun w => by omega, fun _ => Classical.byContradiction z, fun w => by omega⟩⟩))))
  · have e : j = 7 := by unfold thr at hj; omega
    subst e
    refine r_sum2 hw vb ha hb (r_product2 hw vb pab hc (r_product2 hw vb ha hc (r_product2 hw vb hb hc (r_sum2 hw vb tac tbc ⟨fun z => h0 (fun w => z (w.2.2.2 rfl)), fun z => h1 ⟨fun w => by omega, fun w => by omega, fun w => by omega, fun _ => Classical.byContradiction z⟩⟩))))
theorem r_keeps {ρ τ : St} (hw : Wb ρ) (vb : VRb τ ρ) {j : Nat} (hj : ¬ thr j) (hj9 : j < 9) {a b : Int} (ha : inB ρ a) (hb : inB ρ b) {Q : Int → St → Prop} (h1 : (l1 ρ j a ∧ l2 ρ j a b) → Q 1 τ) (h0 : ¬ (l1 ρ j a ∧ l2 ρ j a b) → Q 0 τ) : wp_X12_keeps (j : Int) a b τ Q := by
  have z := hw.2.2.1
  have o := hw.2.2.2.1
  have e7 : τ 7 (Int.toNat 0) = ρ 0 6 := vb.2.1
  have e8 : τ 8 (Int.toNat 0) = ρ 0 7 := vb.2.2.1
  unfold thr at hj
  unfold wp_X12_keeps wp_X12_keeps_b116 wp_X12_keeps_b162 wp_X12_keeps_b164
  refine ⟨fun e => ?_, fun e => absurd e (by omega), fun e => ?_, fun e => absurd e (by omega), fun e => ?_, fun e => ?_, fun e => ?_⟩
  · have e : j = 0 := by omega
    subst e
    exact r_sum2 hw vb ha hb (r_sum2 hw vb hb ha ⟨fun w => h0 (fun y => w (y.2 rfl)), fun w => h1 ⟨⟨fun y => by omega, fun y => by omega, fun y => by omega, fun y => by omega, fun y => by omega, fun y => by omega⟩, fun _ => Classical.byContradiction w⟩⟩)
  · have e : j = 2 := by omega
    subst e
    rw [e7]
    exact r_sum2 hw vb ha z ⟨fun w => h0 (fun y => w (y.1.1 rfl)), fun w => h1 ⟨⟨fun _ => Classical.byContradiction w, fun y => by omega, fun y => by omega, fun y => by omega, fun y => by omega, fun y => by omega⟩, fun y => by omega⟩⟩
  · have e : j = 4 := by omega
    subst e
    rw [e8]
    refine r_product2 hw vb o ha ⟨fun w => h0 (fun y => w (y.1.2.1 rfl)), fun w => ?_⟩
    rw [e8]
    exact r_product2 hw vb ha o ⟨fun w2 => h0 (fun y => w2 (y.1.2.2.1 rfl)), fun w2 => h1 ⟨⟨fun y => by omega, fun _ => Classical.byContradiction w, fun _ => Classical.byContradiction w2, fun y => by omega, fun y => by omega, fun y => by omega⟩, fun y => by omega⟩⟩
  · have e : j = 5 := by omega
    subst e
    rw [e7]
    refine r_product2 hw vb z ha ?_
    rw [e7]
    refine ⟨fun w => h0 (fun y => w (y.1.2.2.2.1 rfl)), fun w => ?_⟩
    refine r_product2 hw vb ha z ?_
    rw [e7]
    exact ⟨fun w2 => h0 (fun y => w2 (y.1.2.2.2.2.1 rfl)), fun w2 => h1 ⟨⟨fun y => by omega, fun y => by omega, fun y => by omega, fun _ => Classical.byContradiction w, fun _ => Classical.byContradiction w2, fun y => by omega⟩, fun y => by omega⟩⟩
  · have e : j = 8 := by omega
    subst e
    exact r_sum2 hw vb ha ha ⟨fun w => h0 (fun y => w (y.1.2.2.2.2.2 rfl)), fun w => h1 ⟨⟨fun y => by omega, fun y => by omega, fun y => by omega, fun y => by omega, fun y => by omega, fun _ => Classical.byContradiction w⟩, fun y => by omega⟩⟩
def HoP (ρ : St) (P : Int → Prop) (j : Nat) (a b : Nat) : Prop := (thr j → ∀ c : Nat, (c : Int) < ρ 0 5 → P c → l3 ρ j a b c) ∧ (¬ thr j → l1 ρ j a ∧ l2 ρ j a b)
theorem LwP_iff {ρ : St} {P : Int → Prop} {j : Nat} : LwP ρ P j ↔ ∀ a : Nat, (a : Int) < ρ 0 5 → P a → ∀ b : Nat, (b : Int) < ρ 0 5 → P b → HoP ρ P j a b := by
  constructor
  · intro h a a1 a2 b b1 b2
    obtain ⟨h1, h2⟩ := h a a1 a2
    obtain ⟨h3, h4⟩ := h2 b b1 b2
    exact ⟨fun _ => h4, fun _ => ⟨h1, h3⟩⟩
  · intro h a a1 a2
    by_cases t : thr j
    · have n := t
      unfold thr at n
      exact ⟨⟨fun y => by omega, fun y => by omega, fun y => by omega, fun y => by omega, fun y => by omega, fun y => by omega⟩, fun b b1 b2 => ⟨fun y => by omega, (h a a1 a2 b b1 b2).1 t⟩⟩
    · have n := t
      unfold thr at n
      exact ⟨((h a a1 a2 a a1 a2).2 t).1, fun b b1 b2 => ⟨((h a a1 a2 b b1 b2).2 t).2, fun c _ _ => ⟨fun y => by omega, fun y => by omega, fun y => by omega, fun y => by omega⟩⟩⟩
theorem r_holds {ρ τ : St} (hw : Wb ρ) (vb : VRb τ ρ) {P : Int → Prop} {x : Int} (hx : BP x P) {j : Nat} (hj9 : j < 9) {Q : Int → St → Prop} (h1 : LwP ρ P j → Q 1 τ) (h0 : ¬ LwP ρ P j → Q 0 τ) : wp_X12_holds (j : Int) x τ Q := by
  have hN := hw.2.1
  have hN2 := hw.1
  have e6 : τ 6 (Int.toNat 0) = ρ 0 5 := vb.1
  rw [LwP_iff] at h1 h0
  have key : ∀ t : Int, (t ≠ 0 ↔ thr j) → wp_X12_holds_l31 Q bigN (j : Int) x t 0 τ := by
    intro t ht
    have lp3 : ∀ (a b : Nat) (K31 : Int → Int → Int → Int → St → Prop) (K : Int → Int → Int → Int → Int → St → Prop), (a : Int) < ρ 0 5 → (b : Int) < ρ 0 5 → P a → P b → (¬ thr j → l1 ρ j a ∧ l2 ρ j a b) → (HoP ρ P j a b → wp_X12_holds_b141 Q K31 K (j : Int) x t (a : Int) (b : Int) τ) → ∀ (d c : Nat) (n : Nat), (c : Int) + d = ρ 0 5 → d < n → (∀ c' : Nat, c' < c → P c' → thr j → l3 ρ j a b c') → wp_X12_holds_l94 Q K31 K n (j : Int) x t (a : Int) (b : Int) (c : Int) τ := by
      intro a b K31 K ha hb hPa hPb hnt hk d
      induction d with
      | zero =>
        intro c n hd hn hc
        obtain ⟨n, rfl⟩ := suc_n hn
        unfold wp_X12_holds_l94
        rw [e6]
        exact ⟨fun _ => hk ⟨fun tj c' g1 g2 => hc c' (by omega) g2 tj, hnt⟩, fun w => absurd (by omega) w⟩
      | succ d ih =>
        intro c n hd hn hc
        obtain ⟨n, rfl⟩ := suc_n hn
        have hc5 : (c : Int) < ρ 0 5 := by push_cast at hd; omega
        have bit := b_bit hx.1 (k := c) (by omega)
        have nx : (P c → thr j → l3 ρ j a b c) → wp_X12_holds_b135 Q K31 K (wp_X12_holds_l94 Q K31 K n) (j : Int) x t (a : Int) (b : Int) (c : Int) τ := by
          intro h
          unfold wp_X12_holds_b135
          intro v ev
          rw [ev, w32_of (by omega) (by omega), show (c : Int) + 1 = ((c + 1 : Nat) : Int) by omega]
          refine ih (c + 1) n (by push_cast at hd ⊢; omega) (by omega) (fun c' g1 g2 => ?_)
          by_cases e : c' = c
          · subst e; exact h g2
          · exact hc c' (by omega) g2
        unfold wp_X12_holds_l94
        rw [e6, bit]
        refine ⟨fun w => absurd w (by omega), fun _ => ⟨fun z => hk ⟨fun tj => absurd z (ht.2 tj), hnt⟩, fun z => ⟨fun y => nx (fun hP => ?_), fun y => ?_⟩⟩⟩
        · rw [if_pos ((hx.2 c (by omega)).2 hP)] at y
          exact absurd rfl y
        · have tj := ht.1 z
          have hP : P c := (hx.2 c (by omega)).1 (by
            cases eb : tb x c with
            | true => rfl
            | false => rw [eb] at y; exact absurd (by decide) y)
          refine r_keepsThree hw vb tj ⟨by omega, ha⟩ ⟨by omega, hb⟩ ⟨by omega, hc5⟩ (fun h => ⟨fun _ => nx (fun _ _ => h), fun w => absurd (by decide) w⟩) (fun h => ⟨fun w => absurd rfl w, fun _ => h0 (fun g => h ((g a ha hPa b hb hPb).1 tj c hc5 hP))⟩)
    have lp2 : ∀ (a : Nat) (K : Int → Int → Int → Int → St → Prop), (a : Int) < ρ 0 5 → ((P a → ∀ b : Nat, (b : Int) < ρ 0 5 → P b → HoP ρ P j a b) → K (j : Int) x t ((a + 1 : Nat) : Int) τ) → ∀ (d b : Nat) (n : Nat), (b : Int) + d = ρ 0 5 → d < n → (P a → ∀ b' : Nat, b' < b → P b' → HoP ρ P j a b') → wp_X12_holds_l45 Q K n (j : Int) x t (a : Int) (b : Int) τ := by
      intro a K ha hk d
      induction d with
      | zero =>
        intro b n hd hn hb
        obtain ⟨n, rfl⟩ := suc_n hn
        unfold wp_X12_holds_l45
        rw [e6]
        refine ⟨fun _ v ev => ?_, fun w => absurd (by omega) w⟩
        rw [ev, w32_of (by omega) (by omega), show (a : Int) + 1 = ((a + 1 : Nat) : Int) by omega]
        exact hk (fun hPa b' g1 g2 => hb hPa b' (by omega) g2)
      | succ d ih =>
        intro b n hd hn hb
        obtain ⟨n, rfl⟩ := suc_n hn
        have hb5 : (b : Int) < ρ 0 5 := by push_cast at hd; omega
        have nx : (P a → P b → HoP ρ P j a b) → wp_X12_holds_b141 Q K (wp_X12_holds_l45 Q K n) (j : Int) x t (a : Int) (b : Int) τ := by
          intro h
          unfold wp_X12_holds_b141
          intro v ev
          rw [ev, w32_of (by omega) (by omega), show (b : Int) + 1 = ((b + 1 : Nat) : Int) by omega]
          refine ih (b + 1) n (by push_cast at hd ⊢; omega) (by omega) (fun hPa b' g1 g2 => ?_)
          by_cases e : b' = b
          · subst e; exact h hPa g2
          · exact hb hPa b' (by omega) g2
        have pa := hx.2 a (by omega)
        have pb := hx.2 b (by omega)
        have bits : b_and (b_and (b_shr x (a : Int)) (b_shr x (b : Int))) 1 = if (tb x a && tb x b) = true then 1 else 0 := by
          have ba := b_bit hx.1 (k := a) (by omega)
          have bb := b_bit hx.1 (k := b) (by omega)
          have cx : C32 x := by have := hx.1; unfold P32 at this; unfold C32; omega
          have sa := b_shr_eq cx (k := a) (by omega)
          have sb := b_shr_eq cx (k := b) (by omega)
          have x0 := hx.1.1
          have x1 := hx.1.2
          have na : P32 (b_shr x (a : Int)) := by
            rw [sa]
            have h2 : (0 : Int) < 2 ^ a := Int.pow_pos (by decide)
            exact ⟨Int.ediv_nonneg x0 (by omega), Int.lt_of_le_of_lt (Int.ediv_le_self _ x0) x1⟩
          have nb : P32 (b_shr x (b : Int)) := by
            rw [sb]
            have h2 : (0 : Int) < 2 ^ b := Int.pow_pos (by decide)
            exact ⟨Int.ediv_nonneg x0 (by omega), Int.lt_of_le_of_lt (Int.ediv_le_self _ x0) x1⟩
          have q : ∀ y : Int, P32 y → b_and y 1 = if tb y 0 then 1 else 0 := by
            intro y hy
            have := b_and_1shl hy (k := 0) (by decide)
            rw [show b_shl 1 ((0 : Nat) : Int) = 1 by decide] at this
            rw [this]; rfl
          rw [q _ (b_and_p na nb), tb_and na nb]
          rw [q _ na] at ba
          rw [q _ nb] at bb
          have ea : tb (b_shr x (a : Int)) 0 = tb x a := by
            cases h1 : tb (b_shr x (a : Int)) 0 <;> cases h2 : tb x a <;> rw [h1, h2] at ba <;> simp_all
          have eb : tb (b_shr x (b : Int)) 0 = tb x b := by
            cases h1 : tb (b_shr x (b : Int)) 0 <;> cases h2 : tb x b <;> rw [h1, h2] at bb <;> simp_all
          rw [ea, eb]
        unfold wp_X12_holds_l45 wp_X12_holds_b91
        rw [e6, bits]
        refine ⟨fun w => absurd w (by omega), fun _ => ⟨fun y => ?_, fun y => nx (fun hPa hPb => ?_)⟩⟩
        · have both : (tb x a && tb x b) = true := by
            cases eb : (tb x a && tb x b) with
            | true => rfl
            | false => rw [eb] at y; exact absurd (by decide) y
          rw [Bool.and_eq_true] at both
          have hPa := pa.1 both.1
          have hPb := pb.1 both.2
          refine ⟨fun z => ?_, fun z => ?_⟩
          · have tj := ht.1 z
            exact lp3 a b _ _ ha hb5 hPa hPb (fun w => absurd tj w) (fun h => nx (fun _ _ => h)) (ρ 0 5).toNat 0 bigN (by omega) (by unfold bigN; omega) (fun c' g => by omega)
          · have tj : ¬ thr j := fun w => z (ht.2 w)
            refine r_keeps hw vb tj hj9 ⟨by omega, ha⟩ ⟨by omega, hb5⟩ (fun h => ⟨fun _ => lp3 a b _ _ ha hb5 hPa hPb (fun _ => h) (fun h => nx (fun _ _ => h)) (ρ 0 5).toNat 0 bigN (by omega) (by unfold bigN; omega) (fun c' g => by omega), fun w => absurd (by decide) w⟩) (fun h => ⟨fun w => absurd rfl w, fun _ => h0 (fun g => h ((g a ha hPa b hb5 hPb).2 tj))⟩)
        · rw [if_pos (by rw [Bool.and_eq_true]; exact ⟨pa.2 hPa, pb.2 hPb⟩)] at y
          exact absurd (by decide) y
    have lp1 : ∀ (d a : Nat) (n : Nat), (a : Int) + d = ρ 0 5 → d < n → (∀ a' : Nat, a' < a → P a' → ∀ b : Nat, (b : Int) < ρ 0 5 → P b → HoP ρ P j a' b) → wp_X12_holds_l31 Q n (j : Int) x t (a : Int) τ := by
      intro d
      induction d with
      | zero =>
        intro a n hd hn ha
        obtain ⟨n, rfl⟩ := suc_n hn
        unfold wp_X12_holds_l31
        rw [e6]
        exact ⟨fun _ => h1 (fun a' g1 g2 b g3 g4 => ha a' (by omega) g2 b g3 g4), fun w => absurd (by omega) w⟩
      | succ d ih =>
        intro a n hd hn ha
        obtain ⟨n, rfl⟩ := suc_n hn
        unfold wp_X12_holds_l31
        rw [e6]
        refine ⟨fun w => absurd w (by push_cast at hd; omega), fun _ => lp2 a _ (by push_cast at hd; omega) (fun h => ih (a + 1) n (by push_cast at hd ⊢; omega) (by omega) (fun a' g1 g2 => ?_)) (ρ 0 5).toNat 0 bigN (by omega) (by unfold bigN; omega) (fun _ b' g => by omega)⟩
        by_cases e : a' = a
        · subst e; exact h g2
        · exact ha a' (by omega) g2
    exact lp1 (ρ 0 5).toNat 0 bigN (by omega) (by unfold bigN; omega) (fun a' g => by omega)
  unfold wp_X12_holds wp_X12_holds_b22 wp_X12_holds_b27
  have yes : thr j → wp_X12_holds_l31 Q bigN (j : Int) x 1 0 τ := fun h => key 1 ⟨fun _ => h, fun _ => by decide⟩
  have no : ¬ thr j → wp_X12_holds_l31 Q bigN (j : Int) x 0 0 τ := fun h => key 0 ⟨fun w => absurd rfl w, fun w => absurd w h⟩
  unfold thr at yes no
  exact ⟨fun e => yes (by omega), fun e1 => ⟨fun e => yes (by omega), fun e2 => ⟨fun e => yes (by omega), fun e3 => ⟨fun e => no (by omega), fun e => yes (by omega)⟩⟩⟩⟩
theorem r_la138 {ρ τ : St} (hw : Wb ρ) (vb : VRb τ ρ) {P : Int → Prop} {x : Int} (hx : BP x P) {Q : Int → St → Prop} (hq : ∀ y, BI y (LwP ρ P) → Q y τ) : ∀ (d j : Nat) (y : Int) (n : Nat), j + d = 9 → d < n → (P32 y ∧ ∀ k, tb y k = true ↔ (k < j ∧ LwP ρ P k)) → wp_X12_laws_l138 Q n x y (j : Int) τ := by
  intro d
  induction d with
  | zero =>
    intro j y n hd hn hy
    obtain ⟨n, rfl⟩ := suc_n hn
    unfold wp_X12_laws_l138
    refine ⟨fun _ => hq y ?_, fun w => absurd (by omega) w⟩
    rw [show j = 9 by omega] at hy; exact hy
  | succ d ih =>
    intro j y n hd hn hy
    obtain ⟨n, rfl⟩ := suc_n hn
    unfold wp_X12_laws_l138 wp_X12_laws_b161
    refine ⟨fun w => absurd w (by omega), fun _ => r_holds hw vb hx (by omega) (fun h => ⟨fun w => absurd w (by decide), fun _ v ev v2 ev2 => ?_⟩) (fun h => ⟨fun _ v ev v2 ev2 => ?_, fun w => absurd rfl w⟩)⟩
    · rw [ev2, w32_of (by omega) (by omega), show (j : Int) + 1 = ((j + 1 : Nat) : Int) by omega, ev, b_shl_1 j (by omega)]
      have hp := pow31 (k := j) (by omega)
      refine ih (j + 1) _ n (by omega) (by omega) ⟨b_or_p hy.1 hp, fun k => ?_⟩
      rw [tb_or hy.1 hp, tb_pow, Bool.or_eq_true, hy.2 k, decide_eq_true_iff]
      constructor
      · rintro (⟨a, b⟩ | e)
        · exact ⟨by omega, b⟩
        · subst e; exact ⟨by omega, h⟩
      · rintro ⟨a, b⟩
        by_cases e : j = k
        · exact Or.inr e
        · exact Or.inl ⟨by omega, b⟩
    · rw [ev2, w32_of (by omega) (by omega), show (j : Int) + 1 = ((j + 1 : Nat) : Int) by omega, ev, b_or_z hy.1]
      refine ih (j + 1) y n (by omega) (by omega) ⟨hy.1, fun k => (hy.2 k).trans ⟨fun z => ⟨by omega, z.2⟩, fun z => ⟨?_, z.2⟩⟩⟩
      by_cases e : k = j
      · subst e; exact absurd z.2 h
      · omega
/-- what the reference meets -/
def mtI (ρ : St) (w : Nat → Int) (V : Int → Int → Int → Prop) (x : Int) : Prop := ∃ a i j, isItm ρ a i j ∧ V a i j ∧ w (itN ρ a i j) = x
def mt0 (ρ : St) (n : Nat) (x : Int) : Prop := x = ρ 0 6 ∨ x = ρ 0 7 ∨ ∃ r : Nat, r < n ∧ ρ 8 r = 0 ∧ ρ 7 r = x
theorem r_la92 {ρ τ : St} (hL : LL ρ < 9) (h80 : 0 ≤ ρ 0 8) (hw : Wb ρ) {w : Nat → Int} (hr : WV ρ w) (hs : RVS ρ w τ) {R : Int → Prop} {i j : Nat} (hi : i < j ∧ j ≤ LL ρ) {Q : Int → St → Prop} {K69 : Int → Int → St → Prop} {K : Int → Int → Int → St → Prop} (hk : ∀ x, BP x (fun y => R y ∨ mtI ρ w (vsd i ((j + 1 : Nat) : Int) 0) y) → K x i ((j + 1 : Nat) : Int) τ) : ∀ (d a : Nat) (x : Int) (n : Nat), a + d = 12 → d < n → BP x (fun y => R y ∨ mtI ρ w (vsd i j a) y) → wp_X12_laws_l92 Q K69 K n x i j (a : Int) τ := by
  have hs8 : ρ 0 8 ≤ 8 := by unfold LL at hL; omega
  have eL : ((LL ρ : Nat) : Int) = ρ 0 8 := by unfold LL; omega
  have hN := hw.2.1
  intro d
  induction d with
  | zero =>
    intro a x n hd hn hx
    obtain ⟨n, rfl⟩ := suc_n hn
    unfold wp_X12_laws_l92
    refine ⟨fun _ v ev => ?_, fun w => absurd (by omega) w⟩
    rw [ev, w32_of (by omega) (by omega), show (j : Int) + 1 = ((j + 1 : Nat) : Int) by omega]
    refine hk x (hx.iff (fun y => ⟨fun z => z.imp id (fun ⟨a', i', j', g1, g2, g3⟩ => ⟨a', i', j', g1, ?_, g3⟩), fun z => z.imp id (fun ⟨a', i', j', g1, g2, g3⟩ => ⟨a', i', j', g1, ?_, g3⟩)⟩)) <;> have := g1.1 <;> unfold vsd at * <;> omega
  | succ d ih =>
    intro a x n hd hn hx
    obtain ⟨n, rfl⟩ := suc_n hn
    have hI : isItm ρ (a : Int) (i : Int) (j : Int) := ⟨by omega, by omega, by omega, by omega⟩
    have hv := hr _ (itN_r hL hI).1
    unfold inB at hv
    unfold wp_X12_laws_l92
    refine ⟨fun w => absurd w (by omega), fun _ => r_item hI.1 (by omega) ⟨it_r hI.1 (by omega), fun v ev v2 ev2 => ?_⟩⟩
    rw [hs.2.2.2 _ _ _ hI] at ev
    rw [ev2, w32_of (by omega) (by omega), show (a : Int) + 1 = ((a + 1 : Nat) : Int) by omega, ev]
    refine ih (a + 1) _ n (by omega) (by omega) ((hx.put (y := w (itN ρ a i j)) (by omega)).iff (fun y => ?_))
    constructor
    · rintro ((z | ⟨a', i', j', g1, g2, g3⟩) | z)
      · exact Or.inl z
      · exact Or.inr ⟨a', i', j', g1, by unfold vsd at *; omega, g3⟩
      · exact Or.inr ⟨a, i, j, hI, by unfold vsd; omega, z.symm⟩
    · rintro (z | ⟨a', i', j', g1, g2, g3⟩)
      · exact Or.inl (Or.inl z)
      · by_cases e : a' = (a : Int) ∧ i' = (i : Int) ∧ j' = (j : Int)
        · obtain ⟨rfl, rfl, rfl⟩ := e
          exact Or.inr g3.symm
        · exact Or.inl (Or.inr ⟨a', i', j', g1, by unfold vsd at *; omega, g3⟩)
theorem r_la81 {ρ τ : St} (hL : LL ρ < 9) (h80 : 0 ≤ ρ 0 8) (hw : Wb ρ) {w : Nat → Int} (hr : WV ρ w) (hs : RVS ρ w τ) {R : Int → Prop} {i : Nat} (hi : i < LL ρ) {Q : Int → St → Prop} {K : Int → Int → St → Prop} (hk : ∀ x, BP x (fun y => R y ∨ mtI ρ w (vsd ((i + 1 : Nat) : Int) 0 0) y) → K x ((i + 1 : Nat) : Int) τ) : ∀ (d t : Nat) (x : Int) (n : Nat), i + t + d = LL ρ → d < n → BP x (fun y => R y ∨ mtI ρ w (vsd i ((i + 1 + t : Nat) : Int) 0) y) → wp_X12_laws_l81 Q K n x i ((i + 1 + t : Nat) : Int) τ := by
  have eL : ((LL ρ : Nat) : Int) = ρ 0 8 := by unfold LL; omega
  intro d
  induction d with
  | zero =>
    intro t x n hd hn hx
    obtain ⟨n, rfl⟩ := suc_n hn
    unfold wp_X12_laws_l81
    rw [hs.1.1.2.2.1]
    refine ⟨fun _ v ev => ?_, fun w => absurd (by omega) w⟩
    rw [ev, w32_of (by omega) (by omega), show (i : Int) + 1 = ((i + 1 : Nat) : Int) by omega]
    refine hk x (hx.iff (fun y => ⟨fun z => z.imp id (fun ⟨a', i', j', g1, g2, g3⟩ => ⟨a', i', j', g1, ?_, g3⟩), fun z => z.imp id (fun ⟨a', i', j', g1, g2, g3⟩ => ⟨a', i', j', g1, ?_, g3⟩)⟩)) <;> have := g1.1 <;> have := g1.2 <;> unfold vsd at * <;> omega
  | succ d ih =>
    intro t x n hd hn hx
    obtain ⟨n, rfl⟩ := suc_n hn
    unfold wp_X12_laws_l81
    rw [hs.1.1.2.2.1]
    refine ⟨fun w => absurd w (by omega), fun _ => ?_⟩
    exact r_la92 hL h80 hw hr hs (i := i) (j := i + 1 + t) (by omega) (fun x1 h1 => ih (t + 1) x1 n (by omega) (by omega) h1) 12 0 x bigN (by omega) (by unfold bigN; omega) hx
theorem r_la69 {ρ τ : St} (hL : LL ρ < 9) (h80 : 0 ≤ ρ 0 8) (hw : Wb ρ) {w : Nat → Int} (hr : WV ρ w) (hs : RVS ρ w τ) (h04 : 0 ≤ ρ 0 4) {Q : Int → St → Prop} (hq : ∀ y, BI y (LwP ρ (Mt ρ w)) → Q y τ) : ∀ (d i : Nat) (x : Int) (n : Nat), i + d = LL ρ → d < n → BP x (fun y => mt0 ρ (ρ 0 4).toNat y ∨ mtI ρ w (vsd i 0 0) y) → wp_X12_laws_l69 Q n x (i : Int) τ := by
  have eL : ((LL ρ : Nat) : Int) = ρ 0 8 := by unfold LL; omega
  intro d
  induction d with
  | zero =>
    intro i x n hd hn hx
    obtain ⟨n, rfl⟩ := suc_n hn
    unfold wp_X12_laws_l69
    rw [hs.1.1.2.2.1]
    have hx2 : BP x (Mt ρ w) := hx.iff (fun y => by
      unfold Mt mt0
      constructor
      · rintro ((z | z | ⟨r, z1, z2, z3⟩) | ⟨a', i', j', g1, g2, g3⟩)
        · exact Or.inl z
        · exact Or.inr (Or.inl z)
        · exact Or.inr (Or.inr (Or.inl ⟨r, by omega, z2, z3⟩))
        · exact Or.inr (Or.inr (Or.inr ⟨_, (itN_r hL g1).1, g3⟩))
      · rintro (z | z | ⟨r, z1, z2, z3⟩ | ⟨q, g1, g2⟩)
        · exact Or.inl (Or.inl z)
        · exact Or.inl (Or.inr (Or.inl z))
        · exact Or.inl (Or.inr (Or.inr ⟨r, by omega, z2, z3⟩))
        · obtain ⟨i1, i2⟩ := it_of hL h80 g1
          have := i1.2
          exact Or.inr ⟨_, _, _, i1, by unfold vsd; omega, by rw [i2]; exact g2⟩)
    exact ⟨fun _ => r_la138 hw hs.2.2.1 hx2 hq 9 0 0 bigN (by omega) (by unfold bigN; omega) ⟨⟨by decide, by decide⟩, fun k => by rw [tb_0]; exact ⟨fun z => (by cases z), fun z => (by omega)⟩⟩, fun w => absurd (by omega) w⟩
  | succ d ih =>
    intro i x n hd hn hx
    obtain ⟨n, rfl⟩ := suc_n hn
    unfold wp_X12_laws_l69
    rw [hs.1.1.2.2.1]
    refine ⟨fun w => absurd w (by omega), fun _ v ev => ?_⟩
    rw [ev, w32_of (by omega) (by omega), show (i : Int) + 1 = ((i + 1 + 0 : Nat) : Int) by omega]
    refine r_la81 hL h80 hw hr hs (i := i) (by omega) (fun x1 h1 => ih (i + 1) x1 n (by omega) (by omega) h1) (LL ρ - i) 0 x bigN (by omega) (by unfold bigN; omega) (hx.iff (fun y => ⟨fun z => z.imp id (fun ⟨a', i', j', g1, g2, g3⟩ => ⟨a', i', j', g1, ?_, g3⟩), fun z => z.imp id (fun ⟨a', i', j', g1, g2, g3⟩ => ⟨a', i', j', g1, ?_, g3⟩)⟩)) <;> have := g1.1 <;> have := g1.2 <;> unfold vsd at * <;> omega
theorem r_la30 {ρ τ : St} (hg : Wg ρ) (hL : LL ρ < 9) (h80 : 0 ≤ ρ 0 8) (hw : Wb ρ) {w : Nat → Int} (hr : WV ρ w) (hs : RVS ρ w τ) {Q : Int → St → Prop} (hq : ∀ y, BI y (LwP ρ (Mt ρ w)) → Q y τ) : ∀ (d r : Nat) (x : Int) (n : Nat), (r : Int) + d = ρ 0 4 → d < n → BP x (mt0 ρ r) → wp_X12_laws_l30 Q n x (r : Int) τ := by
  have h40 := hg.2.1
  have hN := hw.2.1
  intro d
  induction d with
  | zero =>
    intro r x n hd hn hx
    obtain ⟨n, rfl⟩ := suc_n hn
    unfold wp_X12_laws_l30
    rw [hs.1.1.1]
    refine ⟨fun _ => r_la69 hL h80 hw hr hs hg.1 hq (LL ρ) 0 x bigN (by omega) (by unfold bigN; omega) (hx.iff (fun y => ?_)), fun w => absurd (by omega) w⟩
    rw [show (ρ 0 4).toNat = r by omega]
    refine ⟨fun z => Or.inl z, fun z => z.resolve_right (fun ⟨a', i', j', g1, g2, _⟩ => ?_)⟩
    have := g1.2
    unfold vsd at g2; omega
  | succ d ih =>
    intro r x n hd hn hx
    obtain ⟨n, rfl⟩ := suc_n hn
    have hr4 : (r : Int) < ρ 0 4 := by push_cast at hd; omega
    have k5 := (hs.2.1.2.2 r hr4).2.2.2.2
    have i7 := (hg.2.2 r hr4).2.2.2.2.1
    unfold wp_X12_laws_l30 wp_X12_laws_b59
    rw [hs.1.1.1]
    refine ⟨fun w => absurd w (by omega), fun _ => r_isIn hg hs.1.1.2.1 hr4 ?_⟩
    by_cases h8 : ρ 8 r = 0
    · rw [if_pos h8, Int.toNat_natCast, k5]
      refine ⟨fun w => absurd w (by decide), fun _ => ⟨by omega, fun v ev v2 ev2 => ?_⟩⟩
      rw [ev2, w32_of (by omega) (by omega), show (r : Int) + 1 = ((r + 1 : Nat) : Int) by omega, ev]
      refine ih (r + 1) _ n (by push_cast at hd ⊢; omega) (by omega) ((hx.put (y := ρ 7 r) (by omega)).iff (fun y => ?_))
      unfold mt0
      constructor
      · rintro ((z | z | ⟨r', z1, z2⟩) | z)
        · exact Or.inl z
        · exact Or.inr (Or.inl z)
        · exact Or.inr (Or.inr ⟨r', by omega, z2⟩)
        · exact Or.inr (Or.inr ⟨r, by omega, h8, z.symm⟩)
      · rintro (z | z | ⟨r', z1, z2⟩)
        · exact Or.inl (Or.inl z)
        · exact Or.inl (Or.inr (Or.inl z))
        · by_cases e : r' = r
          · subst e; exact Or.inr z2.2.symm
          · exact Or.inl (Or.inr (Or.inr ⟨r', by omega, z2⟩))
    · rw [if_neg h8]
      refine ⟨fun _ v ev v2 ev2 => ?_, fun w => absurd rfl w⟩
      rw [ev2, w32_of (by omega) (by omega), show (r : Int) + 1 = ((r + 1 : Nat) : Int) by omega, ev, b_or_z hx.1]
      refine ih (r + 1) x n (by push_cast at hd ⊢; omega) (by omega) (hx.iff (fun y => ?_))
      unfold mt0
      constructor
      · rintro (z | z | ⟨r', z1, z2⟩)
        · exact Or.inl z
        · exact Or.inr (Or.inl z)
        · exact Or.inr (Or.inr ⟨r', by omega, z2⟩)
      · rintro (z | z | ⟨r', z1, z2⟩)
        · exact Or.inl z
        · exact Or.inr (Or.inl z)
        · by_cases e : r' = r
          · subst e; exact absurd z2.1 h8
          · exact Or.inr (Or.inr ⟨r', by omega, z2⟩)
def lwA (ρ : St) (t r : Int) : Prop := (t = -6 ∧ r = -6) ∨ (t ≠ -6 ∧ BI r (LwP ρ (Mt ρ (vIt ρ t.toNat))))
theorem r_laws {ρ τ : St} (hW : WW ρ) (hV : VR τ ρ) {Q : Int → St → Prop} (hq : ∀ τ1 t r, VT ρ t → lwA ρ t r → Q r τ1) : wp_X12_laws τ Q := by
  have hg := hW.2.2.1
  have hw := hW.2.2.2.1
  have h80 := hW.2.2.2.2.1
  have hL : LL ρ < 9 := by have := hW.2.2.2.2.2.1; unfold LL; omega
  have hN := hw.2.1
  unfold wp_X12_laws
  refine r_settles hW hV (fun τ1 r hr => ⟨fun e v ev => ?_, fun e => ?_⟩)
  · obtain ⟨a1, a2, a3, z⟩ := hr
    obtain ⟨z1, z2, z3⟩ := (z.resolve_left (fun w => e w.1)).2
    have hs : RVS ρ (vIt ρ (τ1 0 44).toNat) τ1 := ⟨a1, a2, a3, z3⟩
    rw [show τ1 7 (Int.toNat 0) = ρ 0 6 from a3.2.1, show τ1 8 (Int.toNat 0) = ρ 0 7 from a3.2.2.1] at ev
    have i6 := hw.2.2.1
    have i7 := hw.2.2.2.1
    have b0 : BP 0 (fun _ => False) := ⟨⟨by decide, by decide⟩, fun k _ => by rw [tb_0]; exact ⟨fun z => (by cases z), fun z => z.elim⟩⟩
    have b1 := b0.put (y := ρ 0 6) (by omega)
    rw [show b_or 0 (b_shl 1 (ρ 0 6)) = b_shl 1 (ρ 0 6) by
      rw [show ρ 0 6 = ((ρ 0 6).toNat : Int) by omega, b_shl_1 _ (by omega), b_or_n ⟨by decide, by decide⟩ (pow31 (by omega)), show (0 : Int).toNat = 0 from rfl, Nat.zero_or, Int.toNat_natCast]] at b1
    have b2 := b1.put (y := ρ 0 7) (by omega)
    rw [ev]
    refine r_la30 hg hL h80 hw (vIt_r hg hL hw _) hs (fun y hy => hq τ1 (τ1 0 44) y z1 (Or.inr ⟨by omega, hy⟩)) (ρ 0 4).toNat 0 _ bigN (by have := hg.1; omega) (by have := hg.2.1; unfold bigN; omega) (b2.iff (fun y => ?_))
    unfold mt0
    constructor
    · rintro ((z | z) | z)
      · exact z.elim
      · exact Or.inl z
      · exact Or.inr (Or.inl z)
    · rintro (z | z | ⟨r', z1, _⟩)
      · exact Or.inl (Or.inr z)
      · exact Or.inr z
      · omega
  · rcases hr.2.2.2 with ⟨-, z⟩ | ⟨z, -⟩
    · exact hq τ1 (-6) (-6) z (Or.inl ⟨rfl, rfl⟩)
    · omega
theorem c_laws {ρ σ : St} (hW : WW ρ) (hk : KL ρ σ) (vb : VCb σ ρ) (hv : σ 50 6 = 0 ∨ (σ 50 6 = 1 ∧ VK ρ σ)) {Q : Int → St → Prop} (h : ∀ σ1 r, Bt ρ σ1 → σ1 50 6 = 1 → VK ρ σ1 → lwA ρ (σ1 50 5) r → Q r σ1) : wp_X11_laws σ Q := by
  have hg := hW.2.2.1
  have hw := hW.2.2.2.1
  have hL : LL ρ < 9 := by have := hW.2.2.2.2.2.1; unfold LL; omega
  unfold wp_X11_laws wp_X9_lawsKept
  refine c_roundsTaken hW hk vb hv (fun σ1 a1 a2 a3 a4 => ⟨fun w => ?_, fun w => h σ1 (-6) a1 a3 a4 (Or.inl ⟨by omega, rfl⟩)⟩)
  have hs : VS ρ (vIt ρ (σ1 50 5).toNat) σ1 := ⟨a1, a2, a4.2 w⟩
  refine mf_X9_meetAll (σ0 := σ1) (Q := fun _ σ2 => VS ρ (vIt ρ (σ1 50 5).toNat) σ2 ∧ MP (Mt ρ (vIt ρ (σ1 50 5).toNat)) σ2) (fun _ σ2 hh f => ?_) Fr.rf (c_meetAll hg hL hw (vIt_r hg hL hw _) hs (fun σ2 x y => ⟨x, y⟩))
  have e50 : σ2 50 = σ1 50 := funext (fun j => f.at rfl)
  have e51 : σ2 51 = σ1 51 := funext (fun j => f.at rfl)
  refine c_lawsLoop hw hh.1.2.1 hh.2 (fun y hy => h σ2 y hh.1.1 (by rw [e50]; exact a3) (by unfold VK; rw [e50, e51]; exact a4) ?_)
  rw [e50]
  exact Or.inr ⟨w, hy⟩
section OPS
variable {Cc : Bool → St → St → Prop}
theorem s_laws (hC : CcL Cc) (hv : CcV Cc) : Step_laws (Inv Cc) := by
  rintro b σ τ ⟨ρ, hW, hVC, hVR, hc⟩
  have hk := hC.kl hVC hc
  refine mf_X11_laws (Q := fun r σ1 => Bt ρ σ1 ∧ σ1 50 6 = 1 ∧ VK ρ σ1 ∧ lwA ρ (σ1 50 5) r) (fun r σ1 h f => ?_) Fr.rf (c_laws hW hk hVC.2.2.2.2.1 (hv.1 b σ ρ hc) (fun σ1 r a1 a2 a3 a4 => ⟨a1, a2, a3, a4⟩))
  obtain ⟨g1, g2, g3, g4⟩ := h
  refine mf_X12_laws (Q := fun r _ => ∃ t, VT ρ t ∧ lwA ρ t r) (fun r1 τ1 h1 f1 => ?_) Fr.rf (r_laws hW hVR (fun τ1 t r a b => ⟨t, a, b⟩))
  obtain ⟨t, k1, k2⟩ := h1
  refine ⟨?_, ρ, hW, VC.frB f (by decide) hVC, VR.frB f1 (by decide) hVR, hv.2 b σ σ1 ρ hc g1 ⟨g2, g3⟩ f⟩
  rw [g3.1.uniq k1] at g4
  rcases g4 with ⟨z1, z2⟩ | ⟨z1, z2⟩ <;> rcases k2 with ⟨y1, y2⟩ | ⟨y1, y2⟩
  · rw [z2, y2]
  · exact absurd z1 y1
  · exact absurd y1 z1
  · exact z2.uniq y2
end OPS
