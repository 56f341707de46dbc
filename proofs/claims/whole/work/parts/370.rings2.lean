/-! the reference's rings over a span -/
def NX (E : Nat → Nat → Prop) (τ : St) : Prop := ∀ a, a < 12 → P32 (τ 19 a) ∧ ∀ b, tb (τ 19 a) b = true ↔ (b < 12 ∧ E a b)
theorem NX.iff {E F : Nat → Nat → Prop} {τ : St} (h : NX E τ) (he : ∀ a b, a < 12 → b < 12 → (E a b ↔ F a b)) : NX F τ := fun a ha => ⟨(h a ha).1, fun b => ((h a ha).2 b).trans ⟨fun z => ⟨z.1, (he a b ha z.1).1 z.2⟩, fun z => ⟨z.1, (he a b ha z.1).2 z.2⟩⟩⟩
theorem NX.or {E : Nat → Nat → Prop} {τ τ1 : St} (h : NX E τ) {x y : Int} {a : Nat} {D : Nat → Prop} (hy : P32 y) (hd : ∀ b, tb y b = true ↔ (b < 12 ∧ D b)) (ha : a < 12) (e : τ1 = upS τ 19 a (b_or (τ 19 a) y)) : NX (fun p q => E p q ∨ (p = a ∧ D q)) τ1 := by
  intro p hp
  rw [e]
  by_cases hpa : p = a
  · subst hpa
    rw [upS_s]
    refine ⟨b_or_p (h p hp).1 hy, fun b => ?_⟩
    rw [tb_or (h p hp).1 hy, Bool.or_eq_true, (h p hp).2 b, hd b]
    exact ⟨fun z => by rcases z with z | z; exact ⟨z.1, Or.inl z.2⟩; exact ⟨z.1, Or.inr ⟨rfl, z.2⟩⟩, fun z => z.2.imp (fun y => ⟨z.1, y⟩) (fun y => ⟨z.1, y.2⟩)⟩
  · rw [upS_j hpa]
    refine ⟨(h p hp).1, fun b => ((h p hp).2 b).trans ⟨fun z => ⟨z.1, Or.inl z.2⟩, fun z => ⟨z.1, z.2.resolve_right (fun y => hpa y.1)⟩⟩⟩
theorem r_ra98 {E : Nat → Nat → Prop} {v : Nat} (hv : v < 12) {Q : Int → St → Prop} {K : Int → St → Prop} (hk : ∀ τ1, NX (fun a b => E a b ∨ (E a v ∧ E v b)) τ1 → K ((v + 1 : Nat) : Int) τ1) : ∀ (d x : Nat) (τ : St) (n : Nat), x + d = 12 → d < n → NX (fun a b => E a b ∨ (a < x ∧ E a v ∧ E v b)) τ → wp_X12_ringsAt_l98 Q K n (v : Int) (x : Int) τ := by
  intro d
  induction d with
  | zero =>
    intro x τ n hd hn hx
    obtain ⟨n, rfl⟩ := suc_n hn
    unfold wp_X12_ringsAt_l98
    refine ⟨fun _ y ey => ?_, fun w => absurd (by omega) w⟩
    rw [ey, w32_of (by omega) (by omega), show (v : Int) + 1 = ((v + 1 : Nat) : Int) by omega]
    exact hk τ (hx.iff (fun a b ha _ => ⟨fun z => z.imp id (fun y => y.2), fun z => z.imp id (fun y => ⟨by omega, y⟩)⟩))
  | succ d ih =>
    intro x τ n hd hn hx
    obtain ⟨n, rfl⟩ := suc_n hn
    have hx12 : x < 12 := by omega
    obtain ⟨p1, p2⟩ := hx x hx12
    obtain ⟨q1, q2⟩ := hx v hv
    have nx : ∀ τ1, NX (fun a b => E a b ∨ (a < x + 1 ∧ E a v ∧ E v b)) τ1 → wp_X12_ringsAt_b136 Q K (wp_X12_ringsAt_l98 Q K n) (v : Int) (x : Int) τ1 := by
      intro τ1 h1
      unfold wp_X12_ringsAt_b136
      intro y ey
      rw [ey, w32_of (by omega) (by omega), show (x : Int) + 1 = ((x + 1 : Nat) : Int) by omega]
      exact ih (x + 1) τ1 n (by omega) (by omega) h1
    have exv : (E x v ∨ (x < x ∧ E x v ∧ E v v)) ↔ E x v := ⟨fun z => z.resolve_right (fun y => by omega), fun z => Or.inl z⟩
    have evb : ∀ b, (E v b ∨ (v < x ∧ E v v ∧ E v b)) ↔ E v b := fun b => ⟨fun z => by rcases z with z | z; exact z; exact z.2.2, fun z => Or.inl z⟩
    unfold wp_X12_ringsAt_l98
    rw [Int.toNat_natCast, Int.toNat_natCast]
    refine ⟨fun w => absurd w (by omega), fun _ => ⟨by omega, bit_1 p1 (by omega) (fun hb => ⟨by omega, by omega, by omega, fun τ1 e1 => nx τ1 ?_⟩) (fun hb => nx τ (hx.iff (fun a b ha hb2 => ⟨fun z => z.imp id (fun y => ⟨by omega, y.2⟩), fun z => z.imp id (fun y => ⟨?_, y.2⟩)⟩)))⟩⟩
    · have ex := exv.1 ((p2 v).1 hb).2
      refine (hx.or (x := 0) q1 (D := fun b => E v b) (fun b => (q2 b).trans ⟨fun z => ⟨z.1, (evb b).1 z.2⟩, fun z => ⟨z.1, (evb b).2 z.2⟩⟩) hx12 e1).iff (fun a b ha hb2 => ?_)
      constructor
      · rintro ((z | z) | ⟨rfl, z⟩)
        · exact Or.inl z
        · exact Or.inr ⟨by omega, z.2⟩
        · exact Or.inr ⟨by omega, ex, z⟩
      · rintro (z | ⟨z1, z2, z3⟩)
        · exact Or.inl (Or.inl z)
        · by_cases e : a = x
          · subst e; exact Or.inr ⟨rfl, z3⟩
          · exact Or.inl (Or.inr ⟨by omega, z2, z3⟩)
    · by_cases e : a = x
      · subst e
        have := (p2 v).2 ⟨hv, Or.inl y.2.1⟩
        rw [hb] at this; cases this
      · omega
theorem r_ra153 {E : Nat → Nat → Prop} {τ : St} (h : NX E τ) {Q : Int → St → Prop} (hq : ∀ r, P32 r → (∀ a, tb r a = true ↔ (a < 12 ∧ E a a)) → Q r τ) : ∀ (d x : Nat) (y : Int) (n : Nat), x + d = 12 → d < n → P32 y → (∀ a, tb y a = true ↔ (a < x ∧ E a a)) → wp_X12_ringsAt_l153 Q n y (x : Int) τ := by
  intro d
  induction d with
  | zero =>
    intro x y n hd hn hy hb
    obtain ⟨n, rfl⟩ := suc_n hn
    unfold wp_X12_ringsAt_l153
    refine ⟨fun _ => hq y hy (fun a => ?_), fun w => absurd (by omega) w⟩
    rw [show x = 12 by omega] at hb; exact hb a
  | succ d ih =>
    intro x y n hd hn hy hb
    obtain ⟨n, rfl⟩ := suc_n hn
    obtain ⟨p1, p2⟩ := h x (by omega)
    unfold wp_X12_ringsAt_l153
    rw [Int.toNat_natCast]
    refine ⟨fun w => absurd w (by omega), fun _ => ⟨by omega, fun v ev v2 ev2 => ?_⟩⟩
    rw [ev2, w32_of (by omega) (by omega), show (x : Int) + 1 = ((x + 1 : Nat) : Int) by omega, ev, b_and_1shl p1 (by omega)]
    by_cases hx : tb (τ 19 x) x = true
    · rw [if_pos hx]
      have hp := pow31 (k := x) (by omega)
      refine ih (x + 1) _ n (by omega) (by omega) (b_or_p hy hp) (fun a => ?_)
      rw [tb_or hy hp, tb_pow, Bool.or_eq_true, hb a, decide_eq_true_iff]
      constructor
      · rintro (z | z)
        · exact ⟨by omega, z.2⟩
        · subst z; exact ⟨by omega, ((p2 x).1 hx).2⟩
      · rintro ⟨z1, z2⟩
        by_cases e : x = a
        · exact Or.inr e
        · exact Or.inl ⟨by omega, z2⟩
    · rw [if_neg hx, b_or_z hy]
      refine ih (x + 1) y n (by omega) (by omega) hy (fun a => (hb a).trans ⟨fun z => ⟨by omega, z.2⟩, fun z => ⟨?_, z.2⟩⟩)
      by_cases e : a = x
      · subst e; exact absurd ((p2 a).2 ⟨by omega, z.2⟩) hx
      · omega
theorem r_ra89 {E : Nat → Nat → Prop} {Q : Int → St → Prop} (hq : ∀ τ1 r, P32 r → (∀ a, tb r a = true ↔ (a < 12 ∧ PT E 12 a a)) → Q r τ1) : ∀ (d v : Nat) (τ : St) (n : Nat), v + d = 12 → d < n → NX (PT E v) τ → wp_X12_ringsAt_l89 Q n (v : Int) τ := by
  intro d
  induction d with
  | zero =>
    intro v τ n hd hn h
    obtain ⟨n, rfl⟩ := suc_n hn
    unfold wp_X12_ringsAt_l89
    rw [show v = 12 by omega] at h ⊢
    exact ⟨fun _ => r_ra153 h (fun r h1 h2 => hq τ r h1 h2) 12 0 0 bigN (by omega) (by unfold bigN; omega) ⟨by decide, by decide⟩ (fun a => by rw [tb_0]; exact ⟨fun z => (by cases z), fun z => (by omega)⟩), fun w => absurd (by decide) w⟩
  | succ d ih =>
    intro v τ n hd hn h
    obtain ⟨n, rfl⟩ := suc_n hn
    unfold wp_X12_ringsAt_l89
    refine ⟨fun w => absurd w (by omega), fun _ => r_ra98 (E := PT E v) (by omega) (fun τ1 h1 => ih (v + 1) τ1 n (by omega) (by omega) h1) 12 0 τ bigN (by omega) (by unfold bigN; omega) (h.iff (fun a b _ _ => ⟨fun z => Or.inl z, fun z => z.resolve_right (fun y => by omega)⟩))⟩
theorem r_isSingle2 {r : Nat} {τ ρ : St} {Q : Int → St → Prop} (hg : Wg ρ) (v : RG τ ρ) (hr : (r : Int) < ρ 0 4) (h : Q (if ρ 8 r = 0 ∧ ρ 5 r = -1 ∧ ρ 4 r < 12 then 1 else 0) τ) : wp_X12_isSingle (r : Int) τ Q := by
  obtain ⟨k1, k2, k3, k4⟩ := v.2.2.2.1 r hr
  have hb := hg.2.1
  unfold wp_X12_isSingle wp_X12_isSingle_b33
  refine r_isIn hg v.2.1 hr ?_
  by_cases h8 : ρ 8 r = 0
  · rw [if_pos h8, Int.toNat_natCast, k3, k2]
    refine ⟨fun z => absurd z (by decide), fun _ => ⟨by omega, fun h5 => ?_, fun h5 => ⟨by omega, fun h4 => ?_, fun h4 => ?_⟩⟩⟩
    · rw [if_neg (fun w => h5 w.2.1)] at h; exact h
    · rw [if_neg (fun w => by omega)] at h; exact h
    · rw [if_pos ⟨h8, by omega, by omega⟩] at h; exact h
  · rw [if_neg h8]
    rw [if_neg (fun w => h8 w.1)] at h
    exact ⟨fun _ => h, fun z => absurd rfl z⟩
theorem r_ringsAt {ρ τ : St} (hg : Wg ρ) (hL : LL ρ < 9) (h80 : 0 ≤ ρ 0 8) (ha : LA ρ τ) {i j : Nat} (hi : i < j ∧ j ≤ LL ρ) {Q : Int → St → Prop} (hq : ∀ τ1 r, Fr S_X12_ringsAt τ τ1 → P32 r → (∀ a, tb r a = true ↔ (a < 12 ∧ PT (Ed ρ (spA (LL ρ) i j)) 12 a a)) → Q r τ1) : wp_X12_ringsAt (i : Int) (j : Int) τ Q := by
  have h40 := hg.2.1
  have hs8 : ρ 0 8 ≤ 8 := by unfold LL at hL; omega
  have eL : ((LL ρ : Nat) : Int) = ρ 0 8 := by unfold LL; omega
  have q := sp_a (L := LL ρ) hL hi
  refine mf_X12_ringsAt (σ0 := τ) (Q := fun r _ => P32 r ∧ ∀ a, tb r a = true ↔ (a < 12 ∧ PT (Ed ρ (spA (LL ρ) i j)) 12 a a)) (fun r τ1 h f => hq τ1 r f h.1 h.2) Fr.rf ?_
  generalize hs : spA (LL ρ) i j = s at *
  have lpr : ∀ (d r : Nat) (τ1 : St) (n : Nat), (r : Int) + d = ρ 0 4 → d < n → LA ρ τ1 → NX (fun a b => ∃ r' : Nat, r' < r ∧ ρ 8 r' = 0 ∧ ρ 3 r' = (a : Int) ∧ ρ 5 r' = -1 ∧ ρ 4 r' = (b : Int) ∧ hPt ρ ((12 * s + b : Nat) : Int)) τ1 → wp_X12_ringsAt_l23 (fun r _ => P32 r ∧ ∀ a, tb r a = true ↔ (a < 12 ∧ PT (Ed ρ s) 12 a a)) n (i : Int) (j : Int) (r : Int) τ1 := by
    intro d
    induction d with
    | zero =>
      intro r τ1 n hd hn ha1 hx
      obtain ⟨n, rfl⟩ := suc_n hn
      unfold wp_X12_ringsAt_l23
      rw [ha1.1.1]
      refine ⟨fun _ => r_ra89 (E := Ed ρ s) (fun _ r h1 h2 => ⟨h1, h2⟩) 12 0 τ1 bigN (by omega) (by unfold bigN; omega) (hx.iff (fun a b _ _ => ⟨fun ⟨r', z1, z2⟩ => ⟨r', by omega, z2⟩, fun ⟨r', z1, z2⟩ => ⟨r', by omega, z2⟩⟩)), fun w => absurd w (by omega)⟩
    | succ d ih =>
      intro r τ1 n hd hn ha1 hx
      obtain ⟨n, rfl⟩ := suc_n hn
      have hr4 : (r : Int) < ρ 0 4 := by push_cast at hd; omega
      obtain ⟨k1, k2, k3, k4⟩ := ha1.1.2.2.2.1 r hr4
      obtain ⟨hh, hp1, -⟩ := hg.2.2 r hr4
      unfold isPart at hp1
      have nx : ∀ τ2, LA ρ τ2 → NX (fun a b => ∃ r' : Nat, r' < r + 1 ∧ ρ 8 r' = 0 ∧ ρ 3 r' = (a : Int) ∧ ρ 5 r' = -1 ∧ ρ 4 r' = (b : Int) ∧ hPt ρ ((12 * s + b : Nat) : Int)) τ2 → wp_X12_ringsAt_b81 (fun r _ => P32 r ∧ ∀ a, tb r a = true ↔ (a < 12 ∧ PT (Ed ρ s) 12 a a)) (wp_X12_ringsAt_l23 (fun r _ => P32 r ∧ ∀ a, tb r a = true ↔ (a < 12 ∧ PT (Ed ρ s) 12 a a)) n) (i : Int) (j : Int) (r : Int) τ2 := by
        intro τ2 h1 h2
        unfold wp_X12_ringsAt_b81
        intro v ev
        rw [ev, w32_of (by omega) (by omega), show (r : Int) + 1 = ((r + 1 : Nat) : Int) by omega]
        exact ih (r + 1) τ2 n (by push_cast at hd ⊢; omega) (by omega) h1 h2
      have skip : ¬ (ρ 8 r = 0 ∧ ρ 5 r = -1 ∧ ρ 4 r < 12 ∧ hPt ρ ((12 * s + (ρ 4 r).toNat : Nat) : Int)) → wp_X12_ringsAt_b81 (fun r _ => P32 r ∧ ∀ a, tb r a = true ↔ (a < 12 ∧ PT (Ed ρ s) 12 a a)) (wp_X12_ringsAt_l23 (fun r _ => P32 r ∧ ∀ a, tb r a = true ↔ (a < 12 ∧ PT (Ed ρ s) 12 a a)) n) (i : Int) (j : Int) (r : Int) τ1 := by
        intro hno
        refine nx τ1 ha1 (hx.iff (fun a b _ hb => ⟨fun ⟨r', z1, z2⟩ => ⟨r', by omega, z2⟩, fun ⟨r', z1, z2, z3, z4, z5, z6⟩ => ⟨r', ?_, z2, z3, z4, z5, z6⟩⟩))
        by_cases e : r' = r
        · subst e
          exact absurd ⟨z2, z4, by omega, by rw [z5, Int.toNat_natCast]; exact z6⟩ hno
        · omega
      unfold wp_X12_ringsAt_l23
      rw [ha1.1.1]
      refine ⟨fun w => absurd w (by omega), fun _ => r_isSingle2 hg ha1.1 hr4 ?_⟩
      by_cases hu : ρ 8 r = 0 ∧ ρ 5 r = -1 ∧ ρ 4 r < 12
      · rw [if_pos hu]
        refine ⟨fun z => absurd z (by decide), fun _ => ⟨fun z => absurd z (by omega), fun _ => ?_⟩⟩
        rw [Int.toNat_natCast, k2]
        have hI : isItm ρ (ρ 4 r) (i : Int) (j : Int) := ⟨by omega, by omega, by omega, by omega⟩
        have eh : hPt ρ ((12 * s + (ρ 4 r).toNat : Nat) : Int) ↔ hT ρ (ρ 4 r) i j := by
          rw [← hPt_itN hL hI]
          unfold itN
          rw [Int.toNat_natCast, Int.toNat_natCast, hs]
        refine ⟨by omega, r_has2 ha1 hs8 hI (fun hn => ⟨fun _ => skip (fun z => hn (eh.1 z.2.2.2)), fun z => absurd rfl z⟩) (fun hy => ⟨fun z => absurd z (by decide), fun _ => ?_⟩)⟩
        unfold wp_X12_ringsAt_b59
        rw [Int.toNat_natCast, k1, k2]
        refine ⟨by omega, hh, by omega, hh, fun τ2 e2 => nx τ2 (by rw [e2]; exact ha1) ?_⟩
        have hp := pow31 (k := (ρ 4 r).toNat) (by omega)
        rw [show b_shl 1 (ρ 4 r) = ((2 ^ (ρ 4 r).toNat : Nat) : Int) by rw [show ρ 4 r = ((ρ 4 r).toNat : Int) by omega, b_shl_1 _ (by omega)]; rw [Int.toNat_natCast]] at e2
        refine (hx.or (x := 0) hp (D := fun b => b = (ρ 4 r).toNat) (fun b => by rw [tb_pow, decide_eq_true_iff]; exact ⟨fun z => ⟨by omega, z.symm⟩, fun z => z.2.symm⟩) (show (ρ 3 r).toNat < 12 by omega) e2).iff (fun a b ha2 hb2 => ?_)
        constructor
        · rintro (⟨r', z1, z2⟩ | ⟨z1, z2⟩)
          · exact ⟨r', by omega, z2⟩
          · exact ⟨r, by omega, hu.1, by omega, hu.2.1, by omega, by rw [z2]; exact eh.2 hy⟩
        · rintro ⟨r', z1, z2, z3, z4, z5, z6⟩
          by_cases e : r' = r
          · subst e; exact Or.inr ⟨by omega, by omega⟩
          · exact Or.inl ⟨r', by omega, z2, z3, z4, z5, z6⟩
      · rw [if_neg hu]
        exact ⟨fun _ => skip (fun z => hu ⟨z.1, z.2.1, z.2.2.1⟩), fun z => absurd rfl z⟩
  have lp0 : ∀ (d x : Nat) (τ1 : St) (n : Nat), x + d = 12 → d < n → LA ρ τ1 → (∀ a, a < x → τ1 19 a = 0) → wp_X12_ringsAt_l2 (fun r _ => P32 r ∧ ∀ a, tb r a = true ↔ (a < 12 ∧ PT (Ed ρ s) 12 a a)) n (i : Int) (j : Int) (x : Int) τ1 := by
    intro d
    induction d with
    | zero =>
      intro x τ1 n hd hn ha1 hz
      obtain ⟨n, rfl⟩ := suc_n hn
      unfold wp_X12_ringsAt_l2
      refine ⟨fun _ => lpr (ρ 0 4).toNat 0 τ1 bigN (by have := hg.1; omega) (by unfold bigN; omega) ha1 (fun a ha2 => ?_), fun w => absurd (by omega) w⟩
      rw [hz a (by omega)]
      exact ⟨⟨by decide, by decide⟩, fun b => by rw [tb_0]; exact ⟨fun z => (by cases z), fun ⟨_, r', z, _⟩ => (by omega)⟩⟩
    | succ d ih =>
      intro x τ1 n hd hn ha1 hz
      obtain ⟨n, rfl⟩ := suc_n hn
      unfold wp_X12_ringsAt_l2
      refine ⟨fun w => absurd w (by omega), fun _ => ⟨by omega, fun τ2 e2 v ev => ?_⟩⟩
      rw [ev, w32_of (by omega) (by omega), show (x : Int) + 1 = ((x + 1 : Nat) : Int) by omega]
      rw [Int.toNat_natCast] at e2
      refine ih (x + 1) τ2 n (by omega) (by omega) (by rw [e2]; exact ha1) (fun a hax => ?_)
      by_cases e : a = x
      · rw [e2, e, upS_s]
      · rw [e2, upS_j e]; exact hz a (by omega)
  unfold wp_X12_ringsAt
  exact lp0 12 0 τ bigN (by omega) (by unfold bigN; omega) ha (fun a h => by omega)
