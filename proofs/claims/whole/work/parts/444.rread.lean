/-! what the reference reads of a tree -/
theorem r_walk {ρ τ : St} {F : Fo} {D : Nat → Prop} (hF : ClF ρ F D) (hR : RFo ρ τ F D) {Q : Int → St → Prop} : ∀ (N q k d l n : Nat), D q → k < F.1 q → (F.2 q k).1.toNat < N → l < lnT ρ F q k → l < 1000 → l < n → (∀ e, (PTr ρ F q k d)[l]? = some e → Q (τ 37 (16 * iR ρ e.1 + e.2.1)) τ) → wp_X12_stepOf_l22 Q n (τ 37 (16 * iR ρ q + k)) (l : Int) τ := by
  intro N
  induction N with
  | zero => intro q k d l n _ _ h; omega
  | succ N ih =>
    intro q k d l n hq hk hN hl h1000 hn hQ
    obtain ⟨n, rfl⟩ := suc_n hn
    obtain ⟨n0, n1, n2, n3, n4, n5, n6, n7, n8, n9, n10⟩ := (hR q hq).2.2.2 k hk
    have ck := ((hF q hq).1 k hk).1
    have sub := hF.sub hq ck
    have el := lnT_eq hF hq hk
    unfold stC at el
    have eP := PTr_eq hF (d := d) hq hk
    obtain ⟨a1, a2, a3⟩ := (hF q hq).2.2 _ ck.1
    unfold wp_X12_stepOf_l22
    cases l with
    | zero => exact ⟨fun _ => hQ (q, k, d) (by rw [eP]; rfl), fun w => absurd (by omega) w⟩
    | succ l =>
      have A := pt_rd hF hR a1 ck.2.1
      have lenf : ∀ p x, (PTq ρ F p x (d + 1)).length = stP ρ F p x := fun p x => by
        unfold PTq stP
        split
        · rfl
        · exact lnT_len
      have hQ2 : ∀ e, (PTq ρ F (cf ρ q (F.2 q k).2.1) (F.2 q k).2.2.1 (d + 1) ++ PTq ρ F (cg ρ q (F.2 q k).2.1) (F.2 q k).2.2.2 (d + 1))[l]? = some e → Q (τ 37 (16 * iR ρ e.1 + e.2.1)) τ := fun e he => hQ e (by rw [eP, List.getElem?_cons_succ]; exact he)
      refine ⟨fun w => absurd w (by omega), fun _ v1 e1 => ⟨⟨n0, n1⟩, ?_⟩⟩
      rw [w32_of (by omega) (by omega), show ((l + 1 : Nat) : Int) + -1 = (l : Int) by omega] at e1
      rw [n6]
      refine r_stepsNode A.2.1 ⟨fun hge v4 e4 => ⟨⟨n0, n1⟩, fun v5 e5 => ?_⟩, fun hlt => ⟨⟨n0, n1⟩, fun v6 e6 => ?_⟩⟩
      · unfold wp_X12_stepOf_b73
        rw [n7] at e5
        have hpos : 0 < stP ρ F (cg ρ q (F.2 q k).2.1) (F.2 q k).2.2.2 := by omega
        have hcg : ¬ cg ρ q (F.2 q k).2.1 < 0 := fun g => by unfold stP at hpos; rw [if_pos g] at hpos; omega
        have z3 := ck.2.2.1
        rw [hsF_pos (by omega)] at z3
        have s3 := sub.2.2
        rw [scF_pos (by omega)] at s3
        have eS : stP ρ F (cg ρ q (F.2 q k).2.1) (F.2 q k).2.2.2 = lnT ρ F (cg ρ q (F.2 q k).2.1).toNat (F.2 q k).2.2.2 := by unfold stP; rw [if_neg hcg]
        unfold chN at e5
        rw [if_neg hcg] at e5
        rw [e1, w32_of (by omega) (by omega), show (l : Int) - ((stP ρ F (cf ρ q (F.2 q k).2.1) (F.2 q k).2.2.1 : Nat) : Int) = ((l - stP ρ F (cf ρ q (F.2 q k).2.1) (F.2 q k).2.2.1 : Nat) : Int) by omega] at e4
        rw [e4, e5]
        refine ih _ _ (d + 1) _ n (a2 (by omega)) z3 (by omega) (by omega) (by omega) (by omega) (fun e he => hQ2 e ?_)
        rw [List.getElem?_append_right (by rw [lenf]; omega), lenf]
        unfold PTq
        rw [if_neg hcg]
        exact he
      · unfold wp_X12_stepOf_b73
        rw [n6] at e6
        have hpos : 0 < stP ρ F (cf ρ q (F.2 q k).2.1) (F.2 q k).2.2.1 := by omega
        have hcf : ¬ cf ρ q (F.2 q k).2.1 < 0 := fun g => by unfold stP at hpos; rw [if_pos g] at hpos; omega
        have z2 := ck.2.1
        rw [hsF_pos (by omega)] at z2
        have s2 := sub.2.1
        rw [scF_pos (by omega)] at s2
        have eS : stP ρ F (cf ρ q (F.2 q k).2.1) (F.2 q k).2.2.1 = lnT ρ F (cf ρ q (F.2 q k).2.1).toNat (F.2 q k).2.2.1 := by unfold stP; rw [if_neg hcf]
        unfold chN at e6
        rw [if_neg hcf] at e6
        rw [e6, e1]
        refine ih _ _ (d + 1) l n (a1 (by omega)) z2 (by omega) (by omega) (by omega) (by omega) (fun e he => hQ2 e ?_)
        rw [List.getElem?_append_left (by rw [lenf]; omega)]
        unfold PTq
        rw [if_neg hcf]
        exact he
theorem r_stepOf {ρ τ : St} {F : Fo} {D : Nat → Prop} (hF : ClF ρ F D) (hR : RFo ρ τ F D) {q k d : Nat} (hq : D q) (hk : k < F.1 q) (h360 : lnT ρ F q k ≤ 360) {x : Nat} {Q : Int → St → Prop} (h1 : ∀ e, (PTr ρ F q k d)[x]? = some e → Q (τ 37 (16 * iR ρ e.1 + e.2.1)) τ) (h2 : lnT ρ F q k ≤ x → Q (-1) τ) : wp_X12_stepOf (τ 37 (16 * iR ρ q + k)) (x : Int) τ Q := by
  obtain ⟨n0, n1, n2, n3, n4, n5, n6, n7, n8, n9, n10⟩ := (hR q hq).2.2.2 k hk
  rw [← lnT_eq hF hq hk] at n9
  unfold wp_X12_stepOf
  rw [n9]
  refine ⟨fun e => absurd e (by omega), fun _ => ⟨⟨n0, n1⟩, fun g => ?_, fun g => h2 (by omega)⟩⟩
  exact r_walk hF hR _ q k d x bigN hq hk (Nat.lt_succ_self _) (by omega) (by omega) (by unfold bigN; omega) h1
theorem r_alike1 {ρ τ : St} (hg : Wg ρ) (hL : LL ρ < 9) {F : Fo} {D : Nat → Prop} (hF : ClF ρ F D) (hR : RFo ρ τ F D) {e e' : SpT} (h : gdS F D e) (h' : gdS F D e') {Q : Int → St → Prop} (hy : kyS F e = kyS F e' → Q 1 τ) (hn : kyS F e ≠ kyS F e' → Q 0 τ) : wp_X12_areAlike (τ 37 (16 * iR ρ e.1 + e.2.1)) (τ 37 (16 * iR ρ e'.1 + e'.2.1)) τ Q := by
  have N := (hR _ h.1).2.2.2 _ h.2
  have N' := (hR _ h'.1).2.2.2 _ h'.2
  have c := ((hF _ h.1).1 _ h.2).1
  have c' := ((hF _ h'.1).1 _ h'.2).1
  have q1 := (hR _ h.1).1
  have q1' := (hR _ h'.1).1
  obtain ⟨n0, n1, n2, n3, n4, n5, -⟩ := N
  obtain ⟨m0, m1, m2, m3, m4, m5, -⟩ := N'
  have kin : kyS F e = kyS F e' → e.1 = e'.1 ∧ (F.2 e.1 e.2.1).2.1 = (F.2 e'.1 e'.2.1).2.1 := fun g => by
    unfold kyS tOf at g
    exact Prod.mk.inj g
  unfold wp_X12_areAlike wp_X12_areAlike_b74
  rw [n2, n3, n4, n5, m2, m3, m4, m5]
  refine ⟨fun g => absurd g (by omega), fun _ => ⟨fun g => absurd g (by omega), fun _ => ⟨⟨n0, n1⟩, ⟨m0, m1⟩, fun g => hn (fun k => g ?_), fun g28 => ⟨⟨n0, n1⟩, ⟨m0, m1⟩, fun g => hn (fun k => g ?_), fun g29 => ⟨⟨n0, n1⟩, ⟨m0, m1⟩, fun g => hn (fun k => g ?_), fun g31 => ⟨⟨n0, n1⟩, ⟨m0, m1⟩, fun g => hn (fun k => g ?_), fun g30 => hy ?_⟩⟩⟩⟩⟩⟩
  · rw [(kin k).2, (kin k).1]
  · rw [(kin k).1]
  · rw [(kin k).1]
  · rw [(kin k).2, (kin k).1]
  · have e28 : (cq ρ e.1 (F.2 e.1 e.2.1).2.1).1 = (cq ρ e'.1 (F.2 e'.1 e'.2.1).2.1).1 := Classical.byContradiction g28
    have e29 : spB (LL ρ) (e.1 / 12) = spB (LL ρ) (e'.1 / 12) := Int.ofNat_inj.1 (Classical.byContradiction g29)
    have e31 : spF (LL ρ) (e.1 / 12) = spF (LL ρ) (e'.1 / 12) := Int.ofNat_inj.1 (Classical.byContradiction g31)
    have e30 : cm ρ e.1 (F.2 e.1 e.2.1).2.1 = cm ρ e'.1 (F.2 e'.1 e'.2.1).2.1 := Classical.byContradiction g30
    have s1 := sp_s hL (show e.1 / 12 < spN (LL ρ) by omega)
    have s2 := sp_s hL (show e'.1 / 12 < spN (LL ρ) by omega)
    have es : e.1 / 12 = e'.1 / 12 := by rw [← s1.2.2, ← s2.2.2, e29, e31]
    have k1 := cs_kind hg hL (show e.1 % 12 < 12 by omega) (show e.1 / 12 < spN (LL ρ) by omega) (t := (F.2 e.1 e.2.1).2.1) (by rw [show 12 * (e.1 / 12) + e.1 % 12 = e.1 by omega]; exact c.1)
    have k2 := cs_kind hg hL (show e'.1 % 12 < 12 by omega) (show e'.1 / 12 < spN (LL ρ) by omega) (t := (F.2 e'.1 e'.2.1).2.1) (by rw [show 12 * (e'.1 / 12) + e'.1 % 12 = e'.1 by omega]; exact c'.1)
    rw [show 12 * (e.1 / 12) + e.1 % 12 = e.1 by omega] at k1
    rw [show 12 * (e'.1 / 12) + e'.1 % 12 = e'.1 by omega] at k2
    obtain ⟨r, -, -, r3, rc, -⟩ := k1
    obtain ⟨r', -, -, r3', rc', -⟩ := k2
    have er : r = r' := by omega
    subst er
    have e1 : e.1 = e'.1 := by omega
    unfold kyS tOf
    have c1 := c'.1
    rw [← e1] at c1 e28 e30 ⊢
    rw [cq_inj c.1 c1 e28 e30]
theorem r_alikes {ρ τ : St} (hg : Wg ρ) (hL : LL ρ < 9) {F : Fo} {D : Nat → Prop} (hF : ClF ρ F D) (hT : ∀ q, D q → SgF ρ F q) (hR : RFo ρ τ F D) {q k l : Nat} (hq : D q) (hk : k < F.1 q) (hl : l < F.1 q) {Q : Int → St → Prop} (hQ : Q (alkL ((PTr ρ F q k 1).map (kyS F)) ((PTr ρ F q l 1).map (kyS F)) : Nat) τ) : wp_X12_alike_l72 Q bigN (τ 37 (16 * iR ρ q + k)) (τ 37 (16 * iR ρ q + l)) 0 τ := by
  have hD : ∀ q, D q → q < 12 * spN (LL ρ) := fun q hq => (hR q hq).1
  have w3 : lnT ρ F q k ≤ 360 := sN_360 hg hL hF hT hD hq hk
  have u3 : lnT ρ F q l ≤ 360 := sN_360 hg hL hF hT hD hq hl
  have gw : ∀ e, e ∈ PTr ρ F q k 1 → gdS F D e := PTr_gd hF _ q k 1 hq hk
  have gu : ∀ e, e ∈ PTr ρ F q l 1 → gdS F D e := PTr_gd hF _ q l 1 hq hl
  have lw : (PTr ρ F q k 1).length = lnT ρ F q k := lnT_len
  have lu : (PTr ρ F q l 1).length = lnT ρ F q l := lnT_len
  have lp : ∀ (d x n : Nat), x + d = 400 → d < n → x ≤ lnT ρ F q k → alkL ((PTr ρ F q k 1).map (kyS F)) ((PTr ρ F q l 1).map (kyS F)) = x + alkL (((PTr ρ F q k 1).map (kyS F)).drop x) (((PTr ρ F q l 1).map (kyS F)).drop x) → wp_X12_alike_l72 Q n (τ 37 (16 * iR ρ q + k)) (τ 37 (16 * iR ρ q + l)) (x : Int) τ := by
    intro d
    induction d with
    | zero => intro x n h1 h2 h3; omega
    | succ d ih =>
      intro x n h1 h2 h3 hx
      obtain ⟨n, rfl⟩ := suc_n h2
      have stop : alkL (((PTr ρ F q k 1).map (kyS F)).drop x) (((PTr ρ F q l 1).map (kyS F)).drop x) = 0 → Q (x : Int) τ := fun h => by
        rw [h, Nat.add_zero] at hx
        rw [hx] at hQ; exact hQ
      unfold wp_X12_alike_l72
      -- one of the two has ended
      have e1 : lnT ρ F q k ≤ x → Q (x : Int) τ := fun g => stop (alk_end (Or.inl (List.drop_eq_nil_of_le (by rw [List.length_map, lw]; exact g))))
      have e2 : lnT ρ F q l ≤ x → Q (x : Int) τ := fun g => stop (alk_end (Or.inr (List.drop_eq_nil_of_le (by rw [List.length_map, lu]; exact g))))
      have ar : ∀ b, Q (x : Int) τ → wp_X12_areAlike (-1) b τ (fun r17 σ18 => ((r17 = 0) → Q (x : Int) σ18) ∧ (¬ (r17 = 0) → ∀ v19 : Int, v19 = w32 ((x : Int) + 1) → (wp_X12_alike_l72 Q n) (τ 37 (16 * iR ρ q + k)) (τ 37 (16 * iR ρ q + l)) v19 σ18)) := fun b h => by
        unfold wp_X12_areAlike wp_X12_areAlike_b74
        exact ⟨fun _ => ⟨fun _ => h, fun w => absurd rfl w⟩, fun w => absurd rfl w⟩
      refine r_stepOf (d := 1) hF hR hq hk w3 (fun e he => ?_) (fun g => ?_)
      · have xw : x < (PTr ρ F q k 1).length := by
          rw [List.getElem?_eq_some_iff] at he
          exact he.1
        have ge := gw e (List.mem_of_getElem? he)
        refine r_stepOf (d := 1) hF hR hq hl u3 (fun e' he' => ?_) (fun g => ?_)
        · have xu : x < (PTr ρ F q l 1).length := by
            rw [List.getElem?_eq_some_iff] at he'
            exact he'.1
          have ge' := gu e' (List.mem_of_getElem? he')
          have ad := alk_drop (l := (PTr ρ F q k 1).map (kyS F)) (m := (PTr ρ F q l 1).map (kyS F)) (x := x) (by rw [List.length_map]; exact xw) (by rw [List.length_map]; exact xu)
          rw [List.getElem_map, List.getElem_map] at ad
          rw [List.getElem?_eq_getElem xw, Option.some.injEq] at he
          rw [List.getElem?_eq_getElem xu, Option.some.injEq] at he'
          rw [he, he'] at ad
          refine r_alike1 hg hL hF hR ge ge' (fun hk => ⟨fun w => absurd w (by decide), fun _ v ev => ?_⟩) (fun hk => ⟨fun _ => stop (by rw [ad, if_neg hk]), fun w => absurd rfl w⟩)
          rw [w32_of (by omega) (by omega), show (x : Int) + 1 = ((x + 1 : Nat) : Int) by omega] at ev
          rw [ev]
          refine ih (x + 1) n (by omega) (by omega) (by omega) ?_
          rw [hx, ad, if_pos hk]; omega
        · have N := (hR _ ge.1).2.2.2 _ ge.2
          have n0 := N.1
          have := e2 g
          unfold wp_X12_areAlike wp_X12_areAlike_b74
          exact ⟨fun w => absurd w (by omega), fun _ => ⟨fun _ => ⟨fun _ => this, fun w => absurd rfl w⟩, fun w => absurd rfl w⟩⟩
      · have := e1 g
        refine r_stepOf (d := 1) hF hR hq hl u3 (fun e' he' => ar _ this) (fun g => ar _ this)
  exact lp 400 0 bigN (by omega) (by unfold bigN; omega) (by omega) (by rw [List.drop_zero, List.drop_zero, Nat.zero_add])
/-! the reference writes a tree -/
def OUr (τ : St) (O : List Int) : Prop := τ 0 61 = (O.length : Int) ∧ ∀ i (h : i < O.length), τ 40 i = O[i]
def sTl (τ0 τ : St) : Prop := (∀ k, k ≠ 0 → k ≠ 40 → τ k = τ0 k) ∧ ∀ j, j ≠ 61 → τ 0 j = τ0 0 j
theorem r_puts {τ0 τ : St} {O : List Int} (hs : sTl τ0 τ) (h : OUr τ O) (hl : O.length < 20000) {c : Int} (hc : 0 ≤ c ∧ c < 128) {Q : Int → St → Prop} (hq : ∀ τ1, sTl τ0 τ1 → OUr τ1 (O ++ [c]) → Q 0 τ1) : wp_X12_puts c τ Q := by
  obtain ⟨h1, h2⟩ := h
  have bb : b_byte (b_byte c) = c := by
    have e : b_byte c = c := by rw [b_byte_eq ⟨by omega, by omega⟩]; omega
    rw [e, e]
  unfold wp_X12_puts
  rw [h1, Int.toNat_natCast, bb]
  refine ⟨by omega, fun σ1 e1 σ2 e2 => ?_⟩
  have a1 : σ1 0 61 = (O.length : Int) := by rw [e1, upS_k (by decide)]; exact h1
  rw [a1, w32_of (by omega) (by omega)] at e2
  refine hq σ2 ⟨fun k k0 k1 => by rw [e2, upS_k k0, e1, upS_k k1]; exact hs.1 k k0 k1, fun j hj => by rw [e2, upS_j hj, e1, upS_k (by decide)]; exact hs.2 j hj⟩ ⟨by rw [e2, upS_s, List.length_append]; push_cast; rfl, fun i hi => ?_⟩
  rw [e2, upS_k (by decide), e1]
  rw [List.length_append, List.length_singleton] at hi
  by_cases e : i = O.length
  · subst e
    rw [upS_s, List.getElem_append_right (Nat.le_refl _)]
    simp
  · rw [upS_j e, List.getElem_append_left (by omega)]
    exact h2 i (by omega)
theorem r_tells {ρ τ0 : St} (hg : Wg ρ) (hL : LL ρ < 9) (hS : RSg ρ τ0) {F : Fo} {D : Nat → Prop} (hF : ClF ρ F D) (hR : RFo ρ τ0 F D) : ∀ (N q k : Nat), D q → k < F.1 q → (F.2 q k).1.toNat < N → ∀ (d : Nat) (O : List Int) (τ : St) (Q : Int → St → Prop), lnT ρ F q k ≤ d → sTl τ0 τ → OUr τ O → O.length + (XT ρ F q k).length ≤ 20000 → (∀ τ1, sTl τ0 τ1 → OUr τ1 (O ++ XT ρ F q k) → Q 0 τ1) → wp_X12_tells d (τ0 37 (16 * iR ρ q + k)) τ Q := by
  intro N
  induction N with
  | zero => intro q k _ _ h; omega
  | succ N ih =>
    intro q k hq hk hN d O τ Q hd hs hO hln hQ
    have hD : ∀ q, D q → q < 12 * spN (LL ρ) := fun q hq => (hR q hq).1
    obtain ⟨n0, n1, n2, n3, n4, n5, n6, n7, n8, n9, n10⟩ := (hR q hq).2.2.2 k hk
    have ck := ((hF q hq).1 k hk).1
    have sub := hF.sub hq ck
    have el := lnT_eq hF hq hk
    unfold stC at el
    obtain ⟨a1, a2, a3⟩ := (hF q hq).2.2 _ ck.1
    obtain ⟨r, hc, hr, r40, -, h3, -, -, p1, p2, p3, p4⟩ := en_rule hg hL hF hD hq hk
    have q4 : ρ 5 r ≠ -1 → (cg ρ q (F.2 q k).2.1 < 0 → 100 ≤ ρ 5 r ∧ ρ 5 r < 126) ∧ (0 ≤ cg ρ q (F.2 q k).2.1 → 0 ≤ ρ 5 r ∧ ρ 5 r < 12) := fun h => ⟨(p4 h).1, (p4 h).2.1⟩
    clear p3 p4
    obtain ⟨g1, g2, g3, g4⟩ := hS.2.1 r hr
    have eX := XT_eq hF hq hk
    rw [hc, Int.toNat_natCast] at eX
    obtain ⟨d, rfl⟩ : ∃ m, d = m + 1 := ⟨d - 1, by omega⟩
    -- a part
    have part : ∀ (p : Int) (x : Nat) (c : Int), (0 ≤ p → D p.toNat) → x < hsF F p → scF F p x < (F.2 q k).1 → stP ρ F p x ≤ d → (p < 0 → 100 ≤ c ∧ c < 126) → (0 ≤ p → 0 ≤ c ∧ c < 12) → ∀ (O1 : List Int) (τ1 : St) (Q1 : Int → St → Prop), sTl τ0 τ1 → OUr τ1 O1 → O1.length + 1 + (XTp ρ F p x c).length ≤ 20000 → (∀ τ2, sTl τ0 τ2 → OUr τ2 (O1 ++ 32 :: XTp ρ F p x c) → Q1 0 τ2) → wp_X12_tellsPart (wp_X12_tells d) c (chN ρ τ0 p x) τ1 Q1 := by
      intro p x c hp hx hsc hst h100 h12 O1 τ1 Q1 s1 o1 hlen hQ1
      unfold wp_X12_tellsPart
      refine r_puts s1 o1 (by omega) (by decide) (fun τ2 s2 o2 => ⟨fun hlt => ?_, fun hge => ?_⟩)
      · have h0 : ¬ p < 0 := fun g => by have := h100 g; omega
        unfold chN
        unfold XTp at hlen hQ1
        rw [if_neg h0] at hlen hQ1
        rw [if_neg h0]
        rw [hsF_pos (by omega)] at hx
        rw [scF_pos (by omega)] at hsc
        unfold stP at hst
        rw [if_neg h0] at hst
        refine ih _ x (hp (by omega)) hx (by omega) d (O1 ++ [32]) τ2 _ hst s2 o2 (by rw [List.length_append, List.length_singleton]; omega) (fun τ3 s3 o3 => hQ1 τ3 s3 ?_)
        rw [List.append_assoc] at o3
        exact o3
      · have h0 : p < 0 := by
          by_cases g : p < 0
          · exact g
          · have := h12 (by omega); omega
        unfold XTp at hlen hQ1
        rw [if_pos h0] at hlen hQ1
        have hc' := h100 h0
        rw [w32_of (x := 97 + c) (by omega) (by omega), w32_of (by omega) (by omega)]
        rw [List.length_singleton] at hlen
        refine r_puts s2 o2 (by rw [List.length_append, List.length_singleton]; omega) (by omega) (fun τ3 s3 o3 => hQ1 τ3 s3 ?_)
        rw [List.append_assoc] at o3
        exact o3
    have lX := congrArg List.length eX
    simp only [List.length_cons, List.length_append, List.length_nil] at lX
    unfold wp_X12_tells
    refine ⟨⟨n0, n1⟩, fun v1 e1 => ?_⟩
    rw [hs.1 28 (by decide) (by decide), n2, hc] at e1
    rw [e1]
    have hh := w_head hg hr
    refine r_puts hs hO (by omega) (by decide) (fun τ1 s1 o1 => ⟨by omega, ?_⟩)
    rw [Int.toNat_natCast, s1.1 1 (by decide) (by decide), g1, w32_of (by omega) (by omega)]
    refine r_puts s1 o1 (by rw [List.length_append, List.length_singleton]; omega) (by omega) (fun τ2 s2 o2 => ⟨by omega, ⟨n0, n1⟩, ?_⟩)
    rw [s2.1 2 (by decide) (by decide), g2, s2.1 32 (by decide) (by decide), n6]
    refine part _ _ _ a1 ck.2.1 sub.2.1 (by omega) p1 p2 _ τ2 _ s2 o2 (by simp only [List.length_append, List.length_singleton]; omega) (fun τ3 s3 o3 => ⟨by omega, ?_⟩)
    rw [s3.1 3 (by decide) (by decide), g3]
    have last : ∀ (τ4 : St) (Y : List Int), sTl τ0 τ4 → OUr τ4 (O ++ Y) → Y ++ [41] = XT ρ F q k → wp_X12_tells_b68 (wp_X12_tells d) Q τ4 := by
      intro τ4 Y s4 o4 eY
      have lY := congrArg List.length eY
      rw [List.length_append, List.length_singleton] at lY
      unfold wp_X12_tells_b68
      refine r_puts s4 o4 (by rw [List.length_append]; omega) (by decide) (fun τ5 s5 o5 => hQ τ5 s5 ?_)
      rw [List.append_assoc, eY] at o5
      exact o5
    by_cases h5 : ρ 5 r = -1
    · refine ⟨fun _ => last τ3 (40 :: (65 + ρ 3 r) :: 32 :: XTp ρ F (cf ρ q (F.2 q k).2.1) (F.2 q k).2.2.1 (ρ 4 r)) s3 ?_ ?_, fun w => absurd h5 w⟩
      · simp only [List.append_assoc, List.singleton_append, List.cons_append, List.nil_append] at o3 ⊢
        exact o3
      · rw [eX, if_pos h5]; rfl
    · rw [if_neg h5] at eX lX
      simp only [List.length_cons] at lX
      refine ⟨fun w => absurd w h5, fun _ => ⟨by omega, ⟨n0, n1⟩, ?_⟩⟩
      rw [s3.1 33 (by decide) (by decide), n7]
      refine part _ _ _ a2 ck.2.2.1 sub.2.2 (by omega) (q4 h5).1 (q4 h5).2 _ τ3 _ s3 o3 (by simp only [List.length_append, List.length_cons, List.length_nil]; omega) (fun τ4 s4 o4 => ?_)
      refine last τ4 (40 :: (65 + ρ 3 r) :: 32 :: (XTp ρ F (cf ρ q (F.2 q k).2.1) (F.2 q k).2.2.1 (ρ 4 r) ++ 32 :: XTp ρ F (cg ρ q (F.2 q k).2.1) (F.2 q k).2.2.2 (ρ 5 r))) s4 ?_ ?_
      · simp only [List.append_assoc, List.singleton_append, List.cons_append, List.nil_append] at o4 ⊢
        exact o4
      · rw [eX]
        simp only [List.append_assoc, List.singleton_append, List.cons_append, List.nil_append]
