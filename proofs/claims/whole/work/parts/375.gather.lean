/-! rules in some tree, in each: the class's -/
def opY (y x b : Int) : Int := if y = 0 then l_and x b else l_or x b
theorem opY_c {y x b : Int} : C64 (opY y x b) := by
  unfold opY
  split
  · exact c64_and _ _
  · exact c64_or _ _
theorem mk_op {y x u v : Int} {k r : Nat} (hr : r < 63) {P : Nat → Prop} {c : Cs} (hc : c.1 = (r : Int)) (hu : (c.2.2.1 < 0 ∧ u = 0) ∨ (0 ≤ c.2.2.1 ∧ (mkB y u k ↔ P c.2.2.1.toNat))) (hv : (c.2.2.2 < 0 ∧ v = 0) ∨ (0 ≤ c.2.2.2 ∧ (mkB y v k ↔ P c.2.2.2.toNat))) : mkB y (opY y x (l_or (l_or (l_shl 1 (r : Int)) u) v)) k ↔ (mkB y x k ∨ stp y k P c) := by
  unfold mkB opY stp at *
  by_cases e : y = 0
  · rw [if_pos e] at *
    rw [if_pos e, if_pos e, if_pos e, bt64_and, bt64_or, bt64_or, bt64_sh hr, hc]
    rw [Bool.and_eq_false_iff, Bool.or_eq_false_iff, Bool.or_eq_false_iff, decide_eq_false_iff_not]
    have eu : bt64 u k = false ↔ (0 ≤ c.2.2.1 → P c.2.2.1.toNat) := by
      rcases hu with ⟨a, b⟩ | ⟨a, b⟩
      · rw [b, bt64_0]; exact ⟨fun _ z => absurd z (by omega), fun _ => rfl⟩
      · rw [b]; exact ⟨fun z _ => z, fun z => z a⟩
    have ev : bt64 v k = false ↔ (0 ≤ c.2.2.2 → P c.2.2.2.toNat) := by
      rcases hv with ⟨a, b⟩ | ⟨a, b⟩
      · rw [b, bt64_0]; exact ⟨fun _ z => absurd z (by omega), fun _ => rfl⟩
      · rw [b]; exact ⟨fun z _ => z, fun z => z a⟩
    rw [eu, ev]
    constructor
    · rintro (z | ⟨⟨z1, z2⟩, z3⟩)
      · exact Or.inl z
      · exact Or.inr ⟨by omega, z2, z3⟩
    · rintro (z | ⟨z1, z2, z3⟩)
      · exact Or.inl z
      · exact Or.inr ⟨⟨by omega, z2⟩, z3⟩
  · rw [if_neg e] at *
    rw [if_neg e, if_neg e, if_neg e, bt64_or, bt64_or, bt64_or, bt64_sh hr, hc]
    rw [Bool.or_eq_true, Bool.or_eq_true, Bool.or_eq_true, decide_eq_true_iff]
    have eu : bt64 u k = true ↔ (0 ≤ c.2.2.1 ∧ P c.2.2.1.toNat) := by
      rcases hu with ⟨a, b⟩ | ⟨a, b⟩
      · rw [b, bt64_0]; exact ⟨fun z => (by cases z), fun z => absurd z.1 (by omega)⟩
      · rw [b]; exact ⟨fun z => ⟨a, z⟩, fun z => z.2⟩
    have ev : bt64 v k = true ↔ (0 ≤ c.2.2.2 ∧ P c.2.2.2.toNat) := by
      rcases hv with ⟨a, b⟩ | ⟨a, b⟩
      · rw [b, bt64_0]; exact ⟨fun z => (by cases z), fun z => absurd z.1 (by omega)⟩
      · rw [b]; exact ⟨fun z => ⟨a, z⟩, fun z => z.2⟩
    rw [eu, ev]
    constructor
    · rintro (z | (z | z) | z)
      · exact Or.inl z
      · exact Or.inr (Or.inl (by omega))
      · exact Or.inr (Or.inr (Or.inl z))
      · exact Or.inr (Or.inr (Or.inr z))
    · rintro (z | z | z | z)
      · exact Or.inl z
      · exact Or.inr (Or.inl (Or.inl (by omega)))
      · exact Or.inr (Or.inl (Or.inr z))
      · exact Or.inr (Or.inr z)
theorem l_or_00 {x : Int} (hx : C64 x) : l_or x 0 = x := bt64_ext (c64_or _ _) hx (fun k _ => by rw [bt64_or, bt64_0, Bool.or_false])
theorem mk_op1 {y x u : Int} {k r : Nat} (hr : r < 63) {P : Nat → Prop} {c : Cs} (hc : c.1 = (r : Int)) (h1 : 0 ≤ c.2.2.1) (h2 : c.2.2.2 < 0) (hu : mkB y u k ↔ P c.2.2.1.toNat) : mkB y (opY y x (l_or (l_shl 1 (r : Int)) u)) k ↔ (mkB y x k ∨ stp y k P c) := by
  have := mk_op (y := y) (x := x) (u := u) (v := 0) (k := k) hr hc (P := P) (Or.inr ⟨h1, hu⟩) (Or.inl ⟨h2, rfl⟩)
  rw [l_or_00 (c64_or _ _)] at this
  exact this
/-- a unary rule's case -/
theorem un_case {ρ : St} (hg : Wg ρ) (hL : LL ρ < 9) {s r : Nat} (hs : s < spN (LL ρ)) (hr : r ∈ uyL ρ 12) (hp : hPt ρ ((12 * s + (ρ 4 r).toNat : Nat) : Int)) : ∃ c ∈ cI ρ (12 * s + (ρ 3 r).toNat), fullC ρ c ∧ goC c ∧ c.1 = (r : Int) ∧ c.2.2.1 = ((12 * s + (ρ 4 r).toNat : Nat) : Int) ∧ c.2.2.2 = -1 := by
  have q := sp_s hL hs
  obtain ⟨g1, a', g2, g3⟩ := (mem_uyL 12).1 hr
  rw [Bool.and_eq_true] at g3
  have i := inA_iff.1 g3.1
  have u := g3.2
  unfold unR at u
  simp only [Bool.and_eq_true, decide_eq_true_iff] at u
  have hh := (hg.2.2 r (by omega)).1
  have hp4 := (hg.2.2 r (by omega)).2.1
  unfold isPart at hp4
  have e : pv ρ (ρ 4 r) (spB (LL ρ) s) (spF (LL ρ) s) = ((12 * s + (ρ 4 r).toNat : Nat) : Int) := by
    rw [pv_lab (by omega), q.2.2]; omega
  refine ⟨((r : Int), -1, pv ρ (ρ 4 r) (spB (LL ρ) s) (spF (LL ρ) s), -1), (mem_cI (by omega)).2 ⟨r, g1, inA_iff.2 ⟨by omega, i.2⟩, mem_cC.2 (Or.inl ⟨u.1, by omega, rfl⟩)⟩, ⟨by show hPt ρ (pv ρ (ρ 4 r) _ _); rw [e]; exact hp, Or.inl (by show (-1 : Int) < 0; decide)⟩, ⟨rfl, by show 0 ≤ pv ρ (ρ 4 r) _ _; omega⟩, rfl, e, rfl⟩
theorem case_un {ρ : St} (hg : Wg ρ) (hL : LL ρ < 9) {s a : Nat} (hs : s < spN (LL ρ)) (ha : a < 12) {c : Cs} (hc : c ∈ cI ρ (12 * s + a)) (hf : fullC ρ c) (hgo : goC c) : ∃ r ∈ uyL ρ 12, ρ 3 r = (a : Int) ∧ c.1 = (r : Int) ∧ c.2.2.1 = ((12 * s + (ρ 4 r).toNat : Nat) : Int) ∧ c.2.2.2 = -1 ∧ hPt ρ ((12 * s + (ρ 4 r).toNat : Nat) : Int) := by
  have q := sp_s hL hs
  obtain ⟨r, r1, r2, r3, r4, hh⟩ := cI_info ha hc
  have hp4 := (hg.2.2 r r1).2.1
  unfold isPart at hp4
  rcases hh with ⟨h5, h6, h7, h8, h9⟩ | ⟨h5, m, h6, h7, h8, h9, h10, -⟩
  · have hl : ρ 4 r < 100 := by
      refine Classical.byContradiction (fun z => ?_)
      have hx := hgo.2
      rw [h8] at hx
      by_cases hcc : spF (LL ρ) s = spB (LL ρ) s + 1 ∧ ρ 11 (spB (LL ρ) s) = ρ 4 r - 100
      · rw [pv_yes (by omega) hcc] at hx; exact absurd hx (by decide)
      · rw [pv_no (by omega) hcc] at hx; exact absurd hx (by decide)
    have e : c.2.2.1 = ((12 * s + (ρ 4 r).toNat : Nat) : Int) := by
      rw [h8, pv_lab hl, q.2.2]; omega
    refine ⟨r, (mem_uyL 12).2 ⟨by omega, a, ha, ?_⟩, r3, r4, e, h9, by rw [← e]; exact hf.1⟩
    rw [Bool.and_eq_true]
    refine ⟨inA_iff.2 ⟨r3, r2⟩, ?_⟩
    unfold unR
    simp only [Bool.and_eq_true, decide_eq_true_iff]
    exact ⟨h5, by omega⟩
  · have := hgo.1; omega
/-- a row's entry is right -/
def gR (ρ : St) (y : Int) (q : Nat) (x : Int) : Prop := C64 x ∧ ∀ k, k < 64 → (mkB y x k ↔ UQ ρ y k q)
def gSo (ρ : St) (y : Int) (q : Nat) (x : Int) : Prop := C64 x ∧ ∀ k, k < 64 → mkB y x k → UQ ρ y k q
theorem c_gc43 {ρ σ : St} (hg : Wg ρ) (hL : LL ρ < 9) (hB : Bt ρ σ) (hw : Lw ρ σ) {y : Int} {s a : Nat} (hs : s < spN (LL ρ)) (ha : a < 12) (hrow : ∀ x, x < 12 * s → gR ρ y x (σ 43 x)) {Q : Int → St → Prop} (h : ∀ v, C64 v → (∀ k, k < 64 → (mkB y v k ↔ UD ρ y k s 0 a)) → Q v σ) : wp_X2_gatherCases_c43 ((12 * s + a : Nat) : Int) y σ Q := by
  have h3360 := PL_3360 hg hL
  have h3 := sp_3 _ hL
  have h40 := hg.2.1
  generalize hq0 : 12 * s + a = q at *
  have hq : q < 12 * spN (LL ρ) := by omega
  have hlen : (cI ρ q).length < bigN := by
    by_cases hz : (cI ρ q).length = 0
    · rw [hz]; unfold bigN; omega
    · have := (hB.seg (t := (cI ρ q).length - 1) hq (by omega)).1
      unfold bigN; omega
  have lp : ∀ (d t : Nat) (v : Int) (n : Nat), t + d = (cI ρ q).length → d < n → C64 v → (∀ k, k < 64 → (mkB y v k ↔ ∃ c ∈ (cI ρ q).take t, fullC ρ c ∧ ¬ goC c ∧ stp y k (UQ ρ y k) c)) → wp_X2_gatherCases_c43_l23 Q n (q : Int) y v (((PL ρ q).length + t : Nat) : Int) σ := by
    intro d
    induction d with
    | zero =>
      intro t v n hd hn hc hv
      obtain ⟨n, rfl⟩ := suc_n hn
      unfold wp_X2_gatherCases_c43_l23
      refine c_caseEnd hL hB hq ⟨fun _ => h v hc (fun k hk => (hv k hk).trans ?_), fun w => absurd (by omega) w⟩
      rw [show t = (cI ρ q).length by omega, List.take_length]
      unfold UD
      rw [hq0]
    | succ d ih =>
      intro t v n hd hn hcv hv
      obtain ⟨n, rfl⟩ := suc_n hn
      have ht : t < (cI ρ q).length := by omega
      obtain ⟨s0, s1, s2, s3, s4⟩ := hB.seg hq ht
      have ok := cI_ok hg hL hq (List.getElem_mem ht)
      have e1 := List.take_succ_eq_append_getElem ht
      have mem := List.getElem_mem ht
      have nx : ∀ v', C64 v' → (∀ k, k < 64 → (mkB y v' k ↔ ∃ c ∈ (cI ρ q).take t ++ [(cI ρ q)[t]], fullC ρ c ∧ ¬ goC c ∧ stp y k (UQ ρ y k) c)) → wp_X2_gatherCases_c43_b161 Q (wp_X2_gatherCases_c43_l23 Q n) (q : Int) y v' (((PL ρ q).length + t : Nat) : Int) σ := by
        intro v' hc' hv'
        unfold wp_X2_gatherCases_c43_b161
        intro z ez
        rw [ez, w32_of (by omega) (by omega), show (((PL ρ q).length + t : Nat) : Int) + 1 = (((PL ρ q).length + (t + 1) : Nat) : Int) by omega]
        exact ih (t + 1) v' n (by omega) (by omega) hc' (by rw [e1]; exact hv')
      generalize hc : (cI ρ q)[t] = c at *
      have skip : ¬ (fullC ρ c ∧ ¬ goC c) → wp_X2_gatherCases_c43_b161 Q (wp_X2_gatherCases_c43_l23 Q n) (q : Int) y v (((PL ρ q).length + t : Nat) : Int) σ := by
        intro hno
        refine nx v hcv (fun k hk => (hv k hk).trans ⟨fun ⟨c', g1, g2⟩ => ⟨c', List.mem_append_left _ g1, g2⟩, fun ⟨c', g1, g2⟩ => ?_⟩)
        rcases List.mem_append.1 g1 with z | z
        · exact ⟨c', z, g2⟩
        · rw [List.mem_singleton] at z
          subst z
          exact absurd ⟨g2.1, g2.2.1⟩ hno
      unfold wp_X2_gatherCases_c43_l23
      refine c_caseEnd hL hB hq ⟨fun w => absurd w (by omega), fun _ => c_goesOn (by omega) ?_⟩
      rw [s2, s3]
      by_cases hgo : goC c
      · rw [if_pos (show c.2.1 = -1 ∧ 0 ≤ c.2.2.1 from hgo)]
        exact ⟨fun _ => skip (fun z => z.2 hgo), fun z => absurd (by decide) z⟩
      · rw [if_neg (show ¬ (c.2.1 = -1 ∧ 0 ≤ c.2.2.1) from hgo)]
        refine ⟨fun z => absurd rfl z, fun _ => c_isFull hg hL hw (c := c) (by omega) s3 s4 ok.2 (fun hf => ⟨fun _ => skip (fun z => hf z.1), fun z => absurd rfl z⟩) (fun hf => ⟨fun z => absurd z (by decide), fun _ => ?_⟩)⟩
        have lt := nb_lt hg hL hs ha (by rw [hq0]; exact mem) hgo
        have hcr : c.1 = ((c.1.toNat : Nat) : Int) := by have := ok.1; omega
        have last : ∀ u w, ((c.2.2.1 < 0 ∧ u = 0) ∨ (0 ≤ c.2.2.1 ∧ u = σ 43 c.2.2.1.toNat)) → ((c.2.2.2 < 0 ∧ w = 0) ∨ (0 ≤ c.2.2.2 ∧ w = σ 43 c.2.2.2.toNat)) → wp_X2_gatherCases_c43_b139 Q (wp_X2_gatherCases_c43_l23 Q n) (q : Int) y v (((PL ρ q).length + t : Nat) : Int) w (l_or (l_shl 1 c.1) u) σ := by
          intro u w hu hw2
          have key : ∀ k, k < 64 → (mkB y (opY y v (l_or (l_or (l_shl 1 c.1) u) w)) k ↔ (mkB y v k ∨ stp y k (UQ ρ y k) c)) := by
            intro k hk
            rw [hcr]
            refine mk_op (by have := ok.1; omega) hcr ?_ ?_
            · rcases hu with z | z
              · exact Or.inl z
              · exact Or.inr ⟨z.1, by rw [z.2]; exact (hrow _ (by omega)).2 k hk⟩
            · rcases hw2 with z | z
              · exact Or.inl z
              · exact Or.inr ⟨z.1, by rw [z.2]; exact (hrow _ (by omega)).2 k hk⟩
          have fin : wp_X2_gatherCases_c43_b161 Q (wp_X2_gatherCases_c43_l23 Q n) (q : Int) y (opY y v (l_or (l_or (l_shl 1 c.1) u) w)) (((PL ρ q).length + t : Nat) : Int) σ := by
            refine nx _ opY_c (fun k hk => (key k hk).trans ?_)
            rw [hv k hk]
            constructor
            · rintro (⟨c', g1, g2⟩ | z)
              · exact ⟨c', List.mem_append_left _ g1, g2⟩
              · exact ⟨c, List.mem_append_right _ (List.mem_singleton.2 rfl), hf, hgo, z⟩
            · rintro ⟨c', g1, g2⟩
              rcases List.mem_append.1 g1 with z | z
              · exact Or.inl ⟨c', z, g2⟩
              · rw [List.mem_singleton] at z
                subst z
                exact Or.inr g2.2.2
          unfold wp_X2_gatherCases_c43_b139 wp_X2_gatherCases_c43_b159
          unfold opY at fin
          intro v12 e12
          rw [e12]
          refine ⟨fun z => ?_, fun z => ?_⟩
          · rw [if_pos z] at fin; exact fin
          · rw [if_neg z] at fin; exact fin
        have snd : ∀ u, ((c.2.2.1 < 0 ∧ u = 0) ∨ (0 ≤ c.2.2.1 ∧ u = σ 43 c.2.2.1.toNat)) → wp_X2_gatherCases_c43_b105 Q (wp_X2_gatherCases_c43_l23 Q n) (q : Int) y v (((PL ρ q).length + t : Nat) : Int) u (l_shl 1 c.1) σ := by
          intro u hu
          unfold wp_X2_gatherCases_c43_b105
          intro v11 e11
          rw [e11, Int.toNat_natCast, s4]
          exact ⟨by omega, fun z => ⟨by omega, by have := ok.2.2; omega, last u _ hu (Or.inr ⟨z, rfl⟩)⟩, fun z => last u 0 hu (Or.inl ⟨by omega, rfl⟩)⟩
        rw [Int.toNat_natCast, s1, s3]
        refine ⟨by omega, fun v9 e9 => ⟨by omega, fun z => ⟨by omega, by have := ok.2.1; omega, ?_⟩, fun z => ?_⟩⟩
        · rw [e9]; exact snd _ (Or.inr ⟨z, rfl⟩)
        · rw [e9]; exact snd 0 (Or.inl ⟨by omega, rfl⟩)
  unfold wp_X2_gatherCases_c43 wp_X2_gatherCases_c43_b11
  refine ⟨fun z => c_caseStart hL hB hq (lp _ 0 (-1) bigN (Nat.zero_add _) hlen (by unfold C64; omega) (fun k hk => ?_)), fun z => c_caseStart hL hB hq (lp _ 0 0 bigN (Nat.zero_add _) hlen (by unfold C64; omega) (fun k hk => ?_))⟩
  · unfold mkB
    rw [if_pos z, bt64_m k hk]
    exact ⟨fun w => (by cases w), fun ⟨c, hc, _⟩ => (by cases hc)⟩
  · unfold mkB
    rw [if_neg z, bt64_0]
    exact ⟨fun w => (by cases w), fun ⟨c, hc, _⟩ => (by cases hc)⟩
theorem c_gu43 {ρ σ0 : St} (hg : Wg ρ) (hL : LL ρ < 9) {y : Int} {s : Nat} (hs : s < spN (LL ρ)) {Q : Int → St → Prop} (h : ∀ σ1 f1, Bt ρ σ1 → Lw ρ σ1 → (∀ x, (∀ a, a < 12 → x ≠ 12 * s + a) → σ1 43 x = σ0 43 x) → (∀ a, a < 12 → gSo ρ y (12 * s + a) (σ1 43 (12 * s + a))) → (f1 = 0 ∨ f1 = 1) → (f1 = 0 → ∀ a, a < 12 → σ1 43 (12 * s + a) = σ0 43 (12 * s + a)) → (∀ a k, a < 12 → k < 64 → mkB y (σ0 43 (12 * s + a)) k → mkB y (σ1 43 (12 * s + a)) k) → (∀ a k, a < 12 → k < 64 → ∀ c ∈ cI ρ (12 * s + a), fullC ρ c → goC c → stp y k (fun x => mkB y (σ0 43 x) k) c → mkB y (σ1 43 (12 * s + a)) k) → Q f1 σ1) : ∀ (d t : Nat) (f : Int) (σ : St) (n : Nat), t + d = (uyL ρ 12).length → d < n → Bt ρ σ → Lw ρ σ → (∀ x, (∀ a, a < 12 → x ≠ 12 * s + a) → σ 43 x = σ0 43 x) → (∀ a, a < 12 → gSo ρ y (12 * s + a) (σ 43 (12 * s + a))) → (f = 0 ∨ f = 1) → (f = 0 → ∀ a, a < 12 → σ 43 (12 * s + a) = σ0 43 (12 * s + a)) → (∀ a k, a < 12 → k < 64 → mkB y (σ0 43 (12 * s + a)) k → mkB y (σ 43 (12 * s + a)) k) → (∀ r ∈ (uyL ρ 12).take t, hPt ρ ((12 * s + (ρ 4 r).toNat : Nat) : Int) → ∀ k, k < 64 → stp y k (fun x => mkB y (σ0 43 x) k) ((r : Int), -1, ((12 * s + (ρ 4 r).toNat : Nat) : Int), -1) → mkB y (σ 43 (12 * s + (ρ 3 r).toNat)) k) → wp_X2_gatherUnaries_c43_l6 Q n ((12 * s : Nat) : Int) y f (t : Int) σ := by
  have h3 := sp_3 _ hL
  have h40 := hg.2.1
  have u40 : (uyL ρ 12).length ≤ 40 := by
    have h1 := uyL_le (ρ := ρ) 12
    have h2 := liL_40 hg
    omega
  have mem : ∀ r, r ∈ uyL ρ 12 → (r : Int) < ρ 0 4 ∧ ρ 8 r = 0 ∧ ρ 5 r = -1 ∧ ρ 4 r < 12 ∧ 0 ≤ ρ 4 r := by
    intro r hr
    obtain ⟨g1, a', g2, g3⟩ := (mem_uyL 12).1 hr
    rw [Bool.and_eq_true] at g3
    have i := inA_iff.1 g3.1
    have u := g3.2
    unfold unR at u
    simp only [Bool.and_eq_true, decide_eq_true_iff] at u
    have hp := (hg.2.2 r (by omega)).2.1
    unfold isPart at hp
    exact ⟨by omega, i.2, u.1, u.2, by omega⟩
  intro d
  induction d with
  | zero =>
    intro t f σ n hd hn b1 b2 c1 c2 c3 c4 c5 c6
    obtain ⟨n, rfl⟩ := suc_n hn
    unfold wp_X2_gatherUnaries_c43_l6
    rw [b1.1.2.2.1.2.2.2.1]
    refine ⟨fun _ => ⟨c3, h σ f b1 b2 c1 c2 c3 c4 c5 (fun a k ha hk c hc hf hgo hst => ?_)⟩, fun w => absurd (by omega) w⟩
    obtain ⟨r, r1, r2, r3, r4, r5, r6⟩ := case_un hg hL hs ha hc hf hgo
    have := c6 r (by rw [show t = (uyL ρ 12).length by omega, List.take_length]; exact r1) r6 k hk (by
      unfold stp at *
      show if y = 0 then ((r : Int) ≠ (k : Int) ∧ (0 ≤ ((12 * s + (ρ 4 r).toNat : Nat) : Int) → _) ∧ _) else _
      rw [r3, r4, r5] at hst
      exact hst)
    rw [r2, Int.toNat_natCast] at this
    exact this
  | succ d ih =>
    intro t f σ n hd hn b1 b2 c1 c2 c3 c4 c5 c6
    obtain ⟨n, rfl⟩ := suc_n hn
    have gl := b1.1.2.2.1
    have vg := gl.1
    have ht : t < (uyL ρ 12).length := by omega
    have e33 := gl.2.2.2.2 t ht
    have e1 := List.take_succ_eq_append_getElem ht
    have hru := List.getElem_mem ht
    obtain ⟨m1, m2, m3, m4, m5⟩ := mem _ hru
    generalize hr : (uyL ρ 12)[t] = r at *
    have e15 := (vg.2 r m1).1
    have e16 := (vg.2 r m1).2.1
    have hh := (hg.2.2 r m1).1
    unfold wp_X2_gatherUnaries_c43_l6
    rw [gl.2.2.2.1, Int.toNat_natCast, e33]
    refine ⟨fun w => absurd w (by omega), fun _ => ⟨by omega, fun v ev => ?_⟩⟩
    rw [ev, Int.toNat_natCast, e15, e16, w32_of (x := ((12 * s : Nat) : Int) + ρ 3 r) (by omega) (by omega), w32_of (by omega) (by omega), show ((12 * s : Nat) : Int) + ρ 4 r = ((12 * s + (ρ 4 r).toNat : Nat) : Int) by omega, show ((12 * s : Nat) : Int) + ρ 3 r = ((12 * s + (ρ 3 r).toNat : Nat) : Int) by omega]
    refine ⟨by omega, fun v2 ev2 => ⟨by omega, fun v3 ev3 => ?_⟩⟩
    rw [ev3, ev2]
    refine c_hasI hg hL b2 (by omega) (fun hn => ⟨fun _ => ?_, fun w => absurd rfl w⟩) (fun hy => ⟨fun w => absurd w (by decide), fun _ => ⟨by omega, fun v6 ev6 => ?_⟩⟩)
    · unfold wp_X2_gatherUnaries_c43_b130
      intro v7 ev7
      rw [ev7, w32_of (by omega) (by omega), show (t : Int) + 1 = ((t + 1 : Nat) : Int) by omega]
      refine ih (t + 1) f σ n (by omega) (by omega) b1 b2 c1 c2 c3 c4 c5 (fun r' hr' hp' => ?_)
      rw [e1] at hr'
      rcases List.mem_append.1 hr' with z | z
      · exact c6 r' z hp'
      · rw [List.mem_singleton] at z
        subst z
        exact absurd hp' hn
    · have hb12 : (ρ 4 r).toNat < 12 := by omega
      have ha12 : (ρ 3 r).toNat < 12 := by omega
      obtain ⟨c, hc, hf, hgo, cr1, cr2, cr3⟩ := un_case hg hL hs hru hy
      have key : ∀ k, k < 64 → (mkB y (opY y (σ 43 (12 * s + (ρ 3 r).toNat)) (l_or (l_shl 1 (r : Int)) (σ 43 (12 * s + (ρ 4 r).toNat)))) k ↔ (mkB y (σ 43 (12 * s + (ρ 3 r).toNat)) k ∨ stp y k (fun x => mkB y (σ 43 x) k) c)) := by
        intro k hk
        refine mk_op1 (by omega) cr1 hgo.2 (by omega) ?_
        rw [cr2, Int.toNat_natCast]
      have fin : ∀ nv, nv = opY y (σ 43 (12 * s + (ρ 3 r).toNat)) (l_or (l_shl 1 (r : Int)) (σ 43 (12 * s + (ρ 4 r).toNat))) → wp_X2_gatherUnaries_c43_b102 Q (wp_X2_gatherUnaries_c43_l6 Q n) ((12 * s : Nat) : Int) y f (t : Int) ((12 * s + (ρ 3 r).toNat : Nat) : Int) nv σ := by
        intro nv env
        have go : ∀ f', (f' = 0 ∨ f' = 1) → (f' = 0 → f = 0 ∧ nv = σ 43 (12 * s + (ρ 3 r).toNat)) → ∀ σ9, σ9 = upS σ 43 (12 * s + (ρ 3 r).toNat) nv → wp_X2_gatherUnaries_c43_b130 Q (wp_X2_gatherUnaries_c43_l6 Q n) ((12 * s : Nat) : Int) y f' (t : Int) σ9 := by
          intro f' hf' hf0 σ9 e9
          unfold wp_X2_gatherUnaries_c43_b130
          intro v7 ev7
          rw [ev7, w32_of (by omega) (by omega), show (t : Int) + 1 = ((t + 1 : Nat) : Int) by omega]
          have up : ∀ a k, a < 12 → k < 64 → mkB y (σ 43 (12 * s + a)) k → mkB y (σ9 43 (12 * s + a)) k := by
            intro a k ha hk hm
            rw [e9]
            by_cases e : a = (ρ 3 r).toNat
            · rw [e, upS_s, env]
              rw [e] at hm
              exact (key k hk).2 (Or.inl hm)
            · rw [upS_j (by omega)]; exact hm
          refine ih (t + 1) f' σ9 n (by omega) (by omega) (by rw [e9]; exact b1) (by rw [e9]; exact b2) (fun x hx => by rw [e9, upS_j (hx _ ha12)]; exact c1 x hx) (fun a ha => ?_) hf' (fun z a ha => ?_) (fun a k ha hk hm => up a k ha hk (c5 a k ha hk hm)) (fun r' hr' hp' k hk hst => ?_)
          · rw [e9]
            by_cases e : a = (ρ 3 r).toNat
            · rw [e, upS_s, env]
              refine ⟨opY_c, fun k hk hm => ?_⟩
              rcases (key k hk).1 hm with z | z
              · exact (c2 _ ha12).2 k hk z
              · refine UQ.step hc hf (z.mono (fun _ w => ?_) (fun w => by omega))
                rw [cr2, Int.toNat_natCast] at w ⊢
                exact (c2 _ hb12).2 k hk w
            · rw [upS_j (by omega)]; exact c2 a ha
          · obtain ⟨z1, z2⟩ := hf0 z
            rw [e9]
            by_cases e : a = (ρ 3 r).toNat
            · rw [e, upS_s, z2]; exact c4 z1 _ ha12
            · rw [upS_j (by omega)]; exact c4 z1 a ha
          · rw [e1] at hr'
            rcases List.mem_append.1 hr' with z | z
            · have hh' := (hg.2.2 r' (mem r' (List.mem_of_mem_take z)).1).1
              exact up _ k (by omega) hk (c6 r' z hp' k hk hst)
            · rw [List.mem_singleton] at z
              subst z
              rw [e9, upS_s, env]
              refine (key k hk).2 (Or.inr ?_)
              have e0 : c = ((r' : Int), c.2.1, ((12 * s + (ρ 4 r').toNat : Nat) : Int), -1) := by
                rw [← cr1, ← cr2, ← cr3]
              rw [e0]
              unfold stp at hst ⊢
              by_cases ey : y = 0
              · rw [if_pos ey] at *
                exact ⟨hst.1, fun w => c5 _ k hb12 hk (hst.2.1 w), fun w => absurd (show (0 : Int) ≤ -1 from w) (by decide)⟩
              · rw [if_neg ey] at *
                rcases hst with w | w | w
                · exact Or.inl w
                · exact Or.inr (Or.inl ⟨w.1, c5 _ k hb12 hk w.2⟩)
                · exact absurd (show (0 : Int) ≤ -1 from w.1) (by decide)
        unfold wp_X2_gatherUnaries_c43_b102 wp_X2_gatherUnaries_c43_b121
        rw [Int.toNat_natCast]
        refine ⟨by omega, fun z v8 ev8 => ⟨by omega, fun σ9 e9 => ?_⟩, fun z v8 ev8 => ⟨by omega, fun σ9 e9 => ?_⟩⟩
        · have e0 : b_or f 0 = f := by rcases c3 with w | w <;> rw [w] <;> decide
          rw [ev8, e0]
          exact go f c3 (fun w => ⟨w, z⟩) σ9 e9
        · have e0 : b_or f 1 = 1 := by rcases c3 with w | w <;> rw [w] <;> decide
          rw [ev8, e0]
          exact go 1 (Or.inr rfl) (fun w => absurd w (by decide)) σ9 e9
      rw [Int.toNat_natCast] at ev6
      rw [Int.toNat_natCast, ev6]
      refine ⟨fun z => ⟨by omega, fin _ ?_⟩, fun z => ⟨by omega, fin _ ?_⟩⟩
      · unfold opY; rw [if_pos z]
      · unfold opY; rw [if_neg z]
def TG43 (ρ : St) (y : Int) (s0 : Nat) (σ : St) : Prop := Bt ρ σ ∧ Lw ρ σ ∧ ∀ x, x < 12 * s0 → gR ρ y x (σ 43 x)
theorem c_gt43 {ρ : St} (hg : Wg ρ) (hL : LL ρ < 9) {y : Int} {s : Nat} (hs : s < spN (LL ρ)) {Q : Int → St → Prop} {K : Int → Int → St → Prop} (hk : ∀ σ1, TG43 ρ y (s + 1) σ1 → K y ((s + 1 : Nat) : Int) σ1) : ∀ (d t : Nat) (f : Int) (σ : St) (n : Nat), t + d = 13 → d < n → (f = 0 ∨ f = 1) → Bt ρ σ → Lw ρ σ → (∀ x, x < 12 * s → gR ρ y x (σ 43 x)) → (∀ a, a < 12 → gSo ρ y (12 * s + a) (σ 43 (12 * s + a))) → (∀ a k, a < 12 → k < 64 → UD ρ y k s t a → mkB y (σ 43 (12 * s + a)) k) → (f = 0 → ∀ a k, a < 12 → k < 64 → ∀ c ∈ cI ρ (12 * s + a), fullC ρ c → goC c → stp y k (fun x => mkB y (σ 43 x) k) c → mkB y (σ 43 (12 * s + a)) k) → wp_X2_gather_c43_l57 Q K n y (s : Int) ((12 * s : Nat) : Int) f (t : Int) σ := by
  have h3 := sp_3 _ hL
  have fin : ∀ σ, Bt ρ σ → Lw ρ σ → (∀ x, x < 12 * s → gR ρ y x (σ 43 x)) → (∀ a, a < 12 → gSo ρ y (12 * s + a) (σ 43 (12 * s + a))) → (∀ a k, a < 12 → k < 64 → UQ ρ y k (12 * s + a) → mkB y (σ 43 (12 * s + a)) k) → wp_X2_gather_c43_b85 Q K y (s : Int) σ := by
    intro σ b1 b2 b3 b4 b5
    unfold wp_X2_gather_c43_b85
    intro v ev
    rw [ev, w32_of (by omega) (by omega), show (s : Int) + 1 = ((s + 1 : Nat) : Int) by omega]
    refine hk σ ⟨b1, b2, fun x hx => ?_⟩
    by_cases hx2 : x < 12 * s
    · exact b3 x hx2
    · have e : x = 12 * s + (x - 12 * s) := by omega
      rw [e]
      have := b4 (x - 12 * s) (by omega)
      exact ⟨this.1, fun k hk => ⟨this.2 k hk, b5 _ k (by omega) hk⟩⟩
  intro d
  induction d with
  | zero =>
    intro t f σ n hd hn hf b1 b2 b3 b4 b5 b6
    obtain ⟨n, rfl⟩ := suc_n hn
    unfold wp_X2_gather_c43_l57
    refine ⟨fun _ => fin σ b1 b2 b3 b4 (fun a k ha hk hu => b5 a k ha hk ?_), fun w => absurd (by omega) w⟩
    rw [show t = 13 by omega]
    exact UD_13 hg hL hs ha hu
  | succ d ih =>
    intro t f σ n hd hn hf b1 b2 b3 b4 b5 b6
    obtain ⟨n, rfl⟩ := suc_n hn
    unfold wp_X2_gather_c43_l57 wp_X2_gatherUnaries_c43
    refine ⟨fun w => absurd w (by omega), fun _ => ⟨fun z => fin σ b1 b2 b3 b4 (fun a k ha hk hu => ?_), fun z => ?_⟩⟩
    · obtain ⟨m, hm⟩ := hu
      refine uq_closed hg hL hs (P := fun b => mkB y (σ 43 (12 * s + b)) k) (fun b hb h0 => b5 b k hb hk (by have := h0.mono t; rw [Nat.zero_add] at this; exact this)) (fun b hb c hc hfu hgo hst => b6 z b k hb hk c hc hfu hgo (hst.mono (fun w1 w2 => ?_) (fun w1 w2 => ?_))) m a ha hm
      · obtain ⟨x, hx12, ex⟩ := goC_lab hg hL hs hb hc hgo
        rw [ex, Int.toNat_natCast] at w2 ⊢
        rw [show 12 * s + (12 * s + x - 12 * s) = 12 * s + x by omega] at w2
        exact w2
      · obtain ⟨r, r1, r2, r3, r4, r5, r6⟩ := case_un hg hL hs hb hc hfu hgo
        omega
    · refine c_gu43 (σ0 := σ) hg hL hs (fun σ1 f1 a1 a2 a3 a4 a5 a6 a7 a8 v ev => ?_) (uyL ρ 12).length 0 0 σ bigN (by omega) (by have h1 := uyL_le (ρ := ρ) 12; have h2 := liL_40 hg; unfold bigN; omega) b1 b2 (fun _ _ => rfl) b4 (Or.inl rfl) (fun _ _ _ => rfl) (fun _ _ _ _ hm => hm) (fun r hr => by cases hr)
      rw [ev, w32_of (by omega) (by omega), show (t : Int) + 1 = ((t + 1 : Nat) : Int) by omega]
      have ne : ∀ x, x < 12 * s → ∀ a, a < 12 → x ≠ 12 * s + a := fun x hx a _ => by omega
      refine ih (t + 1) f1 σ1 n (by omega) (by omega) a5 a1 a2 (fun x hx => by rw [a3 x (ne x hx)]; exact b3 x hx) a4 (fun a k ha hk hu => ?_) (fun z1 a k ha hk c hc hfu hgo hst => ?_)
      · rcases hu with w | ⟨c, hc, hfu, hgo, hst⟩
        · exact a7 a k ha hk (b5 a k ha hk w)
        · refine a8 a k ha hk c hc hfu hgo (hst.mono (fun w1 w2 => ?_) (fun w1 w2 => ?_))
          · obtain ⟨x, hx12, ex⟩ := goC_lab hg hL hs ha hc hgo
            rw [ex, Int.toNat_natCast] at w2 ⊢
            rw [show 12 * s + x - 12 * s = x by omega] at w2
            exact b5 x k hx12 hk w2
          · obtain ⟨r, r1, r2, r3, r4, r5, r6⟩ := case_un hg hL hs ha hc hfu hgo
            omega
      · refine a8 a k ha hk c hc hfu hgo (hst.mono (fun w1 w2 => ?_) (fun w1 w2 => ?_))
        · obtain ⟨x, hx12, ex⟩ := goC_lab hg hL hs ha hc hgo
          rw [ex, Int.toNat_natCast] at w2 ⊢
          rw [← a6 z1 x hx12]; exact w2
        · obtain ⟨r, r1, r2, r3, r4, r5, r6⟩ := case_un hg hL hs ha hc hfu hgo
          omega
theorem c_gather43 {ρ σ : St} (hg : Wg ρ) (hL : LL ρ < 9) {y : Int} (hB : Bt ρ σ) (hw : Lw ρ σ) {Q : Int → St → Prop} (hq : ∀ σ1, TG43 ρ y (spN (LL ρ)) σ1 → Q 0 σ1) : wp_X2_gather_c43 y σ Q := by
  have h3 := sp_3 _ hL
  have lp1 : ∀ (s : Nat), s < spN (LL ρ) → ∀ (K : Int → Int → St → Prop), (∀ σ1, TG43 ρ y (s + 1) σ1 → K y ((s + 1 : Nat) : Int) σ1) → ∀ (d a : Nat) (σ1 : St) (n : Nat), a + d = 12 → d < n → TG43 ρ y s σ1 → (∀ b, b < a → C64 (σ1 43 (12 * s + b)) ∧ ∀ k, k < 64 → (mkB y (σ1 43 (12 * s + b)) k ↔ UD ρ y k s 0 b)) → wp_X2_gather_c43_l23 Q K n y (s : Int) ((12 * s : Nat) : Int) ((12 * s + a : Nat) : Int) σ1 := by
    intro s hs K hk d
    induction d with
    | zero =>
      intro a σ1 n hd hn hT hrow
      obtain ⟨n, rfl⟩ := suc_n hn
      unfold wp_X2_gather_c43_l23
      rw [w32_of (x := ((12 * s : Nat) : Int) + 12) (by omega) (by omega)]
      refine ⟨fun _ => c_gt43 hg hL hs hk 13 0 1 σ1 bigN (by omega) (by unfold bigN; omega) (Or.inr rfl) hT.1 hT.2.1 hT.2.2 (fun b hb => ⟨(hrow b (by omega)).1, fun k hk hm => UD_uq hg hL hs 0 hb (((hrow b (by omega)).2 k hk).1 hm)⟩) (fun b k hb hk hu => ((hrow b (by omega)).2 k hk).2 hu) (fun z => absurd z (by decide)), fun w => absurd (by omega) w⟩
    | succ d ih =>
      intro a σ1 n hd hn hT hrow
      obtain ⟨n, rfl⟩ := suc_n hn
      unfold wp_X2_gather_c43_l23
      rw [w32_of (x := ((12 * s : Nat) : Int) + 12) (by omega) (by omega)]
      refine ⟨fun w => absurd w (by omega), fun _ => c_gc43 hg hL hT.1 hT.2.1 hs (a := a) (by omega) hT.2.2 (fun v hv hbits => ⟨by omega, fun σ4 e4 v5 e5 => ?_⟩)⟩
      rw [e5, w32_of (by omega) (by omega), show ((12 * s + a : Nat) : Int) + 1 = ((12 * s + (a + 1) : Nat) : Int) by omega]
      rw [Int.toNat_natCast] at e4
      refine ih (a + 1) σ4 n (by omega) (by omega) ⟨by rw [e4]; exact hT.1, by rw [e4]; exact hT.2.1, fun x hx => by rw [e4, upS_j (by omega)]; exact hT.2.2 x hx⟩ (fun b hb => ?_)
      by_cases e : b = a
      · rw [e4, e, upS_s]; exact ⟨hv, hbits⟩
      · rw [e4, upS_j (by omega)]; exact hrow b (by omega)
  have lp : ∀ (d s : Nat) (σ1 : St) (n : Nat), s + d = spN (LL ρ) → d < n → TG43 ρ y s σ1 → wp_X2_gather_c43_l2 Q n y (s : Int) σ1 := by
    intro d
    induction d with
    | zero =>
      intro s σ1 n hd hn hT
      obtain ⟨n, rfl⟩ := suc_n hn
      unfold wp_X2_gather_c43_l2
      rw [hT.1.1.2.1.2.1]
      refine ⟨fun _ => hq σ1 ?_, fun w => absurd (by omega) w⟩
      rw [show spN (LL ρ) = s by omega]; exact hT
    | succ d ih =>
      intro s σ1 n hd hn hT
      obtain ⟨n, rfl⟩ := suc_n hn
      unfold wp_X2_gather_c43_l2
      rw [hT.1.1.2.1.2.1]
      refine ⟨fun w => absurd w (by omega), fun _ v ev => ?_⟩
      rw [ev, w32_of (by omega) (by omega), show (s : Int) * 12 = ((12 * s : Nat) : Int) by omega]
      exact lp1 s (by omega) _ (fun σ2 h2 => ih (s + 1) σ2 n (by omega) (by omega) h2) 12 0 σ1 bigN (by omega) (by unfold bigN; omega) hT (fun b hb => by omega)
  unfold wp_X2_gather_c43
  exact lp (spN (LL ρ)) 0 σ bigN (by omega) (by unfold bigN; omega) ⟨hB, hw, fun x hx => by omega⟩
theorem c_gc44 {ρ σ : St} (hg : Wg ρ) (hL : LL ρ < 9) (hB : Bt ρ σ) (hw : Lw ρ σ) {y : Int} {s a : Nat} (hs : s < spN (LL ρ)) (ha : a < 12) (hrow : ∀ x, x < 12 * s → gR ρ y x (σ 44 x)) {Q : Int → St → Prop} (h : ∀ v, C64 v → (∀ k, k < 64 → (mkB y v k ↔ UD ρ y k s 0 a)) → Q v σ) : wp_X2_gatherCases_c44 ((12 * s + a : Nat) : Int) y σ Q := by
  have h3360 := PL_3360 hg hL
  have h3 := sp_3 _ hL
  have h40 := hg.2.1
  generalize hq0 : 12 * s + a = q at *
  have hq : q < 12 * spN (LL ρ) := by omega
  have hlen : (cI ρ q).length < bigN := by
    by_cases hz : (cI ρ q).length = 0
    · rw [hz]; unfold bigN; omega
    · have := (hB.seg (t := (cI ρ q).length - 1) hq (by omega)).1
      unfold bigN; omega
  have lp : ∀ (d t : Nat) (v : Int) (n : Nat), t + d = (cI ρ q).length → d < n → C64 v → (∀ k, k < 64 → (mkB y v k ↔ ∃ c ∈ (cI ρ q).take t, fullC ρ c ∧ ¬ goC c ∧ stp y k (UQ ρ y k) c)) → wp_X2_gatherCases_c44_l23 Q n (q : Int) y v (((PL ρ q).length + t : Nat) : Int) σ := by
    intro d
    induction d with
    | zero =>
      intro t v n hd hn hc hv
      obtain ⟨n, rfl⟩ := suc_n hn
      unfold wp_X2_gatherCases_c44_l23
      refine c_caseEnd hL hB hq ⟨fun _ => h v hc (fun k hk => (hv k hk).trans ?_), fun w => absurd (by omega) w⟩
      rw [show t = (cI ρ q).length by omega, List.take_length]
      unfold UD
      rw [hq0]
    | succ d ih =>
      intro t v n hd hn hcv hv
      obtain ⟨n, rfl⟩ := suc_n hn
      have ht : t < (cI ρ q).length := by omega
      obtain ⟨s0, s1, s2, s3, s4⟩ := hB.seg hq ht
      have ok := cI_ok hg hL hq (List.getElem_mem ht)
      have e1 := List.take_succ_eq_append_getElem ht
      have mem := List.getElem_mem ht
      have nx : ∀ v', C64 v' → (∀ k, k < 64 → (mkB y v' k ↔ ∃ c ∈ (cI ρ q).take t ++ [(cI ρ q)[t]], fullC ρ c ∧ ¬ goC c ∧ stp y k (UQ ρ y k) c)) → wp_X2_gatherCases_c44_b161 Q (wp_X2_gatherCases_c44_l23 Q n) (q : Int) y v' (((PL ρ q).length + t : Nat) : Int) σ := by
        intro v' hc' hv'
        unfold wp_X2_gatherCases_c44_b161
        intro z ez
        rw [ez, w32_of (by omega) (by omega), show (((PL ρ q).length + t : Nat) : Int) + 1 = (((PL ρ q).length + (t + 1) : Nat) : Int) by omega]
        exact ih (t + 1) v' n (by omega) (by omega) hc' (by rw [e1]; exact hv')
      generalize hc : (cI ρ q)[t] = c at *
      have skip : ¬ (fullC ρ c ∧ ¬ goC c) → wp_X2_gatherCases_c44_b161 Q (wp_X2_gatherCases_c44_l23 Q n) (q : Int) y v (((PL ρ q).length + t : Nat) : Int) σ := by
        intro hno
        refine nx v hcv (fun k hk => (hv k hk).trans ⟨fun ⟨c', g1, g2⟩ => ⟨c', List.mem_append_left _ g1, g2⟩, fun ⟨c', g1, g2⟩ => ?_⟩)
        rcases List.mem_append.1 g1 with z | z
        · exact ⟨c', z, g2⟩
        · rw [List.mem_singleton] at z
          subst z
          exact absurd ⟨g2.1, g2.2.1⟩ hno
      unfold wp_X2_gatherCases_c44_l23
      refine c_caseEnd hL hB hq ⟨fun w => absurd w (by omega), fun _ => c_goesOn (by omega) ?_⟩
      rw [s2, s3]
      by_cases hgo : goC c
      · rw [if_pos (show c.2.1 = -1 ∧ 0 ≤ c.2.2.1 from hgo)]
        exact ⟨fun _ => skip (fun z => z.2 hgo), fun z => absurd (by decide) z⟩
      · rw [if_neg (show ¬ (c.2.1 = -1 ∧ 0 ≤ c.2.2.1) from hgo)]
        refine ⟨fun z => absurd rfl z, fun _ => c_isFull hg hL hw (c := c) (by omega) s3 s4 ok.2 (fun hf => ⟨fun _ => skip (fun z => hf z.1), fun z => absurd rfl z⟩) (fun hf => ⟨fun z => absurd z (by decide), fun _ => ?_⟩)⟩
        have lt := nb_lt hg hL hs ha (by rw [hq0]; exact mem) hgo
        have hcr : c.1 = ((c.1.toNat : Nat) : Int) := by have := ok.1; omega
        have last : ∀ u w, ((c.2.2.1 < 0 ∧ u = 0) ∨ (0 ≤ c.2.2.1 ∧ u = σ 44 c.2.2.1.toNat)) → ((c.2.2.2 < 0 ∧ w = 0) ∨ (0 ≤ c.2.2.2 ∧ w = σ 44 c.2.2.2.toNat)) → wp_X2_gatherCases_c44_b139 Q (wp_X2_gatherCases_c44_l23 Q n) (q : Int) y v (((PL ρ q).length + t : Nat) : Int) w (l_or (l_shl 1 c.1) u) σ := by
          intro u w hu hw2
          have key : ∀ k, k < 64 → (mkB y (opY y v (l_or (l_or (l_shl 1 c.1) u) w)) k ↔ (mkB y v k ∨ stp y k (UQ ρ y k) c)) := by
            intro k hk
            rw [hcr]
            refine mk_op (by have := ok.1; omega) hcr ?_ ?_
            · rcases hu with z | z
              · exact Or.inl z
              · exact Or.inr ⟨z.1, by rw [z.2]; exact (hrow _ (by omega)).2 k hk⟩
            · rcases hw2 with z | z
              · exact Or.inl z
              · exact Or.inr ⟨z.1, by rw [z.2]; exact (hrow _ (by omega)).2 k hk⟩
          have fin : wp_X2_gatherCases_c44_b161 Q (wp_X2_gatherCases_c44_l23 Q n) (q : Int) y (opY y v (l_or (l_or (l_shl 1 c.1) u) w)) (((PL ρ q).length + t : Nat) : Int) σ := by
            refine nx _ opY_c (fun k hk => (key k hk).trans ?_)
            rw [hv k hk]
            constructor
            · rintro (⟨c', g1, g2⟩ | z)
              · exact ⟨c', List.mem_append_left _ g1, g2⟩
              · exact ⟨c, List.mem_append_right _ (List.mem_singleton.2 rfl), hf, hgo, z⟩
            · rintro ⟨c', g1, g2⟩
              rcases List.mem_append.1 g1 with z | z
              · exact Or.inl ⟨c', z, g2⟩
              · rw [List.mem_singleton] at z
                subst z
                exact Or.inr g2.2.2
          unfold wp_X2_gatherCases_c44_b139 wp_X2_gatherCases_c44_b159
          unfold opY at fin
          intro v12 e12
          rw [e12]
          refine ⟨fun z => ?_, fun z => ?_⟩
          · rw [if_pos z] at fin; exact fin
          · rw [if_neg z] at fin; exact fin
        have snd : ∀ u, ((c.2.2.1 < 0 ∧ u = 0) ∨ (0 ≤ c.2.2.1 ∧ u = σ 44 c.2.2.1.toNat)) → wp_X2_gatherCases_c44_b105 Q (wp_X2_gatherCases_c44_l23 Q n) (q : Int) y v (((PL ρ q).length + t : Nat) : Int) u (l_shl 1 c.1) σ := by
          intro u hu
          unfold wp_X2_gatherCases_c44_b105
          intro v11 e11
          rw [e11, Int.toNat_natCast, s4]
          exact ⟨by omega, fun z => ⟨by omega, by have := ok.2.2; omega, last u _ hu (Or.inr ⟨z, rfl⟩)⟩, fun z => last u 0 hu (Or.inl ⟨by omega, rfl⟩)⟩
        rw [Int.toNat_natCast, s1, s3]
        refine ⟨by omega, fun v9 e9 => ⟨by omega, fun z => ⟨by omega, by have := ok.2.1; omega, ?_⟩, fun z => ?_⟩⟩
        · rw [e9]; exact snd _ (Or.inr ⟨z, rfl⟩)
        · rw [e9]; exact snd 0 (Or.inl ⟨by omega, rfl⟩)
  unfold wp_X2_gatherCases_c44 wp_X2_gatherCases_c44_b11
  refine ⟨fun z => c_caseStart hL hB hq (lp _ 0 (-1) bigN (Nat.zero_add _) hlen (by unfold C64; omega) (fun k hk => ?_)), fun z => c_caseStart hL hB hq (lp _ 0 0 bigN (Nat.zero_add _) hlen (by unfold C64; omega) (fun k hk => ?_))⟩
  · unfold mkB
    rw [if_pos z, bt64_m k hk]
    exact ⟨fun w => (by cases w), fun ⟨c, hc, _⟩ => (by cases hc)⟩
  · unfold mkB
    rw [if_neg z, bt64_0]
    exact ⟨fun w => (by cases w), fun ⟨c, hc, _⟩ => (by cases hc)⟩
theorem c_gu44 {ρ σ0 : St} (hg : Wg ρ) (hL : LL ρ < 9) {y : Int} {s : Nat} (hs : s < spN (LL ρ)) {Q : Int → St → Prop} (h : ∀ σ1 f1, Bt ρ σ1 → Lw ρ σ1 → (∀ x, (∀ a, a < 12 → x ≠ 12 * s + a) → σ1 44 x = σ0 44 x) → (∀ a, a < 12 → gSo ρ y (12 * s + a) (σ1 44 (12 * s + a))) → (f1 = 0 ∨ f1 = 1) → (f1 = 0 → ∀ a, a < 12 → σ1 44 (12 * s + a) = σ0 44 (12 * s + a)) → (∀ a k, a < 12 → k < 64 → mkB y (σ0 44 (12 * s + a)) k → mkB y (σ1 44 (12 * s + a)) k) → (∀ a k, a < 12 → k < 64 → ∀ c ∈ cI ρ (12 * s + a), fullC ρ c → goC c → stp y k (fun x => mkB y (σ0 44 x) k) c → mkB y (σ1 44 (12 * s + a)) k) → Q f1 σ1) : ∀ (d t : Nat) (f : Int) (σ : St) (n : Nat), t + d = (uyL ρ 12).length → d < n → Bt ρ σ → Lw ρ σ → (∀ x, (∀ a, a < 12 → x ≠ 12 * s + a) → σ 44 x = σ0 44 x) → (∀ a, a < 12 → gSo ρ y (12 * s + a) (σ 44 (12 * s + a))) → (f = 0 ∨ f = 1) → (f = 0 → ∀ a, a < 12 → σ 44 (12 * s + a) = σ0 44 (12 * s + a)) → (∀ a k, a < 12 → k < 64 → mkB y (σ0 44 (12 * s + a)) k → mkB y (σ 44 (12 * s + a)) k) → (∀ r ∈ (uyL ρ 12).take t, hPt ρ ((12 * s + (ρ 4 r).toNat : Nat) : Int) → ∀ k, k < 64 → stp y k (fun x => mkB y (σ0 44 x) k) ((r : Int), -1, ((12 * s + (ρ 4 r).toNat : Nat) : Int), -1) → mkB y (σ 44 (12 * s + (ρ 3 r).toNat)) k) → wp_X2_gatherUnaries_c44_l6 Q n ((12 * s : Nat) : Int) y f (t : Int) σ := by
  have h3 := sp_3 _ hL
  have h40 := hg.2.1
  have u40 : (uyL ρ 12).length ≤ 40 := by
    have h1 := uyL_le (ρ := ρ) 12
    have h2 := liL_40 hg
    omega
  have mem : ∀ r, r ∈ uyL ρ 12 → (r : Int) < ρ 0 4 ∧ ρ 8 r = 0 ∧ ρ 5 r = -1 ∧ ρ 4 r < 12 ∧ 0 ≤ ρ 4 r := by
    intro r hr
    obtain ⟨g1, a', g2, g3⟩ := (mem_uyL 12).1 hr
    rw [Bool.and_eq_true] at g3
    have i := inA_iff.1 g3.1
    have u := g3.2
    unfold unR at u
    simp only [Bool.and_eq_true, decide_eq_true_iff] at u
    have hp := (hg.2.2 r (by omega)).2.1
    unfold isPart at hp
    exact ⟨by omega, i.2, u.1, u.2, by omega⟩
  intro d
  induction d with
  | zero =>
    intro t f σ n hd hn b1 b2 c1 c2 c3 c4 c5 c6
    obtain ⟨n, rfl⟩ := suc_n hn
    unfold wp_X2_gatherUnaries_c44_l6
    rw [b1.1.2.2.1.2.2.2.1]
    refine ⟨fun _ => ⟨c3, h σ f b1 b2 c1 c2 c3 c4 c5 (fun a k ha hk c hc hf hgo hst => ?_)⟩, fun w => absurd (by omega) w⟩
    obtain ⟨r, r1, r2, r3, r4, r5, r6⟩ := case_un hg hL hs ha hc hf hgo
    have := c6 r (by rw [show t = (uyL ρ 12).length by omega, List.take_length]; exact r1) r6 k hk (by
      unfold stp at *
      show if y = 0 then ((r : Int) ≠ (k : Int) ∧ (0 ≤ ((12 * s + (ρ 4 r).toNat : Nat) : Int) → _) ∧ _) else _
      rw [r3, r4, r5] at hst
      exact hst)
    rw [r2, Int.toNat_natCast] at this
    exact this
  | succ d ih =>
    intro t f σ n hd hn b1 b2 c1 c2 c3 c4 c5 c6
    obtain ⟨n, rfl⟩ := suc_n hn
    have gl := b1.1.2.2.1
    have vg := gl.1
    have ht : t < (uyL ρ 12).length := by omega
    have e33 := gl.2.2.2.2 t ht
    have e1 := List.take_succ_eq_append_getElem ht
    have hru := List.getElem_mem ht
    obtain ⟨m1, m2, m3, m4, m5⟩ := mem _ hru
    generalize hr : (uyL ρ 12)[t] = r at *
    have e15 := (vg.2 r m1).1
    have e16 := (vg.2 r m1).2.1
    have hh := (hg.2.2 r m1).1
    unfold wp_X2_gatherUnaries_c44_l6
    rw [gl.2.2.2.1, Int.toNat_natCast, e33]
    refine ⟨fun w => absurd w (by omega), fun _ => ⟨by omega, fun v ev => ?_⟩⟩
    rw [ev, Int.toNat_natCast, e15, e16, w32_of (x := ((12 * s : Nat) : Int) + ρ 3 r) (by omega) (by omega), w32_of (by omega) (by omega), show ((12 * s : Nat) : Int) + ρ 4 r = ((12 * s + (ρ 4 r).toNat : Nat) : Int) by omega, show ((12 * s : Nat) : Int) + ρ 3 r = ((12 * s + (ρ 3 r).toNat : Nat) : Int) by omega]
    refine ⟨by omega, fun v2 ev2 => ⟨by omega, fun v3 ev3 => ?_⟩⟩
    rw [ev3, ev2]
    refine c_hasI hg hL b2 (by omega) (fun hn => ⟨fun _ => ?_, fun w => absurd rfl w⟩) (fun hy => ⟨fun w => absurd w (by decide), fun _ => ⟨by omega, fun v6 ev6 => ?_⟩⟩)
    · unfold wp_X2_gatherUnaries_c44_b130
      intro v7 ev7
      rw [ev7, w32_of (by omega) (by omega), show (t : Int) + 1 = ((t + 1 : Nat) : Int) by omega]
      refine ih (t + 1) f σ n (by omega) (by omega) b1 b2 c1 c2 c3 c4 c5 (fun r' hr' hp' => ?_)
      rw [e1] at hr'
      rcases List.mem_append.1 hr' with z | z
      · exact c6 r' z hp'
      · rw [List.mem_singleton] at z
        subst z
        exact absurd hp' hn
    · have hb12 : (ρ 4 r).toNat < 12 := by omega
      have ha12 : (ρ 3 r).toNat < 12 := by omega
      obtain ⟨c, hc, hf, hgo, cr1, cr2, cr3⟩ := un_case hg hL hs hru hy
      have key : ∀ k, k < 64 → (mkB y (opY y (σ 44 (12 * s + (ρ 3 r).toNat)) (l_or (l_shl 1 (r : Int)) (σ 44 (12 * s + (ρ 4 r).toNat)))) k ↔ (mkB y (σ 44 (12 * s + (ρ 3 r).toNat)) k ∨ stp y k (fun x => mkB y (σ 44 x) k) c)) := by
        intro k hk
        refine mk_op1 (by omega) cr1 hgo.2 (by omega) ?_
        rw [cr2, Int.toNat_natCast]
      have fin : ∀ nv, nv = opY y (σ 44 (12 * s + (ρ 3 r).toNat)) (l_or (l_shl 1 (r : Int)) (σ 44 (12 * s + (ρ 4 r).toNat))) → wp_X2_gatherUnaries_c44_b102 Q (wp_X2_gatherUnaries_c44_l6 Q n) ((12 * s : Nat) : Int) y f (t : Int) ((12 * s + (ρ 3 r).toNat : Nat) : Int) nv σ := by
        intro nv env
        have go : ∀ f', (f' = 0 ∨ f' = 1) → (f' = 0 → f = 0 ∧ nv = σ 44 (12 * s + (ρ 3 r).toNat)) → ∀ σ9, σ9 = upS σ 44 (12 * s + (ρ 3 r).toNat) nv → wp_X2_gatherUnaries_c44_b130 Q (wp_X2_gatherUnaries_c44_l6 Q n) ((12 * s : Nat) : Int) y f' (t : Int) σ9 := by
          intro f' hf' hf0 σ9 e9
          unfold wp_X2_gatherUnaries_c44_b130
          intro v7 ev7
          rw [ev7, w32_of (by omega) (by omega), show (t : Int) + 1 = ((t + 1 : Nat) : Int) by omega]
          have up : ∀ a k, a < 12 → k < 64 → mkB y (σ 44 (12 * s + a)) k → mkB y (σ9 44 (12 * s + a)) k := by
            intro a k ha hk hm
            rw [e9]
            by_cases e : a = (ρ 3 r).toNat
            · rw [e, upS_s, env]
              rw [e] at hm
              exact (key k hk).2 (Or.inl hm)
            · rw [upS_j (by omega)]; exact hm
          refine ih (t + 1) f' σ9 n (by omega) (by omega) (by rw [e9]; exact b1) (by rw [e9]; exact b2) (fun x hx => by rw [e9, upS_j (hx _ ha12)]; exact c1 x hx) (fun a ha => ?_) hf' (fun z a ha => ?_) (fun a k ha hk hm => up a k ha hk (c5 a k ha hk hm)) (fun r' hr' hp' k hk hst => ?_)
          · rw [e9]
            by_cases e : a = (ρ 3 r).toNat
            · rw [e, upS_s, env]
              refine ⟨opY_c, fun k hk hm => ?_⟩
              rcases (key k hk).1 hm with z | z
              · exact (c2 _ ha12).2 k hk z
              · refine UQ.step hc hf (z.mono (fun _ w => ?_) (fun w => by omega))
                rw [cr2, Int.toNat_natCast] at w ⊢
                exact (c2 _ hb12).2 k hk w
            · rw [upS_j (by omega)]; exact c2 a ha
          · obtain ⟨z1, z2⟩ := hf0 z
            rw [e9]
            by_cases e : a = (ρ 3 r).toNat
            · rw [e, upS_s, z2]; exact c4 z1 _ ha12
            · rw [upS_j (by omega)]; exact c4 z1 a ha
          · rw [e1] at hr'
            rcases List.mem_append.1 hr' with z | z
            · have hh' := (hg.2.2 r' (mem r' (List.mem_of_mem_take z)).1).1
              exact up _ k (by omega) hk (c6 r' z hp' k hk hst)
            · rw [List.mem_singleton] at z
              subst z
              rw [e9, upS_s, env]
              refine (key k hk).2 (Or.inr ?_)
              have e0 : c = ((r' : Int), c.2.1, ((12 * s + (ρ 4 r').toNat : Nat) : Int), -1) := by
                rw [← cr1, ← cr2, ← cr3]
              rw [e0]
              unfold stp at hst ⊢
              by_cases ey : y = 0
              · rw [if_pos ey] at *
                exact ⟨hst.1, fun w => c5 _ k hb12 hk (hst.2.1 w), fun w => absurd (show (0 : Int) ≤ -1 from w) (by decide)⟩
              · rw [if_neg ey] at *
                rcases hst with w | w | w
                · exact Or.inl w
                · exact Or.inr (Or.inl ⟨w.1, c5 _ k hb12 hk w.2⟩)
                · exact absurd (show (0 : Int) ≤ -1 from w.1) (by decide)
        unfold wp_X2_gatherUnaries_c44_b102 wp_X2_gatherUnaries_c44_b121
        rw [Int.toNat_natCast]
        refine ⟨by omega, fun z v8 ev8 => ⟨by omega, fun σ9 e9 => ?_⟩, fun z v8 ev8 => ⟨by omega, fun σ9 e9 => ?_⟩⟩
        · have e0 : b_or f 0 = f := by rcases c3 with w | w <;> rw [w] <;> decide
          rw [ev8, e0]
          exact go f c3 (fun w => ⟨w, z⟩) σ9 e9
        · have e0 : b_or f 1 = 1 := by rcases c3 with w | w <;> rw [w] <;> decide
          rw [ev8, e0]
          exact go 1 (Or.inr rfl) (fun w => absurd w (by decide)) σ9 e9
      rw [Int.toNat_natCast] at ev6
      rw [Int.toNat_natCast, ev6]
      refine ⟨fun z => ⟨by omega, fin _ ?_⟩, fun z => ⟨by omega, fin _ ?_⟩⟩
      · unfold opY; rw [if_pos z]
      · unfold opY; rw [if_neg z]
def TG44 (ρ : St) (y : Int) (s0 : Nat) (σ : St) : Prop := Bt ρ σ ∧ Lw ρ σ ∧ ∀ x, x < 12 * s0 → gR ρ y x (σ 44 x)
theorem c_gt44 {ρ : St} (hg : Wg ρ) (hL : LL ρ < 9) {y : Int} {s : Nat} (hs : s < spN (LL ρ)) {Q : Int → St → Prop} {K : Int → Int → St → Prop} (hk : ∀ σ1, TG44 ρ y (s + 1) σ1 → K y ((s + 1 : Nat) : Int) σ1) : ∀ (d t : Nat) (f : Int) (σ : St) (n : Nat), t + d = 13 → d < n → (f = 0 ∨ f = 1) → Bt ρ σ → Lw ρ σ → (∀ x, x < 12 * s → gR ρ y x (σ 44 x)) → (∀ a, a < 12 → gSo ρ y (12 * s + a) (σ 44 (12 * s + a))) → (∀ a k, a < 12 → k < 64 → UD ρ y k s t a → mkB y (σ 44 (12 * s + a)) k) → (f = 0 → ∀ a k, a < 12 → k < 64 → ∀ c ∈ cI ρ (12 * s + a), fullC ρ c → goC c → stp y k (fun x => mkB y (σ 44 x) k) c → mkB y (σ 44 (12 * s + a)) k) → wp_X2_gather_c44_l57 Q K n y (s : Int) ((12 * s : Nat) : Int) f (t : Int) σ := by
  have h3 := sp_3 _ hL
  have fin : ∀ σ, Bt ρ σ → Lw ρ σ → (∀ x, x < 12 * s → gR ρ y x (σ 44 x)) → (∀ a, a < 12 → gSo ρ y (12 * s + a) (σ 44 (12 * s + a))) → (∀ a k, a < 12 → k < 64 → UQ ρ y k (12 * s + a) → mkB y (σ 44 (12 * s + a)) k) → wp_X2_gather_c44_b85 Q K y (s : Int) σ := by
    intro σ b1 b2 b3 b4 b5
    unfold wp_X2_gather_c44_b85
    intro v ev
    rw [ev, w32_of (by omega) (by omega), show (s : Int) + 1 = ((s + 1 : Nat) : Int) by omega]
    refine hk σ ⟨b1, b2, fun x hx => ?_⟩
    by_cases hx2 : x < 12 * s
    · exact b3 x hx2
    · have e : x = 12 * s + (x - 12 * s) := by omega
      rw [e]
      have := b4 (x - 12 * s) (by omega)
      exact ⟨this.1, fun k hk => ⟨this.2 k hk, b5 _ k (by omega) hk⟩⟩
  intro d
  induction d with
  | zero =>
    intro t f σ n hd hn hf b1 b2 b3 b4 b5 b6
    obtain ⟨n, rfl⟩ := suc_n hn
    unfold wp_X2_gather_c44_l57
    refine ⟨fun _ => fin σ b1 b2 b3 b4 (fun a k ha hk hu => b5 a k ha hk ?_), fun w => absurd (by omega) w⟩
    rw [show t = 13 by omega]
    exact UD_13 hg hL hs ha hu
  | succ d ih =>
    intro t f σ n hd hn hf b1 b2 b3 b4 b5 b6
    obtain ⟨n, rfl⟩ := suc_n hn
    unfold wp_X2_gather_c44_l57 wp_X2_gatherUnaries_c44
    refine ⟨fun w => absurd w (by omega), fun _ => ⟨fun z => fin σ b1 b2 b3 b4 (fun a k ha hk hu => ?_), fun z => ?_⟩⟩
    · obtain ⟨m, hm⟩ := hu
      refine uq_closed hg hL hs (P := fun b => mkB y (σ 44 (12 * s + b)) k) (fun b hb h0 => b5 b k hb hk (by have := h0.mono t; rw [Nat.zero_add] at this; exact this)) (fun b hb c hc hfu hgo hst => b6 z b k hb hk c hc hfu hgo (hst.mono (fun w1 w2 => ?_) (fun w1 w2 => ?_))) m a ha hm
      · obtain ⟨x, hx12, ex⟩ := goC_lab hg hL hs hb hc hgo
        rw [ex, Int.toNat_natCast] at w2 ⊢
        rw [show 12 * s + (12 * s + x - 12 * s) = 12 * s + x by omega] at w2
        exact w2
      · obtain ⟨r, r1, r2, r3, r4, r5, r6⟩ := case_un hg hL hs hb hc hfu hgo
        omega
    · refine c_gu44 (σ0 := σ) hg hL hs (fun σ1 f1 a1 a2 a3 a4 a5 a6 a7 a8 v ev => ?_) (uyL ρ 12).length 0 0 σ bigN (by omega) (by have h1 := uyL_le (ρ := ρ) 12; have h2 := liL_40 hg; unfold bigN; omega) b1 b2 (fun _ _ => rfl) b4 (Or.inl rfl) (fun _ _ _ => rfl) (fun _ _ _ _ hm => hm) (fun r hr => by cases hr)
      rw [ev, w32_of (by omega) (by omega), show (t : Int) + 1 = ((t + 1 : Nat) : Int) by omega]
      have ne : ∀ x, x < 12 * s → ∀ a, a < 12 → x ≠ 12 * s + a := fun x hx a _ => by omega
      refine ih (t + 1) f1 σ1 n (by omega) (by omega) a5 a1 a2 (fun x hx => by rw [a3 x (ne x hx)]; exact b3 x hx) a4 (fun a k ha hk hu => ?_) (fun z1 a k ha hk c hc hfu hgo hst => ?_)
      · rcases hu with w | ⟨c, hc, hfu, hgo, hst⟩
        · exact a7 a k ha hk (b5 a k ha hk w)
        · refine a8 a k ha hk c hc hfu hgo (hst.mono (fun w1 w2 => ?_) (fun w1 w2 => ?_))
          · obtain ⟨x, hx12, ex⟩ := goC_lab hg hL hs ha hc hgo
            rw [ex, Int.toNat_natCast] at w2 ⊢
            rw [show 12 * s + x - 12 * s = x by omega] at w2
            exact b5 x k hx12 hk w2
          · obtain ⟨r, r1, r2, r3, r4, r5, r6⟩ := case_un hg hL hs ha hc hfu hgo
            omega
      · refine a8 a k ha hk c hc hfu hgo (hst.mono (fun w1 w2 => ?_) (fun w1 w2 => ?_))
        · obtain ⟨x, hx12, ex⟩ := goC_lab hg hL hs ha hc hgo
          rw [ex, Int.toNat_natCast] at w2 ⊢
          rw [← a6 z1 x hx12]; exact w2
        · obtain ⟨r, r1, r2, r3, r4, r5, r6⟩ := case_un hg hL hs ha hc hfu hgo
          omega
theorem c_gather44 {ρ σ : St} (hg : Wg ρ) (hL : LL ρ < 9) {y : Int} (hB : Bt ρ σ) (hw : Lw ρ σ) {Q : Int → St → Prop} (hq : ∀ σ1, TG44 ρ y (spN (LL ρ)) σ1 → Q 0 σ1) : wp_X2_gather_c44 y σ Q := by
  have h3 := sp_3 _ hL
  have lp1 : ∀ (s : Nat), s < spN (LL ρ) → ∀ (K : Int → Int → St → Prop), (∀ σ1, TG44 ρ y (s + 1) σ1 → K y ((s + 1 : Nat) : Int) σ1) → ∀ (d a : Nat) (σ1 : St) (n : Nat), a + d = 12 → d < n → TG44 ρ y s σ1 → (∀ b, b < a → C64 (σ1 44 (12 * s + b)) ∧ ∀ k, k < 64 → (mkB y (σ1 44 (12 * s + b)) k ↔ UD ρ y k s 0 b)) → wp_X2_gather_c44_l23 Q K n y (s : Int) ((12 * s : Nat) : Int) ((12 * s + a : Nat) : Int) σ1 := by
    intro s hs K hk d
    induction d with
    | zero =>
      intro a σ1 n hd hn hT hrow
      obtain ⟨n, rfl⟩ := suc_n hn
      unfold wp_X2_gather_c44_l23
      rw [w32_of (x := ((12 * s : Nat) : Int) + 12) (by omega) (by omega)]
      refine ⟨fun _ => c_gt44 hg hL hs hk 13 0 1 σ1 bigN (by omega) (by unfold bigN; omega) (Or.inr rfl) hT.1 hT.2.1 hT.2.2 (fun b hb => ⟨(hrow b (by omega)).1, fun k hk hm => UD_uq hg hL hs 0 hb (((hrow b (by omega)).2 k hk).1 hm)⟩) (fun b k hb hk hu => ((hrow b (by omega)).2 k hk).2 hu) (fun z => absurd z (by decide)), fun w => absurd (by omega) w⟩
    | succ d ih =>
      intro a σ1 n hd hn hT hrow
      obtain ⟨n, rfl⟩ := suc_n hn
      unfold wp_X2_gather_c44_l23
      rw [w32_of (x := ((12 * s : Nat) : Int) + 12) (by omega) (by omega)]
      refine ⟨fun w => absurd w (by omega), fun _ => c_gc44 hg hL hT.1 hT.2.1 hs (a := a) (by omega) hT.2.2 (fun v hv hbits => ⟨by omega, fun σ4 e4 v5 e5 => ?_⟩)⟩
      rw [e5, w32_of (by omega) (by omega), show ((12 * s + a : Nat) : Int) + 1 = ((12 * s + (a + 1) : Nat) : Int) by omega]
      rw [Int.toNat_natCast] at e4
      refine ih (a + 1) σ4 n (by omega) (by omega) ⟨by rw [e4]; exact hT.1, by rw [e4]; exact hT.2.1, fun x hx => by rw [e4, upS_j (by omega)]; exact hT.2.2 x hx⟩ (fun b hb => ?_)
      by_cases e : b = a
      · rw [e4, e, upS_s]; exact ⟨hv, hbits⟩
      · rw [e4, upS_j (by omega)]; exact hrow b (by omega)
  have lp : ∀ (d s : Nat) (σ1 : St) (n : Nat), s + d = spN (LL ρ) → d < n → TG44 ρ y s σ1 → wp_X2_gather_c44_l2 Q n y (s : Int) σ1 := by
    intro d
    induction d with
    | zero =>
      intro s σ1 n hd hn hT
      obtain ⟨n, rfl⟩ := suc_n hn
      unfold wp_X2_gather_c44_l2
      rw [hT.1.1.2.1.2.1]
      refine ⟨fun _ => hq σ1 ?_, fun w => absurd (by omega) w⟩
      rw [show spN (LL ρ) = s by omega]; exact hT
    | succ d ih =>
      intro s σ1 n hd hn hT
      obtain ⟨n, rfl⟩ := suc_n hn
      unfold wp_X2_gather_c44_l2
      rw [hT.1.1.2.1.2.1]
      refine ⟨fun w => absurd w (by omega), fun _ v ev => ?_⟩
      rw [ev, w32_of (by omega) (by omega), show (s : Int) * 12 = ((12 * s : Nat) : Int) by omega]
      exact lp1 s (by omega) _ (fun σ2 h2 => ih (s + 1) σ2 n (by omega) (by omega) h2) 12 0 σ1 bigN (by omega) (by unfold bigN; omega) hT (fun b hb => by omega)
  unfold wp_X2_gather_c44
  exact lp (spN (LL ρ)) 0 σ bigN (by omega) (by unfold bigN; omega) ⟨hB, hw, fun x hx => by omega⟩
