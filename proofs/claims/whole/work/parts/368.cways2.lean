/-! a span's trees counted -/
theorem nb_lt {ρ : St} (hg : Wg ρ) (hL : LL ρ < 9) {s a : Nat} (hs : s < spN (LL ρ)) (ha : a < 12) {c : Cs} (hc : c ∈ cI ρ (12 * s + a)) (h : ¬ goC c) : c.2.2.1 < ((12 * s : Nat) : Int) ∧ c.2.2.2 < ((12 * s : Nat) : Int) := by
  have q := sp_s hL hs
  obtain ⟨r, h1, h2, h3, h4, hh⟩ := cI_info ha hc
  have hp1 := (hg.2.2 r h1).2.1
  have hp2 := (hg.2.2 r h1).2.2.1
  rcases hh with ⟨h5, h6, h7, h8, h9⟩ | ⟨h5, m, h6, h7, h8, h9, h10, h11, h12⟩
  · have : ¬ (0 ≤ c.2.2.1) := fun z => h ⟨h7, z⟩
    rw [h9]; omega
  · have hp2 := hp2.resolve_left h5
    have one : ∀ (p : Int) (k l : Nat), isPart p → k < l → l ≤ LL ρ → spA (LL ρ) k l < s → pv ρ p k l < ((12 * s : Nat) : Int) := by
      intro p k l hp hk hl hlt
      unfold isPart at hp
      by_cases hl2 : 100 ≤ p
      · by_cases hcc : l = k + 1 ∧ ρ 11 k = p - 100
        · rw [pv_yes hl2 hcc]; omega
        · rw [pv_no hl2 hcc]; omega
      · rw [pv_lab (by omega)]; push_cast; omega
    have l1 := sp_lt (L := LL ρ) hL (i := spB (LL ρ) s) (j := m) (k := spB (LL ρ) s) (l := spF (LL ρ) s) (by omega) (by omega) (by omega)
    have l2 := sp_lt (L := LL ρ) hL (i := m) (j := spF (LL ρ) s) (k := spB (LL ρ) s) (l := spF (LL ρ) s) (by omega) (by omega) (by omega)
    rw [q.2.2] at l1 l2
    rw [h11, h12]
    exact ⟨one _ _ _ hp1 h6 (by omega) l1, one _ _ _ hp2 h7 q.2.1 l2⟩
theorem bS_congr {ρ : St} {w w' : Nat → Int} {l : List Cs} (h : ∀ c ∈ l, ¬ goC c → (0 ≤ c.2.2.1 → w c.2.2.1.toNat = w' c.2.2.1.toNat) ∧ (0 ≤ c.2.2.2 → w c.2.2.2.toNat = w' c.2.2.2.toNat)) : bS ρ w l = bS ρ w' l := by
  refine sumC_congr l (fun c hc => ?_)
  by_cases hf : fullC ρ c ∧ ¬ goC c
  · obtain ⟨h1, h2⟩ := h c hc hf.2
    show ix _ * min B0 _ = ix _ * min B0 _
    rw [wpx_eq h1, wpx_eq h2]
  · rw [ix_n hf]; omega
/-- what is known before a span is counted -/
def W0 (ρ : St) (s : Nat) (w0 : Nat → Int) : Prop := eW w0 ∧ ∀ x, x < 12 * s → Rt ρ x (w0 x)
theorem cc_bad {ρ : St} (hg : Wg ρ) (hL : LL ρ < 9) {s a : Nat} (hs : s < spN (LL ρ)) (ha : a < 12) {w0 : Nat → Int} (h0 : W0 ρ s w0) {c : Cs} (hc : c ∈ cI ρ (12 * s + a)) (hf : fullC ρ c) (hg2 : ¬ goC c) (hb : badC w0 c) : ¬ FN ρ (12 * s + a) := by
  intro hfn
  have lt := nb_lt hg hL hs ha hc hg2
  have fc := FN_iff.1 hfn c hc hf
  rcases hb with z | z
  · unfold wpx at z
    by_cases hx : c.2.2.1 < 0
    · rw [if_pos hx] at z; exact absurd z (by decide)
    · rw [if_neg hx] at z
      exact (h0.2 c.2.2.1.toNat (by omega)).fn.2 (fc.1 (by omega)) z
  · unfold wpx at z
    by_cases hx : c.2.2.2 < 0
    · rw [if_pos hx] at z; exact absurd z (by decide)
    · rw [if_neg hx] at z
      exact (h0.2 c.2.2.2.toNat (by omega)).fn.2 (fc.2 (by omega)) z
theorem cc_fin {ρ : St} (hg : Wg ρ) (hL : LL ρ < 9) {s a : Nat} (hs : s < spN (LL ρ)) (ha : a < 12) {w0 : Nat → Int} (h0 : W0 ρ s w0) {c : Cs} (hc : c ∈ cI ρ (12 * s + a)) (hg2 : ¬ goC c) (hb : ¬ badC w0 c) : finC ρ c ∧ ((0 ≤ c.2.2.1 → Rt ρ c.2.2.1.toNat (w0 c.2.2.1.toNat)) ∧ (0 ≤ c.2.2.2 → Rt ρ c.2.2.2.toNat (w0 c.2.2.2.toNat))) := by
  have lt := nb_lt hg hL hs ha hc hg2
  have r1 : 0 ≤ c.2.2.1 → Rt ρ c.2.2.1.toNat (w0 c.2.2.1.toNat) := fun z => h0.2 _ (by omega)
  have r2 : 0 ≤ c.2.2.2 → Rt ρ c.2.2.2.toNat (w0 c.2.2.2.toNat) := fun z => h0.2 _ (by omega)
  refine ⟨⟨fun z => (r1 z).fn.1 (fun e => hb (Or.inl ?_)), fun z => (r2 z).fn.1 (fun e => hb (Or.inr ?_))⟩, r1, r2⟩
  · unfold wpx; rw [if_neg (by omega)]; exact e
  · unfold wpx; rw [if_neg (by omega)]; exact e
theorem c_targets {ρ σ : St} (hg : Wg ρ) (hL : LL ρ < 9) (hB : Bt ρ σ) (hw : Lw ρ σ) {s a : Nat} (hs : s < spN (LL ρ)) {Q : Int → St → Prop} (h : ∀ r, P32 r → (∀ b, tb r b = true ↔ (b < 12 ∧ Ed ρ s a b)) → Q r σ) : wp_X2_targets ((12 * s : Nat) : Int) (a : Int) σ Q := by
  have h3 := sp_3 _ hL
  have h40 := hg.2.1
  have gl := hB.1.2.2.1
  have vg := gl.1
  have u40 : (uyL ρ 12).length ≤ 40 := by
    have h1 := uyL_le (ρ := ρ) 12
    have h2 := liL_40 hg
    omega
  have mem : ∀ r, r ∈ uyL ρ 12 → (r : Int) < ρ 0 4 ∧ ρ 8 r = 0 ∧ ρ 5 r = -1 ∧ ρ 4 r < 12 ∧ 0 ≤ ρ 4 r := by
    intro r hr
    obtain ⟨g1, a', g2, g3⟩ := (mem_uyL 12).1 hr
    rw [Bool.and_eq_true] at g3
    have i := inA_iff.1 g3.1
    have u := g3.2
    unfold unR at u
    simp only [Bool.and_eq_true, decide_eq_true_iff] at u
    have hp := (hg.2.2 r (by omega)).2.1
    unfold isPart at hp
    exact ⟨by omega, i.2, u.1, u.2, by omega⟩
  have lp : ∀ (d t : Nat) (x : Int) (n : Nat), t + d = (uyL ρ 12).length → d < n → P32 x → (∀ b, tb x b = true ↔ (b < 12 ∧ ∃ r ∈ (uyL ρ 12).take t, ρ 3 r = (a : Int) ∧ ρ 4 r = (b : Int) ∧ hPt ρ ((12 * s + b : Nat) : Int))) → wp_X2_targets_l5 Q n ((12 * s : Nat) : Int) (a : Int) x (t : Int) σ := by
    intro d
    induction d with
    | zero =>
      intro t x n hd hn hx hbits
      obtain ⟨n, rfl⟩ := suc_n hn
      unfold wp_X2_targets_l5
      rw [gl.2.2.2.1]
      refine ⟨fun _ => h x hx (fun b => (hbits b).trans ⟨fun z => ⟨z.1, ?_⟩, fun z => ⟨z.1, ?_⟩⟩), fun w => absurd (by omega) w⟩
      · obtain ⟨r, h1, h2, h4, h5⟩ := z.2
        obtain ⟨m1, m2, m3, m4, m5⟩ := mem r (List.mem_of_mem_take h1)
        exact ⟨r, m1, m2, h2, m3, h4, h5⟩
      · obtain ⟨r, h1, h2, h3', h4, h5, h6⟩ := z.2
        rw [show t = (uyL ρ 12).length by omega, List.take_length]
        have hh := (hg.2.2 r h1).1
        refine ⟨r, (mem_uyL 12).2 ⟨by omega, (ρ 3 r).toNat, by omega, ?_⟩, h3', h5, h6⟩
        rw [Bool.and_eq_true]
        refine ⟨inA_iff.2 ⟨by omega, h2⟩, ?_⟩
        unfold unR
        simp only [Bool.and_eq_true, decide_eq_true_iff]
        exact ⟨h4, by omega⟩
    | succ d ih =>
      intro t x n hd hn hx hbits
      obtain ⟨n, rfl⟩ := suc_n hn
      have ht : t < (uyL ρ 12).length := by omega
      have e33 := gl.2.2.2.2 t ht
      have e1 := List.take_succ_eq_append_getElem ht
      obtain ⟨m1, m2, m3, m4, m5⟩ := mem _ (List.getElem_mem ht)
      generalize hr : (uyL ρ 12)[t] = r at *
      have e15 := (vg.2 r m1).1
      have e16 := (vg.2 r m1).2.1
      have nx : ∀ x', P32 x' → (∀ b, tb x' b = true ↔ (b < 12 ∧ ∃ r' ∈ (uyL ρ 12).take t ++ [r], ρ 3 r' = (a : Int) ∧ ρ 4 r' = (b : Int) ∧ hPt ρ ((12 * s + b : Nat) : Int))) → wp_X2_targets_b80 Q (wp_X2_targets_l5 Q n) ((12 * s : Nat) : Int) (a : Int) x' (t : Int) σ := by
        intro x' hx' hb'
        unfold wp_X2_targets_b80
        intro v ev
        rw [ev, w32_of (by omega) (by omega), show (t : Int) + 1 = ((t + 1 : Nat) : Int) by omega]
        exact ih (t + 1) x' n (by omega) (by omega) hx' (by rw [e1]; exact hb')
      have skip : ¬ (ρ 3 r = (a : Int) ∧ hPt ρ ((12 * s + (ρ 4 r).toNat : Nat) : Int)) → wp_X2_targets_b80 Q (wp_X2_targets_l5 Q n) ((12 * s : Nat) : Int) (a : Int) x (t : Int) σ := by
        intro hno
        refine nx x hx (fun b => (hbits b).trans ⟨fun z => ⟨z.1, ?_⟩, fun z => ⟨z.1, ?_⟩⟩)
        · obtain ⟨r', g1, g2⟩ := z.2
          exact ⟨r', List.mem_append_left _ g1, g2⟩
        · obtain ⟨r', g1, g2, g3, g4⟩ := z.2
          rcases List.mem_append.1 g1 with y | y
          · exact ⟨r', y, g2, g3, g4⟩
          · rw [List.mem_singleton] at y
            subst y
            exact absurd ⟨g2, by rw [g3, Int.toNat_natCast]; exact g4⟩ hno
      unfold wp_X2_targets_l5
      rw [gl.2.2.2.1, Int.toNat_natCast, e33]
      refine ⟨fun w => absurd w (by omega), fun _ => ⟨by omega, fun v ev => ?_⟩⟩
      rw [ev, Int.toNat_natCast, e15, e16, w32_of (by omega) (by omega), show ((12 * s : Nat) : Int) + ρ 4 r = ((12 * s + (ρ 4 r).toNat : Nat) : Int) by omega]
      refine ⟨by omega, fun hne => skip (fun z => hne z.1), fun he => ⟨by omega, c_hasI hg hL hw (by omega) (fun hn => ⟨fun _ => skip (fun z => hn z.2), fun w => absurd rfl w⟩) (fun hy => ⟨fun w => absurd w (by decide), fun _ => ⟨by omega, fun v4 ev4 => ?_⟩⟩)⟩⟩
      rw [e16, show ρ 4 r = ((ρ 4 r).toNat : Int) by omega, b_shl_1 _ (by omega)] at ev4
      have hp := pow31 (k := (ρ 4 r).toNat) (by omega)
      rw [ev4]
      refine nx _ (b_or_p hx hp) (fun b => ?_)
      rw [tb_or hx hp, tb_pow, Bool.or_eq_true, hbits b, decide_eq_true_iff]
      constructor
      · rintro (⟨z1, r', g1, g2⟩ | z)
        · exact ⟨z1, r', List.mem_append_left _ g1, g2⟩
        · subst z
          exact ⟨by omega, r, List.mem_append_right _ (List.mem_singleton.2 rfl), by omega, by omega, hy⟩
      · rintro ⟨z1, r', g1, g2, g3, g4⟩
        rcases List.mem_append.1 g1 with y | y
        · exact Or.inl ⟨z1, r', y, g2, g3, g4⟩
        · rw [List.mem_singleton] at y
          subst y
          exact Or.inr (by omega)
  unfold wp_X2_targets
  exact lp (uyL ρ 12).length 0 0 bigN (by omega) (by unfold bigN; omega) ⟨by decide, by decide⟩ (fun b => by rw [tb_0]; exact ⟨fun z => (by cases z), fun ⟨_, r, hr, _⟩ => (by cases hr)⟩)
/-- while labels are open -/
def OV (ρ : St) (s : Nat) (w0 : Nat → Int) (O : Nat → Prop) (σ : St) : Prop := Bt ρ σ ∧ Lw ρ σ ∧ (∀ x, x < 12 * s → σ 42 x = w0 x) ∧ ∀ a, a < 12 → (O a → ccV ρ w0 (cI ρ (12 * s + a)) (σ 42 (12 * s + a))) ∧ (¬ O a → Rt ρ (12 * s + a) (σ 42 (12 * s + a)))
def wT (σ : St) (s : Nat) (x : Nat) : Int := if x < 12 * (s + 1) then σ 42 x else 0
theorem OV.e {ρ : St} {s : Nat} {w0 : Nat → Int} {O : Nat → Prop} {σ : St} (h0 : W0 ρ s w0) (h : OV ρ s w0 O σ) : eW (wT σ s) := by
  intro x
  unfold wT
  by_cases hx : x < 12 * (s + 1)
  · rw [if_pos hx]
    by_cases hx2 : x < 12 * s
    · rw [h.2.2.1 x hx2]; exact h0.1 x
    · have e : x = 12 * s + (x - 12 * s) := by omega
      rw [e]
      obtain ⟨g1, g2⟩ := h.2.2.2 (x - 12 * s) (by omega)
      by_cases ho : O (x - 12 * s)
      · exact (g1 ho).r
      · rcases (g2 ho).r with z | z
        · exact Or.inl z
        · exact Or.inr z
  · rw [if_neg hx]; exact Or.inr (by unfold sR B0; omega)
theorem c_addTargets {ρ σ : St} (hg : Wg ρ) (hL : LL ρ < 9) {s a : Nat} (hs : s < spN (LL ρ)) (ha : a < 12) {w0 : Nat → Int} (h0 : W0 ρ s w0) {O : Nat → Prop} (hv : OV ρ s w0 O σ) (hoa : O a) (hno : ∀ b, b < 12 → Ed ρ s a b → ¬ O b) {Q : Int → St → Prop} (h : ∀ σ1, OV ρ s w0 (fun x => O x ∧ x ≠ a) σ1 → Q 0 σ1) : wp_X2_addTargets ((12 * s : Nat) : Int) (a : Int) σ Q := by
  have h3 := sp_3 _ hL
  have h40 := hg.2.1
  have hB := hv.1
  have hw := hv.2.1
  have ew := hv.e h0
  have u40 : (uyL ρ 12).length ≤ 40 := by
    have h1 := uyL_le (ρ := ρ) 12
    have h2 := liL_40 hg
    omega
  have mem : ∀ r, r ∈ uyL ρ 12 → (r : Int) < ρ 0 4 ∧ ρ 8 r = 0 ∧ ρ 5 r = -1 ∧ ρ 4 r < 12 ∧ 0 ≤ ρ 4 r := by
    intro r hr
    obtain ⟨g1, a', g2, g3⟩ := (mem_uyL 12).1 hr
    rw [Bool.and_eq_true] at g3
    have i := inA_iff.1 g3.1
    have u := g3.2
    unfold unR at u
    simp only [Bool.and_eq_true, decide_eq_true_iff] at u
    have hp := (hg.2.2 r (by omega)).2.1
    unfold isPart at hp
    exact ⟨by omega, i.2, u.1, u.2, by omega⟩
  -- what stands at the label after t rules
  have lp : ∀ (d t : Nat) (σ1 : St) (n : Nat), t + d = (uyL ρ 12).length → d < n → Bt ρ σ1 → Lw ρ σ1 → (∀ x, x ≠ 12 * s + a → σ1 42 x = σ 42 x) → ((σ1 42 (12 * s + a) = -5 ∧ ¬ FN ρ (12 * s + a)) ∨ ((∀ c ∈ cI ρ (12 * s + a), fullC ρ c → ¬ goC c → ¬ badC w0 c) ∧ (∀ r ∈ (uyL ρ 12).take t, ρ 3 r = (a : Int) → hPt ρ ((12 * s + (ρ 4 r).toNat : Nat) : Int) → FN ρ (12 * s + (ρ 4 r).toNat)) ∧ 0 ≤ bS ρ w0 (cI ρ (12 * s + a)) + sumU (uT ρ (wT σ s) s a) ((uyL ρ 12).take t) ∧ σ1 42 (12 * s + a) = min B0 (bS ρ w0 (cI ρ (12 * s + a)) + sumU (uT ρ (wT σ s) s a) ((uyL ρ 12).take t)))) → wp_X2_addTargets_l2 Q n ((12 * s : Nat) : Int) (a : Int) (t : Int) σ1 := by
    intro d
    induction d with
    | zero =>
      intro t σ1 n hd hn b1 b2 hne hval
      obtain ⟨n, rfl⟩ := suc_n hn
      unfold wp_X2_addTargets_l2
      rw [b1.1.2.2.1.2.2.2.1]
      refine ⟨fun _ => h σ1 ⟨b1, b2, fun x hx => by rw [hne x (by omega)]; exact hv.2.2.1 x hx, fun x hx => ?_⟩, fun w => absurd (by omega) w⟩
      by_cases e : x = a
      · subst e
        refine ⟨fun z => absurd rfl z.2, fun _ => ?_⟩
        rw [show t = (uyL ρ 12).length by omega, List.take_length] at hval
        rcases hval with z | ⟨z1, z2, z3, z4⟩
        · exact Or.inl z
        · have all : ∀ c ∈ cI ρ (12 * s + x), fullC ρ c → finC ρ c := by
            intro c hc hf
            by_cases hgo : goC c
            · obtain ⟨b, hb12, eb⟩ := goC_lab hg hL hs ha hc hgo
              have he := (Ed_case hL hs ha hb12).2 ⟨c, hc, hf, hgo, eb⟩
              have rb := (hv.2.2.2 b hb12).2 (hno b hb12 he)
              obtain ⟨r, e1, e2, e3, e4, e5, e6⟩ := he
              refine ⟨fun _ => ?_, fun z => ?_⟩
              · rw [eb, Int.toNat_natCast]
                have hh := (hg.2.2 r e1).1
                have := z2 r ((mem_uyL 12).2 ⟨by omega, (ρ 3 r).toNat, by omega, by
                  rw [Bool.and_eq_true]
                  refine ⟨inA_iff.2 ⟨by omega, e2⟩, ?_⟩
                  unfold unR
                  simp only [Bool.and_eq_true, decide_eq_true_iff]
                  exact ⟨e4, by omega⟩⟩) e3 (by rw [e5, Int.toNat_natCast]; exact e6)
                rw [e5, Int.toNat_natCast] at this
                exact this
              · obtain ⟨r', g1, g2, g3, g4, g5⟩ := cI_info ha hc
                rcases g5 with ⟨-, -, -, -, h9⟩ | ⟨-, m, -, -, -, -, h10, -⟩
                · omega
                · have := hgo.1; omega
            · exact (cc_fin hg hL hs ha h0 hc hgo (z1 c hc hf hgo)).1
          have rt := Rt.of (w := wT σ s) all (fun c hc hf => by
            by_cases hgo : goC c
            · obtain ⟨b, hb12, eb⟩ := goC_lab hg hL hs ha hc hgo
              have he := (Ed_case hL hs ha hb12).2 ⟨c, hc, hf, hgo, eb⟩
              have rb := (hv.2.2.2 b hb12).2 (hno b hb12 he)
              refine ⟨fun _ => ?_, fun z => ?_⟩
              · rw [eb, Int.toNat_natCast]
                unfold wT; rw [if_pos (by omega)]; exact rb
              · obtain ⟨r', g1, g2, g3, g4, g5⟩ := cI_info ha hc
                rcases g5 with ⟨-, -, -, -, h9⟩ | ⟨-, m, -, -, -, -, h10, -⟩
                · omega
                · have := hgo.1; omega
            · have lt := nb_lt hg hL hs ha hc hgo
              have cf := (cc_fin hg hL hs ha h0 hc hgo (z1 c hc hf hgo)).2
              refine ⟨fun z => ?_, fun z => ?_⟩
              · unfold wT; rw [if_pos (by omega), hv.2.2.1 _ (by omega)]; exact cf.1 z
              · unfold wT; rw [if_pos (by omega), hv.2.2.1 _ (by omega)]; exact cf.2 z)
          rw [wS_split, uS_L hg hL (fun b _ s' _ => by rcases ew (12 * s' + b) with z | z; rw [z]; unfold B0; decide; exact z.2) hs ha, bS_congr (w' := w0) (fun c hc hgo => by
            have lt := nb_lt hg hL hs ha hc hgo
            refine ⟨fun z => ?_, fun z => ?_⟩
            · unfold wT; rw [if_pos (by omega)]; exact hv.2.2.1 _ (by omega)
            · unfold wT; rw [if_pos (by omega)]; exact hv.2.2.1 _ (by omega))] at rt
          rw [z4]; exact rt
      · rw [hne _ (by omega)]
        have := hv.2.2.2 x hx
        exact ⟨fun z => this.1 z.1, fun z => this.2 (fun y => z ⟨y, e⟩)⟩
    | succ d ih =>
      intro t σ1 n hd hn b1 b2 hne hval
      obtain ⟨n, rfl⟩ := suc_n hn
      have gl := b1.1.2.2.1
      have vg := gl.1
      have ht : t < (uyL ρ 12).length := by omega
      have e33 := gl.2.2.2.2 t ht
      have e1 := List.take_succ_eq_append_getElem ht
      have su := sumU_take (g := uT ρ (wT σ s) s a) ht
      obtain ⟨m1, m2, m3, m4, m5⟩ := mem _ (List.getElem_mem ht)
      generalize hr : (uyL ρ 12)[t] = r at *
      have e15 := (vg.2 r m1).1
      have e16 := (vg.2 r m1).2.1
      have skip : ¬ (ρ 3 r = (a : Int) ∧ hPt ρ ((12 * s + (ρ 4 r).toNat : Nat) : Int)) → wp_X2_addTargets_b90 Q (wp_X2_addTargets_l2 Q n) ((12 * s : Nat) : Int) (a : Int) (t : Int) σ1 := by
        intro hno2
        unfold wp_X2_addTargets_b90
        intro v ev
        rw [ev, w32_of (by omega) (by omega), show (t : Int) + 1 = ((t + 1 : Nat) : Int) by omega]
        have u0 : uT ρ (wT σ s) s a r = 0 := by
          unfold uT
          by_cases z : ρ 3 r = (a : Int)
          · rw [if_pos z, ix_n (fun y => hno2 ⟨z, y⟩)]; omega
          · rw [if_neg z]
        refine ih (t + 1) σ1 n (by omega) (by omega) b1 b2 hne ?_
        rw [su, u0, Int.add_zero]
        refine hval.imp id (fun z => ⟨z.1, fun r' hr' g1 g2 => ?_, z.2.2⟩)
        rw [e1] at hr'
        rcases List.mem_append.1 hr' with y | y
        · exact z.2.1 r' y g1 g2
        · rw [List.mem_singleton] at y
          subst y
          exact absurd ⟨g1, g2⟩ hno2
      unfold wp_X2_addTargets_l2
      rw [gl.2.2.2.1, Int.toNat_natCast, e33]
      refine ⟨fun w => absurd w (by omega), fun _ => ⟨by omega, fun v ev => ?_⟩⟩
      rw [ev, Int.toNat_natCast, e15, e16, w32_of (by omega) (by omega), show ((12 * s : Nat) : Int) + ρ 4 r = ((12 * s + (ρ 4 r).toNat : Nat) : Int) by omega]
      refine ⟨by omega, fun v2 ev2 => ⟨by omega, fun hne2 => skip (fun z => hne2 z.1), fun he => ?_⟩⟩
      rw [ev2]
      refine c_hasI hg hL b2 (by omega) (fun hn => ⟨fun _ => skip (fun z => hn z.2), fun w => absurd rfl w⟩) (fun hy => ⟨fun w => absurd w (by decide), fun _ => ?_⟩)
      have he3 : ρ 3 r = (a : Int) := by omega
      have hed : Ed ρ s a (ρ 4 r).toNat := ⟨r, m1, m2, he3, m3, by omega, hy⟩
      have hb12 : (ρ 4 r).toNat < 12 := by omega
      have nob := hno _ hb12 hed
      have hba : (ρ 4 r).toNat ≠ a := fun z => nob (by rw [z]; exact hoa)
      have rb := (hv.2.2.2 _ hb12).2 nob
      have eb : σ1 42 (12 * s + (ρ 4 r).toNat) = σ 42 (12 * s + (ρ 4 r).toNat) := hne _ (by omega)
      have erb : eR (σ 42 (12 * s + (ρ 4 r).toNat)) := by
        rcases rb.r with z | z
        · exact Or.inl z
        · exact Or.inr z
      have era : eR (σ1 42 (12 * s + a)) := by
        rcases hval with z | ⟨-, -, z3, z4⟩
        · exact Or.inl z.1
        · rw [z4]; exact Or.inr (sat_r z3)
      rw [w32_of (x := ((12 * s : Nat) : Int) + (a : Int)) (by omega) (by omega), show ((12 * s : Nat) : Int) + (a : Int) = ((12 * s + a : Nat) : Int) by omega, Int.toNat_natCast, Int.toNat_natCast, eb]
      refine ⟨by omega, by omega, c_endlessSum era erb ⟨by omega, fun σ7 e7 => ?_⟩⟩
      unfold wp_X2_addTargets_b90
      intro v8 ev8
      rw [ev8, w32_of (by omega) (by omega), show (t : Int) + 1 = ((t + 1 : Nat) : Int) by omega]
      have u1 : uT ρ (wT σ s) s a r = σ 42 (12 * s + (ρ 4 r).toNat) := by
        unfold uT
        rw [if_pos he3, ix_y hy]
        unfold wT
        rw [if_pos (by omega)]; omega
      refine ih (t + 1) σ7 n (by omega) (by omega) (by rw [e7]; exact b1) (by rw [e7]; exact b2) (fun x hx => by rw [e7, upS_j hx]; exact hne x hx) ?_
      rw [e7, upS_s, su, u1]
      by_cases hb5 : σ1 42 (12 * s + a) = -5 ∨ σ 42 (12 * s + (ρ 4 r).toNat) = -5
      · rw [if_pos hb5]
        refine Or.inl ⟨rfl, ?_⟩
        rcases hb5 with z | z
        · rcases hval with y | ⟨-, -, y3, y4⟩
          · exact y.2
          · exfalso; rw [y4] at z; have := sat_r y3; unfold sR at this; omega
        · intro hfn
          obtain ⟨c, hc, hf, hgo, ec⟩ := (Ed_case hL hs ha hb12).1 hed
          have := (FN_iff.1 hfn c hc hf).1 hgo.2
          rw [ec, Int.toNat_natCast] at this
          exact rb.fn.2 this z
      · rw [if_neg hb5]
        rcases hval with y | ⟨y1, y2, y3, y4⟩
        · exact absurd (Or.inl y.1) hb5
        · have fb : FN ρ (12 * s + (ρ 4 r).toNat) := rb.fn.1 (fun z => hb5 (Or.inr z))
          have nnb : 0 ≤ σ 42 (12 * s + (ρ 4 r).toNat) := by
            rcases erb with z | z
            · exact absurd (Or.inr z) hb5
            · exact z.1
          refine Or.inr ⟨y1, fun r' hr' g1 g2 => ?_, by omega, ?_⟩
          · rw [e1] at hr'
            rcases List.mem_append.1 hr' with z | z
            · exact y2 r' z g1 g2
            · rw [List.mem_singleton] at z
              subst z
              exact fb
          · rw [y4, sat_add y3 nnb, Int.add_assoc]
  unfold wp_X2_addTargets
  refine lp (uyL ρ 12).length 0 σ bigN (by omega) (by unfold bigN; omega) hB hw (fun _ _ => rfl) ?_
  rcases (hv.2.2.2 a ha).1 hoa with ⟨z1, c, hc, hf, hgo, hb⟩ | ⟨z1, z2, z3⟩
  · exact Or.inl ⟨z1, cc_bad hg hL hs ha h0 hc hf hgo hb⟩
  · exact Or.inr ⟨z1, fun r hr => (by cases hr), (by show 0 ≤ bS ρ w0 _ + 0; omega), (by rw [z3]; show _ = min B0 (bS ρ w0 _ + 0); rw [Int.add_zero])⟩
