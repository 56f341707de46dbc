/-! sums: a span, from its beginning; the reference's -/
theorem eqMt_at {ρ : St} {s : Nat} {R : RsT} {a j : Nat} (ha : a < 12) (hh : hsB ρ s a = true) (hj : j < 13) : eqMt ρ s R 12 (13 * rwN ρ s a + j) = ent ρ s R a j (cI ρ (12 * s + a)) := by
  unfold eqMt
  rw [sumN_one (a := a) 12 ha (fun b hb hne => by rw [ix_n (fun z => hne (rw_inj z.1 hh (by omega))), Int.zero_mul]), ix_y ⟨hh, by omega⟩, Int.one_mul, show (13 * rwN ρ s a + j) % 13 = j by omega]
def bdR (ρ : St) (s : Nat) (R : RsT) (r : Nat) : Prop := ∃ a, a < 12 ∧ hsB ρ s a = true ∧ ∃ k ∈ cS ρ s (liA ρ a r), fullC ρ k ∧ ¬ goC k ∧ badK R k
section LS3
variable {ρ : St} {s : Nat}
theorem r_ls169 {w : Mx} (hw : ∀ k, k < 156 → 0 ≤ w k ∧ w k ≤ 5000000) {τ0 : St} {x1 x2 x3 : Int} {Q : Int → St → Prop} (hq : ∀ τ1, (∀ k, k ≠ 24 → τ1 k = τ0 k) → (∀ k, k < 156 → τ1 24 k = w k % 9973) → wp_X12_laysSums_l199 Q bigN x1 x2 x3 0 τ1) : ∀ (d x : Nat) (τ : St) (n : Nat), x + d = 156 → d < n → (∀ k, k ≠ 24 → τ k = τ0 k) → (∀ k, k < 156 → τ 24 k = if k < x then w k % 9973 else w k) → wp_X12_laysSums_l169 Q n x1 x2 x3 (x : Int) τ := by
  intro d
  induction d with
  | zero =>
    intro x τ n hd hn h1 h2
    obtain ⟨n, rfl⟩ := suc_n hn
    unfold wp_X12_laysSums_l169
    exact ⟨fun _ => hq τ h1 (fun k hk => by have := h2 k hk; rw [if_pos (by omega)] at this; exact this), fun z => absurd (by omega) z⟩
  | succ d ih =>
    intro x τ n hd hn h1 h2
    obtain ⟨n, rfl⟩ := suc_n hn
    have e := h2 x (by omega)
    rw [if_neg (by omega)] at e
    have b := hw x (by omega)
    unfold wp_X12_laysSums_l169
    rw [Int.toNat_natCast, e, l_rem_eq b.1 (by omega) (by decide) (by decide)]
    refine ⟨fun z => absurd z (by omega), fun _ => ⟨by omega, by omega, fun τ2 e2 v ev => ?_⟩⟩
    rw [ev, w32_of (by omega) (by omega), e2]
    refine ih (x + 1) _ n (by omega) (by omega) (fun k hk => by rw [upS_k hk]; exact h1 k hk) (fun k hk => ?_)
    by_cases z : k = x
    · rw [z, upS_s, if_pos (by omega)]
    · rw [upS_j z, h2 k hk]
      by_cases y : k < x
      · rw [if_pos y, if_pos (by omega)]
      · rw [if_neg y, if_neg (by omega)]
theorem r_ls105 (hg : Wg ρ) (hL : LL ρ < 9) (h80 : 0 ≤ ρ 0 8) (hs : s < spN (LL ρ)) {Q : Int → St → Prop} (hq : ∀ τ1, LA ρ τ1 → SuR ρ τ1 (s + 1) → Q 0 τ1) : ∀ (d r : Nat) (x3 : Int) (τ : St) (n : Nat), (r : Int) + d = ρ 0 4 → d < n → LG ρ τ s → (∀ a, a < 12 → hsB ρ s a = true → rowB τ (rwN ρ s a) (1 + 80000 * (r : Int))) → (∀ k, k < 156 → rwN ρ s 12 ≤ k / 13 → τ 24 k = 0) → ((x3 = 1 ∧ ¬ bdR ρ s (RS ρ s) r ∧ ∀ a, a < 12 → hsB ρ s a = true → rowE ρ s (RS ρ s) τ (rwN ρ s a) a (cS ρ s (liA ρ a r))) ∨ (x3 = 0 ∧ bdR ρ s (RS ρ s) r)) → wp_X12_laysSums_l105 Q n ((spB (LL ρ) s : Nat) : Int) ((spF (LL ρ) s : Nat) : Int) x3 (r : Int) τ := by
  have h40 := hg.2.1
  have eL : ((LL ρ : Nat) : Int) = ρ 0 8 := by unfold LL; omega
  have hs8 : ρ 0 8 ≤ 8 := by unfold LL at hL; omega
  have sp := sp_s hL hs
  have u12 : rwN ρ s 12 ≤ 12 := rw_12
  intro d
  induction d with
  | zero =>
    intro r x3 τ n hd hn hG hRB hZ hx
    obtain ⟨n, rfl⟩ := suc_n hn
    unfold wp_X12_laysSums_l105
    rw [hG.1.1.1]
    refine ⟨fun _ => ?_, fun z => absurd (by omega) z⟩
    have bd : ∀ k, k < 156 → 0 ≤ τ 24 k ∧ τ 24 k ≤ 5000000 := by
      intro k hk
      by_cases z : rwN ρ s 12 ≤ k / 13
      · rw [hZ k hk z]; omega
      · obtain ⟨b, b1, b2, b3⟩ := rw_sur (ρ := ρ) (s := s) (x := k / 13) 12 (by omega)
        have := hRB b b1 b2 (k % 13) (Nat.mod_lt _ (by decide))
        rw [b3, show 13 * (k / 13) + k % 13 = k by omega] at this
        omega
    have eI : ∀ a, a < 12 → cS ρ s (liA ρ a r) = cI ρ (12 * s + a) := by
      intro a ha
      unfold cI
      rw [show (12 * s + a) / 12 = s by omega, show (12 * s + a) % 12 = a by omega, show (ρ 0 4).toNat = r by omega]
    have bI : bdR ρ s (RS ρ s) r ↔ bdP ρ s (RS ρ s) 12 := by
      constructor
      · rintro ⟨a, a1, a2, k, a3, a4⟩
        exact ⟨a, a1, a2, k, by rw [← eI a a1]; exact a3, a4⟩
      · rintro ⟨a, a1, a2, k, a3, a4⟩
        exact ⟨a, a1, a2, k, by rw [eI a a1]; exact a3, a4⟩
    refine r_ls169 (w := τ 24) bd (τ0 := τ) (fun τ1 g1 g2 => ?_) 156 0 τ bigN (by omega) (by unfold bigN; omega) (fun _ _ => rfl) (fun k hk => by rw [if_neg (by omega)])
    rcases hx with ⟨rfl, f1, f2⟩ | ⟨rfl, f1⟩
    · refine r_ls199 hL h80 hs hq (rwN ρ s 12) 0 1 (eqMt ρ s (RS ρ s) 12) τ1 bigN (by omega) (by unfold bigN; omega) (eqMt_ok 12) (hG.e24 g1) (fun k hk => ?_) (Or.inr ⟨rfl, fun z => f1 (bI.2 z), rfl⟩)
      rw [g2 k hk]
      by_cases z : rwN ρ s 12 ≤ k / 13
      · rw [hZ k hk z, eqMt_z (fun a ha hh e => by have := rw_lt hh ha; omega)]; rfl
      · obtain ⟨b, b1, b2, b3⟩ := rw_sur (ρ := ρ) (s := s) (x := k / 13) 12 (by omega)
        have h1 := f2 b b1 b2 (k % 13) (Nat.mod_lt _ (by decide))
        have h2 := eqMt_at (ρ := ρ) (s := s) (R := RS ρ s) b1 b2 (j := k % 13) (Nat.mod_lt _ (by decide))
        rw [b3, show 13 * (k / 13) + k % 13 = k by omega] at h1 h2
        rw [h1, h2, eI b b1]
    · exact r_ls199 hL h80 hs hq (rwN ρ s 12) 0 0 (fun k => τ 24 k % 9973) τ1 bigN (by omega) (by unfold bigN; omega) (fun k _ => mR_mod _) (hG.e24 g1) g2 (Or.inl ⟨rfl, Or.inl (bI.1 f1)⟩)
  | succ d ih =>
    intro r x3 τ n hd hn hG hRB hZ hx
    obtain ⟨n, rfl⟩ := suc_n hn
    have hr : (r : Int) < ρ 0 4 := by push_cast at hd; omega
    obtain ⟨k1, k2, k3, k4⟩ := hG.1.1.2.2.2.1 r hr
    obtain ⟨hh3, hp1, hp2, hpr, -⟩ := hg.2.2 r hr
    have nx : ∀ y τ2, LG ρ τ2 s → (∀ a, a < 12 → hsB ρ s a = true → rowB τ2 (rwN ρ s a) (1 + 80000 * ((r + 1 : Nat) : Int))) → (∀ k, k < 156 → rwN ρ s 12 ≤ k / 13 → τ2 24 k = 0) → ((y = 1 ∧ ¬ bdR ρ s (RS ρ s) (r + 1) ∧ ∀ a, a < 12 → hsB ρ s a = true → rowE ρ s (RS ρ s) τ2 (rwN ρ s a) a (cS ρ s (liA ρ a (r + 1)))) ∨ (y = 0 ∧ bdR ρ s (RS ρ s) (r + 1))) → wp_X12_laysSums_b160 Q (wp_X12_laysSums_l105 Q n) ((spB (LL ρ) s : Nat) : Int) ((spF (LL ρ) s : Nat) : Int) y (r : Int) τ2 := by
      intro y τ2 g1 g2 g3 g4
      unfold wp_X12_laysSums_b160
      intro v ev
      rw [ev, w32_of (by omega) (by omega), show (r : Int) + 1 = ((r + 1 : Nat) : Int) by omega]
      exact ih (r + 1) y τ2 n (by push_cast at hd ⊢; omega) (by omega) g1 g2 g3 g4
    have same : ∀ a, ¬ inA ρ a r = true → cS ρ s (liA ρ a (r + 1)) = cS ρ s (liA ρ a r) := by
      intro a h; rw [cS_step, if_neg h, List.append_nil]
    have skip : (∀ a, a < 12 → hsB ρ s a = true → ¬ inA ρ a r = true) → wp_X12_laysSums_b160 Q (wp_X12_laysSums_l105 Q n) ((spB (LL ρ) s : Nat) : Int) ((spF (LL ρ) s : Nat) : Int) x3 (r : Int) τ := by
      intro hno
      refine nx x3 τ hG (fun a ha hh j hj => by have := hRB a ha hh j hj; push_cast; omega) hZ ?_
      rcases hx with ⟨x1, x2, x4⟩ | ⟨x1, a, a1, a2, k, a3, a4⟩
      · refine Or.inl ⟨x1, fun ⟨a, a1, a2, k, a3, a4⟩ => x2 ⟨a, a1, a2, k, by rw [← same a (hno a a1 a2)]; exact a3, a4⟩, fun a ha hh => ?_⟩
        rw [same a (hno a ha hh)]; exact x4 a ha hh
      · exact Or.inr ⟨x1, a, a1, a2, k, by rw [same a (hno a a1 a2)]; exact a3, a4⟩
    unfold wp_X12_laysSums_l105
    rw [hG.1.1.1]
    refine ⟨fun z => absurd z (by omega), fun _ => r_isIn hg hG.1.1.2.1 hr ?_⟩
    by_cases h8 : ρ 8 r = 0
    · rw [if_pos h8, Int.toNat_natCast, k1]
      refine ⟨fun z => absurd z (by decide), fun _ => ⟨by omega, ?_⟩⟩
      obtain ⟨a, ea⟩ : ∃ a : Nat, ρ 3 r = (a : Int) := ⟨(ρ 3 r).toNat, by omega⟩
      have ha : a < 12 := by omega
      rw [ea]
      refine r_has2 hG.1 hs8 ⟨by omega, by omega, by omega, by omega⟩ (fun h => ⟨fun _ => skip (fun b hb hh hin => ?_), fun z => absurd rfl z⟩) (fun h => ⟨fun z => absurd z (by decide), fun _ => ?_⟩)
      · have : ρ 3 r = (b : Int) := (inA_iff.1 hin).1
        have e : b = a := by omega
        subst e
        exact h ((hPt_it hb).1 (hsB_iff.1 hh))
      · have hh : hsB ρ s a = true := hsB_iff.2 ((hPt_it ha).2 h)
        have hin : inA ρ a r = true := inA_iff.2 ⟨ea, h8⟩
        have st : cS ρ s (liA ρ a (r + 1)) = cS ρ s (liA ρ a r) ++ cC ρ (spB (LL ρ) s) (spF (LL ρ) s) r := by rw [cS_step, if_pos hin]
        have oth : ∀ b, b ≠ a → ¬ inA ρ b r = true := fun b hb z => hb (by have := (inA_iff.1 z).1; omega)
        have hw12 := rw_lt hh ha
        have rest : ∀ τ2, (∀ k, k ≠ 24 → τ2 k = τ k) → (∀ k, k / 13 ≠ rwN ρ s a → τ2 24 k = τ 24 k) → rowB τ2 (rwN ρ s a) (1 + 80000 * (r : Int) + 80000) → LG ρ τ2 s ∧ (∀ b, b < 12 → hsB ρ s b = true → rowB τ2 (rwN ρ s b) (1 + 80000 * ((r + 1 : Nat) : Int))) ∧ (∀ k, k < 156 → rwN ρ s 12 ≤ k / 13 → τ2 24 k = 0) := by
          intro τ2 g1 g2 g3
          refine ⟨hG.e24 g1, fun b hb hhb j hj => ?_, fun k hk hz => by rw [g2 k (by omega)]; exact hZ k hk hz⟩
          by_cases e : b = a
          · subst e; have := g3 j hj; push_cast; omega
          · have : rwN ρ s b ≠ rwN ρ s a := fun z => e (rw_inj hhb hh z)
            rw [g2 _ (by omega)]
            have := hRB b hb hhb j hj
            push_cast; omega
        have bup : bdR ρ s (RS ρ s) r → bdR ρ s (RS ρ s) (r + 1) := by
          rintro ⟨b, b1, b2, k, b3, b4⟩
          refine ⟨b, b1, b2, k, ?_, b4⟩
          rw [cS_step]; exact List.mem_append_left _ b3
        unfold wp_X12_laysSums_b158 wp_X12_laysSums_b159
        refine r_brings hg hL h80 (R := RS ρ s) (s := s) (a := a) hG.1 hr ea (i := spB (LL ρ) s) (j := spF (LL ρ) s) (by omega) sp.2.2 ha hh hG.2.2.1 (fun h5 m m1 m2 => ?_) (B := 1 + 80000 * (r : Int)) (by omega) (hRB a ha hh) (l := cS ρ s (liA ρ a r)) (fun τ2 g0 g1 g2 g3 => ⟨fun _ => ?_, fun z => absurd rfl z⟩) (fun τ2 g0 g1 g2 g3 g4 => ⟨fun z => absurd z (by decide), fun _ => ⟨fun z => ?_, fun z => ?_⟩⟩)
        · have p2 := hp2.resolve_left h5
          have l1 := sp_lt hL (i := spB (LL ρ) s) (j := m) (k := spB (LL ρ) s) (l := spF (LL ρ) s) (by omega) (by omega) (Or.inl (by omega))
          have l2 := sp_lt hL (i := m) (j := spF (LL ρ) s) (k := spB (LL ρ) s) (l := spF (LL ρ) s) (by omega) (by omega) (Or.inl (by omega))
          rw [sp.2.2] at l1 l2
          exact ⟨hG.2.1.pt hL hp1 (by omega) l1, hG.2.1.pt hL p2 (by omega) l2⟩
        · obtain ⟨c1, c2, c3⟩ := rest τ2 g1 g2 g3
          obtain ⟨k, q1, q2⟩ := g0
          exact nx 0 τ2 c1 c2 c3 (Or.inr ⟨rfl, a, ha, hh, k, by rw [st]; exact List.mem_append_right _ q1, q2⟩)
        · obtain ⟨c1, c2, c3⟩ := rest τ2 g1 g2 g3
          rcases hx with ⟨x1, -⟩ | ⟨-, x2⟩
          · omega
          · exact nx 0 τ2 c1 c2 c3 (Or.inr ⟨rfl, bup x2⟩)
        · obtain ⟨c1, c2, c3⟩ := rest τ2 g1 g2 g3
          rcases hx with ⟨x1, x2, x4⟩ | ⟨x1, -⟩
          · refine nx 1 τ2 c1 c2 c3 (Or.inl ⟨rfl, ?_, fun b hb hhb => ?_⟩)
            · rintro ⟨b, b1, b2, k, b3, b4⟩
              by_cases e : b = a
              · subst e
                rw [st] at b3
                rcases List.mem_append.1 b3 with y | y
                · exact x2 ⟨b, b1, b2, k, y, b4⟩
                · exact g0 k y b4.1 b4.2.1 b4.2.2
              · rw [same b (oth b e)] at b3
                exact x2 ⟨b, b1, b2, k, b3, b4⟩
            · by_cases e : b = a
              · subst e
                rw [st]; exact g4 (x4 b hb hhb)
              · have : rwN ρ s b ≠ rwN ρ s a := fun z => e (rw_inj hhb hh z)
                rw [same b (oth b e)]
                intro j hj
                rw [g2 _ (by omega)]; exact x4 b hb hhb j hj
          · exact absurd x1 z
    · rw [if_neg h8]
      exact ⟨fun _ => skip (fun a _ _ hin => h8 (inA_iff.1 hin).2), fun z => absurd rfl z⟩
end LS3
