/-! one more tree of a span -/
def sumG (f : Nat → Nat) : Nat → Nat
  | 0 => 0
  | n + 1 => sumG f n + f n
theorem sumG_le {f : Nat → Nat} : ∀ n, (∀ b, b < n → f b ≤ 16) → sumG f n ≤ 16 * n
  | 0, _ => Nat.le_refl _
  | n + 1, h => by
    have := sumG_le n (fun b hb => h b (by omega))
    have := h n (by omega)
    show sumG f n + f n ≤ _
    omega
theorem sumG_full {f : Nat → Nat} : ∀ n, (∀ b, b < n → f b ≤ 16) → 16 * n ≤ sumG f n → ∀ b, b < n → f b = 16
  | 0, _, _, b, hb => by omega
  | n + 1, h, hs, b, hb => by
    have h1 := sumG_le n (fun b hb => h b (by omega))
    have h2 := h n (by omega)
    have h3 : sumG f (n + 1) = sumG f n + f n := rfl
    by_cases e : b = n
    · rw [e]; omega
    · exact sumG_full n (fun b hb => h b (by omega)) (by omega) b (by omega)
theorem sumG_cg {f g : Nat → Nat} : ∀ n, (∀ b, b < n → f b = g b) → sumG f n = sumG g n
  | 0, _ => rfl
  | n + 1, h => by
    show sumG f n + f n = sumG g n + g n
    rw [sumG_cg n (fun b hb => h b (by omega)), h n (by omega)]
theorem sumG_up {f : Nat → Nat} {a : Nat} : ∀ n, a < n → sumG (fun b => if b = a then f a + 1 else f b) n = sumG f n + 1
  | 0, h => by omega
  | n + 1, h => by
    show sumG (fun b => if b = a then f a + 1 else f b) n + (if n = a then f a + 1 else f n) = sumG f n + f n + 1
    by_cases e : n = a
    · subst e
      rw [if_pos rfl, sumG_cg (g := f) n (fun b hb => by show (if b = n then f n + 1 else f b) = f b; rw [if_neg (by omega)])]
      omega
    · rw [if_neg e, sumG_up n (by omega)]; omega
def smF (F : Fo) (s : Nat) : Nat := sumG (fun b => F.1 (12 * s + b)) 12
theorem smF_add {F : Fo} {s a : Nat} {z : En} (ha : a < 12) : smF (addF F (12 * s + a) z) s = smF F s + 1 := by
  unfold smF
  rw [← sumG_up (f := fun b => F.1 (12 * s + b)) 12 ha]
  refine sumG_cg 12 (fun b _ => ?_)
  rw [addF_h]
  by_cases e : b = a
  · subst e; rw [if_pos rfl, if_pos rfl]
  · rw [if_neg (by omega), if_neg e]
theorem GRW.sig {ρ σ σ1 : St} {F0 F : Fo} {D : Nat → Prop} {s : Nat} {M : Int} (h : GRW ρ σ F0 F D s M) (e : ∀ k, k ≠ 54 → σ1 k = σ k) : GRW ρ σ1 F0 F D s M := by
  obtain ⟨hG, hI, hD, hSg, hF0, hx, hlow, hUC, hUT, hBT⟩ := h
  refine ⟨hG.ext (fun k hk => e k (by unfold okG at hk; omega)), hI, hD, hSg, hF0, hx, hlow, ?_, ?_, fun a ha hw => ?_⟩
  · unfold UCs; rw [e 66 (by decide)]; exact hUC
  · unfold UTk; rw [e 67 (by decide)]; exact hUT
  · obtain ⟨n, L, c, h⟩ := hBT a ha hw
    refine ⟨n, L, c, ?_⟩
    unfold BTk BEc
    rw [e 61 (by decide), e 62 (by decide), e 63 (by decide), e 64 (by decide), e 65 (by decide)]
    exact h
/-- one more is taken: what is known stays -/
theorem grw_step {ρ σ σ1 : St} (hg : Wg ρ) (hL : LL ρ < 9) {F0 F : Fo} {D : Nat → Prop} {s : Nat} {M : Int} (hs : s < spN (LL ρ)) (hW : GRW ρ σ F0 F D s M) (hDc : ∀ q, D q → q / 12 ≠ s → ∀ t, t < (cI ρ q).length → (0 ≤ cf ρ q t → (cf ρ q t).toNat / 12 ≠ s) ∧ (0 ≤ cg ρ q t → (cg ρ q t).toNat / 12 ≠ s)) {a n c : Nat} {L : Nat → En} (ha : a < 12) (hWa : Wgo ρ a) (h16 : F.1 (12 * s + a) < 16) (hB : BTk ρ σ F0 F s a n L c) {f : Int} {z : En} (hz : HdP ρ σ F s a n L c (uyL ρ 12).length f z) (hmin : ∀ b, b < 12 → Wgo ρ b → F.1 (12 * s + b) < 16 → ∀ w, CandE ρ F (12 * s + b) w → ¬ inF F (12 * s + b) w → z.1 ≤ w.1) (hmin2 : ∀ f2 w, HdP ρ σ F s a n L c (uyL ρ 12).length f2 w → w = z ∨ ltE ρ F (12 * s + a) z w) (hG1 : GSt ρ σ1 (addF F (12 * s + a) z) D) (e6 : ∀ k, 61 ≤ k → k ≤ 64 → σ1 k = σ k) (e66 : σ1 66 = σ 66) (e65 : ∀ b, σ1 65 b = if b = a ∧ f = -1 then σ 65 b + 1 else σ 65 b) (e67 : ∀ u, σ1 67 u = if (u : Int) = f then σ 67 u + 1 else σ 67 u) : GRW ρ σ1 F0 (addF F (12 * s + a) z) D s z.1 := by
  have hok := hd_ok hW hg hL hs ha hB hz
  obtain ⟨hG, hI, hD, hSg, hF0, hx, hlow, hUC, hUT, hBT⟩ := id hW
  have hI1 : GrI ρ (addF F (12 * s + a) z) D s (Wgo ρ) z.1 := by
    refine gr_step hI ha hWa h16 hok.1 hok.2.1 hmin (fun w hw hn hne => ?_)
    obtain ⟨f2, z2, h1, h2⟩ := hd_all hW hg hL hs ha h16 hB hw hn
    rcases hmin2 f2 z2 h1 with e | e
    · rw [e] at h2
      rcases h2 with r | r
      · exact absurd r hne
      · exact r
    · rcases h2 with r | r
      · rw [r]; exact e
      · exact e.tr r
  have hx1 : ExD D F (addF F (12 * s + a) z) := addF_ex
  refine ⟨hG1, hI1, hD, fun q hq => ?_, hF0, fun q hq => ?_, hlow.add (by omega), ?_, ?_, ?_⟩
  · by_cases e : q / 12 = s
    · have eq : q = 12 * s + q % 12 := by omega
      rw [eq]
      exact ⟨hI1.2.2.1 _ (by omega), fun w hw => hI1.2.2.2.1 _ (by omega) w hw⟩
    · refine SgF.low hI.1 hq (fun h => e (by rw [h]; omega)) (fun t ht => ?_) (hSg q hq)
      have := hDc q hq e t ht
      exact ⟨fun h h2 => this.1 h (by rw [h2]; omega), fun h h2 => this.2 h (by rw [h2]; omega)⟩
  · have a1 := hx q hq
    have a2 := hx1 q hq
    exact ⟨by omega, fun k hk => by rw [a2.2 k (by omega)]; exact a1.2 k hk⟩
  · unfold UCs; rw [e66]; exact hUC
  · intro u hu
    obtain ⟨y, h1, h2, h3⟩ := hUT u hu
    have ui := uy_info hg (List.getElem_mem hu)
    -- what the places of this rule are now
    have hgrow : F.1 (12 * s + (ρ 4 (uyL ρ 12)[u]).toNat) ≤ (addF F (12 * s + a) z).1 (12 * s + (ρ 4 (uyL ρ 12)[u]).toNat) := (hx1 _ (hI.2.1 _ (by omega))).1
    have old : ∀ t x, x < F.1 (12 * s + (ρ 4 (uyL ρ 12)[u]).toNat) → uC ρ (addF F (12 * s + a) z) s (uyL ρ 12)[u] t x = uC ρ F s (uyL ρ 12)[u] t x := fun t x hxl => by
      unfold uC
      rw [(hx1 _ (hI.2.1 _ (by omega))).2 x hxl]
    have isz : ∀ t x, uTc ρ s (uyL ρ 12)[u] t → x < F.1 (12 * s + (ρ 4 (uyL ρ 12)[u]).toNat) → (12 * s + (ρ 3 (uyL ρ 12)[u]).toNat = 12 * s + a ∧ uC ρ F s (uyL ρ 12)[u] t x = z ↔ (u : Int) = f ∧ x = y) := by
      intro t x ht hxl
      constructor
      · rintro ⟨ea, ez⟩
        have h3a : ρ 3 (uyL ρ 12)[u] = (a : Int) := by omega
        rcases id hz with ⟨g1, g2, g3⟩ | ⟨v, hv, g0, g1, g2, t2, y2, g4, g5, g6, g7⟩
        · exfalso
          have b := (hB.1.2.1 c g2).2
          rw [← g3, ← ez] at b
          have q := ht.2
          rw [ea] at q
          refine b ⟨?_, ?_⟩
          · show cm ρ (12 * s + a) t = -1
            unfold cm; rw [q]
          · show 0 ≤ cf ρ (12 * s + a) t
            unfold cf; rw [q]; show (0 : Int) ≤ ((12 * s + (ρ 4 (uyL ρ 12)[u]).toNat : Nat) : Int); omega
        · have et : t = t2 := by
            have := congrArg (fun e : En => e.2.1) (ez.trans g7)
            exact this
          have exy : x = y2 := by
            have := congrArg (fun e : En => e.2.2.1) (ez.trans g7)
            exact this
          have q1 := ht.2
          have q2 := g4.2
          have ea2 : 12 * s + (ρ 3 (uyL ρ 12)[v]).toNat = 12 * s + a := by rw [g2]; omega
          rw [ea] at q1
          rw [ea2, ← et, q1] at q2
          have er : (((uyL ρ 12)[u] : Nat) : Int) = (((uyL ρ 12)[v] : Nat) : Int) := congrArg (fun e : Int × Int × Int × Int => e.1) q2
          have ev := uy_nodup hg hu hv (by omega)
          subst ev
          exact ⟨g1.symm, by rw [h1] at g5; omega⟩
      · rintro ⟨ef, ex⟩
        rcases id hz with ⟨g1, g2, g3⟩ | ⟨v, hv, g0, g1, g2, t2, y2, g4, g5, g6, g7⟩
        · omega
        · have ev : v = u := by omega
          subst ev
          have ey : y = y2 := by rw [h1] at g5; omega
          have et := uTc_un ht g4
          refine ⟨by rw [g2]; omega, ?_⟩
          rw [g7, ex, ey, et]
    by_cases ef : (u : Int) = f
    · refine ⟨y + 1, by rw [e67, if_pos ef, h1]; omega, ?_, fun t ht x hxl => ?_⟩
      · rcases id hz with ⟨g1, g2, g3⟩ | ⟨v, hv, g0, g1, g2, t2, y2, g4, g5, g6, g7⟩
        · omega
        · have ev : v = u := by omega
          subst ev
          have ey : y = y2 := by rw [h1] at g5; omega
          omega
      · rw [inF_add]
        by_cases hxo : x < F.1 (12 * s + (ρ 4 (uyL ρ 12)[u]).toNat)
        · rw [old t x hxo, h3 t ht x hxo, isz t x ht hxo]
          constructor
          · rintro (g | g)
            · omega
            · omega
          · intro g
            by_cases e : x = y
            · exact Or.inr ⟨ef, e⟩
            · exact Or.inl (by omega)
        · -- the new place of its own part: dearer than all
          have hx' := hxl
          rw [addF_h] at hx'
          have eq : 12 * s + (ρ 4 (uyL ρ 12)[u]).toNat = 12 * s + a ∧ x = F.1 (12 * s + a) := by
            split at hx'
            · next e => exact ⟨e, by rw [e] at hxo; omega⟩
            · omega
          have cost : (uC ρ (addF F (12 * s + a) z) s (uyL ρ 12)[u] t x).1 = ρ 6 (uyL ρ 12)[u] + z.1 := by
            show ρ 6 (uyL ρ 12)[u] + ((addF F (12 * s + a) z).2 (12 * s + (ρ 4 (uyL ρ 12)[u]).toNat) x).1 = _
            rw [addF_e, if_pos eq]
          have hy2 : y < F.1 (12 * s + (ρ 4 (uyL ρ 12)[u]).toNat) := by
            rcases id hz with ⟨g1, g2, g3⟩ | ⟨v, hv, g0, g1, g2, t2, y2, g4, g5, g6, g7⟩
            · omega
            · have ev : v = u := by omega
              subst ev
              have ey : y = y2 := by rw [h1] at g5; omega
              omega
          constructor
          · rintro (⟨k, hk, ek⟩ | ⟨-, ek⟩)
            · have l5 := hI1.2.2.2.2.1 (ρ 3 (uyL ρ 12)[u]).toNat (by omega) ⟨_, List.getElem_mem hu, by omega⟩ k (by have := (hx1 _ (hI.2.1 (ρ 3 (uyL ρ 12)[u]).toNat (by omega))).1; omega)
              rw [(hx1 _ (hI.2.1 (ρ 3 (uyL ρ 12)[u]).toNat (by omega))).2 k hk, ek, cost] at l5
              omega
            · rw [ek] at cost; omega
          · intro g; omega
    · refine ⟨y, by rw [e67, if_neg ef]; exact h1, by omega, fun t ht x hxl => ?_⟩
      rw [inF_add]
      by_cases hxo : x < F.1 (12 * s + (ρ 4 (uyL ρ 12)[u]).toNat)
      · rw [old t x hxo, h3 t ht x hxo, isz t x ht hxo]
        exact ⟨fun g => g.elim id (fun g => absurd g.1 ef), fun g => Or.inl g⟩
      · have hx' := hxl
        rw [addF_h] at hx'
        have eq : 12 * s + (ρ 4 (uyL ρ 12)[u]).toNat = 12 * s + a ∧ x = F.1 (12 * s + a) := by
          split at hx'
          · next e => exact ⟨e, by rw [e] at hxo; omega⟩
          · omega
        have cost : (uC ρ (addF F (12 * s + a) z) s (uyL ρ 12)[u] t x).1 = ρ 6 (uyL ρ 12)[u] + z.1 := by
          show ρ 6 (uyL ρ 12)[u] + ((addF F (12 * s + a) z).2 (12 * s + (ρ 4 (uyL ρ 12)[u]).toNat) x).1 = _
          rw [addF_e, if_pos eq]
        constructor
        · rintro (⟨k, hk, ek⟩ | ⟨-, ek⟩)
          · have l5 := hI1.2.2.2.2.1 (ρ 3 (uyL ρ 12)[u]).toNat (by omega) ⟨_, List.getElem_mem hu, by omega⟩ k (by have := (hx1 _ (hI.2.1 (ρ 3 (uyL ρ 12)[u]).toNat (by omega))).1; omega)
            rw [(hx1 _ (hI.2.1 (ρ 3 (uyL ρ 12)[u]).toNat (by omega))).2 k hk, ek, cost] at l5
            omega
          · rw [ek] at cost; omega
        · intro g; omega
  · intro b hb hWb
    obtain ⟨n2, L2, c2, b1, b2, b3, b4, b5, b6⟩ := hBT b hb hWb
    have bE : ∀ i, i < n2 → BEc ρ σ1 (12 * s + b) b i (L2 i) := fun i hi => by
      unfold BEc
      rw [e6 61 (by decide) (by decide), e6 62 (by decide) (by decide), e6 63 (by decide) (by decide)]
      exact b3 i hi
    have s64 : σ1 64 b = (n2 : Int) := by rw [e6 64 (by decide) (by decide)]; exact b2
    by_cases eb : b = a ∧ f = -1
    · obtain ⟨e1, e2⟩ := eb
      subst e1
      obtain ⟨a1, a2, a3, a4, a5, a6⟩ := id hB
      refine ⟨n, L, c + 1, a1, by rw [e6 64 (by decide) (by decide)]; exact a2, fun i hi => ?_, by rw [e65, if_pos ⟨rfl, e2⟩, a4]; omega, ?_, fun i hi => ?_⟩
      · unfold BEc
        rw [e6 61 (by decide) (by decide), e6 62 (by decide) (by decide), e6 63 (by decide) (by decide)]
        exact a3 i hi
      · rcases id hz with ⟨g1, g2, g3⟩ | ⟨v, hv, g0, g1, g2, -⟩
        · omega
        · omega
      · rcases id hz with ⟨g1, g2, g3⟩ | ⟨v, hv, g0, g1, g2, -⟩
        · rw [inF_add, a6 i hi]
          constructor
          · rintro (g | ⟨-, g⟩)
            · omega
            · rw [g3] at g
              rcases Nat.lt_trichotomy i c with h | h | h
              · omega
              · omega
              · have := a1.2.2.1 c i h hi
                rw [g] at this
                exact (ltE.irr this).elim
          · intro g
            by_cases e : i = c
            · exact Or.inr ⟨rfl, by rw [e, g3]⟩
            · exact Or.inl (by omega)
        · omega
    · refine ⟨n2, L2, c2, b1, s64, bE, by rw [e65, if_neg eb]; exact b4, b5, fun i hi => ?_⟩
      rw [inF_add, b6 i hi]
      refine ⟨fun g => g.elim id (fun g => ?_), Or.inl⟩
      exfalso
      obtain ⟨g1, g2⟩ := g
      have eab : b = a := by omega
      subst eab
      rcases id hz with ⟨h1, h2, h3⟩ | ⟨v, hv, h0, h1, h2, t2, y2, h4, h5, h6, h7⟩
      · exact eb ⟨rfl, h1⟩
      · have bb := (b1.2.1 i hi).2
        rw [g2, h7] at bb
        have ea2 : 12 * s + (ρ 3 (uyL ρ 12)[v]).toNat = 12 * s + b := by rw [h2]; omega
        have q := h4.2
        rw [ea2] at q
        refine bb ⟨?_, ?_⟩
        · show cm ρ (12 * s + b) t2 = -1
          unfold cm; rw [q]
        · show 0 ≤ cf ρ (12 * s + b) t2
          unfold cf; rw [q]; show (0 : Int) ≤ ((12 * s + (ρ 4 (uyL ρ 12)[v]).toNat : Nat) : Int); omega
