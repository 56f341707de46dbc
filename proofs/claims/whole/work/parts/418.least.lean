/-! a label's first tree that is left; the least of all -/
theorem inF_add {F : Fo} {q p : Nat} {z w : En} : inF (addF F q z) p w ↔ inF F p w ∨ (p = q ∧ w = z) := by
  constructor
  · rintro ⟨k, hk, e⟩
    rw [addF_h] at hk
    rw [addF_e] at e
    by_cases g : p = q ∧ k = F.1 q
    · rw [if_pos g] at e; exact Or.inr ⟨g.1, e.symm⟩
    · rw [if_neg g] at e
      refine Or.inl ⟨k, ?_, e⟩
      split at hk
      · next e2 =>
        have : k ≠ F.1 q := fun h => g ⟨e2, h⟩
        rw [e2]; omega
      · exact hk
  · rintro (⟨k, hk, e⟩ | ⟨rfl, rfl⟩)
    · have hx : ExD (fun _ => True) F (addF F q z) := addF_ex
      exact ⟨k, by have := (hx p trivial).1; omega, by rw [(hx p trivial).2 k hk]; exact e⟩
    · exact ⟨F.1 p, by rw [addF_h, if_pos rfl]; omega, by rw [addF_e, if_pos ⟨rfl, rfl⟩]⟩
theorem SgF.low {ρ : St} {F : Fo} {D : Nat → Prop} (hF : ClF ρ F D) {q qa : Nat} (hq : D q) (hne : q ≠ qa) (hl : ∀ t, t < (cI ρ q).length → (0 ≤ cf ρ q t → (cf ρ q t).toNat ≠ qa) ∧ (0 ≤ cg ρ q t → (cg ρ q t).toNat ≠ qa)) (h : SgF ρ F q) {z : En} : SgF ρ (addF F qa z) q := by
  have hx : ExD D F (addF F qa z) := addF_ex
  refine ⟨by rw [addF_h, if_neg hne]; exact h.1, fun w hw => ?_⟩
  have cw := addF_old (hl w.2.1 hw.1).1 (hl w.2.1 hw.1).2 hw
  rcases h.2 w cw with g | g
  · exact Or.inl (inF_add.2 (Or.inl g))
  · refine Or.inr (fun k hk => ?_)
    rw [addF_h, if_neg hne] at hk
    rw [addF_e, if_neg (fun e => hne e.1)]
    exact (hx.lt hF hq ((hF q hq).1 k hk).1 cw).1 (g k hk)
section HEAD
variable {ρ σ : St} {F0 F : Fo} {D : Nat → Prop} {s : Nat} {M : Int} (hg : Wg ρ) (hL : LL ρ < 9) (hs : s < spN (LL ρ)) (hW : GRW ρ σ F0 F D s M)
theorem hd_base (hW : GRW ρ σ F0 F D s M) (hg : Wg ρ) (hL : LL ρ < 9) (hs : s < spN (LL ρ)) {a : Nat} (ha : a < 12) {z : En} : BaseC ρ F0 (12 * s + a) z ↔ BaseC ρ F (12 * s + a) z := by
  obtain ⟨-, -, -, -, -, -, hlow, -⟩ := hW
  constructor
  · rintro ⟨h1, h2⟩
    have b := base_low hg hL ha hs h1.1 h2
    exact ⟨(hlow.cand (fun h => by have := b.1 h; omega) (fun h => by have := b.2 h; omega)).2 h1, h2⟩
  · rintro ⟨h1, h2⟩
    have b := base_low hg hL ha hs h1.1 h2
    exact ⟨(hlow.cand (fun h => by have := b.1 h; omega) (fun h => by have := b.2 h; omega)).1 h1, h2⟩
theorem hd_lt (hW : GRW ρ σ F0 F D s M) {a : Nat} (ha : a < 12) {z w : En} (hz : BaseC ρ F0 (12 * s + a) z) (hw : BaseC ρ F0 (12 * s + a) w) : ltE ρ F0 (12 * s + a) z w ↔ ltE ρ F (12 * s + a) z w := by
  obtain ⟨-, hI, -, -, hF0, hx, -⟩ := hW
  exact hx.lt hF0 (hI.2.1 a ha) hz.1 hw.1
theorem hd_ok (hW : GRW ρ σ F0 F D s M) (hg : Wg ρ) (hL : LL ρ < 9) (hs : s < spN (LL ρ)) {a n c u : Nat} {L : Nat → En} (ha : a < 12) (hB : BTk ρ σ F0 F s a n L c) {f : Int} {z : En} (h : HdP ρ σ F s a n L c u f z) : CandE ρ F (12 * s + a) z ∧ ¬ inF F (12 * s + a) z ∧ z.2.2.1 < 16 ∧ z.2.2.2 < 16 := by
  rcases h with ⟨-, h1, rfl⟩ | ⟨v, hv, -, -, h3, t, y, h4, h5, h6, rfl⟩
  · refine ⟨((hd_base hW hg hL hs ha).1 (hB.1.2.1 c h1)).1, fun q => ?_, (hB.2.2.1 c h1).2.2.2⟩
    have := (hB.2.2.2.2.2 c h1).1 q; omega
  · have ea : 12 * s + (ρ 3 (uyL ρ 12)[v]).toNat = 12 * s + a := by rw [h3]; omega
    have cz := uC_cand h4 h6
    rw [ea] at cz
    obtain ⟨y2, e1, e2, e3⟩ := hW.2.2.2.2.2.2.2.2.1 v hv
    have ey : y = y2 := by rw [h5] at e1; omega
    subst ey
    have u := uy_info hg (List.getElem_mem hv)
    refine ⟨cz, fun q => ?_, ?_, by show (0 : Nat) < 16; decide⟩
    · have := e3 t h4 y h6
      rw [ea] at this
      have := this.1 q; omega
    · show y < 16
      have := hW.2.1.2.2.1 (ρ 4 (uyL ρ 12)[v]).toNat (by omega)
      omega
/-- two heads are of different cases -/
theorem hd_ne (hW : GRW ρ σ F0 F D s M) (hg : Wg ρ) (hL : LL ρ < 9) (hs : s < spN (LL ρ)) {a n c u u2 : Nat} {L : Nat → En} (ha : a < 12) (hB : BTk ρ σ F0 F s a n L c) {f f2 : Int} {z w : En} (h : HdP ρ σ F s a n L c u f z) (h2 : HdP ρ σ F s a n L c u2 f2 w) (e : z.2.1 = w.2.1) : f = f2 ∧ z = w := by
  have key : ∀ (v : Nat) (hv : v < (uyL ρ 12).length) (t : Nat), ρ 3 (uyL ρ 12)[v] = (a : Int) → uTc ρ s (uyL ρ 12)[v] t → cm ρ (12 * s + a) t = -1 ∧ 0 ≤ cf ρ (12 * s + a) t ∧ (cq ρ (12 * s + a) t).1 = (((uyL ρ 12)[v] : Nat) : Int) := by
    intro v hv t h3 h4
    have ea : 12 * s + (ρ 3 (uyL ρ 12)[v]).toNat = 12 * s + a := by rw [h3]; omega
    have q := h4.2
    rw [ea] at q
    unfold cm cf
    rw [q]
    exact ⟨rfl, by show (0 : Int) ≤ ((12 * s + (ρ 4 (uyL ρ 12)[v]).toNat : Nat) : Int); omega, rfl⟩
  rcases h with ⟨h0, h1, h3⟩ | ⟨v, hv, -, h0, h3, t, y, h4, h5, h6, h7⟩
  · rcases h2 with ⟨g0, g1, g3⟩ | ⟨v2, hv2, -, g0, g3, t2, y2, g4, g5, g6, g7⟩
    · exact ⟨h0.trans g0.symm, h3.trans g3.symm⟩
    · have b := (hB.1.2.1 c h1).2
      have k := key v2 hv2 t2 g3 g4
      rw [h3, g7] at e
      rw [show (L c).2.1 = t2 from e] at b
      exact absurd ⟨k.1, k.2.1⟩ b
  · rcases h2 with ⟨g0, g1, g3⟩ | ⟨v2, hv2, -, g0, g3, t2, y2, g4, g5, g6, g7⟩
    · have b := (hB.1.2.1 c g1).2
      have k := key v hv t h3 h4
      rw [h7, g3] at e
      rw [show (L c).2.1 = t from e.symm] at b
      exact absurd ⟨k.1, k.2.1⟩ b
    · rw [h7, g7] at e
      have et : t = t2 := e
      subst et
      have k := (key v hv t h3 h4).2.2
      have k2 := (key v2 hv2 t g3 g4).2.2
      have er : (uyL ρ 12)[v] = (uyL ρ 12)[v2] := by omega
      have ev := uy_nodup hg hv hv2 er
      subst ev
      have ey : y = y2 := by rw [h5] at g5; omega
      subst ey
      exact ⟨h0.trans g0.symm, h7.trans g7.symm⟩
/-- what is left has a head that is no dearer -/
theorem hd_all (hW : GRW ρ σ F0 F D s M) (hg : Wg ρ) (hL : LL ρ < 9) (hs : s < spN (LL ρ)) {a n c : Nat} {L : Nat → En} (ha : a < 12) (h16 : F.1 (12 * s + a) < 16) (hB : BTk ρ σ F0 F s a n L c) {w : En} (hw : CandE ρ F (12 * s + a) w) (hn : ¬ inF F (12 * s + a) w) : ∃ f z, HdP ρ σ F s a n L c (uyL ρ 12).length f z ∧ (w = z ∨ ltE ρ F (12 * s + a) z w) := by
  obtain ⟨hT, h64, hE, h65, hcn, hin⟩ := id hB
  by_cases hu : cm ρ (12 * s + a) w.2.1 = -1 ∧ 0 ≤ cf ρ (12 * s + a) w.2.1
  · obtain ⟨r, hr, h3, ht, -⟩ := uTc_of hg hL ha hs hw.1 hu
    obtain ⟨v, hv, e⟩ := List.getElem_of_mem hr
    subst e
    have ea : 12 * s + (ρ 3 (uyL ρ 12)[v]).toNat = 12 * s + a := by rw [h3]; omega
    obtain ⟨y, e1, e2, e3⟩ := hW.2.2.2.2.2.2.2.2.1 v hv
    have hu2 := uC_of (F := F) (w := w) ht (by rw [ea]; exact hw)
    have q := e3 w.2.1 ht w.2.2.1 hu2.1
    rw [← hu2.2, ea] at q
    have hyx : y ≤ w.2.2.1 := by
      refine Classical.byContradiction fun g => hn (q.2 (by omega))
    have hy : y < F.1 (12 * s + (ρ 4 (uyL ρ 12)[v]).toNat) := by omega
    refine ⟨(v : Int), uC ρ F s (uyL ρ 12)[v] w.2.1 y, Or.inr ⟨v, hv, hv, rfl, h3, w.2.1, y, ht, e1, hy, rfl⟩, ?_⟩
    by_cases e : y = w.2.2.1
    · left; rw [e]; exact hu2.2
    · right
      have c1 := uC_cand (F := F) ht hy
      have c2 := hw
      rw [ea] at c1
      rw [hu2.2] at c2 ⊢
      exact hW.2.1.1.up1 (hW.2.1.2.1 a ha) c1 c2 (by omega)
  · have bw : BaseC ρ F0 (12 * s + a) w := (hd_base hW hg hL hs ha).2 ⟨hw, hu⟩
    have lt : ∀ i, i < n → ltE ρ F0 (12 * s + a) (L i) w → ltE ρ F (12 * s + a) (L i) w := fun i hi g => (hd_lt hW ha (hT.2.1 i hi) bw).1 g
    rcases hT.2.2.2 w bw with ⟨i, hi, e⟩ | ⟨e, g⟩
    · have hic : c ≤ i := Classical.byContradiction fun g => hn (by rw [← e]; exact (hin i hi).2 (by omega))
      refine ⟨-1, L c, Or.inl ⟨rfl, by omega, rfl⟩, ?_⟩
      by_cases e2 : i = c
      · left; rw [← e, e2]
      · right
        rw [← e]
        exact (hd_lt hW ha (hT.2.1 c (by omega)) (hT.2.1 i hi)).1 (hT.2.2.1 c i (by omega) hi)
    · have hc16 : c < n := by
        refine Classical.byContradiction fun hh => ?_
        -- all sixteen are taken: no room
        have hc : c = 16 := by omega
        have inj : ∀ i, i < 16 → ∃ k, k < F.1 (12 * s + a) ∧ F.2 (12 * s + a) k = L i := fun i hi => (hin i (by omega)).2 (by omega)
        have pos : ∀ i, i < 16 → ∀ k, k < F.1 (12 * s + a) → F.2 (12 * s + a) k = L i → i ≤ k := by
          intro i
          induction i with
          | zero => intro _ k _ _; omega
          | succ i ihi =>
            intro hi k hk ek
            obtain ⟨k2, hk2, ek2⟩ := inj i (by omega)
            have l1 : ltE ρ F (12 * s + a) (L i) (L (i + 1)) := (hd_lt hW ha (hT.2.1 i (by omega)) (hT.2.1 (i + 1) (by omega))).1 (hT.2.2.1 i (i + 1) (by omega) (by omega))
            have := ihi (by omega) k2 hk2 ek2
            rcases Nat.lt_trichotomy k2 k with g1 | g1 | g1
            · omega
            · subst g1; rw [ek] at ek2; rw [ek2] at l1; exact (ltE.irr l1).elim
            · have := (hW.2.1.1 _ (hW.2.1.2.1 a ha)).2.1 k k2 g1 hk2
              rw [ek, ek2] at this
              exact (ltE.irr (l1.tr this)).elim
        obtain ⟨k, hk, ek⟩ := inj 15 (by omega)
        have := pos 15 (by omega) k hk ek
        omega
      exact ⟨-1, L c, Or.inl ⟨rfl, hc16, rfl⟩, Or.inr (lt c hc16 (g c (by omega)))⟩
end HEAD
theorem c_findHead {ρ σ : St} (hg : Wg ρ) (hL : LL ρ < 9) {F0 F : Fo} {D : Nat → Prop} {s : Nat} {M : Int} (hs : s < spN (LL ρ)) (hW : GRW ρ σ F0 F D s M) {a n c : Nat} {L : Nat → En} (ha : a < 12) (hB : BTk ρ σ F0 F s a n L c) {Q : Int → St → Prop} (hq : ∀ σ1, (∀ k, k ≠ 54 → σ1 k = σ k) → ((σ1 54 16 = -1 ∧ ∀ f z, ¬ HdP ρ σ F s a n L c (uyL ρ 12).length f z) ∨ ∃ f z, HdP ρ σ F s a n L c (uyL ρ 12).length f z ∧ σ1 54 16 = z.1 ∧ σ1 54 17 = f ∧ ∀ f2 w, HdP ρ σ F s a n L c (uyL ρ 12).length f2 w → w = z ∨ ltE ρ F (12 * s + a) z w) → Q 0 σ1) : wp_X3_findHead ((12 * s : Nat) : Int) (a : Int) σ Q := by
  have q3 := sp_3 _ hL
  have hul : (uyL ρ 12).length ≤ 40 := Nat.le_trans (uyL_le 12) (liL_40 hg)
  obtain ⟨hT, h64, hE, h65, hcn, hin⟩ := id hB
  obtain ⟨hG, hI, hD, hSg, hF0, hx, hlow, hUC, hUT, -⟩ := id hW
  have hF := hI.1
  have dq := hI.2.1 a ha
  have h40 := hg.2.1
  have ub : ∀ q k, D q → k < F.1 q → (F.2 q k).1 ≤ 35640 := fun q k hq hk => ub_of hg hL hF hSg hD hq hk
  have z1 : ∀ u f z, HdP ρ σ F s a n L c u f z → 1 ≤ z.1 := fun u f z h => (hF.sub dq (hd_ok hW hg hL hs ha hB h).1).1
  have lp : ∀ (d u : Nat) (x3 : Int) (σ' : St) (m : Nat), u + d = (uyL ρ 12).length → d < m → (∀ k, k ≠ 54 → σ' k = σ k) → ((σ' 54 16 = -1 ∧ ∀ f z, ¬ HdP ρ σ F s a n L c u f z) ∨ ∃ f z, HdP ρ σ F s a n L c u f z ∧ σ' 54 16 = z.1 ∧ σ' 54 17 = f ∧ x3 = (((PL ρ (12 * s + a)).length + z.2.1 : Nat) : Int) ∧ ∀ f2 w, HdP ρ σ F s a n L c u f2 w → w = z ∨ ltE ρ F (12 * s + a) z w) → wp_X3_findHead_l62 Q m ((12 * s : Nat) : Int) (a : Int) x3 (u : Int) σ' := by
    intro d
    induction d with
    | zero =>
      intro u x3 σ' m hd hm hk h
      obtain ⟨m, rfl⟩ := suc_n hm
      unfold wp_X3_findHead_l62
      rw [hk 24 (by decide), hG.1.1.1.2.2.1.2.2.2.1]
      refine ⟨fun _ => hq σ' hk ?_, fun h => absurd (by omega) h⟩
      have eu : u = (uyL ρ 12).length := by omega
      subst eu
      rcases h with h | ⟨f, z, h1, h2, h3, h4, h5⟩
      · exact Or.inl h
      · exact Or.inr ⟨f, z, h1, h2, h3, h5⟩
    | succ d ih =>
      intro u x3 σ' m hd hm hk h
      obtain ⟨m, rfl⟩ := suc_n hm
      have hu : u < (uyL ρ 12).length := by omega
      have e33 : σ 33 u = (((uyL ρ 12)[u] : Nat) : Int) := hG.1.1.1.2.2.1.2.2.2.2 u hu
      obtain ⟨u1, u2, u3, u4, u5, u6⟩ := uy_info hg (List.getElem_mem hu)
      obtain ⟨t, ht, e66⟩ := hUC u hu
      obtain ⟨y, e67, hy, -⟩ := hUT u hu
      obtain ⟨k1, k2, k3, k4, k5, k6⟩ := hG.1.1.1.2.2.1.1.2 (uyL ρ 12)[u] u1
      have hpD := hI.2.1 (ρ 4 (uyL ρ 12)[u]).toNat (by omega)
      obtain ⟨r1, r2, r3, r4⟩ := hG.2.1 _ hpD
      unfold wp_X3_findHead_l62 wp_X3_findHead_b186 wp_X3_findHead_b187 wp_X3_findHead_b211 wp_X3_findHead_b231
      rw [hk 24 (by decide), hG.1.1.1.2.2.1.2.2.2.1, Int.toNat_natCast, hk 33 (by decide), e33]
      refine ⟨fun h => absurd h (by omega), fun _ => ⟨by omega, fun v6 e6 => ⟨by omega, fun v7 e7 => ?_⟩⟩⟩
      subst e6
      rw [Int.toNat_natCast, hk 16 (by decide), k2, w32_of (by omega) (by omega), show ((12 * s : Nat) : Int) + ρ 4 (uyL ρ 12)[u] = ((12 * s + (ρ 4 (uyL ρ 12)[u]).toNat : Nat) : Int) by omega] at e7
      subst e7
      rw [Int.toNat_natCast, hk 15 (by decide), k1, hk 67 (by decide), e67, Int.toNat_natCast, hk 59 (by decide), r3, hk 18 (by decide), k4, hk 66 (by decide), e66, w32_of (x := (u : Int) + 1) (by omega) (by omega), show (u : Int) + 1 = ((u + 1 : Nat) : Int) by omega]
      -- no new head
      have skip : (∀ f z, HdP ρ σ F s a n L c (u + 1) f z → HdP ρ σ F s a n L c u f z) → ∀ v9 : Int, v9 = ((u + 1 : Nat) : Int) → wp_X3_findHead_l62 Q m ((12 * s : Nat) : Int) (a : Int) x3 v9 σ' := by
        intro hb v9 e9
        rw [e9]
        refine ih (u + 1) x3 σ' m (by omega) (by omega) hk ?_
        rcases h with ⟨h1, h2⟩ | ⟨f, z, h1, h2, h3, h4, h5⟩
        · exact Or.inl ⟨h1, fun f z g => h2 f z (hb f z g)⟩
        · exact Or.inr ⟨f, z, h1.up (by omega), h2, h3, h4, fun f2 w g => h5 f2 w (hb f2 w g)⟩
      have back : (∀ z, ¬ HdP ρ σ F s a n L c (u + 1) (u : Int) z) → ∀ f z, HdP ρ σ F s a n L c (u + 1) f z → HdP ρ σ F s a n L c u f z := by
        intro hb f z g
        rcases id g with g1 | ⟨v, hv, g1, g2, g3⟩
        · exact Or.inl g1
        · by_cases e : v = u
          · rw [g2, e] at g; exact absurd g (hb z)
          · exact Or.inr ⟨v, hv, by omega, g2, g3⟩
      refine ⟨by omega, fun hne => skip (back (fun z g => ?_)), fun hhd => ⟨by omega, by omega, fun hge => skip (back (fun z g => ?_)), fun hlt => ⟨by omega, by omega, ?_⟩⟩⟩
      · rcases g with ⟨g, -⟩ | ⟨v, hv, -, g2, g3, -⟩
        · omega
        · have : v = u := by omega
          subst this
          exact hne g3
      · rcases g with ⟨g, -⟩ | ⟨v, hv, -, g2, g3, t2, y2, -, g5, g6, -⟩
        · omega
        · have : v = u := by omega
          subst this
          rw [e67] at g5; omega
      · have hyl : y < F.1 (12 * s + (ρ 4 (uyL ρ 12)[u]).toNat) := by omega
        have h3 : ρ 3 (uyL ρ 12)[u] = (a : Int) := Classical.byContradiction fun w => hhd w
        have ea : 12 * s + (ρ 3 (uyL ρ 12)[u]).toNat = 12 * s + a := by rw [h3]; omega
        rw [ea] at e66 ⊢
        have ei : w32 (w32 (((12 * s + (ρ 4 (uyL ρ 12)[u]).toNat : Nat) : Int) * 16) + (y : Int)) = ((16 * (12 * s + (ρ 4 (uyL ρ 12)[u]).toNat) + y : Nat) : Int) := by
          rw [w32_of (x := ((12 * s + (ρ 4 (uyL ρ 12)[u]).toNat : Nat) : Int) * 16) (by omega) (by omega), w32_of (by omega) (by omega)]; push_cast; omega
        have cst := (r4 y hyl).1
        have cub := ub _ y hpD hyl
        have c1b := ((hF _ hpD).1 y hyl).2
        rw [ei, Int.toNat_natCast, hk 55 (by decide), cst, w32_of (by omega) (by omega)]
        have hz : HdP ρ σ F s a n L c (u + 1) (u : Int) (uC ρ F s (uyL ρ 12)[u] t y) := Or.inr ⟨u, hu, by omega, rfl, h3, t, y, ht, e67, hyl, rfl⟩
        have all : ∀ f w, HdP ρ σ F s a n L c (u + 1) f w → HdP ρ σ F s a n L c u f w ∨ w = uC ρ F s (uyL ρ 12)[u] t y := by
          intro f w g
          rcases id g with g1 | ⟨v, hv, g1, g2, g3⟩
          · exact Or.inl (Or.inl g1)
          · by_cases e : v = u
            · right
              subst e
              obtain ⟨-, t2, y2, g4, g5, g6, g7⟩ := g3
              have := uTc_un ht g4
              have e2 : y = y2 := by rw [e67] at g5; omega
              rw [g7, ← this, ← e2]
            · exact Or.inl (Or.inr ⟨v, hv, by omega, g2, g3⟩)
        generalize hzz : uC ρ F s (uyL ρ 12)[u] t y = z at *
        have hz1 : z.1 = ρ 6 (uyL ρ 12)[u] + (F.2 (12 * s + (ρ 4 (uyL ρ 12)[u]).toNat) y).1 := by rw [← hzz]; rfl
        have hzt : z.2.1 = t := by rw [← hzz]; rfl
        rw [← hz1]
        refine ⟨by omega, fun v8 e8 => ?_⟩
        subst e8
        -- the new head is taken
        have new : (∀ f w, HdP ρ σ F s a n L c u f w → ltE ρ F (12 * s + a) z w) → ∀ σ10 : St, σ10 = upS σ' 54 16 z.1 → ∀ σ11 : St, σ11 = upS σ10 54 17 (u : Int) → (0 ≤ (u : Int) ∧ (u : Int) < 40) ∧ ∀ v12 : Int, v12 = σ11 66 u → ∀ v9 : Int, v9 = ((u + 1 : Nat) : Int) → wp_X3_findHead_l62 Q m ((12 * s : Nat) : Int) (a : Int) v12 v9 σ11 := by
          intro hb σ10 e10 σ11 e11
          refine ⟨by omega, fun v12 e12 v9 e9 => ?_⟩
          rw [e9]
          refine ih (u + 1) v12 σ11 m (by omega) (by omega) (fun k hk2 => by rw [e11, upS_k hk2, e10, upS_k hk2]; exact hk k hk2) (Or.inr ⟨(u : Int), z, hz, ?_, ?_, ?_, fun f2 w g => ?_⟩)
          · rw [e11, upS_j (by decide), e10, upS_s]
          · rw [e11, upS_s]
          · rw [e12, e11, upS_k (by decide), e10, upS_k (by decide), hk 66 (by decide), e66, hzt]
          · rcases all f2 w g with g1 | g1
            · exact Or.inr (hb f2 w g1)
            · exact Or.inl g1
        have old : (∀ f w, HdP ρ σ F s a n L c u f w → (∀ f2 w2, HdP ρ σ F s a n L c u f2 w2 → w2 = w ∨ ltE ρ F (12 * s + a) w w2) → σ' 54 16 = w.1 → x3 = (((PL ρ (12 * s + a)).length + w.2.1 : Nat) : Int) → ltE ρ F (12 * s + a) w z) → σ' 54 16 ≠ -1 → ∀ v9 : Int, v9 = ((u + 1 : Nat) : Int) → wp_X3_findHead_l62 Q m ((12 * s : Nat) : Int) (a : Int) x3 v9 σ' := by
          intro hb hn v9 e9
          rw [e9]
          rcases h with ⟨h1, h2⟩ | ⟨f, w, h1, h2, h3', h4, h5⟩
          · exact absurd h1 hn
          · refine ih (u + 1) x3 σ' m (by omega) (by omega) hk (Or.inr ⟨f, w, h1.up (by omega), h2, h3', h4, fun f2 w2 g => ?_⟩)
            rcases all f2 w2 g with g1 | g1
            · exact h5 f2 w2 g1
            · rw [g1]; exact Or.inr (hb f w h1 h5 h2 h4)
        have tne : ∀ f w, HdP ρ σ F s a n L c u f w → w.2.1 ≠ z.2.1 := fun f w g e => by
          have r := hd_ne hW hg hL hs ha hB g hz e
          rw [r.1] at g
          rcases g with ⟨g, -⟩ | ⟨v, hv, g1, g2, -⟩
          · omega
          · omega
        have cond : ∀ (s0 : Int), (s0 = 0 → ¬ (z.1 = σ' 54 16 ∧ (((PL ρ (12 * s + a)).length + t : Nat) : Int) < x3)) → (s0 ≠ 0 → z.1 = σ' 54 16 ∧ (((PL ρ (12 * s + a)).length + t : Nat) : Int) < x3) → ((σ' 54 16 = (-1)) → ∀ σ10 : St, σ10 = upS σ' 54 16 z.1 → ∀ σ11 : St, σ11 = upS σ10 54 17 (u : Int) → (0 ≤ (u : Int) ∧ (u : Int) < 40) ∧ ∀ v12 : Int, v12 = σ11 66 u → ∀ v9 : Int, v9 = ((u + 1 : Nat) : Int) → wp_X3_findHead_l62 Q m ((12 * s : Nat) : Int) (a : Int) v12 v9 σ11) ∧ (¬ (σ' 54 16 = (-1)) → ((z.1 < σ' 54 16) → ∀ σ10 : St, σ10 = upS σ' 54 16 z.1 → ∀ σ11 : St, σ11 = upS σ10 54 17 (u : Int) → (0 ≤ (u : Int) ∧ (u : Int) < 40) ∧ ∀ v12 : Int, v12 = σ11 66 u → ∀ v9 : Int, v9 = ((u + 1 : Nat) : Int) → wp_X3_findHead_l62 Q m ((12 * s : Nat) : Int) (a : Int) v12 v9 σ11) ∧ (¬ (z.1 < σ' 54 16) → ((s0 = 0) → ∀ v9 : Int, v9 = ((u + 1 : Nat) : Int) → wp_X3_findHead_l62 Q m ((12 * s : Nat) : Int) (a : Int) x3 v9 σ') ∧ (¬ (s0 = 0) → ∀ σ10 : St, σ10 = upS σ' 54 16 z.1 → ∀ σ11 : St, σ11 = upS σ10 54 17 (u : Int) → (0 ≤ (u : Int) ∧ (u : Int) < 40) ∧ ∀ v12 : Int, v12 = σ11 66 u → ∀ v9 : Int, v9 = ((u + 1 : Nat) : Int) → wp_X3_findHead_l62 Q m ((12 * s : Nat) : Int) (a : Int) v12 v9 σ11))) := by
          intro s0 hs0 hs1
          refine ⟨fun hm1 => new (fun f w g => ?_), fun hm1 => ⟨fun hl => new (fun f w g => ?_), fun hl => ⟨fun h0 => old (fun f w g g2 g3 g4 => ?_) hm1, fun h0 => new (fun f w g => ?_)⟩⟩⟩
          · rcases h with ⟨h1, h2⟩ | ⟨f2, w2, h1, h2, -⟩
            · exact absurd g (h2 f w)
            · have := z1 _ _ _ h1; omega
          · rcases h with ⟨h1, h2⟩ | ⟨f2, w2, h1, h2, -, -, h5⟩
            · exact absurd g (h2 f w)
            · rw [h2] at hl
              rcases h5 f w g with e | e
              · rw [e]; exact Or.inl hl
              · exact Or.inl (by have := e.le; omega)
          · have c0 := hs0 h0
            have tn := tne f w g
            rw [g3] at hl c0
            rw [g4] at c0
            by_cases e : z.1 = w.1
            · exact Or.inr ⟨e.symm, Or.inl (by omega)⟩
            · exact Or.inl (by omega)
          · have c1 := hs1 h0
            rcases h with ⟨h1, h2⟩ | ⟨f2, w2, h1, h2, -, h4, h5⟩
            · exact absurd g (h2 f w)
            · rw [h2] at c1
              rw [h4] at c1
              have l1 : ltE ρ F (12 * s + a) z w2 := Or.inr ⟨c1.1, Or.inl (by omega)⟩
              rcases h5 f w g with e | e
              · rw [e]; exact l1
              · exact l1.tr e
        refine ⟨fun hne => cond 0 (fun _ q => hne q.1) (fun q => absurd rfl q), fun heq => ⟨by omega, fun hge => cond 0 (fun _ q => by omega) (fun q => absurd rfl q), fun hlt2 => cond 1 (fun q => absurd q (by decide)) (fun _ => ⟨by omega, by omega⟩)⟩⟩
  unfold wp_X3_findHead wp_X3_findHead_b59
  intro σ1 e1 σ2 e2
  have kk : ∀ k, k ≠ 54 → σ2 k = σ k := fun k hk => by rw [e2, upS_k hk, e1, upS_k hk]
  rw [Int.toNat_natCast, kk 65 (by decide), kk 64 (by decide), h65, h64]
  refine ⟨by omega, by omega, fun hge => ?_, fun hlt => ⟨by omega, fun v3 e3 => ?_⟩⟩
  · refine lp (uyL ρ 12).length 0 (-1) σ2 bigN (by omega) (by unfold bigN; omega) kk (Or.inl ⟨by rw [e2, upS_j (by decide), e1, upS_s], fun f z g => ?_⟩)
    rcases g with ⟨-, g, -⟩ | ⟨v, hv, g, -⟩
    · omega
    · omega
  · rw [w32_of (x := (a : Int) * 16) (by omega) (by omega), w32_of (by have := hT.1; omega) (by have := hT.1; omega), show (a : Int) * 16 + (c : Int) = ((16 * a + c : Nat) : Int) by push_cast; omega] at e3
    subst e3
    have n16 := hT.1
    rw [Int.toNat_natCast]
    refine ⟨by omega, fun σ4 e4 => ⟨by omega, fun v5 e5 => ?_⟩⟩
    obtain ⟨b1, b2, b3, b4⟩ := hE c (by omega)
    have k4 : ∀ k, k ≠ 54 → σ4 k = σ k := fun k hk => by rw [e4, upS_k hk]; exact kk k hk
    rw [kk 61 (by decide), b1] at e4
    rw [k4 62 (by decide), b2] at e5
    refine lp (uyL ρ 12).length 0 v5 σ4 bigN (by omega) (by unfold bigN; omega) k4 (Or.inr ⟨-1, L c, Or.inl ⟨rfl, by omega, rfl⟩, by rw [e4, upS_s], by rw [e4, upS_j (by decide), e2, upS_s], e5, fun f2 w g => ?_⟩)
    rcases g with ⟨-, -, g⟩ | ⟨v, hv, g, -⟩
    · exact Or.inl g
    · omega
