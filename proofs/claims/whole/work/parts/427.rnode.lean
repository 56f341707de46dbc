/-! the reference's nodes: what they mean; which of two comes first -/
def iR (ρ : St) (q : Nat) : Nat := 64 * (q % 12) + 8 * spB (LL ρ) (q / 12) + spF (LL ρ) (q / 12) - 1
theorem iR_it {ρ : St} (hL : LL ρ < 9) {q : Nat} (hq : q < 12 * spN (LL ρ)) : iR ρ q < 768 ∧ it ((q % 12 : Nat) : Int) (spB (LL ρ) (q / 12) : Nat) (spF (LL ρ) (q / 12) : Nat) = (iR ρ q : Int) := by
  have s := sp_s hL (show q / 12 < spN (LL ρ) by omega)
  unfold iR it
  omega
theorem iR_inj {ρ : St} (hL : LL ρ < 9) {q p : Nat} (hq : q < 12 * spN (LL ρ)) (hp : p < 12 * spN (LL ρ)) (h : iR ρ q = iR ρ p) : q = p := by
  have s := sp_s hL (show q / 12 < spN (LL ρ) by omega)
  have u := sp_s hL (show p / 12 < spN (LL ρ) by omega)
  unfold iR at h
  have h1 : q % 12 = p % 12 := by
    have a : (64 * (q % 12) + 8 * spB (LL ρ) (q / 12) + spF (LL ρ) (q / 12) - 1) / 64 = q % 12 := by omega
    have b : (64 * (p % 12) + 8 * spB (LL ρ) (p / 12) + spF (LL ρ) (p / 12) - 1) / 64 = p % 12 := by omega
    rw [h, b] at a; exact a.symm
  have h2 : spB (LL ρ) (q / 12) = spB (LL ρ) (p / 12) := by omega
  have h3 : spF (LL ρ) (q / 12) = spF (LL ρ) (p / 12) := by omega
  have : q / 12 = p / 12 := by rw [← s.2.2, ← u.2.2, h2, h3]
  omega
def lnT (ρ : St) (F : Fo) (q k : Nat) : Nat := sN ρ F (F.2 q k).1.toNat q k
def dE (ρ : St) (F : Fo) : Nat → Nat → Nat → Nat
  | 0, _, _ => 0
  | n + 1, q, k => 1 + max (if cf ρ q (F.2 q k).2.1 < 0 then 0 else dE ρ F n (cf ρ q (F.2 q k).2.1).toNat (F.2 q k).2.2.1) (if cg ρ q (F.2 q k).2.1 < 0 then 0 else dE ρ F n (cg ρ q (F.2 q k).2.1).toNat (F.2 q k).2.2.2)
def dpT (ρ : St) (F : Fo) (q k : Nat) : Nat := dE ρ F (F.2 q k).1.toNat q k
def stP (ρ : St) (F : Fo) (p : Int) (x : Nat) : Nat := if p < 0 then 0 else lnT ρ F p.toNat x
def dpP (ρ : St) (F : Fo) (p : Int) (x : Nat) : Nat := if p < 0 then 0 else dpT ρ F p.toNat x
def stC (ρ : St) (F : Fo) (q : Nat) (z : En) : Nat := 1 + stP ρ F (cf ρ q z.2.1) z.2.2.1 + stP ρ F (cg ρ q z.2.1) z.2.2.2
def dpC (ρ : St) (F : Fo) (q : Nat) (z : En) : Nat := 1 + max (dpP ρ F (cf ρ q z.2.1) z.2.2.1) (dpP ρ F (cg ρ q z.2.1) z.2.2.2)
theorem lnT_len {ρ : St} {F : Fo} {q k d : Nat} : (PTr ρ F q k d).length = lnT ρ F q k := pT_len _ q k d
theorem lnT_eq {ρ : St} {F : Fo} {D : Nat → Prop} (hF : ClF ρ F D) {q k : Nat} (hq : D q) (hk : k < F.1 q) : lnT ρ F q k = stC ρ F q (F.2 q k) := by
  have h := congrArg List.length (PTr_eq hF (d := 1) hq hk)
  rw [lnT_len, List.length_cons, List.length_append] at h
  have a : ∀ p x d, (PTq ρ F p x d).length = stP ρ F p x := fun p x d => by
    unfold PTq stP
    split
    · rfl
    · exact lnT_len
  rw [a, a] at h
  unfold stC; omega
theorem mx_dE {ρ : St} {F : Fo} {D : Nat → Prop} (hF : ClF ρ F D) : ∀ (n q k d : Nat), D q → k < F.1 q → (F.2 q k).1.toNat ≤ n → mxS (pT ρ F n q k (d + 1)) = d + dE ρ F n q k
  | 0, q, k, d, hq, hk, h1 => by have := ((hF q hq).1 k hk).2; omega
  | n + 1, q, k, d, hq, hk, h1 => by
    have cz := ((hF q hq).1 k hk).1
    have sub := hF.sub hq cz
    obtain ⟨z1, z2, z3, z4⟩ := cz
    obtain ⟨a1, a2, a3⟩ := (hF q hq).2.2 _ z1
    have part : ∀ (p : Int) (x : Nat), (0 ≤ p → D p.toNat) → x < hsF F p → scF F p x < (F.2 q k).1 → mxS (if p < 0 then [] else pT ρ F n p.toNat x (d + 1 + 1)) = if p < 0 then 0 else d + 1 + dE ρ F n p.toNat x := by
      intro p x hp hx hlt
      by_cases h0 : p < 0
      · rw [if_pos h0, if_pos h0]; rfl
      · rw [if_neg h0, if_neg h0]
        rw [hsF_pos (by omega)] at hx
        rw [scF_pos (by omega)] at hlt
        exact mx_dE hF n _ x (d + 1) (hp (by omega)) hx (by omega)
    have A := part _ _ a1 z2 sub.2.1
    have B := part _ _ a2 z3 sub.2.2
    unfold pT dE
    show max (d + 1) (mxS (_ ++ _)) = _
    rw [mxS_app, A, B]
    by_cases c1 : cf ρ q (F.2 q k).2.1 < 0
    · rw [if_pos c1, if_pos c1]
      by_cases c2 : cg ρ q (F.2 q k).2.1 < 0
      · rw [if_pos c2, if_pos c2]; omega
      · rw [if_neg c2, if_neg c2]; omega
    · rw [if_neg c1, if_neg c1]
      by_cases c2 : cg ρ q (F.2 q k).2.1 < 0
      · rw [if_pos c2, if_pos c2]; omega
      · rw [if_neg c2, if_neg c2]; omega
theorem dpT_mx {ρ : St} {F : Fo} {D : Nat → Prop} (hF : ClF ρ F D) {q k : Nat} (hq : D q) (hk : k < F.1 q) : mxS (PTr ρ F q k 1) = dpT ρ F q k := by
  have := mx_dE hF (F.2 q k).1.toNat q k 0 hq hk (Nat.le_refl _)
  rw [Nat.zero_add, Nat.zero_add] at this
  exact this
theorem dE_fu {ρ : St} {F : Fo} {D : Nat → Prop} (hF : ClF ρ F D) {n q k : Nat} (hq : D q) (hk : k < F.1 q) (h : (F.2 q k).1.toNat ≤ n) : dE ρ F n q k = dpT ρ F q k := by
  have a := mx_dE hF n q k 0 hq hk h
  have b := mx_dE hF (F.2 q k).1.toNat q k 0 hq hk (Nat.le_refl _)
  rw [pT_fu hF n _ q k _ hq hk h (Nat.le_refl _)] at a
  unfold dpT
  omega
theorem dpT_eq {ρ : St} {F : Fo} {D : Nat → Prop} (hF : ClF ρ F D) {q k : Nat} (hq : D q) (hk : k < F.1 q) : dpT ρ F q k = dpC ρ F q (F.2 q k) := by
  have cz := ((hF q hq).1 k hk).1
  have sub := hF.sub hq cz
  obtain ⟨z1, z2, z3, z4⟩ := cz
  obtain ⟨a1, a2, a3⟩ := (hF q hq).2.2 _ z1
  obtain ⟨n, hn⟩ : ∃ n, (F.2 q k).1.toNat = n + 1 := ⟨(F.2 q k).1.toNat - 1, by omega⟩
  have part : ∀ (p : Int) (x : Nat), (0 ≤ p → D p.toNat) → x < hsF F p → scF F p x < (F.2 q k).1 → (if p < 0 then 0 else dE ρ F n p.toNat x) = dpP ρ F p x := by
    intro p x hp hx hlt
    unfold dpP
    by_cases h0 : p < 0
    · rw [if_pos h0, if_pos h0]
    · rw [if_neg h0, if_neg h0]
      rw [hsF_pos (by omega)] at hx
      rw [scF_pos (by omega)] at hlt
      exact dE_fu hF (hp (by omega)) hx (by omega)
  unfold dpT dpC
  rw [hn]
  unfold dE
  rw [part _ _ a1 z2 sub.2.1, part _ _ a2 z3 sub.2.2]
/-- the node of a part -/
def chN (ρ τ : St) (p : Int) (x : Nat) : Int := if p < 0 then -1 else τ 37 (16 * iR ρ p.toNat + x)
def NdC (ρ τ : St) (F : Fo) (q : Nat) (z : En) (v : Int) : Prop := 0 ≤ v ∧ v < 40000 ∧ τ 28 v.toNat = (cq ρ q z.2.1).1 ∧ τ 29 v.toNat = (spB (LL ρ) (q / 12) : Nat) ∧ τ 30 v.toNat = cm ρ q z.2.1 ∧ τ 31 v.toNat = (spF (LL ρ) (q / 12) : Nat) ∧ τ 32 v.toNat = chN ρ τ (cf ρ q z.2.1) z.2.2.1 ∧ τ 33 v.toNat = chN ρ τ (cg ρ q z.2.1) z.2.2.2 ∧ τ 34 v.toNat = z.1 ∧ τ 35 v.toNat = (stC ρ F q z : Nat) ∧ τ 36 v.toNat = (dpC ρ F q z : Nat)
def RFo (ρ τ : St) (F : Fo) (D : Nat → Prop) : Prop := ∀ q, D q → q < 12 * spN (LL ρ) ∧ F.1 q ≤ 16 ∧ τ 38 (iR ρ q) = (F.1 q : Nat) ∧ ∀ k, k < F.1 q → NdC ρ τ F q (F.2 q k) (τ 37 (16 * iR ρ q + k))
theorem nd_key {ρ τ : St} {F : Fo} {q : Nat} {z w : En} {v u : Int} (hz : NdC ρ τ F q z v) (hw : NdC ρ τ F q w u) (h1 : z.2.1 < (cI ρ q).length) (h2 : w.2.1 < (cI ρ q).length) (e1 : τ 28 v.toNat = τ 28 u.toNat) (e2 : τ 30 v.toNat = τ 30 u.toNat) : z.2.1 = w.2.1 := by
  refine cq_inj h1 h2 ?_ ?_
  · rw [← hz.2.2.1, ← hw.2.2.1]; exact e1
  · rw [← hz.2.2.2.2.1, ← hw.2.2.2.2.1]; exact e2
theorem nd_inj {ρ τ : St} {F : Fo} {D : Nat → Prop} (hF : ClF ρ F D) (hR : RFo ρ τ F D) : ∀ (N q k l : Nat), D q → k < F.1 q → l < F.1 q → (F.2 q k).1.toNat < N → τ 37 (16 * iR ρ q + k) = τ 37 (16 * iR ρ q + l) → k = l := by
  intro N
  induction N with
  | zero => intro q k l _ _ _ h; omega
  | succ N ih =>
    intro q k l hq hk hl hN e
    have nk := (hR q hq).2.2.2 k hk
    have nl := (hR q hq).2.2.2 l hl
    have ck := ((hF q hq).1 k hk).1
    have cl := ((hF q hq).1 l hl).1
    have sub := hF.sub hq ck
    have et := nd_key nk nl ck.1 cl.1 (by rw [e]) (by rw [e])
    obtain ⟨a1, a2, a3⟩ := (hF q hq).2.2 _ ck.1
    have part : ∀ (p : Int) (x y : Nat), (0 ≤ p → D p.toNat) → x < hsF F p → y < hsF F p → scF F p x < (F.2 q k).1 → chN ρ τ p x = chN ρ τ p y → x = y := by
      intro p x y hp hx hy hs he
      unfold chN at he
      by_cases h0 : p < 0
      · rw [hsF_neg h0] at hx hy; omega
      · rw [if_neg h0, if_neg h0] at he
        rw [hsF_pos (by omega)] at hx hy
        rw [scF_pos (by omega)] at hs
        have := ((hF _ (hp (by omega))).1 x hx).2
        exact ih _ x y (hp (by omega)) hx hy (by omega) he
    have c2 := cl.2.1
    have c3 := cl.2.2.1
    have f1 := nl.2.2.2.2.2.2.1
    have f2 := nl.2.2.2.2.2.2.2.1
    rw [← et] at c2 c3 f1 f2
    have ex := part _ _ _ a1 ck.2.1 c2 sub.2.1 (by rw [← nk.2.2.2.2.2.2.1, ← f1, e])
    have ey := part _ _ _ a2 ck.2.2.1 c3 sub.2.2 (by rw [← nk.2.2.2.2.2.2.2.1, ← f2, e])
    have ec : (F.2 q k).1 = (F.2 q l).1 := by
      have a := nk.2.2.2.2.2.2.2.2.1
      have b := nl.2.2.2.2.2.2.2.2.1
      rw [e] at a
      omega
    have ee : F.2 q k = F.2 q l := Prod.ext ec (Prod.ext et (Prod.ext ex ey))
    rcases Nat.lt_trichotomy k l with g | g | g
    · have := (hF q hq).2.1 k l g hl
      rw [ee] at this; exact (ltE.irr this).elim
    · exact g
    · have := (hF q hq).2.1 l k g hk
      rw [ee] at this; exact (ltE.irr this).elim
/-- the order of two nodes, by parts that are in order -/
theorem r_fC {ρ τ : St} (hg : Wg ρ) (hL : LL ρ < 9) {F : Fo} {D : Nat → Prop} (hF : ClF ρ F D) {q : Nat} (hq : q < 12 * spN (LL ρ)) {z w : En} (hp : PDf ρ D q z.2.1) (hz : CandE ρ F q z) (hw : CandE ρ F q w) {v u : Int} (nz : NdC ρ τ F q z v) (nw : NdC ρ τ F q w u) (hvu : v = u → z = w) {d : Nat} (h1 : stP ρ F (cf ρ q z.2.1) z.2.2.1 < d) (h2 : stP ρ F (cg ρ q z.2.1) z.2.2.2 ≤ d) (hd : d ≤ 1000) (HE : ∀ (p k l d : Nat), D p → k < F.1 p → l < F.1 p → (F.2 p k).1 < z.1 → lnT ρ F p k ≤ d → d ≤ 1000 → ∀ (n : Nat) (Q : Int → St → Prop), lnT ρ F p k < n → (∀ r, (r = 0 ∧ k = l) ∨ (r < 0 ∧ FL ρ F p k l) ∨ (0 < r ∧ FL ρ F p l k) → Q r τ) → wp_X12_formOf_l5 (wp_X12_formOf d) Q n (τ 37 (16 * iR ρ p + k)) (τ 37 (16 * iR ρ p + l)) τ) {n : Nat} {Q : Int → St → Prop} (hn : stP ρ F (cg ρ q z.2.1) z.2.2.2 + 1 < n) (hQ : ∀ r, (r = 0 ∧ z = w) ∨ (r < 0 ∧ SHp ρ F q z w) ∨ (0 < r ∧ SHp ρ F q w z) → Q r τ) : wp_X12_formOf_l5 (wp_X12_formOf d) Q n v u τ := by
  obtain ⟨n, rfl⟩ : ∃ m, n = m + 1 := ⟨n - 1, by omega⟩
  have sub := hF.subp hp hz
  have b1 := hg.2.1
  have kz := cs_kind hg hL (show q % 12 < 12 by omega) (show q / 12 < spN (LL ρ) by omega) (t := z.2.1) (by rw [show 12 * (q / 12) + q % 12 = q by omega]; exact hz.1)
  have kw := cs_kind hg hL (show q % 12 < 12 by omega) (show q / 12 < spN (LL ρ) by omega) (t := w.2.1) (by rw [show 12 * (q / 12) + q % 12 = q by omega]; exact hw.1)
  have qs := sp_s hL (show q / 12 < spN (LL ρ) by omega)
  rw [show 12 * (q / 12) + q % 12 = q by omega] at kz kw
  obtain ⟨rz, rz1, -, -, rz2, -, -, -, -, kz⟩ := kz
  obtain ⟨rw', rw1, -, -, rw2, -, -, -, -, kw⟩ := kw
  have mz : -1 ≤ cm ρ q z.2.1 ∧ cm ρ q z.2.1 ≤ 8 := by
    rcases kz with ⟨-, -, e, -⟩ | ⟨-, m, m1, m2, e, -⟩ <;> omega
  have mw : -1 ≤ cm ρ q w.2.1 ∧ cm ρ q w.2.1 ≤ 8 := by
    rcases kw with ⟨-, -, e, -⟩ | ⟨-, m, m1, m2, e, -⟩ <;> omega
  clear kz kw
  obtain ⟨nz0, nz1, nz2, nz3, nz4, nz5, nz6, nz7, nz8, nz9, nz10⟩ := id nz
  obtain ⟨nw0, nw1, nw2, nw3, nw4, nw5, nw6, nw7, nw8, nw9, nw10⟩ := id nw
  unfold wp_X12_formOf_l5
  rw [nz2, nz4, nz6, nw2, nw4, nw6]
  refine ⟨fun e => hQ 0 (Or.inl ⟨rfl, hvu e⟩), fun _ => ⟨fun e => absurd e (by omega), fun _ => ⟨fun e => absurd e (by omega), fun _ => ⟨by omega, by omega, fun e28 => ⟨by omega, by omega, fun e30 => ⟨by omega, by omega, ?_⟩, fun e30 => ⟨by omega, by omega, ?_⟩⟩, fun e28 => ⟨by omega, by omega, ?_⟩⟩⟩⟩⟩
  · have et : z.2.1 = w.2.1 := nd_key nz nw hz.1 hw.1 (by rw [nz2, nw2]; exact e28) (by rw [nz4, nw4]; exact e30)
    have w2 := hw.2.1
    have w3 := hw.2.2.1
    have cw := hw.2.2.2
    rw [← et] at nw7 w2 w3 cw
    rw [← et]
    obtain ⟨d, rfl⟩ : ∃ e, d = e + 1 := ⟨d - 1, by omega⟩
    -- the second parts, when the first are the same
    have second : z.2.2.1 = w.2.2.1 → wp_X12_formOf_l5 (wp_X12_formOf (d + 1)) Q n (chN ρ τ (cg ρ q z.2.1) z.2.2.2) (chN ρ τ (cg ρ q z.2.1) w.2.2.2) τ := by
      intro ex
      by_cases h0 : cg ρ q z.2.1 < 0
      · unfold chN
        rw [if_pos h0, if_pos h0]
        rw [hsF_neg h0] at w3
        have z3 := hz.2.2.1
        rw [hsF_neg h0] at z3
        obtain ⟨n, rfl⟩ : ∃ m, n = m + 1 := ⟨n - 1, by omega⟩
        unfold wp_X12_formOf_l5
        refine ⟨fun _ => hQ 0 (Or.inl ⟨rfl, ?_⟩), fun e => absurd rfl e⟩
        have ey : z.2.2.2 = w.2.2.2 := by omega
        refine Prod.ext ?_ (Prod.ext et (Prod.ext ex ey))
        rw [hz.2.2.2, cw, ex, ey]
      · unfold chN
        rw [if_neg h0, if_neg h0]
        have z3 := hz.2.2.1
        rw [hsF_pos (by omega)] at w3 z3
        have s3 := sub.2.2
        rw [scF_pos (by omega)] at s3
        have l3 := h2
        have hn3 := hn
        unfold stP at l3 hn3
        rw [if_neg h0] at l3 hn3
        refine HE _ _ _ (d + 1) (hp.2.1 (by omega)) z3 w3 s3 l3 hd n Q (by omega) (fun r hr => hQ r ?_)
        by_cases ey : z.2.2.2 = w.2.2.2
        · rcases hr with ⟨r1, -⟩ | ⟨-, r2⟩ | ⟨-, r2⟩
          · refine Or.inl ⟨r1, Prod.ext ?_ (Prod.ext et (Prod.ext ex ey))⟩
            rw [hz.2.2.2, cw, ex, ey]
          · rw [ey] at r2; exact (FL.irr r2).elim
          · rw [ey] at r2; exact (FL.irr r2).elim
        · rcases hr with ⟨-, r2⟩ | ⟨r1, r2⟩ | ⟨r1, r2⟩
          · exact absurd r2 ey
          · exact Or.inr (Or.inl ⟨r1, Or.inr ⟨et, Or.inr ⟨ex, ey, r2⟩⟩⟩)
          · refine Or.inr (Or.inr ⟨r1, Or.inr ⟨et.symm, Or.inr ⟨ex.symm, fun e => ey e.symm, ?_⟩⟩⟩)
            rw [← et]; exact r2
    have cont : ∀ r : Int, (r = 0 ∧ z.2.2.1 = w.2.2.1) ∨ (r ≠ 0 ∧ Q r τ) → ((r = 0) → (0 ≤ v ∧ v < 40000) ∧ ∀ v3 : Int, v3 = τ 33 (v.toNat) → (0 ≤ u ∧ u < 40000) ∧ ∀ v4 : Int, v4 = τ 33 (u.toNat) → (wp_X12_formOf_l5 (wp_X12_formOf (d + 1)) Q n) v3 v4 τ) ∧ (¬ (r = 0) → Q r τ) := by
      intro r hr
      refine ⟨fun r0 => ⟨by omega, fun v3 e3 => ⟨by omega, fun v4 e4 => ?_⟩⟩, fun r0 => ?_⟩
      · rw [e3, e4, nz7, nw7]
        rcases hr with ⟨-, ex⟩ | ⟨g, -⟩
        · exact second ex
        · exact absurd r0 g
      · rcases hr with ⟨g, -⟩ | ⟨-, g⟩
        · exact absurd g r0
        · exact g
    unfold wp_X12_formOf
    by_cases h0 : cf ρ q z.2.1 < 0
    · unfold chN
      rw [if_pos h0, if_pos h0]
      rw [hsF_neg h0] at w2
      have z2 := hz.2.1
      rw [hsF_neg h0] at z2
      have : bigN = (bigN - 1) + 1 := by unfold bigN; omega
      rw [this]
      unfold wp_X12_formOf_l5
      exact ⟨fun _ => cont 0 (Or.inl ⟨rfl, by omega⟩), fun e => absurd rfl e⟩
    · unfold chN
      rw [if_neg h0, if_neg h0]
      have z2 := hz.2.1
      rw [hsF_pos (by omega)] at w2 z2
      have s2 := sub.2.1
      rw [scF_pos (by omega)] at s2
      have l2 := h1
      unfold stP at l2
      rw [if_neg h0] at l2
      refine HE _ _ _ d (hp.1 (by omega)) z2 w2 s2 (by omega) (by omega) bigN _ (by unfold bigN; omega) (fun r hr => cont r ?_)
      by_cases ex : z.2.2.1 = w.2.2.1
      · rcases hr with ⟨r1, -⟩ | ⟨-, r2⟩ | ⟨-, r2⟩
        · exact Or.inl ⟨r1, ex⟩
        · rw [ex] at r2; exact (FL.irr r2).elim
        · rw [ex] at r2; exact (FL.irr r2).elim
      · rcases hr with ⟨-, r2⟩ | ⟨r1, r2⟩ | ⟨r1, r2⟩
        · exact absurd r2 ex
        · exact Or.inr ⟨by omega, hQ r (Or.inr (Or.inl ⟨r1, Or.inr ⟨et, Or.inl ⟨ex, r2⟩⟩⟩))⟩
        · refine Or.inr ⟨by omega, hQ r (Or.inr (Or.inr ⟨r1, Or.inr ⟨et.symm, Or.inl ⟨fun e => ex e.symm, ?_⟩⟩⟩))⟩
          rw [← et]; exact r2
  · rw [w32_of (by omega) (by omega)]
    refine hQ _ ?_
    rcases Nat.lt_trichotomy z.2.1 w.2.1 with g | g | g
    · rcases cI_pw g hw.1 with r | ⟨-, r⟩
      · exact absurd e28 (by omega)
      · exact Or.inr (Or.inl ⟨by have r : cm ρ q z.2.1 < cm ρ q w.2.1 := r; omega, Or.inl g⟩)
    · rw [g] at e30; exact absurd rfl e30
    · rcases cI_pw g hz.1 with r | ⟨-, r⟩
      · exact absurd e28 (by omega)
      · exact Or.inr (Or.inr ⟨by have r : cm ρ q w.2.1 < cm ρ q z.2.1 := r; omega, Or.inl g⟩)
  · rw [w32_of (by omega) (by omega)]
    refine hQ _ ?_
    rcases Nat.lt_trichotomy z.2.1 w.2.1 with g | g | g
    · rcases cI_pw g hw.1 with r | ⟨r, -⟩
      · exact Or.inr (Or.inl ⟨by omega, Or.inl g⟩)
      · exact absurd r e28
    · rw [g] at e28; exact absurd rfl e28
    · rcases cI_pw g hz.1 with r | ⟨r, -⟩
      · exact Or.inr (Or.inr ⟨by omega, Or.inl g⟩)
      · exact absurd r.symm e28
theorem r_fE {ρ τ : St} (hg : Wg ρ) (hL : LL ρ < 9) {F : Fo} {D : Nat → Prop} (hF : ClF ρ F D) (hR : RFo ρ τ F D) : ∀ (N p k l d : Nat), D p → k < F.1 p → l < F.1 p → (F.2 p k).1.toNat < N → lnT ρ F p k ≤ d → d ≤ 1000 → ∀ (n : Nat) (Q : Int → St → Prop), lnT ρ F p k < n → (∀ r, (r = 0 ∧ k = l) ∨ (r < 0 ∧ FL ρ F p k l) ∨ (0 < r ∧ FL ρ F p l k) → Q r τ) → wp_X12_formOf_l5 (wp_X12_formOf d) Q n (τ 37 (16 * iR ρ p + k)) (τ 37 (16 * iR ρ p + l)) τ := by
  intro N
  induction N with
  | zero => intro p k l d _ _ _ h; omega
  | succ N ih =>
    intro p k l d hp hk hl hN hln hd n Q hn hQ
    have ck := ((hF p hp).1 k hk).1
    have cl := ((hF p hp).1 l hl).1
    have el := lnT_eq hF hp hk
    unfold stC at el
    have key : ∀ {a b : Nat}, a < F.1 p → b < F.1 p → (F.2 p a = F.2 p b → a = b) := by
      intro a b ha hb e
      rcases Nat.lt_trichotomy a b with g | g | g
      · have := (hF p hp).2.1 a b g hb
        rw [e] at this; exact (ltE.irr this).elim
      · exact g
      · have := (hF p hp).2.1 b a g ha
        rw [e] at this; exact (ltE.irr this).elim
    refine r_fC hg hL hF (hR p hp).1 ((hF p hp).2.2 _ ck.1) ck cl ((hR p hp).2.2.2 k hk) ((hR p hp).2.2.2 l hl) (fun e => by rw [nd_inj hF hR _ p k l hp hk hl (Nat.lt_succ_self _) e]) (by omega) (by omega) hd (fun p' k' l' d' hp' hk' hl' hc hl2 hd2 n' Q' hn' hQ' => ?_) (by omega) (fun r hr => hQ r ?_)
    · have := ((hF p' hp').1 k' hk').2
      exact ih p' k' l' d' hp' hk' hl' (by omega) hl2 hd2 n' Q' hn' hQ'
    · rcases hr with ⟨r1, r2⟩ | ⟨r1, r2⟩ | ⟨r1, r2⟩
      · exact Or.inl ⟨r1, key hk hl r2⟩
      · exact Or.inr (Or.inl ⟨r1, FL_iff.2 r2⟩)
      · exact Or.inr (Or.inr ⟨r1, FL_iff.2 r2⟩)
theorem stP_360 {ρ : St} (hg : Wg ρ) (hL : LL ρ < 9) {F : Fo} {D : Nat → Prop} (hF : ClF ρ F D) (hT : ∀ q, D q → SgF ρ F q) (hD : ∀ q, D q → q < 12 * spN (LL ρ)) {p : Int} {x : Nat} (hp : 0 ≤ p → D p.toNat) (hx : x < hsF F p) : stP ρ F p x ≤ 360 := by
  unfold stP
  by_cases h : p < 0
  · rw [if_pos h]; omega
  · rw [if_neg h]
    rw [hsF_pos (by omega)] at hx
    exact sN_360 hg hL hF hT hD (hp (by omega)) hx
/-- two candidates as nodes -/
theorem r_form {ρ τ : St} (hg : Wg ρ) (hL : LL ρ < 9) {F : Fo} {D : Nat → Prop} (hF : ClF ρ F D) (hT : ∀ q, D q → SgF ρ F q) (hR : RFo ρ τ F D) {q : Nat} (hq : q < 12 * spN (LL ρ)) {z w : En} (hp : PDf ρ D q z.2.1) (hz : CandE ρ F q z) (hw : CandE ρ F q w) {v u : Int} (nz : NdC ρ τ F q z v) (nw : NdC ρ τ F q w u) (hvu : v = u → z = w) {Q : Int → St → Prop} (hQ : ∀ r, (r = 0 ∧ z = w) ∨ (r < 0 ∧ SHp ρ F q z w) ∨ (0 < r ∧ SHp ρ F q w z) → Q r τ) : wp_X12_formOf 400 v u τ Q := by
  have a := stP_360 hg hL hF hT (fun p hp => (hR p hp).1) hp.1 hz.2.1
  have b := stP_360 hg hL hF hT (fun p hp => (hR p hp).1) hp.2.1 hz.2.2.1
  show wp_X12_formOf_l5 (wp_X12_formOf 399) Q bigN v u τ
  exact r_fC hg hL hF hq hp hz hw nz nw hvu (by omega) (by omega) (by omega) (fun p k l d h1 h2 h3 h4 h5 h6 n Q h7 h8 => r_fE hg hL hF hR _ p k l d h1 h2 h3 (Nat.lt_succ_self _) h5 h6 n Q h7 h8) (by unfold bigN; omega) hQ
theorem r_isAhead {ρ τ : St} (hg : Wg ρ) (hL : LL ρ < 9) {F : Fo} {D : Nat → Prop} (hF : ClF ρ F D) (hT : ∀ q, D q → SgF ρ F q) (hR : RFo ρ τ F D) {q : Nat} (hq : q < 12 * spN (LL ρ)) {z w : En} (hp : PDf ρ D q z.2.1) (hz : CandE ρ F q z) (hw : CandE ρ F q w) {v u : Int} (nz : NdC ρ τ F q z v) (nw : NdC ρ τ F q w u) (hvu : v = u → z = w) {Q : Int → St → Prop} (hyes : ltE ρ F q z w → Q 1 τ) (hno : ¬ ltE ρ F q z w → Q 0 τ) : wp_X12_isAhead v u τ Q := by
  unfold wp_X12_isAhead
  rw [nz.2.2.2.2.2.2.2.2.1, nw.2.2.2.2.2.2.2.2.1]
  have a1 := nz.1
  have a2 := nz.2.1
  have a3 := nw.1
  have a4 := nw.2.1
  refine ⟨⟨a1, a2⟩, ⟨a3, a4⟩, fun e => r_form hg hL hF hT hR hq hp hz hw nz nw hvu (fun r hr => ⟨fun h => hno ?_, fun h => hyes ?_⟩), fun e => ⟨⟨a1, a2⟩, ⟨a3, a4⟩, fun h => hno ?_, fun h => hyes (Or.inl (by omega))⟩⟩
  · rintro (g | ⟨-, g⟩)
    · omega
    · rcases hr with ⟨-, r2⟩ | ⟨r1, -⟩ | ⟨-, r2⟩
      · rw [r2] at g; exact SHp.irr g
      · omega
      · exact SHp.irr (g.tr r2)
  · rcases hr with ⟨r1, -⟩ | ⟨-, r2⟩ | ⟨r1, -⟩
    · omega
    · exact Or.inr ⟨e, r2⟩
    · omega
  · rintro (g | ⟨g, -⟩) <;> omega
