/-! the reference meets all items below one -/
def itq (ρ : St) (q : Nat) : Nat := (it ((q % 12 : Nat) : Int) ((spB (LL ρ) (q / 12) : Nat) : Int) ((spF (LL ρ) (q / 12) : Nat) : Int)).toNat
theorem itq_it {ρ : St} (hL : LL ρ < 9) {a i j : Int} (h : isItm ρ a i j) : itq ρ (itN ρ a i j) = (it a i j).toNat := by
  obtain ⟨h1, h2, h3, h4⟩ := h
  have hij : i.toNat < j.toNat ∧ j.toNat ≤ LL ρ := ⟨by omega, by unfold LL; omega⟩
  have q := sp_a (L := LL ρ) hL hij
  unfold itq itN
  rw [show (12 * spA (LL ρ) i.toNat j.toNat + a.toNat) / 12 = spA (LL ρ) i.toNat j.toNat by omega, show (12 * spA (LL ρ) i.toNat j.toNat + a.toNat) % 12 = a.toNat by omega, q.2.1, q.2.2, show ((a.toNat : Nat) : Int) = a by omega, show ((i.toNat : Nat) : Int) = i by omega, show ((j.toNat : Nat) : Int) = j by omega]
theorem itq_inj {ρ : St} (hL : LL ρ < 9) (h80 : 0 ≤ ρ 0 8) {q p : Nat} (hq : q < 12 * spN (LL ρ)) (hp : p < 12 * spN (LL ρ)) (h : itq ρ q = itq ρ p) : q = p := by
  obtain ⟨a1, a2⟩ := it_of hL h80 hq
  obtain ⟨b1, b2⟩ := it_of hL h80 hp
  have hs8 : ρ 0 8 ≤ 8 := by unfold LL at hL; omega
  have e := itm_inj hs8 a1 b1 h
  rw [← a2, ← b2, e.1, e.2.1, e.2.2]
def met (ρ τ : St) (q : Nat) : Prop := τ 21 (itq ρ q) ≠ 0
def MS (ρ τ : St) : Prop := LA ρ τ ∧ P64 (τ 0 36)
def unm (ρ τ : St) (q : Nat) : Bool := decide (τ 21 (itq ρ q) = 0)
def DC (ρ τ : St) (l : List Cs) : Prop := ∀ c ∈ l, fullC ρ c → tb (τ 0 36) c.1.toNat = true ∧ (0 ≤ c.2.2.1 → met ρ τ c.2.2.1.toNat) ∧ (0 ≤ c.2.2.2 → met ρ τ c.2.2.2.toNat)
def GW (ρ : St) (q0 : Nat) (τ τ1 : St) : Prop := MS ρ τ1 ∧ (∀ q, met ρ τ q → met ρ τ1 q) ∧ (∀ k, tb (τ 0 36) k = true → tb (τ1 0 36) k = true) ∧ (∀ q, q < 12 * spN (LL ρ) → met ρ τ1 q → met ρ τ q ∨ DC ρ τ1 (cI ρ q)) ∧ (∀ k, tb (τ1 0 36) k = true → tb (τ 0 36) k = true ∨ UQ ρ 1 k q0)
theorem DC.mono {ρ τ τ1 : St} {l : List Cs} (h : DC ρ τ l) (h1 : ∀ q, met ρ τ q → met ρ τ1 q) (h2 : ∀ k, tb (τ 0 36) k = true → tb (τ1 0 36) k = true) : DC ρ τ1 l := fun c hc hf => ⟨h2 _ (h c hc hf).1, fun z => h1 _ ((h c hc hf).2.1 z), fun z => h1 _ ((h c hc hf).2.2 z)⟩
theorem GW.rf {ρ : St} {q0 : Nat} {τ : St} (h : MS ρ τ) : GW ρ q0 τ τ := ⟨h, fun _ z => z, fun _ z => z, fun _ _ z => Or.inl z, fun _ z => Or.inl z⟩
theorem GW.tr {ρ : St} {q0 : Nat} {τ τ1 τ2 : St} (h : GW ρ q0 τ τ1) (h2 : GW ρ q0 τ1 τ2) : GW ρ q0 τ τ2 := by
  refine ⟨h2.1, fun q z => h2.2.1 q (h.2.1 q z), fun k z => h2.2.2.1 k (h.2.2.1 k z), fun q hq z => ?_, fun k z => ?_⟩
  · rcases h2.2.2.2.1 q hq z with w | w
    · rcases h.2.2.2.1 q hq w with y | y
      · exact Or.inl y
      · exact Or.inr (y.mono h2.2.1 h2.2.2.1)
    · exact Or.inr w
  · rcases h2.2.2.2.2 k z with w | w
    · exact h.2.2.2.2 k w
    · exact Or.inr w
theorem GW.sub {ρ : St} {q0 q1 : Nat} {τ τ1 : St} (h : GW ρ q1 τ τ1) (hs : ∀ k, UQ ρ 1 k q1 → UQ ρ 1 k q0) : GW ρ q0 τ τ1 := ⟨h.1, h.2.1, h.2.2.1, h.2.2.2.1, fun k z => (h.2.2.2.2 k z).imp id (hs k)⟩
theorem unm_le {ρ τ τ1 : St} {n : Nat} (h : ∀ q, met ρ τ q → met ρ τ1 q) : cntB (unm ρ τ1) n ≤ cntB (unm ρ τ) n := cntB_mono n (fun q _ hq => by
  unfold unm at *
  rw [decide_eq_true_iff] at *
  exact Classical.byContradiction (fun z => h q z hq))
/-- the rule's bit -/
theorem GW.bit {ρ : St} {q0 : Nat} {τ τ1 : St} (h : MS ρ τ) {r : Nat} (hr : r < 63) (e : τ1 = upS τ 0 36 (l_or (τ 0 36) (l_shl 1 (r : Int)))) (hu : UQ ρ 1 r q0) : GW ρ q0 τ τ1 ∧ tb (τ1 0 36) r = true := by
  have hp := pow63 hr
  have e36 : τ1 0 36 = l_or (τ 0 36) ((2 ^ r : Nat) : Int) := by rw [e, upS_s, l_shl_1 r hr]
  have m : ∀ q, met ρ τ q ↔ met ρ τ1 q := fun q => by unfold met; rw [e, upS_k (by decide)]
  refine ⟨⟨⟨by rw [e]; exact h.1, by rw [e36]; exact l_or_p h.2 hp⟩, fun q z => (m q).1 z, fun k z => ?_, fun q _ z => Or.inl ((m q).2 z), fun k z => ?_⟩, ?_⟩
  · rw [e36, tb_lor h.2 hp, z, Bool.true_or]
  · rw [e36, tb_lor h.2 hp, tb_pow, Bool.or_eq_true, decide_eq_true_iff] at z
    rcases z with z | z
    · exact Or.inl z
    · subst z; exact Or.inr hu
  · rw [e36, tb_lor h.2 hp, tb_pow]; simp
def MMk (ρ : St) (d : Nat) (M : Int → Int → Int → St → (Int → St → Prop) → Prop) : Prop := ∀ (a i j : Int) (τ : St) (Q : Int → St → Prop), isItm ρ a i j → MS ρ τ → cntB (unm ρ τ) (12 * spN (LL ρ)) < d → (∀ r τ1, GW ρ (itN ρ a i j) τ τ1 → met ρ τ1 (itN ρ a i j) → Q r τ1) → M a i j τ Q
theorem r_meetsPart {ρ τ : St} (hL : LL ρ < 9) (h80 : 0 ≤ ρ 0 8) {d : Nat} {M : Int → Int → Int → St → (Int → St → Prop) → Prop} (hM : MMk ρ d M) (hs : MS ρ τ) (hu : cntB (unm ρ τ) (12 * spN (LL ρ)) < d) {p : Int} (hp : isPart p) {i j : Nat} (hi : i < j ∧ j ≤ LL ρ) {q0 : Nat} (hq0 : 0 ≤ pv ρ p i j → ∀ k, UQ ρ 1 k (pv ρ p i j).toNat → UQ ρ 1 k q0) {Q : Int → St → Prop} (hq : ∀ τ1, GW ρ q0 τ τ1 → (0 ≤ pv ρ p i j → met ρ τ1 (pv ρ p i j).toNat) → Q 0 τ1) : wp_X12_meetsPart M p (i : Int) (j : Int) τ Q := by
  have eL : ((LL ρ : Nat) : Int) = ρ 0 8 := by unfold LL; omega
  unfold isPart at hp
  unfold wp_X12_meetsPart
  refine ⟨fun h => hq τ (GW.rf hs) (fun z => ?_), fun h => ?_⟩
  · exfalso
    by_cases hcc : j = i + 1 ∧ ρ 11 i = p - 100
    · rw [pv_yes (by omega) hcc] at z; exact absurd z (by decide)
    · rw [pv_no (by omega) hcc] at z; exact absurd z (by decide)
  · have e := pv_itN (ρ := ρ) (p := p) (i := i) (j := j) (by omega)
    rw [e, Int.toNat_natCast] at hq0 hq
    exact hM p i j τ _ ⟨by omega, by omega, by omega, by omega⟩ hs hu (fun r τ1 h1 h2 => hq τ1 (h1.sub (hq0 (by omega))) (fun _ => h2))
theorem stp1 {k : Nat} {P : Nat → Prop} {c : Cs} : stp 1 k P c ↔ (c.1 = (k : Int) ∨ (0 ≤ c.2.2.1 ∧ P c.2.2.1.toNat) ∨ (0 ≤ c.2.2.2 ∧ P c.2.2.2.toNat)) := by
  unfold stp; rw [if_neg (by decide)]
theorem DC_one {ρ τ : St} {r : Nat} {m f s : Int} (h : (f ≠ -2 ∧ s ≠ -2 ∧ hPt ρ f ∧ hPt ρ s) → tb (τ 0 36) r = true ∧ (0 ≤ f → met ρ τ f.toNat) ∧ (0 ≤ s → met ρ τ s.toNat)) : DC ρ τ (cOne r m f s) := by
  intro c hc hf
  obtain ⟨h1, h2, rfl⟩ := mem_cOne.1 hc
  have := h ⟨h1, h2, hf.1, hf.2⟩
  show tb (τ 0 36) ((r : Int)).toNat = true ∧ _
  rw [Int.toNat_natCast]; exact this
theorem DC_app {ρ τ : St} {l k : List Cs} (h : DC ρ τ l) (h2 : DC ρ τ k) : DC ρ τ (l ++ k) := fun c hc => by
  rcases List.mem_append.1 hc with z | z
  · exact h c z
  · exact h2 c z
theorem r_me120 {ρ τs : St} (hg : Wg ρ) (hL : LL ρ < 9) (h80 : 0 ≤ ρ 0 8) {d : Nat} {M : Int → Int → Int → St → (Int → St → Prop) → Prop} (hM : MMk ρ d M) (hu : cntB (unm ρ τs) (12 * spN (LL ρ)) < d) {q0 r a : Nat} (ha : a < 12) (hr : (r : Int) < ρ 0 4) (h8 : ρ 8 r = 0) (h3 : ρ 3 r = (a : Int)) (h5 : ρ 5 r ≠ -1) {i j : Nat} (hi : i < j ∧ j ≤ LL ρ) (hq0 : q0 = 12 * spA (LL ρ) i j + a) {l : List Cs} {Q : Int → St → Prop} {K : Int → Int → Int → Int → St → Prop} (hk : ∀ τ1, GW ρ q0 τs τ1 → DC ρ τ1 (l ++ cB ρ r i j (j - i - 1)) → K (a : Int) i j ((r + 1 : Nat) : Int) τ1) : ∀ (e x : Nat) (τ : St) (n : Nat), i + 1 + x + e = j → e < n → GW ρ q0 τs τ → DC ρ τ (l ++ cB ρ r i j x) → wp_X12_meets_l120 M Q K n (a : Int) i j (r : Int) ((i + 1 + x : Nat) : Int) τ := by
  have hb := hg.2.1
  have hs8 : ρ 0 8 ≤ 8 := by unfold LL at hL; omega
  have eL : ((LL ρ : Nat) : Int) = ρ 0 8 := by unfold LL; omega
  obtain ⟨hh, hp1, hp2, hpr, -⟩ := hg.2.2 r hr
  have hp2 : isPart (ρ 5 r) := hp2.resolve_left h5
  intro e
  induction e with
  | zero =>
    intro x τ n hd hn hw hdc
    obtain ⟨n, rfl⟩ := suc_n hn
    unfold wp_X12_meets_l120 wp_X12_meets_b221
    refine ⟨fun _ v ev => ?_, fun w => absurd (by omega) w⟩
    rw [ev, w32_of (by omega) (by omega), show (r : Int) + 1 = ((r + 1 : Nat) : Int) by omega]
    refine hk τ hw ?_
    rw [show j - i - 1 = x by omega]; exact hdc
  | succ e ih =>
    intro x τ n hd hn hw hdc
    obtain ⟨n, rfl⟩ := suc_n hn
    obtain ⟨k1, k2, k3, k4⟩ := hw.1.1.1.2.2.2.1 r hr
    have e1 := hPt_pv hg hL hp1 (i := i) (j := i + 1 + x) (by omega)
    have e2 := hPt_pv hg hL hp2 (i := i + 1 + x) (j := j) (by omega)
    have nx : ∀ τ1, GW ρ q0 τs τ1 → DC ρ τ1 (l ++ cB ρ r i j (x + 1)) → wp_X12_meets_b215 M Q K (wp_X12_meets_l120 M Q K n) (a : Int) i j (r : Int) ((i + 1 + x : Nat) : Int) τ1 := by
      intro τ1 g1 g2
      unfold wp_X12_meets_b215
      intro v ev
      rw [ev, w32_of (by omega) (by omega), show ((i + 1 + x : Nat) : Int) + 1 = ((i + 1 + (x + 1) : Nat) : Int) by omega]
      exact ih (x + 1) τ1 n (by omega) (by omega) g1 g2
    have ap : ∀ τ1, DC ρ τ1 (l ++ cB ρ r i j x) → DC ρ τ1 (cOne r ((i + 1 + x : Nat) : Int) (pv ρ (ρ 4 r) i (i + 1 + x)) (pv ρ (ρ 5 r) (i + 1 + x) j)) → DC ρ τ1 (l ++ cB ρ r i j (x + 1)) := by
      intro τ1 g1 g2
      show DC ρ τ1 (l ++ (cB ρ r i j x ++ _))
      rw [← List.append_assoc]
      exact DC_app g1 g2
    have skip : ¬ (hT ρ (ρ 4 r) i ((i + 1 + x : Nat) : Int) ∧ hT ρ (ρ 5 r) ((i + 1 + x : Nat) : Int) j) → wp_X12_meets_b215 M Q K (wp_X12_meets_l120 M Q K n) (a : Int) i j (r : Int) ((i + 1 + x : Nat) : Int) τ := fun h => nx τ hw (ap τ hdc (DC_one (fun z => absurd ⟨e1.1 ⟨z.1, z.2.2.1⟩, e2.1 ⟨z.2.1, z.2.2.2⟩⟩ h)))
    unfold wp_X12_meets_l120
    rw [Int.toNat_natCast, k3, k2]
    refine ⟨fun w => absurd w (by omega), fun _ => ⟨by omega, fun w => absurd w h5, fun _ => ⟨by omega, r_fits2 hg hw.1.1 hs8 hp1 (by omega) (fun h => ⟨fun _ => skip (fun z => h z.1), fun z => absurd rfl z⟩) (fun y1 => ⟨fun z => absurd z (by decide), fun _ => ⟨by omega, ?_⟩⟩)⟩⟩⟩
    rw [k3]
    refine r_fits2 hg hw.1.1 hs8 hp2 (by omega) (fun h => ⟨fun z => absurd rfl z, fun _ => skip (fun z => h z.2)⟩) (fun y2 => ⟨fun _ τ2 et2 => ⟨by omega, ?_⟩, fun z => absurd (by decide) z⟩)
    obtain ⟨c, hc, hf, c0, c1, c2⟩ := case2r hg hL h80 ha hr h8 h3 (i := i) (m := i + 1 + x) (j := j) (by omega) h5 y1 y2
    rw [← hq0] at hc
    have uq : ∀ k, stp 1 k (UQ ρ 1 k) c → UQ ρ 1 k q0 := fun k h => UQ.step hc hf h
    have g2 := GW.bit (q0 := q0) hw.1 (r := r) (by omega) et2 (uq r (stp1.2 (Or.inl c0)))
    rw [(g2.1.1.1.1.2.2.2.1 r hr).2.1]
    refine r_meetsPart hL h80 hM g2.1.1 (Nat.lt_of_le_of_lt (unm_le (hw.tr g2.1).2.1) hu) hp1 (by omega) (q0 := q0) (fun z k hk => uq k (stp1.2 (Or.inr (Or.inl (by rw [c1]; exact ⟨z, hk⟩))))) (fun τ3 g3 m3 => ⟨by omega, ?_⟩)
    rw [(g3.1.1.1.2.2.2.1 r hr).2.2.1]
    have g13 := (hw.tr g2.1).tr g3
    refine r_meetsPart hL h80 hM g3.1 (Nat.lt_of_le_of_lt (unm_le g13.2.1) hu) hp2 (by omega) (q0 := q0) (fun z k hk => uq k (stp1.2 (Or.inr (Or.inr (by rw [c2]; exact ⟨z, hk⟩))))) (fun τ4 g4 m4 => nx τ4 (g13.tr g4) (ap τ4 (hdc.mono (fun q z => g4.2.1 q (g3.2.1 q (g2.1.2.1 q z))) (fun k z => g4.2.2.1 k (g3.2.2.1 k (g2.1.2.2.1 k z)))) (DC_one (fun _ => ⟨g4.2.2.1 _ (g3.2.2.1 _ g2.2), fun z => g4.2.1 _ (m3 z), m4⟩))))
theorem r_me30 {ρ τs : St} (hg : Wg ρ) (hL : LL ρ < 9) (h80 : 0 ≤ ρ 0 8) {d : Nat} {M : Int → Int → Int → St → (Int → St → Prop) → Prop} (hM : MMk ρ d M) (hu : cntB (unm ρ τs) (12 * spN (LL ρ)) < d) {s a : Nat} (hs : s < spN (LL ρ)) (ha : a < 12) {Q : Int → St → Prop} (hq : ∀ τ1, GW ρ (12 * s + a) τs τ1 → DC ρ τ1 (cI ρ (12 * s + a)) → Q 0 τ1) : ∀ (e r : Nat) (τ : St) (n : Nat), (r : Int) + e = ρ 0 4 → e < n → GW ρ (12 * s + a) τs τ → DC ρ τ (cS ρ s (liA ρ a r)) → wp_X12_meets_l30 M Q n (a : Int) (spB (LL ρ) s : Nat) (spF (LL ρ) s : Nat) (r : Int) τ := by
  have hb := hg.2.1
  have hs8 : ρ 0 8 ≤ 8 := by unfold LL at hL; omega
  have eL : ((LL ρ : Nat) : Int) = ρ 0 8 := by unfold LL; omega
  have q := sp_s hL hs
  intro e
  induction e with
  | zero =>
    intro r τ n hd hn hw hdc
    obtain ⟨n, rfl⟩ := suc_n hn
    unfold wp_X12_meets_l30
    rw [hw.1.1.1.1]
    refine ⟨fun _ => hq τ hw ?_, fun w => absurd w (by omega)⟩
    unfold cI
    rw [show (12 * s + a) / 12 = s by omega, show (12 * s + a) % 12 = a by omega, show (ρ 0 4).toNat = r by omega]
    exact hdc
  | succ e ih =>
    intro r τ n hd hn hw hdc
    obtain ⟨n, rfl⟩ := suc_n hn
    have hr : (r : Int) < ρ 0 4 := by push_cast at hd; omega
    obtain ⟨k1, k2, k3, k4⟩ := hw.1.1.1.2.2.2.1 r hr
    obtain ⟨hh, hp1, hp2, hpr, -⟩ := hg.2.2 r hr
    have step := cS_step (ρ := ρ) (s := s) (a := a) (n := r)
    have nxt : ∀ τ1, GW ρ (12 * s + a) τs τ1 → DC ρ τ1 (cS ρ s (liA ρ a (r + 1))) → wp_X12_meets_b221 M Q (wp_X12_meets_l30 M Q n) (a : Int) (spB (LL ρ) s : Nat) (spF (LL ρ) s : Nat) (r : Int) τ1 := by
      intro τ1 g1 g2
      unfold wp_X12_meets_b221
      intro v ev
      rw [ev, w32_of (by omega) (by omega), show (r : Int) + 1 = ((r + 1 : Nat) : Int) by omega]
      exact ih (r + 1) τ1 n (by push_cast at hd ⊢; omega) (by omega) g1 g2
    have skip : inA ρ a r ≠ true → wp_X12_meets_b221 M Q (wp_X12_meets_l30 M Q n) (a : Int) (spB (LL ρ) s : Nat) (spF (LL ρ) s : Nat) (r : Int) τ := by
      intro hin
      rw [if_neg hin, List.append_nil] at step
      exact nxt τ hw (by rw [step]; exact hdc)
    unfold wp_X12_meets_l30
    rw [hw.1.1.1.1]
    refine ⟨fun w => absurd w (by omega), fun _ => r_isIn hg hw.1.1.1.2.1 hr ?_⟩
    by_cases h8 : ρ 8 r = 0
    · rw [if_pos h8, Int.toNat_natCast, k1, k3, k2]
      refine ⟨fun w => absurd w (by decide), fun _ => ⟨by omega, fun h3 => ⟨by omega, ?_, ?_⟩, fun h3 => skip (fun w => h3 (inA_iff.1 w).1)⟩⟩
      · intro h5
        have hin : inA ρ a r = true := inA_iff.2 ⟨h3, h8⟩
        rw [if_pos hin] at step
        unfold cC at step
        rw [if_neg h5] at step
        unfold wp_X12_meets_b115
        intro v ev
        rw [ev, w32_of (by omega) (by omega), show ((spB (LL ρ) s : Nat) : Int) + 1 = ((spB (LL ρ) s + 1 + 0 : Nat) : Int) by omega]
        refine r_me120 hg hL h80 hM hu ha hr h8 h3 h5 (i := spB (LL ρ) s) (j := spF (LL ρ) s) (by omega) (by rw [q.2.2]) (l := cS ρ s (liA ρ a r)) (fun τ1 g1 g2 => ih (r + 1) τ1 n (by push_cast at hd ⊢; omega) (by omega) g1 (by rw [step]; exact g2)) (spF (LL ρ) s - spB (LL ρ) s - 1) 0 τ bigN (by omega) (by unfold bigN; omega) hw (by
          show DC ρ τ (cS ρ s (liA ρ a r) ++ [])
          rw [List.append_nil]; exact hdc)
      · intro h5
        have h5 : ρ 5 r = -1 := by omega
        have hin : inA ρ a r = true := inA_iff.2 ⟨h3, h8⟩
        rw [if_pos hin] at step
        unfold cC at step
        rw [if_pos h5] at step
        have e1 := hPt_pv hg hL hp1 (i := spB (LL ρ) s) (j := spF (LL ρ) s) (by omega)
        have go : ∀ τ1, GW ρ (12 * s + a) τs τ1 → DC ρ τ1 (cS ρ s (liA ρ a (r + 1))) → wp_X12_meets_b115 M Q (wp_X12_meets_l30 M Q n) (a : Int) (spB (LL ρ) s : Nat) (spF (LL ρ) s : Nat) (r : Int) τ1 := by
          intro τ1 g1 g2
          have fin := nxt τ1 g1 g2
          unfold wp_X12_meets_b115
          intro v ev
          rw [ev, w32_of (by omega) (by omega)]
          obtain ⟨nb, hnb⟩ := suc_n (show 0 < bigN by unfold bigN; omega)
          rw [hnb]
          unfold wp_X12_meets_l120
          rw [Int.toNat_natCast, (g1.1.1.1.2.2.2.1 r hr).2.2.1]
          exact ⟨fun _ => fin, fun _ => ⟨by omega, fun _ => fin, fun w => absurd h5 w⟩⟩
        refine ⟨by omega, r_fits2 hg hw.1.1 hs8 hp1 (by omega) (fun h => ⟨fun _ => go τ hw (by rw [step]; exact DC_app hdc (DC_one (fun z => absurd (e1.1 ⟨z.1, z.2.2.1⟩) h))), fun z => absurd rfl z⟩) (fun y1 => ⟨fun z => absurd z (by decide), fun _ τ2 et2 => ⟨by omega, ?_⟩⟩)⟩
        obtain ⟨c, hc, hf, c0, c1, c2⟩ := case1r hg hL h80 ha hr h8 h3 (i := spB (LL ρ) s) (j := spF (LL ρ) s) (by omega) h5 y1
        rw [q.2.2] at hc
        have uq : ∀ k, stp 1 k (UQ ρ 1 k) c → UQ ρ 1 k (12 * s + a) := fun k h => UQ.step hc hf h
        have g2 := GW.bit (q0 := 12 * s + a) hw.1 (r := r) (by omega) et2 (uq r (stp1.2 (Or.inl c0)))
        rw [(g2.1.1.1.1.2.2.2.1 r hr).2.1]
        refine r_meetsPart hL h80 hM g2.1.1 (Nat.lt_of_le_of_lt (unm_le (hw.tr g2.1).2.1) hu) hp1 (by omega) (q0 := 12 * s + a) (fun z k hk => uq k (stp1.2 (Or.inr (Or.inl (by rw [c1]; exact ⟨z, hk⟩))))) (fun τ3 g3 m3 => go τ3 ((hw.tr g2.1).tr g3) ?_)
        rw [step]
        exact DC_app (hdc.mono (fun q z => g3.2.1 q (g2.1.2.1 q z)) (fun k z => g3.2.2.1 k (g2.1.2.2.1 k z))) (DC_one (fun _ => ⟨g3.2.2.1 _ g2.2, m3, fun z => absurd z (by decide)⟩))
    · rw [if_neg h8]
      exact ⟨fun _ => skip (fun w => h8 (inA_iff.1 w).2), fun w => absurd rfl w⟩
theorem r_meets {ρ : St} (hg : Wg ρ) (hL : LL ρ < 9) (h80 : 0 ≤ ρ 0 8) : ∀ d, MMk ρ d (wp_X12_meets d)
  | 0 => fun a i j τ Q _ _ h => by omega
  | d + 1 => fun a i j τ Q hI hs hu hq => by
    have hs8 : ρ 0 8 ≤ 8 := by unfold LL at hL; omega
    have h1 := hI.1
    have h2 := hI.2
    have hij : i.toNat < j.toNat ∧ j.toNat ≤ LL ρ := ⟨by omega, by unfold LL; omega⟩
    have q := sp_a (L := LL ρ) hL hij
    have eN : itN ρ a i j = 12 * spA (LL ρ) i.toNat j.toNat + a.toNat := rfl
    have lt := (itN_r hL hI).1
    have eq := itq_it hL hI
    unfold wp_X12_meets
    refine r_item h1 (by omega) ⟨it_r h1 (by omega), fun z => ⟨it_r h1 (by omega), fun τ3 e3 => ?_⟩, fun z => hq 0 τ (GW.rf hs) (by unfold met; rw [eq]; exact z)⟩
    rw [show b_and 1 1 = 1 by decide] at e3
    have ms3 : MS ρ τ3 := by rw [e3]; exact hs
    have mup : ∀ p, met ρ τ p → met ρ τ3 p := by
      intro p hp
      unfold met at *
      rw [e3]
      by_cases e : itq ρ p = (it a i j).toNat
      · rw [e, upS_s]; decide
      · rw [upS_j e]; exact hp
    have mself : met ρ τ3 (itN ρ a i j) := by unfold met; rw [e3, eq, upS_s]; decide
    have mback : ∀ p, p < 12 * spN (LL ρ) → met ρ τ3 p → met ρ τ p ∨ p = itN ρ a i j := by
      intro p hp hm
      by_cases e : itq ρ p = (it a i j).toNat
      · exact Or.inr (itq_inj hL h80 hp lt (by rw [e, eq]))
      · refine Or.inl ?_
        unfold met at *
        rw [e3, upS_j e] at hm; exact hm
    have lt3 : cntB (unm ρ τ3) (12 * spN (LL ρ)) < cntB (unm ρ τ) (12 * spN (LL ρ)) := by
      refine cntB_lt _ (fun p _ hp => ?_) ⟨itN ρ a i j, lt, ?_, ?_⟩
      · unfold unm at *
        rw [decide_eq_true_iff] at *
        exact Classical.byContradiction (fun w => mup p w hp)
      · unfold unm
        rw [decide_eq_true_iff, eq]; exact z
      · unfold unm
        rw [decide_eq_false_iff_not]; exact mself
    have e36 : τ3 0 36 = τ 0 36 := by rw [e3, upS_k (by decide)]
    have := r_me30 (τs := τ3) hg hL h80 (r_meets hg hL h80 d) (by omega) q.1 (a := a.toNat) (by omega) (Q := Q) (fun τ1 g1 dc => hq 0 τ1 ⟨g1.1, fun p hp => g1.2.1 p (mup p hp), fun k hk => g1.2.2.1 k (by rw [e36]; exact hk), fun p hp hm => by
      rcases g1.2.2.2.1 p hp hm with w | w
      · rcases mback p hp w with y | y
        · exact Or.inl y
        · rw [y]; exact Or.inr dc
      · exact Or.inr w, fun k hk => by
      have := g1.2.2.2.2 k hk
      rw [e36] at this; exact this⟩ (g1.2.1 _ mself)) (ρ 0 4).toNat 0 τ3 bigN (by have := hg.1; omega) (by have := hg.2.1; unfold bigN; omega) (GW.rf ms3) (fun c hc => by cases hc)
    rw [q.2.1, q.2.2, show ((a.toNat : Nat) : Int) = a by omega, show ((i.toNat : Nat) : Int) = i by omega, show ((j.toNat : Nat) : Int) = j by omega] at this
    exact this
