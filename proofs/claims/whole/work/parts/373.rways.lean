/-! how many trees: the reference's, and ways -/
def MW (ρ τ : St) : Prop := LA ρ τ ∧ ∀ a i j, isItm ρ a i j → τ 17 (it a i j).toNat = 0 ∨ ∃ k, FQ ρ k (itN ρ a i j) ∧ τ 18 (it a i j).toNat = wq ρ k (itN ρ a i j)
theorem wS_app {ρ : St} {w : Nat → Int} {l k : List Cs} : wS ρ w (l ++ k) = wS ρ w l + wS ρ w k := sumC_app l
theorem wS_cOne {ρ : St} {w : Nat → Int} {r : Nat} {m f s : Int} : wS ρ w (cOne r m f s) = ix (f ≠ -2 ∧ s ≠ -2 ∧ hPt ρ f ∧ hPt ρ s) * min B0 (wpx w f * wpx w s) := by
  unfold cOne wS
  by_cases h : f = -2 ∨ s = -2
  · rw [if_pos h, ix_n (by rintro ⟨h1, h2, -⟩; rcases h with h | h; exact h1 h; exact h2 h)]
    show (0 : Int) = 0 * _
    omega
  · rw [if_neg h]
    show ix (fullC ρ ((r : Int), m, f, s)) * wpr w ((r : Int), m, f, s) + 0 = _
    rw [Int.add_zero, ix_e (show fullC ρ ((r : Int), m, f, s) ↔ (f ≠ -2 ∧ s ≠ -2 ∧ hPt ρ f ∧ hPt ρ s) from ⟨fun q => ⟨fun e => h (Or.inl e), fun e => h (Or.inr e), q.1, q.2⟩, fun q => ⟨q.2.2.1, q.2.2.2⟩⟩)]
    rfl
theorem wS_one1 {ρ : St} (hg : Wg ρ) (hL : LL ρ < 9) {w : Nat → Int} (hw : wOK w) {r : Nat} {m p : Int} (hp : isPart p) {i j : Nat} (hi : i < j ∧ j ≤ LL ρ) : wS ρ w (cOne r m (pv ρ p i j) (-1)) = ix (hT ρ p i j) * wpx w (pv ρ p i j) := by
  rw [wS_cOne, ix_e (show (pv ρ p i j ≠ -2 ∧ (-1 : Int) ≠ -2 ∧ hPt ρ (pv ρ p i j) ∧ hPt ρ (-1)) ↔ hT ρ p i j from ⟨fun z => (hPt_pv hg hL hp hi).1 ⟨z.1, z.2.2.1⟩, fun z => by have := (hPt_pv hg hL hp hi).2 z; exact ⟨this.1, by decide, this.2, Or.inl (by decide)⟩⟩)]
  congr 1
  have h1 := wpx_r hw (pv ρ p i j)
  have h2 : wpx w (-1) = 1 := by unfold wpx; rw [if_pos (by decide)]
  rw [h2, Int.mul_one]; omega
theorem wS_two {ρ : St} (hg : Wg ρ) (hL : LL ρ < 9) {w : Nat → Int} {r : Nat} {x p p2 : Int} (hp : isPart p) (hp2 : isPart p2) {i m j : Nat} (hi : i < m ∧ m < j ∧ j ≤ LL ρ) : wS ρ w (cOne r x (pv ρ p i m) (pv ρ p2 m j)) = ix (hT ρ p i m ∧ hT ρ p2 m j) * min B0 (wpx w (pv ρ p i m) * wpx w (pv ρ p2 m j)) := by
  have e1 := hPt_pv hg hL hp (i := i) (j := m) (by omega)
  have e2 := hPt_pv hg hL hp2 (i := m) (j := j) (by omega)
  rw [wS_cOne, ix_e (show (pv ρ p i m ≠ -2 ∧ pv ρ p2 m j ≠ -2 ∧ hPt ρ (pv ρ p i m) ∧ hPt ρ (pv ρ p2 m j)) ↔ (hT ρ p i m ∧ hT ρ p2 m j) from ⟨fun z => ⟨e1.1 ⟨z.1, z.2.2.1⟩, e2.1 ⟨z.2.1, z.2.2.2⟩⟩, fun z => by have a := e1.2 z.1; have b := e2.2 z.2; exact ⟨a.1, b.1, a.2, b.2⟩⟩)]
/-- what a part asks of the machine below -/
def MOk (ρ : St) (k : Nat) (M : Int → Int → Int → St → (Int → St → Prop) → Prop) : Prop := ∀ (a i j : Int) (τ : St) (Q : Int → St → Prop), isItm ρ a i j → FQ ρ k (itN ρ a i j) → MW ρ τ → (∀ τ1, MW ρ τ1 → Q (wq ρ k (itN ρ a i j)) τ1) → M a i j τ Q
theorem r_waysPart {ρ τ : St} (hg : Wg ρ) (hL : LL ρ < 9) (h80 : 0 ≤ ρ 0 8) {k : Nat} {M : Int → Int → Int → St → (Int → St → Prop) → Prop} (hM : MOk ρ k M) (hw : MW ρ τ) {p : Int} (hp : isPart p) {i j : Nat} (hi : i < j ∧ j ≤ LL ρ) (hf : hT ρ p i j → 0 ≤ pv ρ p i j → FQ ρ k (pv ρ p i j).toNat) {Q : Int → St → Prop} (hq : ∀ τ1, MW ρ τ1 → Q (ix (hT ρ p i j) * wpx (wq ρ k) (pv ρ p i j)) τ1) : wp_X12_waysPart M p (i : Int) (j : Int) τ Q := by
  have hs8 : ρ 0 8 ≤ 8 := by unfold LL at hL; omega
  have eL : ((LL ρ : Nat) : Int) = ρ 0 8 := by unfold LL; omega
  unfold wp_X12_waysPart
  refine r_fits2 hg hw.1 hs8 hp (by omega) (fun h => ⟨fun z => absurd rfl z, fun _ => ?_⟩) (fun h => ⟨fun _ => ⟨fun z => ?_, fun z => ?_⟩, fun z => absurd (by decide) z⟩)
  · have := hq τ hw
    rw [ix_n h, Int.zero_mul] at this; exact this
  · unfold isPart at hp
    have e := pv_itN (ρ := ρ) (p := p) (i := i) (j := j) (by omega)
    have hf2 := hf h (by omega)
    rw [e, Int.toNat_natCast] at hf2
    refine hM p i j τ _ ⟨by omega, by omega, by omega, by omega⟩ hf2 hw (fun τ1 h1 => ?_)
    have := hq τ1 h1
    rw [ix_y h, Int.one_mul, e] at this
    unfold wpx at this
    rw [if_neg (by omega), Int.toNat_natCast] at this
    exact this
  · have e : pv ρ p i j = -1 := by
      have := (hPt_pv hg hL hp hi).2 h
      by_cases hc : j = i + 1 ∧ ρ 11 i = p - 100
      · exact pv_yes (by omega) hc
      · exact absurd (pv_no (by omega) hc) this.1
    have := hq τ hw
    rw [ix_y h, Int.one_mul, e] at this
    exact this
theorem ixm {P : Prop} {x : Int} (hx : sR x) : sR (ix P * x) := by
  by_cases h : P
  · rw [ix_y h, Int.one_mul]; exact hx
  · rw [ix_n h, Int.zero_mul]; unfold sR B0; omega
theorem r_wi100 {ρ : St} (hg : Wg ρ) (hL : LL ρ < 9) (h80 : 0 ≤ ρ 0 8) {k : Nat} {M : Int → Int → Int → St → (Int → St → Prop) → Prop} (hM : MOk ρ k M) {r : Nat} (hr : (r : Int) < ρ 0 4) (h5 : ρ 5 r ≠ -1) {i j : Nat} (hi : i < j ∧ j ≤ LL ρ) (hf : ∀ m : Nat, i < m → m < j → hT ρ (ρ 4 r) i m → hT ρ (ρ 5 r) m j → (0 ≤ pv ρ (ρ 4 r) i m → FQ ρ k (pv ρ (ρ 4 r) i m).toNat) ∧ (0 ≤ pv ρ (ρ 5 r) m j → FQ ρ k (pv ρ (ρ 5 r) m j).toNat)) {x1 x4 A : Int} (hA : 0 ≤ A) {Q : Int → St → Prop} {K : Int → Int → Int → Int → Int → Int → St → Prop} (hk : ∀ τ1, MW ρ τ1 → K x1 i j x4 (min B0 (A + wS ρ (wq ρ k) (cB ρ r i j (j - i - 1)))) ((r + 1 : Nat) : Int) τ1) : ∀ (e d : Nat) (τ : St) (n : Nat), i + 1 + d + e = j → e < n → MW ρ τ → wp_X12_waysItem_l100 M Q K n x1 i j x4 (min B0 (A + wS ρ (wq ρ k) (cB ρ r i j d))) (r : Int) ((i + 1 + d : Nat) : Int) τ := by
  have hb := hg.2.1
  have hs8 : ρ 0 8 ≤ 8 := by unfold LL at hL; omega
  have eL : ((LL ρ : Nat) : Int) = ρ 0 8 := by unfold LL; omega
  obtain ⟨hh, hp1, hp2, hpr, -⟩ := hg.2.2 r hr
  have hp2 : isPart (ρ 5 r) := hp2.resolve_left h5
  intro e
  induction e with
  | zero =>
    intro d τ n hd hn hw
    obtain ⟨n, rfl⟩ := suc_n hn
    unfold wp_X12_waysItem_l100 wp_X12_waysItem_b195
    refine ⟨fun _ v ev => ?_, fun w => absurd (by omega) w⟩
    rw [ev, w32_of (by omega) (by omega), show (r : Int) + 1 = ((r + 1 : Nat) : Int) by omega, show d = j - i - 1 by omega]
    exact hk τ hw
  | succ e ih =>
    intro d τ n hd hn hw
    obtain ⟨n, rfl⟩ := suc_n hn
    obtain ⟨k1, k2, k3, k4⟩ := hw.1.1.2.2.2.1 r hr
    have snn := wS_nn (ρ := ρ) (wq_ok (ρ := ρ) k) (cB ρ r i j d)
    have st : wS ρ (wq ρ k) (cB ρ r i j (d + 1)) = wS ρ (wq ρ k) (cB ρ r i j d) + ix (hT ρ (ρ 4 r) i ((i + 1 + d : Nat) : Int) ∧ hT ρ (ρ 5 r) ((i + 1 + d : Nat) : Int) j) * min B0 (wpx (wq ρ k) (pv ρ (ρ 4 r) i (i + 1 + d)) * wpx (wq ρ k) (pv ρ (ρ 5 r) (i + 1 + d) j)) := by
      show wS ρ _ (cB ρ r i j d ++ cOne r _ _ _) = _
      rw [wS_app, wS_two hg hL hp1 hp2 (by omega)]
    have nx : ∀ τ1 y, MW ρ τ1 → y = min B0 (A + wS ρ (wq ρ k) (cB ρ r i j (d + 1))) → wp_X12_waysItem_b189 M Q K (wp_X12_waysItem_l100 M Q K n) x1 i j x4 y (r : Int) ((i + 1 + d : Nat) : Int) τ1 := by
      intro τ1 y h1 ey
      unfold wp_X12_waysItem_b189
      intro v ev
      rw [ev, w32_of (by omega) (by omega), show ((i + 1 + d : Nat) : Int) + 1 = ((i + 1 + (d + 1) : Nat) : Int) by omega, ey]
      exact ih (d + 1) τ1 n (by omega) (by omega) h1
    have skip : ¬ (hT ρ (ρ 4 r) i ((i + 1 + d : Nat) : Int) ∧ hT ρ (ρ 5 r) ((i + 1 + d : Nat) : Int) j) → wp_X12_waysItem_b189 M Q K (wp_X12_waysItem_l100 M Q K n) x1 i j x4 (min B0 (A + wS ρ (wq ρ k) (cB ρ r i j d))) (r : Int) ((i + 1 + d : Nat) : Int) τ := by
      intro h
      refine nx τ _ hw ?_
      rw [st, ix_n h, Int.zero_mul, Int.add_zero]
    unfold wp_X12_waysItem_l100
    rw [Int.toNat_natCast, k3, k2]
    refine ⟨fun w => absurd w (by omega), fun _ => ⟨by omega, fun w => absurd w h5, fun _ => ⟨by omega, r_fits2 hg hw.1 hs8 hp1 (by omega) (fun h => ⟨fun _ => skip (fun z => h z.1), fun z => absurd rfl z⟩) (fun y1 => ⟨fun z => absurd z (by decide), fun _ => ⟨by omega, ?_⟩⟩)⟩⟩⟩
    rw [k3]
    refine r_fits2 hg hw.1 hs8 hp2 (by omega) (fun h => ⟨fun _ => skip (fun z => h z.2), fun z => absurd rfl z⟩) (fun y2 => ⟨fun z => absurd z (by decide), fun _ => ⟨by omega, ?_⟩⟩)
    rw [k2]
    have ff := hf (i + 1 + d) (by omega) (by omega) y1 y2
    refine r_waysPart hg hL h80 hM hw hp1 (by omega) (fun _ => ff.1) (fun τ1 h1 => ⟨by omega, ?_⟩)
    rw [(h1.1.1.2.2.2.1 r hr).2.2.1]
    refine r_waysPart hg hL h80 hM h1 hp2 (by omega) (fun _ => ff.2) (fun τ2 h2 => ?_)
    rw [ix_y y1, ix_y y2, Int.one_mul, Int.one_mul]
    have w1 := wpx_r (wq_ok (ρ := ρ) k) (pv ρ (ρ 4 r) i (i + 1 + d))
    have w2 := wpx_r (wq_ok (ρ := ρ) k) (pv ρ (ρ 5 r) (i + 1 + d) j)
    have nn : 0 ≤ wpx (wq ρ k) (pv ρ (ρ 4 r) i (i + 1 + d)) * wpx (wq ρ k) (pv ρ (ρ 5 r) (i + 1 + d) j) := Int.mul_nonneg w1.1 w2.1
    refine r_timesGreat w1 w2 (r_plusGreat (sat_r (by omega)) (sat_r nn) (nx τ2 _ h2 ?_))
    rw [st, ix_y ⟨y1, y2⟩, Int.one_mul, sat_add (by omega) (sat_r nn).1, Int.add_assoc]
theorem r_wi32 {ρ : St} (hg : Wg ρ) (hL : LL ρ < 9) (h80 : 0 ≤ ρ 0 8) {k : Nat} {M : Int → Int → Int → St → (Int → St → Prop) → Prop} (hM : MOk ρ k M) {s a : Nat} (hs : s < spN (LL ρ)) (ha12 : a < 12) (hf : FQ ρ (k + 1) (12 * s + a)) {x4 : Int} (hx4 : x4 = it a (spB (LL ρ) s : Nat) (spF (LL ρ) s : Nat)) {Q : Int → St → Prop} (hq : ∀ τ1, MW ρ τ1 → Q (wq ρ (k + 1) (12 * s + a)) τ1) : ∀ (d r : Nat) (τ : St) (n : Nat), (r : Int) + d = ρ 0 4 → d < n → MW ρ τ → wp_X12_waysItem_l32 M Q n (a : Int) (spB (LL ρ) s : Nat) (spF (LL ρ) s : Nat) x4 (min B0 (wS ρ (wq ρ k) (cS ρ s (liA ρ a r)))) (r : Int) τ := by
  have hb := hg.2.1
  have hs8 : ρ 0 8 ≤ 8 := by unfold LL at hL; omega
  have eL : ((LL ρ : Nat) : Int) = ρ 0 8 := by unfold LL; omega
  have q := sp_s hL hs
  have hI : isItm ρ (a : Int) ((spB (LL ρ) s : Nat) : Int) ((spF (LL ρ) s : Nat) : Int) := ⟨by omega, by omega, by omega, by omega⟩
  have eN : itN ρ (a : Int) ((spB (LL ρ) s : Nat) : Int) ((spF (LL ρ) s : Nat) : Int) = 12 * s + a := by unfold itN; rw [Int.toNat_natCast, Int.toNat_natCast, Int.toNat_natCast, q.2.2]
  have itr := it_r hI.1 (i := ((spB (LL ρ) s : Nat) : Int)) (j := ((spF (LL ρ) s : Nat) : Int)) (by omega)
  intro d
  induction d with
  | zero =>
    intro r τ n hd hn hw
    obtain ⟨n, rfl⟩ := suc_n hn
    unfold wp_X12_waysItem_l32
    rw [hw.1.1.1]
    refine ⟨fun _ => ⟨by rw [hx4]; exact itr, fun τ3 e3 => ⟨by rw [hx4]; exact itr, fun τ4 e4 => ?_⟩⟩, fun w => absurd w (by omega)⟩
    have ev : min B0 (wS ρ (wq ρ k) (cS ρ s (liA ρ a r))) = wq ρ (k + 1) (12 * s + a) := by
      show _ = min B0 (wS ρ (wq ρ k) (cI ρ (12 * s + a)))
      unfold cI
      rw [show (12 * s + a) / 12 = s by omega, show (12 * s + a) % 12 = a by omega, show (ρ 0 4).toNat = r by omega]
    rw [ev] at e4 ⊢
    refine hq τ4 ⟨by rw [e4, e3]; exact hw.1, fun b i j hb2 => ?_⟩
    rw [e4, upS_k (by decide), e3]
    by_cases e : (it b i j).toNat = x4.toNat
    · rw [hx4] at e ⊢
      have e2 := itm_inj hs8 hb2 hI e
      rw [e, upS_s, upS_s, e2.1, e2.2.1, e2.2.2, eN]
      exact Or.inr ⟨k + 1, hf, rfl⟩
    · rw [upS_j e, upS_j e, upS_k (by decide)]
      exact hw.2 b i j hb2
  | succ d ih =>
    intro r τ n hd hn hw
    obtain ⟨n, rfl⟩ := suc_n hn
    have hr : (r : Int) < ρ 0 4 := by push_cast at hd; omega
    obtain ⟨k1, k2, k3, k4⟩ := hw.1.1.2.2.2.1 r hr
    obtain ⟨hh, hp1, hp2, hpr, -⟩ := hg.2.2 r hr
    have step := cS_step (ρ := ρ) (s := s) (a := a) (n := r)
    have snn := wS_nn (ρ := ρ) (wq_ok (ρ := ρ) k) (cS ρ s (liA ρ a r))
    have skip : inA ρ a r ≠ true → wp_X12_waysItem_b195 M Q (wp_X12_waysItem_l32 M Q n) (a : Int) (spB (LL ρ) s : Nat) (spF (LL ρ) s : Nat) x4 (min B0 (wS ρ (wq ρ k) (cS ρ s (liA ρ a r)))) (r : Int) τ := by
      intro hin
      rw [if_neg hin, List.append_nil] at step
      unfold wp_X12_waysItem_b195
      intro v ev
      rw [ev, w32_of (by omega) (by omega), show (r : Int) + 1 = ((r + 1 : Nat) : Int) by omega, ← step]
      exact ih (r + 1) τ n (by push_cast at hd ⊢; omega) (by omega) hw
    unfold wp_X12_waysItem_l32
    rw [hw.1.1.1]
    refine ⟨fun w => absurd w (by omega), fun _ => r_isIn hg hw.1.1.2.1 hr ?_⟩
    by_cases h8 : ρ 8 r = 0
    · rw [if_pos h8, Int.toNat_natCast, k1, k3, k2]
      refine ⟨fun w => absurd w (by decide), fun _ => ⟨by omega, fun h3 => ⟨by omega, ?_, ?_⟩, fun h3 => skip (fun w => h3 (inA_iff.1 w).1)⟩⟩
      · intro h5
        have hin : inA ρ a r = true := inA_iff.2 ⟨h3, h8⟩
        rw [if_pos hin] at step
        unfold cC at step
        rw [if_neg h5] at step
        unfold wp_X12_waysItem_b95
        intro v ev
        rw [ev, w32_of (by omega) (by omega), show ((spB (LL ρ) s : Nat) : Int) + 1 = ((spB (LL ρ) s + 1 + 0 : Nat) : Int) by omega]
        have hA := r_wi100 hg hL h80 hM hr h5 (i := spB (LL ρ) s) (j := spF (LL ρ) s) (by omega) (fun m m1 m2 t1 t2 => by
          obtain ⟨c, hc, hfu, c1, c2⟩ := case2 hg hL h80 ha12 hr h8 h3 (i := spB (LL ρ) s) (m := m) (j := spF (LL ρ) s) (by omega) h5 t1 t2
          rw [q.2.2] at hc
          have := hf c hc hfu
          rw [c1, c2] at this; exact this) (x1 := (a : Int)) (x4 := x4) (A := wS ρ (wq ρ k) (cS ρ s (liA ρ a r))) snn (Q := Q) (K := wp_X12_waysItem_l32 M Q n) (fun τ1 h1 => by
          rw [← wS_app, ← step]
          exact ih (r + 1) τ1 n (by push_cast at hd ⊢; omega) (by omega) h1) (spF (LL ρ) s - spB (LL ρ) s - 1) 0 τ bigN (by omega) (by unfold bigN; omega) hw
        rw [show wS ρ (wq ρ k) (cB ρ r (spB (LL ρ) s) (spF (LL ρ) s) 0) = 0 from rfl, Int.add_zero] at hA
        exact hA
      · intro h5
        have h5 : ρ 5 r = -1 := by omega
        have hin : inA ρ a r = true := inA_iff.2 ⟨h3, h8⟩
        rw [if_pos hin] at step
        unfold cC at step
        rw [if_pos h5] at step
        have st : wS ρ (wq ρ k) (cS ρ s (liA ρ a (r + 1))) = wS ρ (wq ρ k) (cS ρ s (liA ρ a r)) + ix (hT ρ (ρ 4 r) (spB (LL ρ) s : Nat) (spF (LL ρ) s : Nat)) * wpx (wq ρ k) (pv ρ (ρ 4 r) (spB (LL ρ) s) (spF (LL ρ) s)) := by
          rw [step, wS_app, wS_one1 hg hL (wq_ok k) hp1 (by omega)]
        have w1 : sR (wpx (wq ρ k) (pv ρ (ρ 4 r) (spB (LL ρ) s) (spF (LL ρ) s))) := wpx_r (wq_ok (ρ := ρ) k) _
        refine ⟨by omega, r_waysPart hg hL h80 hM hw hp1 (by omega) (fun t1 => by
          obtain ⟨c, hc, hfu, c1, c2⟩ := case1 hg hL h80 ha12 hr h8 h3 (i := spB (LL ρ) s) (j := spF (LL ρ) s) (by omega) h5 t1
          rw [q.2.2] at hc
          have := (hf c hc hfu).1
          rw [c1] at this; exact this) (fun τ1 h1 => r_plusGreat (sat_r snn) (ixm w1) ?_)⟩
        rw [sat_add snn (ixm w1).1, ← st]
        unfold wp_X12_waysItem_b95
        intro v ev
        have fin : wp_X12_waysItem_b195 M Q (wp_X12_waysItem_l32 M Q n) (a : Int) (spB (LL ρ) s : Nat) (spF (LL ρ) s : Nat) x4 (min B0 (wS ρ (wq ρ k) (cS ρ s (liA ρ a (r + 1))))) (r : Int) τ1 := by
          unfold wp_X12_waysItem_b195
          intro v3 ev3
          rw [ev3, w32_of (by omega) (by omega), show (r : Int) + 1 = ((r + 1 : Nat) : Int) by omega]
          exact ih (r + 1) τ1 n (by push_cast at hd ⊢; omega) (by omega) h1
        rw [ev, w32_of (by omega) (by omega)]
        obtain ⟨nb, hnb⟩ := suc_n (show 0 < bigN by unfold bigN; omega)
        rw [hnb]
        unfold wp_X12_waysItem_l100
        rw [Int.toNat_natCast, (h1.1.1.2.2.2.1 r hr).2.2.1]
        exact ⟨fun _ => fin, fun _ => ⟨by omega, fun _ => fin, fun w => absurd h5 w⟩⟩
    · rw [if_neg h8]
      exact ⟨fun _ => skip (fun w => h8 (inA_iff.1 w).2), fun w => absurd rfl w⟩
theorem r_waysItem {ρ : St} (hg : Wg ρ) (hL : LL ρ < 9) (h80 : 0 ≤ ρ 0 8) : ∀ (k d : Nat), k ≤ d → MOk ρ k (wp_X12_waysItem d)
  | 0, d, _ => fun a i j τ Q hI hf => hf.elim
  | k + 1, 0, h => by omega
  | k + 1, d + 1, h => fun a i j τ Q hI hf hw hq => by
    have hs8 : ρ 0 8 ≤ 8 := by unfold LL at hL; omega
    have h1 := hI.1
    have h2 := hI.2
    have hij : i.toNat < j.toNat ∧ j.toNat ≤ LL ρ := ⟨by omega, by unfold LL; omega⟩
    have q := sp_a (L := LL ρ) hL hij
    have eN : itN ρ a i j = 12 * spA (LL ρ) i.toNat j.toNat + a.toNat := rfl
    unfold wp_X12_waysItem
    refine r_item h1 (by omega) ⟨it_r h1 (by omega), fun z => ?_, fun z => ⟨it_r h1 (by omega), ?_⟩⟩
    · rw [eN] at hf hq
      have := r_wi32 hg hL h80 (r_waysItem hg hL h80 k d (by omega)) q.1 (a := a.toNat) (by omega) hf (x4 := it a i j) (by rw [q.2.1, q.2.2, show ((a.toNat : Nat) : Int) = a by omega, show ((i.toNat : Nat) : Int) = i by omega, show ((j.toNat : Nat) : Int) = j by omega]) hq (ρ 0 4).toNat 0 τ bigN (by have := hg.1; omega) (by have := hg.2.1; unfold bigN; omega) hw
      rw [q.2.1, q.2.2, show ((a.toNat : Nat) : Int) = a by omega, show ((i.toNat : Nat) : Int) = i by omega, show ((j.toNat : Nat) : Int) = j by omega, show min B0 (wS ρ (wq ρ k) (cS ρ (spA (LL ρ) i.toNat j.toNat) (liA ρ a.toNat 0))) = 0 by show min B0 0 = 0; unfold B0; decide] at this
      exact this
    · rcases hw.2 a i j hI with y | ⟨n, y1, y2⟩
      · exact absurd y z
      · rw [y2]
        have e : wq ρ n (itN ρ a i j) = wq ρ (k + 1) (itN ρ a i j) := by
          rcases Nat.le_total n (k + 1) with w | w
          · exact (wq_to y1 w).symm
          · exact wq_to hf w
        rw [e]
        exact hq τ hw
theorem r_ways {ρ τ : St} (hW : WW ρ) (hV : VR τ ρ) {x1 x2 x3 : Int} {Q : Int → St → Prop} (hno : ¬ isItm ρ x1 x2 x3 → Q (-2) τ) (hyes : isItm ρ x1 x2 x3 → ∀ τ1 v, Rt ρ (itN ρ x1 x2 x3) v → Q (if v ≤ 1000000000000000 then v else -3) τ1) : wp_X12_ways x1 x2 x3 τ Q := by
  have hg := hW.2.2.1
  have h80 := hW.2.2.2.2.1
  have hs8 := hW.2.2.2.2.2.1
  have hL : LL ρ < 9 := by unfold LL; omega
  unfold wp_X12_ways
  refine r_isItem hV.2.2.2.2.2.1 (fun h => ⟨fun q => absurd rfl q, fun _ => hno h⟩) (fun h => ⟨fun _ => r_looks hW hV (fun τ1 hA => r_laysEndless hg hL h80 hA (fun τ2 hE => ?_)), fun q => absurd (by decide) q⟩)
  have h2 := h.2
  refine r_item h.1 (by omega) ⟨it_r h.1 (by omega), fun z => ?_, fun z => ?_⟩
  · rcases hE.2.2 x1 x2 x3 h with ⟨-, f⟩ | ⟨y, -⟩
    · refine r_waysItem hg hL h80 (12 * (x3 - x2).toNat) 120 (by omega) x1 x2 x3 τ2 _ h f ⟨hE.1, fun a i j hI => Or.inl (hE.2.1 _ (by have := hI.2; have := it_r hI.1 (i := i) (j := j) (by omega); omega))⟩ (fun τ3 _ => ?_)
      have hy := hyes h τ3 _ (Or.inr ⟨_, f, rfl⟩)
      refine ⟨fun w => ?_, fun w => ?_⟩
      · rw [if_pos w] at hy; exact hy
      · rw [if_neg w] at hy; exact hy
    · unfold en at y; omega
  · rcases hE.2.2 x1 x2 x3 h with ⟨y, -⟩ | ⟨-, f⟩
    · exact absurd y z
    · have hy := hyes h τ2 (-5) (Or.inl ⟨rfl, f⟩)
      rw [if_pos (by decide)] at hy; exact hy
/-! the op -/
def CcT (Cc : Bool → St → St → Prop) : Prop := (∀ b σ ρ, Cc b σ ρ → (σ 41 6 = 0 ∨ (σ 41 6 = 1 ∧ TrK ρ σ))) ∧ (∀ b σ σ1 ρ, Cc b σ ρ → Bt ρ σ1 → (σ1 36 7 = 1 ∧ Lw ρ σ1) → (σ1 41 6 = 1 ∧ TrK ρ σ1) → Fr S_X11_ways σ σ1 → Cc b σ1 ρ)
section OPS
variable {Cc : Bool → St → St → Prop}
theorem s_ways (hC : CcL Cc) (hT : CcT Cc) : Step_ways (Inv Cc) := by
  rintro b σ τ ⟨ρ, hW, hVC, hVR, hc⟩ x1 x2 x3 c1 c2 c3
  have hk := hC.kl hVC hc
  have ht := hT.1 b σ ρ hc
  have hL : LL ρ < 9 := by have := hW.2.2.2.2.2.1; unfold LL; omega
  refine mf_X11_ways (Q := fun r σ1 => (¬ isItm ρ x1 x2 x3 ∧ r = -2 ∧ σ1 = σ) ∨ (isItm ρ x1 x2 x3 ∧ Bt ρ σ1 ∧ (σ1 36 7 = 1 ∧ Lw ρ σ1) ∧ (σ1 41 6 = 1 ∧ TrK ρ σ1) ∧ ∃ v, Rt ρ (itN ρ x1 x2 x3) v ∧ r = (if v ≤ 1000000000000000 then v else -3))) (fun r σ1 h f => ?_) Fr.rf (by
    unfold wp_X11_ways
    refine c_itemOf hW hk.1 hk.2.1 hk.2.2.1 (fun h => ⟨fun q => absurd q (by decide), fun _ => Or.inl ⟨h, rfl, rfl⟩⟩) (fun h σ1 hB f => ⟨fun _ => ?_, fun q => absurd (by omega) q⟩)
    have e6 : σ1 41 6 = σ 41 6 := f.at rfl
    have e42 : σ1 42 = σ 42 := funext (fun j => f.at rfl)
    refine c_treesOf hW (hk.bt hB f) (by unfold TrK; rw [e6, e42]; exact ht) (itN_r hL h).2 (fun σ2 a1 a2 a3 a4 a5 => ?_)
    have rt := a5 _ (itN_r hL h).1
    unfold wp_X11_tellNumber
    refine ⟨fun w => Or.inr ⟨h, a1, ⟨a2, a3⟩, ⟨a4, a5⟩, _, rt, by rw [if_pos w]⟩, fun w => Or.inr ⟨h, a1, ⟨a2, a3⟩, ⟨a4, a5⟩, _, rt, by rw [if_neg w]⟩⟩)
  refine mf_X12_ways (Q := fun r _ => (¬ isItm ρ x1 x2 x3 ∧ r = -2) ∨ (isItm ρ x1 x2 x3 ∧ ∃ v, Rt ρ (itN ρ x1 x2 x3) v ∧ r = (if v ≤ 1000000000000000 then v else -3))) (fun r1 τ1 h1 f1 => ?_) Fr.rf (r_ways hW hVR (fun h => Or.inl ⟨h, rfl⟩) (fun h τ1 v h3 => Or.inr ⟨h, v, h3, rfl⟩))
  have hR : VR τ1 ρ := VR.frB f1 (by decide) hVR
  rcases h with ⟨g0, rfl, rfl⟩ | ⟨g0, g1, g2, g3, v, g4, rfl⟩
  · rcases h1 with ⟨k0, rfl⟩ | ⟨k0, -⟩
    · exact ⟨rfl, ρ, hW, hVC, hR, hc⟩
    · exact absurd k0 g0
  · rcases h1 with ⟨k0, -⟩ | ⟨k0, w, k1, rfl⟩
    · exact absurd g0 k0
    · rw [g4.uniq k1]
      exact ⟨rfl, ρ, hW, VC.frB f (by decide) hVC, hR, hT.2 b σ σ1 ρ hc g1 g2 g3 f⟩
end OPS
