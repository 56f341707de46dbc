/-! the class's numbers by cost: a case, an item -/
theorem c_countCase {ρ σ : St} (hg : Wg ρ) (hL : LL ρ < 9) (hw : Lw ρ σ) {x d : Nat} {k : Cs} (hx : x < 3360) (s3 : σ 31 x = k.2.2.1) (s4 : σ 32 x = k.2.2.2) (ok : cOK ρ k) (hf : fullC ρ k) (hd : d ≤ 300) (h1 : KN ρ σ k.2.2.1 d) (h2 : KN ρ σ k.2.2.2 d) {Q : Int → St → Prop} (hq : Q (min B0 (cv (tp (nn ρ) k.2.2.1) (tp (nn ρ) k.2.2.2) d)) σ) : wp_X8_countCase (x : Int) (d : Int) σ Q := by
  have h3 := sp_3 _ hL
  have o1 := ok.2.1
  have o2 := ok.2.2
  have hfa : hPt ρ k.2.2.1 := hf.1
  have hfb : hPt ρ k.2.2.2 := hf.2
  unfold wp_X8_countCase
  rw [Int.toNat_natCast, s3, s4]
  refine ⟨by omega, fun v1 e1 => ⟨by omega, fun v2 e2 => ?_⟩⟩
  rw [e1, e2]
  generalize k.2.2.1 = f at *
  generalize k.2.2.2 = g at *
  have b49 : ∀ y : Nat, y < 12 * spN (LL ρ) → KN ρ σ (y : Int) d → max f g = (y : Int) → min B0 (cv (tp (nn ρ) f) (tp (nn ρ) g) d) = nn ρ y d → wp_X8_countCase_b49 Q (d : Int) f g σ := by
    intro y hy hk he hv
    obtain ⟨kk, k1, k2, t1, -⟩ := hk (by omega)
    rw [Int.toNat_natCast] at t1
    unfold wp_X8_countCase_b49
    rw [he, w32_of (x := (y : Int) * 301) (by omega) (by omega), w32_of (by omega) (by omega), show ((y : Int) * 301 + (d : Int)).toNat = 301 * y + d by omega, t1 d k1, ← hv]
    exact ⟨by omega, hq⟩
  by_cases hf0 : f < 0
  · by_cases hg0 : g < 0
    · refine ⟨fun w => absurd w (by omega), fun _ => ⟨fun w => absurd w (by omega), fun _ => ?_⟩⟩
      rw [cv_r (tp_neg hg0).1 (tp_neg hg0).2] at hq
      refine ⟨fun w => ?_, fun w => ?_⟩
      · rw [(tp_neg hf0).2 d (by omega), show min B0 0 = (0 : Int) by unfold B0; decide] at hq; exact hq
      · rw [show d = 0 by omega, (tp_neg hf0).1, show min B0 1 = (1 : Int) by unfold B0; decide] at hq; exact hq
    · refine ⟨fun w => absurd w (by omega), fun _ => ⟨fun _ => ?_, fun w => absurd (by omega) w⟩⟩
      unfold wp_X8_countCase_b40
      refine ⟨fun _ => b49 g.toNat (by omega) (by rw [show ((g.toNat : Nat) : Int) = g by omega]; exact h2) (by omega) ?_, fun w => absurd hf0 w⟩
      rw [cv_l (tp_neg hf0).1 (tp_neg hf0).2, tp_pos hg0]
      have := nn_r hg g.toNat d
      unfold sR at this; omega
  · refine ⟨fun _ => ?_, fun w => absurd (by omega) w⟩
    unfold wp_X8_countCase_b40
    refine ⟨fun w => absurd w hf0, fun _ => ⟨fun hg0 => ?_, fun hg0 => ?_⟩⟩
    · obtain ⟨k1, a1, a2, a3⟩ := h1 (by omega)
      obtain ⟨k2, b1, b2, b3⟩ := h2 (by omega)
      have e1 : ((f.toNat : Nat) : Int) = f := by omega
      have e2 : ((g.toNat : Nat) : Int) = g := by omega
      rw [tp_pos hf0, tp_pos (by omega)] at hq
      have := c_pairs hg hL hw (f := f.toNat) (g := g.toNat) (d := d) (by omega) (by omega) (by rw [e1]; exact hfa) (by rw [e2]; exact hfb) hd a3 b3 ⟨a1, a2⟩ ⟨b1, b2⟩ hq
      rw [e1, e2] at this
      exact this
    · refine b49 f.toNat (by omega) (by rw [show ((f.toNat : Nat) : Int) = f by omega]; exact h1) (by omega) ?_
      rw [cv_r (tp_neg (by omega)).1 (tp_neg (by omega)).2, tp_pos hf0]
      have := nn_r hg f.toNat d
      unfold sR at this; omega
theorem cwt_nf {ρ σ : St} (hg : Wg ρ) (hL : LL ρ < 9) (hw : Lw ρ σ) {q : Nat} (hq : q < 12 * spN (LL ρ)) {k : Cs} (hk : k ∈ cI ρ q) {c : Nat} (h : ¬ fullC ρ k) : cwt ρ (ct ρ) c k = 0 := by
  refine Classical.byContradiction (fun z => h ?_)
  have ok := cI_ok hg hL hq hk
  have o1 := ok.2.1
  have o2 := ok.2.2
  unfold cwt at z
  by_cases hle : prN ρ k ≤ c
  · rw [if_pos hle] at z
    obtain ⟨x, hx, hne⟩ := sumN_ne _ z
    have part : ∀ y n, y < ((12 * spN (LL ρ) : Nat) : Int) → tp (ct ρ) y n ≠ 0 → hPt ρ y := by
      intro y n hy ht
      by_cases h0 : y < 0
      · exact Or.inl h0
      · rw [tp_pos h0] at ht
        have := (ct_low hg hL hw (q := y.toNat) (by omega) ht).1
        rw [show ((y.toNat : Nat) : Int) = y by omega] at this
        exact this
    exact ⟨part _ x (by omega) (fun e => hne (by rw [e, Int.zero_mul])), part _ (c - prN ρ k - x) (by omega) (fun e => hne (by rw [e, Int.mul_zero]))⟩
  · rw [if_neg hle] at z; exact absurd rfl z
theorem c_countItem {ρ σ : St} (hg : Wg ρ) (hL : LL ρ < 9) (hB : Bt ρ σ) (hw : Lw ρ σ) {q c : Nat} (hq : q < 12 * spN (LL ρ)) (hc : 1 ≤ c ∧ c ≤ 300) (h79 : σ 79 q = min B0 (sumN (ct ρ q) c)) (hk : ∀ k ∈ cI ρ q, KN ρ σ k.2.2.1 (c - 1) ∧ KN ρ σ k.2.2.2 (c - 1)) {Q : Int → St → Prop} (h : Q (nn ρ q c) σ) : wp_X8_countItem (q : Int) (c : Int) σ Q := by
  have h3 := sp_3 _ hL
  have h3360 := PL_3360 hg hL
  have vg : VCg σ ρ := hB.1.2.2.1.1
  have z0 : ct ρ q c = 0 → Q 0 σ := fun z => by rw [nn_z z] at h; exact h
  unfold wp_X8_countItem
  refine c_hasI hg hL hw (by omega) (fun hn => ⟨fun _ => z0 (Classical.byContradiction (fun z => hn (ct_low hg hL hw hq z).1)), fun w => absurd rfl w⟩) (fun hy => ⟨fun w => absurd w (by decide), fun _ => ?_⟩)
  rw [Int.toNat_natCast]
  refine ⟨by omega, fun w => z0 (Classical.byContradiction (fun z => by have := (ct_low hg hL hw hq z).2.2; omega)), fun w => ⟨by omega, fun w2 => ?_, fun w2 => ?_⟩⟩
  · have hlt : sumN (ct ρ q) c < B0 := by rw [h79] at w2; unfold B0 at *; omega
    rw [nn_y hlt, ct_eq hg hc.1] at h
    have hlen : (cI ρ q).length < bigN := by
      by_cases hz : (cI ρ q).length = 0
      · rw [hz]; unfold bigN; omega
      · have := (hB.seg (t := (cI ρ q).length - 1) hq (by omega)).1
        unfold bigN; omega
    have lp : ∀ (d t : Nat) (n : Nat), t + d = (cI ρ q).length → d < n → wp_X8_countItem_l51 Q n (q : Int) (c : Int) (min B0 (sumC (cwt ρ (ct ρ) c) ((cI ρ q).take t))) (((PL ρ q).length + t : Nat) : Int) σ := by
      intro d
      induction d with
      | zero =>
        intro t n hd hn
        obtain ⟨n, rfl⟩ := suc_n hn
        unfold wp_X8_countItem_l51
        refine c_caseEnd hL hB hq ⟨fun _ => ?_, fun w => absurd (by omega) w⟩
        rw [show t = (cI ρ q).length by omega, List.take_length]; exact h
      | succ d ih =>
        intro t n hd hn
        obtain ⟨n, rfl⟩ := suc_n hn
        have ht : t < (cI ρ q).length := by omega
        obtain ⟨s0, s1, s2, s3, s4⟩ := hB.seg hq ht
        have mem := List.getElem_mem ht
        have ok := cI_ok hg hL hq mem
        have hp := prN_r hg mem
        have hkn := hk _ mem
        have sn : 0 ≤ sumC (cwt ρ (ct ρ) c) ((cI ρ q).take t) := sumC_nn _ (fun k hk => cwt_n hg c (List.mem_of_mem_take hk))
        have cn := cwt_n hg c mem
        have nx : ∀ v, v = min B0 (sumC (cwt ρ (ct ρ) c) ((cI ρ q).take t) + cwt ρ (ct ρ) c (cI ρ q)[t]) → wp_X8_countItem_b116 Q (wp_X8_countItem_l51 Q n) (q : Int) (c : Int) v (((PL ρ q).length + t : Nat) : Int) σ := by
          intro v ev
          rw [← sumC_take ht] at ev
          unfold wp_X8_countItem_b116
          intro y ey
          rw [ey, w32_of (by omega) (by omega), show (((PL ρ q).length + t : Nat) : Int) + 1 = (((PL ρ q).length + (t + 1) : Nat) : Int) by omega, ev]
          exact ih (t + 1) n (by omega) (by omega)
        have key := fun h1 => cv_key hg mem hlt (c := c) h1
        have nf := fun h1 => cwt_nf hg hL hw hq mem (c := c) h1
        generalize (cI ρ q)[t] = k at *
        have skip : cwt ρ (ct ρ) c k = 0 → wp_X8_countItem_b116 Q (wp_X8_countItem_l51 Q n) (q : Int) (c : Int) (min B0 (sumC (cwt ρ (ct ρ) c) ((cI ρ q).take t))) (((PL ρ q).length + t : Nat) : Int) σ := fun z => nx _ (by rw [z, Int.add_zero])
        have e18 : σ 18 (k.1).toNat = ((prN ρ k : Nat) : Int) := by
          rw [hp.2.2.1]
          have := (vg.2 k.1.toNat (by omega)).2.2.2.1
          exact this
        unfold wp_X8_countItem_l51
        refine c_caseEnd hL hB hq ⟨fun w => absurd w (by omega), fun _ => ?_⟩
        rw [Int.toNat_natCast, s1, e18]
        have h40 := hg.2.1
        refine ⟨by omega, by omega, fun v7 e7 => ?_⟩
        rw [w32_of (by omega) (by omega)] at e7
        refine ⟨fun w => skip (by unfold cwt; rw [if_neg (by omega)]), fun w => ?_⟩
        have hle : prN ρ k ≤ c := by omega
        refine c_isFull hg hL hw (c := k) (by omega) s3 s4 ok.2 (fun hf => ⟨fun _ => skip (nf hf), fun z => absurd rfl z⟩) (fun hf => ⟨fun z => absurd z (by decide), fun _ => ?_⟩)
        rw [show v7 = ((c - prN ρ k : Nat) : Int) by omega]
        have wk : ∀ x, KN ρ σ x (c - 1) → KN ρ σ x (c - prN ρ k) := fun x hx h0 => by
          obtain ⟨kk, a, b⟩ := hx h0
          exact ⟨kk, by omega, b⟩
        refine c_countCase hg hL hw (k := k) (by omega) s3 s4 ok hf (by omega) (wk _ hkn.1) (wk _ hkn.2) ?_
        rw [key hle]
        refine c_add (sat_r sn) (sat_r cn) (nx _ ?_)
        generalize sumC (cwt ρ (ct ρ) c) ((cI ρ q).take t) = A at *
        generalize cwt ρ (ct ρ) c k = B at *
        unfold B0; omega
    have := lp _ 0 bigN (Nat.zero_add _) hlen
    rw [show min B0 (sumC (cwt ρ (ct ρ) c) ((cI ρ q).take 0)) = 0 by show min B0 0 = (0 : Int); unfold B0; decide] at this
    exact c_caseStart hL hB hq this
  · have : nn ρ q c = 0 := by
      unfold nn
      rw [if_neg (by rw [h79] at w2; unfold B0 at *; omega)]
    rw [this] at h; exact h
