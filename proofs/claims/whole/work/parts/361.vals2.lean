/-! the reference's values -/
def RVS (ρ : St) (w : Nat → Int) (τ : St) : Prop := LA ρ τ ∧ VRg τ ρ ∧ VRb τ ρ ∧ ∀ a i j, isItm ρ a i j → τ 26 (it a i j).toNat = w (itN ρ a i j)
theorem vFo_cOne {ρ : St} {w : Nat → Int} {A : Int} {r : Nat} {m f s : Int} : vFo ρ w A (cOne r m f s) = if f = -2 ∨ s = -2 then A else vPl ρ A (vPr ρ w ((r : Int), m, f, s)) := by
  unfold cOne
  by_cases h : f = -2 ∨ s = -2
  · rw [if_pos h, if_pos h]; rfl
  · rw [if_neg h, if_neg h]; rfl
theorem r_valuePart {ρ τ : St} {w : Nat → Int} (hL : LL ρ < 9) (h80 : 0 ≤ ρ 0 8) (hs : RVS ρ w τ) {p : Int} (hp : isPart p) {i j : Nat} (hi : i < j ∧ j ≤ LL ρ) (hn : pv ρ p i j ≠ -2) {Q : Int → St → Prop} (h : Q (vpW ρ w (pv ρ p i j)) τ) : wp_X12_valuePart p (i : Int) (j : Int) τ Q := by
  have eL : ((LL ρ : Nat) : Int) = ρ 0 8 := by unfold LL; omega
  unfold isPart at hp
  unfold wp_X12_valuePart
  refine ⟨fun hl => ?_, fun hl => ?_⟩
  · have hI : isItm ρ p (i : Int) (j : Int) := ⟨by omega, by omega, by omega, by omega⟩
    refine r_item hI.1 (by omega) ⟨it_r hI.1 (by omega), ?_⟩
    rw [hs.2.2.2 _ _ _ hI]
    rw [pv_lab hl] at h
    unfold vpW at h
    rw [if_neg (by omega), show (((spA (LL ρ) i j * 12 : Nat) : Int) + p).toNat = itN ρ p i j by unfold itN; rw [Int.toNat_natCast, Int.toNat_natCast]; omega] at h
    exact h
  · have e : pv ρ p i j = -1 := by
      by_cases hc : j = i + 1 ∧ ρ 11 i = p - 100
      · exact pv_yes (by omega) hc
      · exact absurd (pv_no (by omega) hc) hn
    rw [e] at h
    rw [show τ 8 (Int.toNat 0) = ρ 0 7 from hs.2.2.1.2.2.1]
    exact h
theorem r_va107 {ρ τ : St} (hg : Wg ρ) (hL : LL ρ < 9) (h80 : 0 ≤ ρ 0 8) (hw : Wb ρ) {w : Nat → Int} (hr : WV ρ w) (hs : RVS ρ w τ) {r : Nat} (hr4 : (r : Int) < ρ 0 4) (h5 : ρ 5 r ≠ -1) {i j : Nat} (hi : i < j ∧ j ≤ LL ρ) {x1 A : Int} (hA : inB ρ A) {Q : Int → St → Prop} {K : Int → Int → Int → Int → Int → St → Prop} (hk : inB ρ (vFo ρ w A (cB ρ r i j (j - i - 1))) → K x1 i j (vFo ρ w A (cB ρ r i j (j - i - 1))) ((r + 1 : Nat) : Int) τ) : ∀ (e d : Nat) (n : Nat), i + 1 + d + e = j → e < n → inB ρ (vFo ρ w A (cB ρ r i j d)) → wp_X12_valueAnew_l107 Q K n x1 i j (vFo ρ w A (cB ρ r i j d)) (r : Int) ((i + 1 + d : Nat) : Int) τ := by
  have hb := hg.2.1
  have hs8 : ρ 0 8 ≤ 8 := by unfold LL at hL; omega
  have eL : ((LL ρ : Nat) : Int) = ρ 0 8 := by unfold LL; omega
  have ha := hs.1
  obtain ⟨k1, k2, k3, k4⟩ := ha.1.2.2.2.1 r hr4
  have k5 := (hs.2.1.2.2 r hr4).2.2.2.2
  obtain ⟨hh, hp1, hp2, hpr, he7, -⟩ := hg.2.2 r hr4
  have hp2 : isPart (ρ 5 r) := hp2.resolve_left h5
  intro e
  induction e with
  | zero =>
    intro d n hd hn hI
    obtain ⟨n, rfl⟩ := suc_n hn
    unfold wp_X12_valueAnew_l107 wp_X12_valueAnew_b215
    refine ⟨fun _ v ev => ?_, fun w => absurd (by omega) w⟩
    rw [show d = j - i - 1 by omega] at hI ⊢
    rw [ev, w32_of (by omega) (by omega), show (r : Int) + 1 = ((r + 1 : Nat) : Int) by omega]
    exact hk hI
  | succ e ih =>
    intro d n hd hn hI
    obtain ⟨n, rfl⟩ := suc_n hn
    have st : vFo ρ w A (cB ρ r i j (d + 1)) = if pv ρ (ρ 4 r) i (i + 1 + d) = -2 ∨ pv ρ (ρ 5 r) (i + 1 + d) j = -2 then vFo ρ w A (cB ρ r i j d) else vPl ρ (vFo ρ w A (cB ρ r i j d)) (vPr ρ w ((r : Int), ((i + 1 + d : Nat) : Int), pv ρ (ρ 4 r) i (i + 1 + d), pv ρ (ρ 5 r) (i + 1 + d) j)) := by
      show vFo ρ w A (cB ρ r i j d ++ cOne r _ _ _) = _
      rw [vFo_app, vFo_cOne]
    have q1 := pv_r (ρ := ρ) hL hp1 (i := i) (j := i + 1 + d) (by omega)
    have q2 := pv_r (ρ := ρ) hL hp2 (i := i + 1 + d) (j := j) (by omega)
    have i1 := pv_ok (ρ := ρ) hp1 (i := i) (j := i + 1 + d)
    have i2 := pv_ok (ρ := ρ) hp2 (i := i + 1 + d) (j := j)
    have nx : ∀ y, y = vFo ρ w A (cB ρ r i j (d + 1)) → inB ρ y → wp_X12_valueAnew_b209 Q K (wp_X12_valueAnew_l107 Q K n) x1 i j y (r : Int) ((i + 1 + d : Nat) : Int) τ := by
      intro y ey hy
      unfold wp_X12_valueAnew_b209
      intro v ev
      rw [ev, w32_of (by omega) (by omega), show ((i + 1 + d : Nat) : Int) + 1 = ((i + 1 + (d + 1) : Nat) : Int) by omega, ey]
      rw [ey] at hy
      exact ih (d + 1) n (by omega) (by omega) hy
    have skip : (pv ρ (ρ 4 r) i (i + 1 + d) = -2 ∨ pv ρ (ρ 5 r) (i + 1 + d) j = -2) → wp_X12_valueAnew_b209 Q K (wp_X12_valueAnew_l107 Q K n) x1 i j (vFo ρ w A (cB ρ r i j d)) (r : Int) ((i + 1 + d : Nat) : Int) τ := by
      intro h
      refine nx _ ?_ hI
      rw [st, if_pos h]
    unfold wp_X12_valueAnew_l107
    rw [Int.toNat_natCast, k3, k2]
    refine ⟨fun w => absurd w (by omega), fun _ => ⟨by omega, fun w => absurd w h5, fun _ => ⟨by omega, r_isLetterAt ha.1 hp1 (by omega) hs8 (fun hn => ⟨fun _ => skip (Or.inl ?_), fun w => absurd rfl w⟩) (fun hy1 => ⟨fun w => absurd w (by decide), fun _ => ⟨by omega, ?_⟩⟩)⟩⟩⟩
    · refine Classical.byContradiction (fun z => hn ?_)
      have := i1.1 z
      rw [Int.toNat_natCast]; omega
    rw [k3]
    refine r_isLetterAt ha.1 hp2 (by omega) hs8 (fun hn => ⟨fun _ => skip (Or.inr ?_), fun w => absurd rfl w⟩) (fun hy2 => ⟨fun w => absurd w (by decide), fun _ => ?_⟩)
    · refine Classical.byContradiction (fun z => hn ?_)
      have := i2.1 z
      rw [Int.toNat_natCast]; omega
    have n1 : pv ρ (ρ 4 r) i (i + 1 + d) ≠ -2 := i1.2 (by rw [Int.toNat_natCast] at hy1; omega)
    have n2 : pv ρ (ρ 5 r) (i + 1 + d) j ≠ -2 := i2.2 (by rw [Int.toNat_natCast] at hy2; omega)
    have w1 := vpW_r hw hr (x := pv ρ (ρ 4 r) i (i + 1 + d)) (by omega)
    have w2 := vpW_r hw hr (x := pv ρ (ρ 5 r) (i + 1 + d) j) (by omega)
    rw [k5, k2]
    refine ⟨by omega, by omega, r_valuePart hL h80 hs hp1 (by omega) n1 (r_product2 hw hs.2.2.1 he7 w1 ⟨by omega, ?_⟩)⟩
    rw [k3]
    refine r_valuePart hL h80 hs hp2 (by omega) n2 (r_product2 hw hs.2.2.1 (vTi_r hw he7 w1) w2 (r_sum2 hw hs.2.2.1 hI (vTi_r hw (vTi_r hw he7 w1) w2) ?_))
    have ep : vPr ρ w ((r : Int), ((i + 1 + d : Nat) : Int), pv ρ (ρ 4 r) i (i + 1 + d), pv ρ (ρ 5 r) (i + 1 + d) j) = vTi ρ (vTi ρ (ρ 7 r) (vpW ρ w (pv ρ (ρ 4 r) i (i + 1 + d)))) (vpW ρ w (pv ρ (ρ 5 r) (i + 1 + d) j)) := by
      unfold vPr
      rw [if_neg (by show ¬ (((i + 1 + d : Nat) : Int) = -1); omega)]
      show vTi ρ (vTi ρ (ρ 7 ((r : Int)).toNat) _) _ = _
      rw [Int.toNat_natCast]
    refine nx _ ?_ (vPl_r hw hI (vTi_r hw (vTi_r hw he7 w1) w2))
    rw [st, if_neg (fun z => by rcases z with z | z; exact n1 z; exact n2 z), ep]; rfl
theorem r_va11 {ρ τ : St} (hg : Wg ρ) (hL : LL ρ < 9) (h80 : 0 ≤ ρ 0 8) (hw : Wb ρ) {w : Nat → Int} (hr : WV ρ w) (hs : RVS ρ w τ) {s a : Nat} (hsN : s < spN (LL ρ)) (ha12 : a < 12) {Q : Int → St → Prop} (hq : Q (vNew ρ w (12 * s + a)) τ) : ∀ (d r : Nat) (n : Nat), (r : Int) + d = ρ 0 4 → d < n → inB ρ (vFo ρ w (ρ 0 6) (cS ρ s (liA ρ a r))) → wp_X12_valueAnew_l11 Q n (a : Int) (spB (LL ρ) s : Nat) (spF (LL ρ) s : Nat) (vFo ρ w (ρ 0 6) (cS ρ s (liA ρ a r))) (r : Int) τ := by
  have hb := hg.2.1
  have hs8 : ρ 0 8 ≤ 8 := by unfold LL at hL; omega
  have eL : ((LL ρ : Nat) : Int) = ρ 0 8 := by unfold LL; omega
  have q := sp_s hL hsN
  have ha := hs.1
  generalize hi : spB (LL ρ) s = i at *
  generalize hj : spF (LL ρ) s = j at *
  intro d
  induction d with
  | zero =>
    intro r n hd hn hI
    obtain ⟨n, rfl⟩ := suc_n hn
    unfold wp_X12_valueAnew_l11
    rw [ha.1.1]
    refine ⟨fun _ => ?_, fun w => absurd w (by omega)⟩
    unfold vNew cI at hq
    rw [show (12 * s + a) / 12 = s by omega, show (12 * s + a) % 12 = a by omega, show (ρ 0 4).toNat = r by omega] at hq
    exact hq
  | succ d ih =>
    intro r n hd hn hI
    obtain ⟨n, rfl⟩ := suc_n hn
    have hr4 : (r : Int) < ρ 0 4 := by push_cast at hd; omega
    obtain ⟨k1, k2, k3, k4⟩ := ha.1.2.2.2.1 r hr4
    have k5 := (hs.2.1.2.2 r hr4).2.2.2.2
    obtain ⟨hh, hp1, hp2, hpr, he7, -⟩ := hg.2.2 r hr4
    have step := cS_step (ρ := ρ) (s := s) (a := a) (n := r)
    rw [hi, hj] at step
    have skip : inA ρ a r ≠ true → wp_X12_valueAnew_b215 Q (wp_X12_valueAnew_l11 Q n) (a : Int) i j (vFo ρ w (ρ 0 6) (cS ρ s (liA ρ a r))) (r : Int) τ := by
      intro hin
      rw [if_neg hin, List.append_nil] at step
      unfold wp_X12_valueAnew_b215
      intro v ev
      rw [ev, w32_of (by omega) (by omega), show (r : Int) + 1 = ((r + 1 : Nat) : Int) by omega, ← step]
      exact ih (r + 1) n (by push_cast at hd ⊢; omega) (by omega) (by rw [step]; exact hI)
    unfold wp_X12_valueAnew_l11
    rw [ha.1.1]
    refine ⟨fun w => absurd w (by omega), fun _ => r_isIn hg ha.1.2.1 hr4 ?_⟩
    by_cases h8 : ρ 8 r = 0
    · rw [if_pos h8, Int.toNat_natCast, k1, k3, k2]
      refine ⟨fun w => absurd w (by decide), fun _ => ⟨by omega, fun h3 => ⟨by omega, ?_, ?_⟩, fun h3 => skip (fun w => h3 (inA_iff.1 w).1)⟩⟩
      · intro h5
        have hin : inA ρ a r = true := inA_iff.2 ⟨h3, h8⟩
        rw [if_pos hin] at step
        unfold cC at step
        rw [if_neg h5] at step
        unfold wp_X12_valueAnew_b102
        intro v ev
        rw [ev, w32_of (by omega) (by omega), show (i : Int) + 1 = ((i + 1 + 0 : Nat) : Int) by omega]
        have hA := r_va107 hg hL h80 hw hr hs hr4 h5 (i := i) (j := j) (by omega) (x1 := (a : Int)) (A := vFo ρ w (ρ 0 6) (cS ρ s (liA ρ a r))) hI (Q := Q) (K := wp_X12_valueAnew_l11 Q n) (fun hI2 => by
          rw [← vFo_app, ← step]
          exact ih (r + 1) n (by push_cast at hd ⊢; omega) (by omega) (by rw [step, vFo_app]; exact hI2)) (j - i - 1) 0 bigN (by omega) (by unfold bigN; omega) hI
        exact hA
      · intro h5
        have h5 : ρ 5 r = -1 := by omega
        have hin : inA ρ a r = true := inA_iff.2 ⟨h3, h8⟩
        rw [if_pos hin] at step
        unfold cC at step
        rw [if_pos h5] at step
        have q1 := pv_r (ρ := ρ) hL hp1 (i := i) (j := j) (by omega)
        have i1 := pv_ok (ρ := ρ) hp1 (i := i) (j := j)
        have st : vFo ρ w (ρ 0 6) (cS ρ s (liA ρ a (r + 1))) = if pv ρ (ρ 4 r) i j = -2 ∨ (-1 : Int) = -2 then vFo ρ w (ρ 0 6) (cS ρ s (liA ρ a r)) else vPl ρ (vFo ρ w (ρ 0 6) (cS ρ s (liA ρ a r))) (vPr ρ w ((r : Int), -1, pv ρ (ρ 4 r) i j, -1)) := by
          rw [step, vFo_app, vFo_cOne]
        have go : ∀ y, y = vFo ρ w (ρ 0 6) (cS ρ s (liA ρ a (r + 1))) → inB ρ y → wp_X12_valueAnew_b102 Q (wp_X12_valueAnew_l11 Q n) (a : Int) i j y (r : Int) τ := by
          intro y ey hy
          unfold wp_X12_valueAnew_b102
          intro v ev
          have fin : wp_X12_valueAnew_b215 Q (wp_X12_valueAnew_l11 Q n) (a : Int) i j y (r : Int) τ := by
            unfold wp_X12_valueAnew_b215
            intro v3 ev3
            rw [ev3, w32_of (by omega) (by omega), show (r : Int) + 1 = ((r + 1 : Nat) : Int) by omega]
            rw [ey] at hy ⊢
            exact ih (r + 1) n (by push_cast at hd ⊢; omega) (by omega) hy
          rw [ev, w32_of (by omega) (by omega)]
          obtain ⟨nb, hnb⟩ := suc_n (show 0 < bigN by unfold bigN; omega)
          rw [hnb]
          unfold wp_X12_valueAnew_l107
          rw [Int.toNat_natCast, k3]
          exact ⟨fun _ => fin, fun _ => ⟨by omega, fun _ => fin, fun w => absurd h5 w⟩⟩
        refine ⟨by omega, r_isLetterAt ha.1 hp1 (by omega) hs8 (fun hn => ⟨fun _ => go _ ?_ hI, fun w => absurd rfl w⟩) (fun hy => ⟨fun w => absurd w (by decide), fun _ => ?_⟩)⟩
        · have : pv ρ (ρ 4 r) i j = -2 := Classical.byContradiction (fun z => hn (by have := i1.1 z; rw [Int.toNat_natCast]; omega))
          rw [st, if_pos (Or.inl this)]
        · have n1 : pv ρ (ρ 4 r) i j ≠ -2 := i1.2 (by rw [Int.toNat_natCast] at hy; omega)
          have w1 := vpW_r hw hr (x := pv ρ (ρ 4 r) i j) (by omega)
          rw [k5, k2]
          refine ⟨by omega, by omega, r_valuePart hL h80 hs hp1 (by omega) n1 (r_product2 hw hs.2.2.1 he7 w1 (r_sum2 hw hs.2.2.1 hI (vTi_r hw he7 w1) (go _ ?_ (vPl_r hw hI (vTi_r hw he7 w1)))))⟩
          rw [st, if_neg (fun z => by rcases z with z | z; exact n1 z; exact absurd z (by decide))]
          have ep : vPr ρ w ((r : Int), -1, pv ρ (ρ 4 r) i j, -1) = vTi ρ (ρ 7 r) (vpW ρ w (pv ρ (ρ 4 r) i j)) := by
            unfold vPr
            rw [if_pos rfl]
            show vTi ρ (ρ 7 ((r : Int)).toNat) _ = _
            rw [Int.toNat_natCast]
          rw [ep]; rfl
    · rw [if_neg h8]
      exact ⟨fun _ => skip (fun w => h8 (inA_iff.1 w).2), fun w => absurd rfl w⟩
theorem r_valueAnew {ρ τ : St} (hg : Wg ρ) (hL : LL ρ < 9) (h80 : 0 ≤ ρ 0 8) (hw : Wb ρ) {w : Nat → Int} (hr : WV ρ w) (hs : RVS ρ w τ) {a i j : Int} (h : isItm ρ a i j) {Q : Int → St → Prop} (hq : Q (vNew ρ w (itN ρ a i j)) τ) : wp_X12_valueAnew a i j τ Q := by
  have h1 := h.1
  have h2 := h.2
  have hij : i.toNat < j.toNat ∧ j.toNat ≤ LL ρ := ⟨by omega, by unfold LL; omega⟩
  have q := sp_a (L := LL ρ) hL hij
  unfold wp_X12_valueAnew
  intro v ev
  rw [ev, show τ 7 (Int.toNat 0) = ρ 0 6 from hs.2.2.1.2.1]
  have := r_va11 hg hL h80 hw hr hs q.1 (a := a.toNat) (by omega) hq (ρ 0 4).toNat 0 bigN (by have := hg.1; omega) (by have := hg.2.1; unfold bigN; omega) hw.2.2.1
  rw [q.2.1, q.2.2, show ((a.toNat : Nat) : Int) = a by omega, show ((i.toNat : Nat) : Int) = i by omega, show ((j.toNat : Nat) : Int) = j by omega] at this
  exact this
