/-! cases -/
theorem PL_at {ρ : St} {c : Cs} : ∀ n, c ∈ PL ρ n → ∃ q, q < n ∧ c ∈ cI ρ q
  | 0, h => by cases h
  | n + 1, h => by
    rcases List.mem_append.1 (show c ∈ PL ρ n ++ cI ρ n from h) with h | h
    · obtain ⟨q, h1, h2⟩ := PL_at n h
      exact ⟨q, by omega, h2⟩
    · exact ⟨n, by omega, h⟩
theorem PL_r {ρ : St} (hg : Wg ρ) (hL : LL ρ < 9) {t : Nat} (ht : t < (PL ρ (12 * spN (LL ρ))).length) : (-1 ≤ (PL ρ (12 * spN (LL ρ)))[t].2.2.1 ∧ (PL ρ (12 * spN (LL ρ)))[t].2.2.1 < ((12 * spN (LL ρ) : Nat) : Int)) ∧ (-1 ≤ (PL ρ (12 * spN (LL ρ)))[t].2.2.2 ∧ (PL ρ (12 * spN (LL ρ)))[t].2.2.2 < ((12 * spN (LL ρ) : Nat) : Int)) := by
  obtain ⟨q, h1, h2⟩ := PL_at _ (List.getElem_mem ht)
  have e : q = 12 * (q / 12) + q % 12 := by omega
  rw [e] at h2
  exact cI_r hg hL (Nat.mod_lt _ (by decide)) (by omega) h2
theorem cntL_take {P : Cs → Prop} {l : List Cs} {t : Nat} (ht : t < l.length) : cntL P (l.take (t + 1)) = cntL P (l.take t) + ix (P l[t]) := by
  rw [List.take_succ_eq_append_getElem ht, cntL_app]
  show _ + (ix (P l[t]) + 0) = _
  omega
theorem c_fullCases {ρ σ : St} (hg : Wg ρ) (hL : LL ρ < 9) (hB : Bt ρ σ) (hw : Lw ρ σ) {s a : Nat} (hs : s < spN (LL ρ)) (ha : a < 12) {Q : Int → St → Prop} (hq : Q (cntL (fullC ρ) (cI ρ (12 * s + a))) σ) : ∀ (d t : Nat) (n : Nat), t + d = (cI ρ (12 * s + a)).length → d < n → wp_X1_fullCases_l15 Q n ((12 * s + a : Nat) : Int) (cntL (fullC ρ) ((cI ρ (12 * s + a)).take t)) (((PL ρ (12 * s + a)).length + t : Nat) : Int) σ := by
  have h3360 := PL_3360 hg hL
  intro d
  induction d with
  | zero =>
    intro t n hd hn
    obtain ⟨n, rfl⟩ := suc_n hn
    unfold wp_X1_fullCases_l15
    refine c_caseEnd hL hB (by omega) ⟨fun _ => ?_, fun q => absurd (by omega) q⟩
    rw [show t = (cI ρ (12 * s + a)).length by omega, List.take_length]; exact hq
  | succ d ih =>
    intro t n hd hn
    obtain ⟨n, rfl⟩ := suc_n hn
    have ht : t < (cI ρ (12 * s + a)).length := by omega
    have sg := hB.seg (q := 12 * s + a) (by omega) ht
    have hb := cntL_r (P := fullC ρ) ((cI ρ (12 * s + a)).take t)
    have hlen : ((cI ρ (12 * s + a)).take t).length ≤ t := List.length_take_le _ _
    unfold wp_X1_fullCases_l15
    refine c_caseEnd hL hB (by omega) ⟨fun q => absurd q (by omega), fun _ => ?_⟩
    refine c_isFull hg hL hw (c := (cI ρ (12 * s + a))[t]) (by omega) sg.2.2.2.1 sg.2.2.2.2 (cI_r hg hL ha hs (List.getElem_mem _)) (fun hf => ⟨fun _ => ?_, fun q => absurd rfl q⟩) (fun hf => ⟨fun q => absurd q (by decide), fun _ v ev => ?_⟩)
    · unfold wp_X1_fullCases_b38
      intro v ev
      rw [ev, w32_of (by omega) (by omega), show (((PL ρ (12 * s + a)).length + t : Nat) : Int) + 1 = (((PL ρ (12 * s + a)).length + (t + 1) : Nat) : Int) by push_cast; omega]
      have e := cntL_take (P := fullC ρ) ht
      rw [ix_n hf, Int.add_zero] at e
      rw [← e]
      exact ih (t + 1) n (by omega) (by omega)
    · unfold wp_X1_fullCases_b38
      intro v2 ev2
      rw [ev2, ev, w32_of (x := (((PL ρ (12 * s + a)).length + t : Nat) : Int) + 1) (by omega) (by omega), w32_of (by omega) (by omega), show (((PL ρ (12 * s + a)).length + t : Nat) : Int) + 1 = (((PL ρ (12 * s + a)).length + (t + 1) : Nat) : Int) by push_cast; omega]
      have e := cntL_take (P := fullC ρ) ht
      rw [ix_y hf] at e
      rw [← e]
      exact ih (t + 1) n (by omega) (by omega)
def arC (ρ : St) (q : Int) (c : Cs) : Prop := (c.2.2.1 = q ∨ c.2.2.2 = q) ∧ fullC ρ c
theorem c_casesAround {ρ σ : St} (hg : Wg ρ) (hL : LL ρ < 9) (hB : Bt ρ σ) (hw : Lw ρ σ) {q : Int} {Q : Int → St → Prop} (hq : Q (cntL (arC ρ q) (PL ρ (12 * spN (LL ρ)))) σ) : ∀ (d t : Nat) (n : Nat), t + d = (PL ρ (12 * spN (LL ρ))).length → d < n → wp_X1_casesAround_l8 Q n q (cntL (arC ρ q) ((PL ρ (12 * spN (LL ρ))).take t)) (t : Int) σ := by
  have h3360 := PL_3360 hg hL
  intro d
  induction d with
  | zero =>
    intro t n hd hn
    obtain ⟨n, rfl⟩ := suc_n hn
    unfold wp_X1_casesAround_l8
    rw [hB.2.1.1]
    refine ⟨fun _ => ?_, fun w => absurd (by omega) w⟩
    rw [show t = (PL ρ (12 * spN (LL ρ))).length by omega, List.take_length]; exact hq
  | succ d ih =>
    intro t n hd hn
    obtain ⟨n, rfl⟩ := suc_n hn
    have ht : t < (PL ρ (12 * spN (LL ρ))).length := by omega
    obtain ⟨s1, s2, s3, s4⟩ := hB.2.1.2 t ht
    have hr := PL_r hg hL ht
    have hb := cntL_r (P := arC ρ q) ((PL ρ (12 * spN (LL ρ))).take t)
    have hlen : ((PL ρ (12 * spN (LL ρ))).take t).length ≤ t := List.length_take_le _ _
    have e := cntL_take (P := arC ρ q) ht
    have no : ¬ arC ρ q (PL ρ (12 * spN (LL ρ)))[t] → wp_X1_casesAround_b56 Q (wp_X1_casesAround_l8 Q n) q (cntL (arC ρ q) ((PL ρ (12 * spN (LL ρ))).take t)) (t : Int) σ := by
      intro hf
      unfold wp_X1_casesAround_b56
      intro v ev
      rw [ev, w32_of (by omega) (by omega), show (t : Int) + 1 = ((t + 1 : Nat) : Int) by omega]
      rw [ix_n hf, Int.add_zero] at e
      rw [← e]
      exact ih (t + 1) n (by omega) (by omega)
    have yes : ((PL ρ (12 * spN (LL ρ)))[t].2.2.1 = q ∨ (PL ρ (12 * spN (LL ρ)))[t].2.2.2 = q) → wp_X1_casesAround_b45 Q (wp_X1_casesAround_l8 Q n) q (cntL (arC ρ q) ((PL ρ (12 * spN (LL ρ))).take t)) (t : Int) σ := by
      intro hor
      unfold wp_X1_casesAround_b45
      refine c_isFull hg hL hw (c := (PL ρ (12 * spN (LL ρ)))[t]) (by omega) s3 s4 hr (fun hf => ⟨fun _ => no (fun w => hf w.2), fun w => absurd rfl w⟩) (fun hf => ⟨fun w => absurd w (by decide), fun _ v ev => ?_⟩)
      unfold wp_X1_casesAround_b56
      intro v2 ev2
      rw [ev2, ev, w32_of (x := (t : Int) + 1) (by omega) (by omega), w32_of (by omega) (by omega), show (t : Int) + 1 = ((t + 1 : Nat) : Int) by omega]
      rw [ix_y (show arC ρ q _ from ⟨hor, hf⟩)] at e
      rw [← e]
      exact ih (t + 1) n (by omega) (by omega)
    unfold wp_X1_casesAround_l8
    rw [hB.2.1.1, Int.toNat_natCast, s3, s4]
    refine ⟨fun w => absurd w (by omega), fun _ => ⟨by omega, fun w => yes (Or.inl w), fun w => ⟨by omega, fun w2 => no (fun z => ?_), fun w2 => yes (Or.inr (by omega))⟩⟩⟩
    rcases z.1 with h | h
    · exact w h
    · exact w2 h
/-! the reference's -/
theorem r_isLetterAt {g τ : St} (v : RG τ g) {p i j : Int} (hp : isPart p) (hi : 0 ≤ i ∧ i < j ∧ j ≤ g 0 8) (h8 : g 0 8 ≤ 8) {Q : Int → St → Prop} (hno : ¬ (p < 100 ∨ (j = i + 1 ∧ g 11 i.toNat = p - 100)) → Q 0 τ) (hyes : (p < 100 ∨ (j = i + 1 ∧ g 11 i.toNat = p - 100)) → Q 1 τ) : wp_X12_isLetterAt p i j τ Q := by
  unfold isPart at hp
  unfold wp_X12_isLetterAt wp_X12_isLetterAt_b26 wp_X12_isLetterAt_b30
  rw [v.2.2.2.2 i.toNat (by omega), w32_of (x := i + 1) (by omega) (by omega), w32_of (x := p - 100) (by omega) (by omega)]
  refine ⟨fun h => hyes (Or.inl h), fun h => ⟨fun h2 => hno (by omega), fun h2 => ⟨by omega, fun h3 => hno (by omega), fun h3 => hyes (by omega)⟩⟩⟩
/-- whether a part may be counted: what 0: it can stand there; what 1: it has trees -/
def okQ4 (ρ : St) (x : Int) (p i j : Int) : Prop := if x = 0 then (p < 100 ∨ (j = i + 1 ∧ ρ 11 i.toNat = p - 100)) else hT ρ p i j
def okC4 (ρ : St) (x : Int) (c : Cs) : Prop := x ≠ 0 → fullC ρ c
theorem okQ4_pv {ρ : St} (hg : Wg ρ) (hL : LL ρ < 9) {x p : Int} (hp : isPart p) {i j : Nat} (hi : i < j ∧ j ≤ LL ρ) : okQ4 ρ x p (i : Int) (j : Int) ↔ (pv ρ p i j ≠ -2 ∧ (x ≠ 0 → hPt ρ (pv ρ p i j))) := by
  unfold okQ4
  by_cases hx : x = 0
  · rw [if_pos hx, pv_ok hp, Int.toNat_natCast]
    constructor
    · intro h; exact ⟨by omega, fun w => absurd hx w⟩
    · intro h; have := h.1; omega
  · rw [if_neg hx, ← hPt_pv hg hL hp hi]
    exact ⟨fun h => ⟨h.1, fun _ => h.2⟩, fun h => ⟨h.1, h.2 hx⟩⟩
theorem cnt1 {ρ : St} (hg : Wg ρ) (hL : LL ρ < 9) {x : Int} {r : Nat} (hr : (r : Int) < ρ 0 4) {m : Int} {i j : Nat} (hi : i < j ∧ j ≤ LL ρ) : cntL (okC4 ρ x) (cOne r m (pv ρ (ρ 4 r) i j) (-1)) = ix (okQ4 ρ x (ρ 4 r) (i : Int) (j : Int)) := by
  rw [cntL_cOne, okQ4_pv hg hL (hg.2.2 r hr).2.1 hi]
  refine ix_e ⟨fun h => ⟨h.1, fun w => (h.2.2 w).1⟩, fun h => ⟨h.1, by decide, fun w => ⟨h.2 w, Or.inl (by show (-1 : Int) < 0; decide)⟩⟩⟩
theorem cnt2 {ρ : St} (hg : Wg ρ) (hL : LL ρ < 9) {x : Int} {r : Nat} (hr : (r : Int) < ρ 0 4) (h5 : ρ 5 r ≠ -1) {i j : Nat} {d : Nat} (hi : i + 1 + d < j ∧ j ≤ LL ρ) : cntL (okC4 ρ x) (cB ρ r i j (d + 1)) = cntL (okC4 ρ x) (cB ρ r i j d) + ix (okQ4 ρ x (ρ 4 r) (i : Int) ((i + 1 + d : Nat) : Int) ∧ okQ4 ρ x (ρ 5 r) ((i + 1 + d : Nat) : Int) (j : Int)) := by
  show cntL _ (cB ρ r i j d ++ cOne r _ _ _) = _
  rw [cntL_app, cntL_cOne, okQ4_pv hg hL (hg.2.2 r hr).2.1 (i := i) (j := i + 1 + d) (by omega), okQ4_pv hg hL ((hg.2.2 r hr).2.2.1.resolve_left h5) (i := i + 1 + d) (j := j) (by omega)]
  congr 1
  refine ix_e ⟨fun h => ⟨⟨h.1, fun w => (h.2.2 w).1⟩, h.2.1, fun w => (h.2.2 w).2⟩, fun h => ⟨h.1.1, h.2.1, fun w => ⟨h.1.2 w, h.2.2 w⟩⟩⟩
theorem r_co104 {ρ τ : St} (hg : Wg ρ) (hL : LL ρ < 9) (h80 : 0 ≤ ρ 0 8) (ha : LA ρ τ) {x : Int} {r : Nat} (hr : (r : Int) < ρ 0 4) (h5 : ρ 5 r ≠ -1) {i j : Nat} (hi : i < j ∧ j ≤ LL ρ) {x1 A : Int} (hA : 0 ≤ A ∧ A ≤ 1000) {Q : Int → St → Prop} {K : Int → Int → Int → Int → Int → Int → St → Prop} (hk : K x1 i j x (A + cntL (okC4 ρ x) (cB ρ r i j (j - i - 1))) ((r + 1 : Nat) : Int) τ) : ∀ (e d : Nat) (n : Nat), i + 1 + d + e = j → e < n → wp_X12_casesOf_l104 Q K n x1 i j x (A + cntL (okC4 ρ x) (cB ρ r i j d)) (r : Int) ((i + 1 + d : Nat) : Int) τ := by
  have hb := hg.2.1
  have hs8 : ρ 0 8 ≤ 8 := by unfold LL at hL; omega
  have eL : ((LL ρ : Nat) : Int) = ρ 0 8 := by unfold LL; omega
  obtain ⟨k1, k2, k3, k4⟩ := ha.1.2.2.2.1 r hr
  obtain ⟨hh, hp1, hp2, hpr, -⟩ := hg.2.2 r hr
  have hp2 : isPart (ρ 5 r) := hp2.resolve_left h5
  intro e
  induction e with
  | zero =>
    intro d n hd hn
    obtain ⟨n, rfl⟩ := suc_n hn
    unfold wp_X12_casesOf_l104 wp_X12_casesOf_b230
    refine ⟨fun _ v ev => ?_, fun w => absurd (by omega) w⟩
    rw [ev, w32_of (by omega) (by omega), show (r : Int) + 1 = ((r + 1 : Nat) : Int) by omega, show d = j - i - 1 by omega]
    exact hk
  | succ e ih =>
    intro d n hd hn
    obtain ⟨n, rfl⟩ := suc_n hn
    have hb2 := cntL_r (P := okC4 ρ x) (cB ρ r i j d)
    have hb3 := cB_len (ρ := ρ) (r := r) (i := i) (j := j) d
    have st := cnt2 hg hL (x := x) hr h5 (i := i) (j := j) (d := d) (by omega)
    have nxt : ∀ y : Int, y = ix (okQ4 ρ x (ρ 4 r) (i : Int) ((i + 1 + d : Nat) : Int) ∧ okQ4 ρ x (ρ 5 r) ((i + 1 + d : Nat) : Int) (j : Int)) → wp_X12_casesOf_b221 Q K (wp_X12_casesOf_l104 Q K n) x1 i j x (r : Int) ((i + 1 + d : Nat) : Int) y (A + cntL (okC4 ρ x) (cB ρ r i j d)) τ := by
      intro y ey
      have hy := ix_r (okQ4 ρ x (ρ 4 r) (i : Int) ((i + 1 + d : Nat) : Int) ∧ okQ4 ρ x (ρ 5 r) ((i + 1 + d : Nat) : Int) (j : Int))
      unfold wp_X12_casesOf_b221
      intro v ev v2 ev2
      rw [w32_of (by omega) (by omega)] at ev ev2
      rw [show (((i + 1 + d : Nat) : Int)) + 1 = ((i + 1 + (d + 1) : Nat) : Int) by omega] at ev2
      rw [ev, ev2, show A + cntL (okC4 ρ x) (cB ρ r i j d) + y = A + cntL (okC4 ρ x) (cB ρ r i j (d + 1)) by rw [st, ey]; omega]
      exact ih (d + 1) n (by omega) (by omega)
    have yes : (okQ4 ρ x (ρ 4 r) (i : Int) ((i + 1 + d : Nat) : Int) ∧ okQ4 ρ x (ρ 5 r) ((i + 1 + d : Nat) : Int) (j : Int)) → wp_X12_casesOf_b207 Q K (wp_X12_casesOf_l104 Q K n) x1 i j x (A + cntL (okC4 ρ x) (cB ρ r i j d)) (r : Int) ((i + 1 + d : Nat) : Int) 1 τ := by
      intro h
      unfold wp_X12_casesOf_b207
      exact ⟨fun w => absurd w (by decide), fun _ => nxt 1 (ix_y h).symm⟩
    have no : ¬ (okQ4 ρ x (ρ 4 r) (i : Int) ((i + 1 + d : Nat) : Int) ∧ okQ4 ρ x (ρ 5 r) ((i + 1 + d : Nat) : Int) (j : Int)) → wp_X12_casesOf_b207 Q K (wp_X12_casesOf_l104 Q K n) x1 i j x (A + cntL (okC4 ρ x) (cB ρ r i j d)) (r : Int) ((i + 1 + d : Nat) : Int) 0 τ := by
      intro h
      unfold wp_X12_casesOf_b207
      exact ⟨fun _ => nxt 0 (ix_n h).symm, fun w => absurd rfl w⟩
    unfold wp_X12_casesOf_l104 wp_X12_casesOf_b206 wp_X12_casesOf_b164
    rw [Int.toNat_natCast, k3, k2]
    refine ⟨fun w => absurd w (by omega), fun _ => ⟨by omega, fun w => absurd w h5, fun _ => ⟨fun hx => ⟨by omega, ?_⟩, fun hx => ⟨by omega, ?_⟩⟩⟩⟩
    · unfold okQ4 at yes no
      rw [if_pos hx, if_pos hx] at yes no
      refine r_isLetterAt ha.1 hp1 (by omega) hs8 (fun hn => ⟨fun _ => no (fun w => hn w.1), fun w => absurd rfl w⟩) (fun hy => ⟨fun w => absurd w (by decide), fun _ => ⟨by omega, ?_⟩⟩)
      rw [k3]
      exact r_isLetterAt ha.1 hp2 (by omega) hs8 (fun hn => ⟨fun _ => no (fun w => hn w.2), fun w => absurd rfl w⟩) (fun hy2 => ⟨fun w => absurd w (by decide), fun _ => yes ⟨hy, hy2⟩⟩)
    · unfold okQ4 at yes no
      rw [if_neg hx, if_neg hx] at yes no
      refine r_fits2 hg ha hs8 hp1 (by omega) (fun hn => ⟨fun _ => no (fun w => hn w.1), fun w => absurd rfl w⟩) (fun hy => ⟨fun w => absurd w (by decide), fun _ => ⟨by omega, ?_⟩⟩)
      rw [k3]
      exact r_fits2 hg ha hs8 hp2 (by omega) (fun hn => ⟨fun _ => no (fun w => hn w.2), fun w => absurd rfl w⟩) (fun hy2 => ⟨fun w => absurd w (by decide), fun _ => yes ⟨hy, hy2⟩⟩)
theorem liA_s {ρ : St} {a n : Nat} : liA ρ a (n + 1) = liA ρ a n ++ (if inA ρ a n then [n] else []) := rfl
theorem cS_step {ρ : St} {s a n : Nat} : cS ρ s (liA ρ a (n + 1)) = cS ρ s (liA ρ a n) ++ (if inA ρ a n then cC ρ (spB (LL ρ) s) (spF (LL ρ) s) n else []) := by
  rw [liA_s, cS_app]
  by_cases h : inA ρ a n = true
  · rw [if_pos h, if_pos h, cS_one]
  · rw [if_neg h, if_neg h]; rfl
theorem inA_iff {ρ : St} {a r : Nat} : inA ρ a r = true ↔ ρ 3 r = (a : Int) ∧ ρ 8 r = 0 := by
  unfold inA; rw [Bool.and_eq_true, decide_eq_true_iff, decide_eq_true_iff]
theorem r_co6 {ρ τ : St} (hg : Wg ρ) (hL : LL ρ < 9) (h80 : 0 ≤ ρ 0 8) (ha : LA ρ τ) {x : Int} {s a : Nat} (hs : s < spN (LL ρ)) (ha12 : a < 12) {Q : Int → St → Prop} (hq : Q (cntL (okC4 ρ x) (cI ρ (12 * s + a))) τ) : ∀ (d r : Nat) (n : Nat), (r : Int) + d = ρ 0 4 → d < n → cntL (okC4 ρ x) (cS ρ s (liA ρ a r)) ≤ 10 * r → wp_X12_casesOf_l6 Q n (a : Int) (spB (LL ρ) s : Nat) (spF (LL ρ) s : Nat) x (cntL (okC4 ρ x) (cS ρ s (liA ρ a r))) (r : Int) τ := by
  have hb := hg.2.1
  have hs8 : ρ 0 8 ≤ 8 := by unfold LL at hL; omega
  have eL : ((LL ρ : Nat) : Int) = ρ 0 8 := by unfold LL; omega
  have q := sp_s hL hs
  generalize hi : spB (LL ρ) s = i at *
  generalize hj : spF (LL ρ) s = j at *
  intro d
  induction d with
  | zero =>
    intro r n hd hn hle
    obtain ⟨n, rfl⟩ := suc_n hn
    unfold wp_X12_casesOf_l6
    rw [ha.1.1]
    refine ⟨fun _ => ?_, fun w => absurd w (by omega)⟩
    unfold cI at hq
    rw [show (12 * s + a) / 12 = s by omega, show (12 * s + a) % 12 = a by omega, show (ρ 0 4).toNat = r by omega] at hq
    exact hq
  | succ d ih =>
    intro r n hd hn hle
    obtain ⟨n, rfl⟩ := suc_n hn
    have hr : (r : Int) < ρ 0 4 := by push_cast at hd; omega
    obtain ⟨k1, k2, k3, k4⟩ := ha.1.2.2.2.1 r hr
    obtain ⟨hh, hp1, hp2, hpr, -⟩ := hg.2.2 r hr
    have hlo := (cntL_r (P := okC4 ρ x) (cS ρ s (liA ρ a r))).1
    have step := cS_step (ρ := ρ) (s := s) (a := a) (n := r)
    rw [hi, hj] at step
    have skip : inA ρ a r ≠ true → wp_X12_casesOf_b230 Q (wp_X12_casesOf_l6 Q n) (a : Int) i j x (cntL (okC4 ρ x) (cS ρ s (liA ρ a r))) (r : Int) τ := by
      intro hin
      rw [if_neg hin, List.append_nil] at step
      unfold wp_X12_casesOf_b230
      intro v ev
      rw [ev, w32_of (by omega) (by omega), show (r : Int) + 1 = ((r + 1 : Nat) : Int) by omega, ← step]
      exact ih (r + 1) n (by push_cast at hd ⊢; omega) (by omega) (by rw [step]; push_cast; omega)
    unfold wp_X12_casesOf_l6
    rw [ha.1.1]
    refine ⟨fun w => absurd w (by omega), fun _ => r_isIn hg ha.1.2.1 hr ?_⟩
    by_cases h8 : ρ 8 r = 0
    · rw [if_pos h8, Int.toNat_natCast, k1, k3, k2]
      refine ⟨fun w => absurd w (by decide), fun _ => ⟨by omega, fun h3 => ⟨by omega, ?_, ?_⟩, fun h3 => skip (fun w => h3 (inA_iff.1 w).1)⟩⟩
      · intro h5
        have hin : inA ρ a r = true := inA_iff.2 ⟨h3, h8⟩
        rw [if_pos hin] at step
        unfold cC at step
        rw [if_neg h5] at step
        have bd := cntL_r (P := okC4 ρ x) (cB ρ r i j (j - i - 1))
        have bd2 := cB_len (ρ := ρ) (r := r) (i := i) (j := j) (j - i - 1)
        unfold wp_X12_casesOf_b99
        intro v ev
        rw [ev, w32_of (by omega) (by omega), show (i : Int) + 1 = ((i + 1 + 0 : Nat) : Int) by omega]
        have hA := r_co104 hg hL h80 ha (x := x) hr h5 (i := i) (j := j) (by omega) (x1 := (a : Int)) (A := cntL (okC4 ρ x) (cS ρ s (liA ρ a r))) (by omega) (Q := Q) (K := wp_X12_casesOf_l6 Q n) (by
          rw [← cntL_app, ← step]
          exact ih (r + 1) n (by push_cast at hd ⊢; omega) (by omega) (by rw [step, cntL_app]; push_cast; omega)) (j - i - 1) 0 bigN (by omega) (by unfold bigN; omega)
        rw [show cntL (okC4 ρ x) (cB ρ r i j 0) = 0 from rfl, Int.add_zero] at hA
        exact hA
      · intro h5
        have h5 : ρ 5 r = -1 := by omega
        have hin : inA ρ a r = true := inA_iff.2 ⟨h3, h8⟩
        rw [if_pos hin] at step
        unfold cC at step
        rw [if_pos h5] at step
        have c1 := cnt1 hg hL (x := x) hr (m := -1) (i := i) (j := j) (by omega)
        have go : ∀ y : Int, y = ix (okQ4 ρ x (ρ 4 r) (i : Int) (j : Int)) → wp_X12_casesOf_b96 Q (wp_X12_casesOf_l6 Q n) (a : Int) i j x (r : Int) y (cntL (okC4 ρ x) (cS ρ s (liA ρ a r))) τ := by
          intro y ey
          have hy := ix_r (okQ4 ρ x (ρ 4 r) (i : Int) (j : Int))
          unfold wp_X12_casesOf_b96 wp_X12_casesOf_b99
          intro v ev v2 ev2
          have fin : wp_X12_casesOf_b230 Q (wp_X12_casesOf_l6 Q n) (a : Int) i j x v (r : Int) τ := by
            unfold wp_X12_casesOf_b230
            intro v3 ev3
            rw [w32_of (by omega) (by omega)] at ev
            rw [ev3, w32_of (by omega) (by omega), show (r : Int) + 1 = ((r + 1 : Nat) : Int) by omega, ev, ey, ← c1, ← cntL_app, ← step]
            exact ih (r + 1) n (by push_cast at hd ⊢; omega) (by omega) (by rw [step, cntL_app, c1]; push_cast; omega)
          rw [ev2, w32_of (by omega) (by omega)]
          obtain ⟨nb, hnb⟩ := suc_n (show 0 < bigN by unfold bigN; omega)
          rw [hnb]
          unfold wp_X12_casesOf_l104
          rw [Int.toNat_natCast, k3]
          exact ⟨fun _ => fin, fun _ => ⟨by omega, fun _ => fin, fun w => absurd h5 w⟩⟩
        unfold okQ4 at go
        refine ⟨fun hx => ⟨by omega, ?_⟩, fun hx => ⟨by omega, ?_⟩⟩
        · rw [if_pos hx] at go
          unfold wp_X12_casesOf_b95 wp_X12_casesOf_b91
          exact r_isLetterAt ha.1 hp1 (by omega) hs8 (fun hn => ⟨fun _ => go 0 (ix_n hn).symm, fun w => absurd rfl w⟩) (fun hy => ⟨fun w => absurd w (by decide), fun _ => go 1 (ix_y hy).symm⟩)
        · rw [if_neg hx] at go
          unfold wp_X12_casesOf_b95 wp_X12_casesOf_b91
          exact r_fits2 hg ha hs8 hp1 (by omega) (fun hn => ⟨fun _ => go 0 (ix_n hn).symm, fun w => absurd rfl w⟩) (fun hy => ⟨fun w => absurd w (by decide), fun _ => go 1 (ix_y hy).symm⟩)
    · rw [if_neg h8]
      exact ⟨fun _ => skip (fun w => h8 (inA_iff.1 w).2), fun w => absurd rfl w⟩
/-! casesWith -/
theorem r_isAt {x1 x2 x3 x4 x5 x6 : Int} {τ : St} {Q : Int → St → Prop} (hno : ¬ (x1 = x4 ∧ x2 = x5 ∧ x3 = x6) → Q 0 τ) (hyes : (x1 = x4 ∧ x2 = x5 ∧ x3 = x6) → Q 1 τ) : wp_X12_isAt x1 x2 x3 x4 x5 x6 τ Q := by
  unfold wp_X12_isAt wp_X12_isAt_b22
  exact ⟨fun h => hno (fun w => h w.1), fun h => ⟨fun h2 => hno (fun w => h2 w.2.1), fun h2 => ⟨fun h3 => hno (fun w => h3 w.2.2), fun h3 => hyes ⟨by omega, by omega, by omega⟩⟩⟩⟩
/-- a case of rule r over i m j has the item and is full -/
def wiP (ρ : St) (x1 x2 x3 : Int) (r : Nat) (i m j : Int) : Prop := ((ρ 4 r = x1 ∧ i = x2 ∧ m = x3) ∨ (ρ 5 r = x1 ∧ m = x2 ∧ j = x3)) ∧ hT ρ (ρ 4 r) i m ∧ hT ρ (ρ 5 r) m j
noncomputable def wiM (ρ : St) (x1 x2 x3 : Int) (r i j : Nat) : Nat → Int := sumN (fun t => ix (wiP ρ x1 x2 x3 r i ((i + 1 + t : Nat) : Int) j))
noncomputable def wiR (ρ : St) (x1 x2 x3 : Int) (r : Nat) : Int := if ρ 8 r = 0 then (if ρ 5 r = -1 then ix (ρ 4 r = x1 ∧ hT ρ x1 x2 x3) else sumN (fun i => sumN (fun t => wiM ρ x1 x2 x3 r i (i + 1 + t) (i + 1 + t - i - 1)) (LL ρ - i)) (LL ρ)) else 0
theorem pv_it {ρ : St} (hL : LL ρ < 9) {p : Int} (hp : isPart p) {i j : Nat} (hi : i < j ∧ j ≤ LL ρ) {x1 x2 x3 : Int} (h80 : 0 ≤ ρ 0 8) (hx : isItm ρ x1 x2 x3) : pv ρ p i j = ((itN ρ x1 x2 x3 : Nat) : Int) ↔ (p = x1 ∧ (i : Int) = x2 ∧ (j : Int) = x3) := by
  obtain ⟨h1, h2, h3, h4⟩ := hx
  have hij : x2.toNat < x3.toNat ∧ x3.toNat ≤ LL ρ := ⟨by omega, by unfold LL; omega⟩
  have q := sp_a (L := LL ρ) hL hij
  have q2 := sp_a (L := LL ρ) hL hi
  unfold isPart at hp
  unfold itN
  by_cases h : 100 ≤ p
  · constructor
    · intro w
      by_cases hc : j = i + 1 ∧ ρ 11 i = p - 100
      · rw [pv_yes h hc] at w; omega
      · rw [pv_no h hc] at w; omega
    · intro w; omega
  · rw [pv_lab (by omega)]
    constructor
    · intro w
      have e : spA (LL ρ) i j = spA (LL ρ) x2.toNat x3.toNat := by push_cast at w; omega
      have := sp_ai hL hi hij e
      push_cast at w
      omega
    · rintro ⟨e1, e2, e3⟩
      rw [show i = x2.toNat by omega, show j = x3.toNat by omega]
      push_cast; omega
theorem around_eq {ρ : St} (hg : Wg ρ) (hL : LL ρ < 9) (h80 : 0 ≤ ρ 0 8) {x1 x2 x3 : Int} (hx : isItm ρ x1 x2 x3) : cntL (arC ρ ((itN ρ x1 x2 x3 : Nat) : Int)) (PL ρ (12 * spN (LL ρ))) = sumN (wiR ρ x1 x2 x3) (ρ 0 4).toNat := by
  rw [cntL_tot hg]
  refine sumN_congr _ (fun r hr => ?_)
  have hr2 : (r : Int) < ρ 0 4 := by omega
  obtain ⟨hh, hp1, hp2, hpr, -⟩ := hg.2.2 r hr2
  unfold wiR
  by_cases h8 : ρ 8 r = 0
  · rw [if_pos h8, if_pos h8]
    by_cases h5 : ρ 5 r = -1
    · rw [if_pos h5]
      have hij : x2.toNat < x3.toNat ∧ x3.toNat ≤ LL ρ := ⟨by have := hx.2; omega, by have := hx.2; unfold LL; omega⟩
      have q := sp_a (L := LL ρ) hL hij
      rw [sumN_one (a := spA (LL ρ) x2.toNat x3.toNat) _ q.1 (fun k hk hne => ?_)]
      · unfold cC
        rw [if_pos h5, q.2.1, q.2.2, cntL_cOne]
        have e := pv_it hL hp1 hij h80 hx
        have f := hPt_pv hg hL hp1 hij
        rw [show ((x2.toNat : Nat) : Int) = x2 by have := hx.2; omega, show ((x3.toNat : Nat) : Int) = x3 by have := hx.2; omega] at e f
        refine ix_e ⟨fun w => ?_, fun w => ?_⟩
        · obtain ⟨w1, w2, w3, w4⟩ := w
          have e4 : ρ 4 r = x1 := by
            rcases w3 with z | z
            · exact (e.1 z).1
            · exfalso; have : (-1 : Int) = ((itN ρ x1 x2 x3 : Nat) : Int) := z; omega
          exact ⟨e4, by rw [← e4]; exact f.1 ⟨w1, w4.1⟩⟩
        · obtain ⟨w1, w2⟩ := w
          rw [← w1] at w2
          have g := f.2 w2
          exact ⟨g.1, by decide, Or.inl (e.2 ⟨w1, rfl, rfl⟩), g.2, Or.inl (by show (-1 : Int) < 0; decide)⟩
      · have s := sp_s hL hk
        unfold cC
        rw [if_pos h5, cntL_cOne]
        refine ix_n (fun w => hne ?_)
        have e := pv_it hL hp1 (i := spB (LL ρ) k) (j := spF (LL ρ) k) ⟨s.1, s.2.1⟩ h80 hx
        obtain ⟨w1, w2, w3, w4⟩ := w
        rcases w3 with z | z
        · have := e.1 z
          rw [show x2.toNat = spB (LL ρ) k by omega, show x3.toNat = spF (LL ρ) k by omega]
          exact s.2.2.symm
        · exfalso; have : (-1 : Int) = ((itN ρ x1 x2 x3 : Nat) : Int) := z; omega
    · rw [if_neg h5]
      have hp2 := hp2.resolve_left h5
      rw [← span_sum hL (fun i j => wiM ρ x1 x2 x3 r i j (j - i - 1))]
      refine sumN_congr _ (fun s hs => ?_)
      have sp := sp_s hL hs
      unfold cC
      rw [if_neg h5, cntL_cB]
      unfold wiM
      refine sumN_congr _ (fun t ht => ?_)
      have hm : spB (LL ρ) s < spB (LL ρ) s + 1 + t ∧ spB (LL ρ) s + 1 + t < spF (LL ρ) s := by omega
      have e1 := pv_it hL hp1 (i := spB (LL ρ) s) (j := spB (LL ρ) s + 1 + t) (by omega) h80 hx
      have e2 := pv_it hL hp2 (i := spB (LL ρ) s + 1 + t) (j := spF (LL ρ) s) (by omega) h80 hx
      have f1 := hPt_pv hg hL hp1 (i := spB (LL ρ) s) (j := spB (LL ρ) s + 1 + t) (by omega)
      have f2 := hPt_pv hg hL hp2 (i := spB (LL ρ) s + 1 + t) (j := spF (LL ρ) s) (by omega)
      refine ix_e ⟨fun w => ?_, fun w => ?_⟩
      · obtain ⟨w1, w2, w3, w4, w5⟩ := w
        refine ⟨?_, f1.1 ⟨w1, w4⟩, f2.1 ⟨w2, w5⟩⟩
        rcases w3 with z | z
        · exact Or.inl (e1.1 z)
        · exact Or.inr (e2.1 z)
      · obtain ⟨w1, w2, w3⟩ := w
        have g1 := f1.2 w2
        have g2 := f2.2 w3
        refine ⟨g1.1, g2.1, ?_, g1.2, g2.2⟩
        rcases w1 with z | z
        · exact Or.inl (e1.2 z)
        · exact Or.inr (e2.2 z)
  · rw [if_neg h8, if_neg h8]
