/-! values by the table -/
def vPl (ρ : St) (a b : Int) : Int := ρ 9 (a * ρ 0 5 + b).toNat
def vTi (ρ : St) (a b : Int) : Int := ρ 10 (a * ρ 0 5 + b).toNat
def inB (ρ : St) (x : Int) : Prop := 0 ≤ x ∧ x < ρ 0 5
theorem tab_r {ρ : St} {a b : Int} (ha : inB ρ a) (hb : inB ρ b) : 0 ≤ a * ρ 0 5 + b ∧ a * ρ 0 5 + b < ρ 0 5 * ρ 0 5 := by
  unfold inB at *
  have h1 : a * ρ 0 5 ≤ (ρ 0 5 - 1) * ρ 0 5 := Int.mul_le_mul_of_nonneg_right (by omega) (by omega)
  have h2 : 0 ≤ a * ρ 0 5 := Int.mul_nonneg ha.1 (by omega)
  rw [Int.sub_mul] at h1
  omega
theorem vPl_r {ρ : St} (hw : Wb ρ) {a b : Int} (ha : inB ρ a) (hb : inB ρ b) : inB ρ (vPl ρ a b) := by
  have := tab_r ha hb
  exact (hw.2.2.2.2 (a * ρ 0 5 + b).toNat (by omega)).1
theorem vTi_r {ρ : St} (hw : Wb ρ) {a b : Int} (ha : inB ρ a) (hb : inB ρ b) : inB ρ (vTi ρ a b) := by
  have := tab_r ha hb
  exact (hw.2.2.2.2 (a * ρ 0 5 + b).toNat (by omega)).2
def vpW (ρ : St) (w : Nat → Int) (x : Int) : Int := if x < 0 then ρ 0 7 else w x.toNat
def vPr (ρ : St) (w : Nat → Int) (c : Cs) : Int := if c.2.1 = -1 then vTi ρ (ρ 7 c.1.toNat) (vpW ρ w c.2.2.1) else vTi ρ (vTi ρ (ρ 7 c.1.toNat) (vpW ρ w c.2.2.1)) (vpW ρ w c.2.2.2)
def vFo (ρ : St) (w : Nat → Int) (a : Int) (l : List Cs) : Int := l.foldl (fun x c => vPl ρ x (vPr ρ w c)) a
def vNew (ρ : St) (w : Nat → Int) (q : Nat) : Int := vFo ρ w (ρ 0 6) (cI ρ q)
def vIt (ρ : St) : Nat → Nat → Int
  | 0 => fun _ => ρ 0 6
  | n + 1 => vNew ρ (vIt ρ n)
def WV (ρ : St) (w : Nat → Int) : Prop := ∀ q, q < 12 * spN (LL ρ) → inB ρ (w q)
def cOK (ρ : St) (c : Cs) : Prop := (0 ≤ c.1 ∧ c.1 < ρ 0 4) ∧ (-1 ≤ c.2.2.1 ∧ c.2.2.1 < ((12 * spN (LL ρ) : Nat) : Int)) ∧ (-1 ≤ c.2.2.2 ∧ c.2.2.2 < ((12 * spN (LL ρ) : Nat) : Int))
theorem cI_ok {ρ : St} (hg : Wg ρ) (hL : LL ρ < 9) {q : Nat} (hq : q < 12 * spN (LL ρ)) {c : Cs} (hc : c ∈ cI ρ q) : cOK ρ c := by
  have e : q = 12 * (q / 12) + q % 12 := by omega
  rw [e] at hc
  have r := cI_r hg hL (Nat.mod_lt _ (by decide)) (by omega) hc
  obtain ⟨r', h1, -, -, h2, -⟩ := cI_info (Nat.mod_lt _ (by decide)) hc
  exact ⟨by omega, r⟩
theorem vpW_r {ρ : St} (hw : Wb ρ) {w : Nat → Int} (h : WV ρ w) {x : Int} (hx : -1 ≤ x ∧ x < ((12 * spN (LL ρ) : Nat) : Int)) : inB ρ (vpW ρ w x) := by
  unfold vpW
  by_cases h0 : x < 0
  · rw [if_pos h0]; exact hw.2.2.2.1
  · rw [if_neg h0]; exact h _ (by omega)
theorem vPr_r {ρ : St} (hg : Wg ρ) (hw : Wb ρ) {w : Nat → Int} (h : WV ρ w) {c : Cs} (hc : cOK ρ c) : inB ρ (vPr ρ w c) := by
  have e7 : inB ρ (ρ 7 c.1.toNat) := (hg.2.2 c.1.toNat (by have := hc.1; omega)).2.2.2.2.1
  unfold vPr
  by_cases h0 : c.2.1 = -1
  · rw [if_pos h0]; exact vTi_r hw e7 (vpW_r hw h hc.2.1)
  · rw [if_neg h0]; exact vTi_r hw (vTi_r hw e7 (vpW_r hw h hc.2.1)) (vpW_r hw h hc.2.2)
theorem vFo_r {ρ : St} (hg : Wg ρ) (hw : Wb ρ) {w : Nat → Int} (h : WV ρ w) : ∀ (l : List Cs) (a : Int), (∀ c ∈ l, cOK ρ c) → inB ρ a → inB ρ (vFo ρ w a l)
  | [], a, _, ha => ha
  | c :: l, a, hc, ha => vFo_r hg hw h l (vPl ρ a (vPr ρ w c)) (fun d hd => hc d (List.mem_cons_of_mem _ hd)) (vPl_r hw ha (vPr_r hg hw h (hc c List.mem_cons_self)))
theorem vNew_r {ρ : St} (hg : Wg ρ) (hL : LL ρ < 9) (hw : Wb ρ) {w : Nat → Int} (h : WV ρ w) : WV ρ (vNew ρ w) := fun q hq => vFo_r hg hw h _ _ (fun c hc => cI_ok hg hL hq hc) hw.2.2.1
theorem vIt_r {ρ : St} (hg : Wg ρ) (hL : LL ρ < 9) (hw : Wb ρ) : ∀ n, WV ρ (vIt ρ n)
  | 0 => fun q hq => hw.2.2.1
  | n + 1 => vNew_r hg hL hw (vIt_r hg hL hw n)
theorem vPr_ext {ρ : St} {w w' : Nat → Int} (h : ∀ q, q < 12 * spN (LL ρ) → w q = w' q) {c : Cs} (hc : cOK ρ c) : vPr ρ w c = vPr ρ w' c := by
  have e : ∀ x : Int, (-1 ≤ x ∧ x < ((12 * spN (LL ρ) : Nat) : Int)) → vpW ρ w x = vpW ρ w' x := by
    intro x hx
    unfold vpW
    by_cases h0 : x < 0
    · rw [if_pos h0, if_pos h0]
    · rw [if_neg h0, if_neg h0]; exact h _ (by omega)
  unfold vPr
  rw [e _ hc.2.1, e _ hc.2.2]
theorem vFo_app {ρ : St} {w : Nat → Int} {a : Int} {l k : List Cs} : vFo ρ w a (l ++ k) = vFo ρ w (vFo ρ w a l) k := by unfold vFo; rw [List.foldl_append]
/-! the class's round -/
def VS (ρ : St) (w : Nat → Int) (σ : St) : Prop := Bt ρ σ ∧ VCb σ ρ ∧ ∀ q, q < 12 * spN (LL ρ) → σ 51 q = w q
theorem c_partValue {ρ σ : St} {w : Nat → Int} (hL : LL ρ < 9) (hs : VS ρ w σ) {x : Int} (hx : -1 ≤ x ∧ x < ((12 * spN (LL ρ) : Nat) : Int)) {Q : Int → St → Prop} (h : Q (vpW ρ w x) σ) : wp_X9_partValue x σ Q := by
  have h3 := sp_3 _ hL
  unfold wp_X9_partValue
  unfold vpW at h
  refine ⟨fun h0 => ⟨by omega, ?_⟩, fun h0 => ?_⟩
  · rw [if_neg (by omega)] at h
    rw [hs.2.2 _ (by omega)]; exact h
  · rw [if_pos (by omega)] at h
    rw [hs.2.1.2.2.1]; exact h
theorem c_renewed {ρ σ : St} (hg : Wg ρ) (hL : LL ρ < 9) (hw : Wb ρ) {w : Nat → Int} (hr : WV ρ w) (hs : VS ρ w σ) {q : Nat} (hq : q < 12 * spN (LL ρ)) {Q : Int → St → Prop} (h : Q (vNew ρ w q) σ) : wp_X9_renewed (q : Int) σ Q := by
  have h3360 := PL_3360 hg hL
  have hB := hs.1
  have vg := hB.1.2.2.1.1
  have h40 := hg.2.1
  have hlen : (cI ρ q).length < bigN := by
    by_cases hz : (cI ρ q).length = 0
    · rw [hz]; unfold bigN; omega
    · have := (hB.seg (t := (cI ρ q).length - 1) hq (by omega)).1
      unfold bigN; omega
  have lp : ∀ (d t : Nat) (n : Nat), t + d = (cI ρ q).length → d < n → inB ρ (vFo ρ w (ρ 0 6) ((cI ρ q).take t)) → wp_X9_renewed_l17 Q n (q : Int) (vFo ρ w (ρ 0 6) ((cI ρ q).take t)) (((PL ρ q).length + t : Nat) : Int) σ := by
    intro d
    induction d with
    | zero =>
      intro t n hd hn hi
      obtain ⟨n, rfl⟩ := suc_n hn
      unfold wp_X9_renewed_l17
      refine c_caseEnd hL hB hq ⟨fun _ => ?_, fun w => absurd (by omega) w⟩
      rw [show t = (cI ρ q).length by omega, List.take_length]; exact h
    | succ d ih =>
      intro t n hd hn hi
      obtain ⟨n, rfl⟩ := suc_n hn
      have ht : t < (cI ρ q).length := by omega
      obtain ⟨s0, s1, s2, s3, s4⟩ := hB.seg hq ht
      have ok := cI_ok hg hL hq (List.getElem_mem ht)
      have e : vFo ρ w (ρ 0 6) ((cI ρ q).take (t + 1)) = vPl ρ (vFo ρ w (ρ 0 6) ((cI ρ q).take t)) (vPr ρ w (cI ρ q)[t]) := by
        rw [List.take_succ_eq_append_getElem ht, vFo_app]; rfl
      have pr := vPr_r hg hw hr ok
      have step := ih (t + 1) n (by omega) (by omega) (by rw [e]; exact vPl_r hw hi pr)
      rw [e] at step
      generalize hc : (cI ρ q)[t] = c at *
      have hrr : ((c.1.toNat : Nat) : Int) < ρ 0 4 := by have := ok.1; omega
      have e19 : σ 19 c.1.toNat = ρ 7 c.1.toNat := (vg.2 _ hrr).2.2.2.2.1
      have e7 : inB ρ (ρ 7 c.1.toNat) := (hg.2.2 _ hrr).2.2.2.2.1
      have w1 := vpW_r hw hr ok.2.1
      have w2 := vpW_r hw hr ok.2.2
      have fin : ∀ y, y = vPr ρ w c → wp_X9_renewed_b105 Q (wp_X9_renewed_l17 Q n) (q : Int) (vFo ρ w (ρ 0 6) ((cI ρ q).take t)) (((PL ρ q).length + t : Nat) : Int) y σ := by
        intro y ey
        unfold wp_X9_renewed_b105
        rw [ey]
        refine c_plus hw hs.2.1 hi pr (fun v ev => ?_)
        rw [ev, w32_of (by omega) (by omega), show (((PL ρ q).length + t : Nat) : Int) + 1 = (((PL ρ q).length + (t + 1) : Nat) : Int) by omega]
        exact step
      unfold wp_X9_renewed_l17
      refine c_caseEnd hL hB hq ⟨fun w => absurd w (by omega), fun _ => ?_⟩
      rw [Int.toNat_natCast, s1, s3, e19]
      refine ⟨by omega, by have := ok.1; omega, by omega, c_partValue hL hs ok.2.1 (c_times hw hs.2.1 e7 w1 ?_)⟩
      rw [s2, s4]
      refine ⟨by omega, fun h5 => fin _ ?_, fun h5 => ⟨by omega, c_partValue hL hs ok.2.2 (c_times hw hs.2.1 (vTi_r hw e7 w1) w2 (fin _ ?_))⟩⟩
      · unfold vPr; rw [if_pos h5]; rfl
      · unfold vPr; rw [if_neg h5]; rfl
  unfold wp_X9_renewed
  intro v ev
  rw [ev, hs.2.1.2.1]
  exact c_caseStart hL hB hq (lp _ 0 bigN (Nat.zero_add _) hlen hw.2.2.1)
def chg (ρ : St) (w : Nat → Int) (n : Nat) : Prop := ∃ q, q < n ∧ vNew ρ w q ≠ w q
theorem c_changeAll {ρ σ : St} (hg : Wg ρ) (hL : LL ρ < 9) (hw : Wb ρ) {w : Nat → Int} (hr : WV ρ w) (hs : VS ρ w σ) {Q : Int → St → Prop} (h : ∀ σ1 r, VS ρ (vNew ρ w) σ1 → (r = 0 ∨ r = 1) → (r = 1 ↔ chg ρ w (12 * spN (LL ρ))) → σ1 50 = σ 50 → Q r σ1) : wp_X9_changeAll σ Q := by
  have h3 := sp_3 _ hL
  have lp : ∀ (d q : Nat) (x : Int) (σ1 : St) (n : Nat), q + d = 12 * spN (LL ρ) → d < n → VS ρ w σ1 → (x = 0 ∨ x = 1) → (x = 1 ↔ chg ρ w q) → (∀ q', q' < q → σ1 52 q' = vNew ρ w q') → σ1 50 = σ 50 → wp_X9_changeAll_l12 Q n x ((12 * spN (LL ρ) : Nat) : Int) (q : Int) σ1 := by
    intro d
    induction d with
    | zero =>
      intro q x σ1 n hd hn hs1 hx hc h52 h50
      obtain ⟨n, rfl⟩ := suc_n hn
      unfold wp_X9_changeAll_l12
      refine ⟨fun _ => ⟨by omega, by omega, by omega, by omega, by omega, fun σ3 e3 => ⟨hx, h σ3 x ?_ hx (by rw [show 12 * spN (LL ρ) = q by omega]; exact hc) (by rw [e3]; exact (copyS_ne 50 (by decide)).trans h50)⟩⟩, fun w => absurd (by omega) w⟩
      have ne : ∀ a, a ≠ 51 → σ3 a = σ1 a := fun a ha => by rw [e3]; exact copyS_ne a ha
      refine ⟨hs1.1.ext (by rw [ne 14 (by decide)]) (fun k a b => ne k (by omega)) (fun k a b => ne k (by omega)) ⟨by rw [ne 24 (by decide)], by rw [ne 24 (by decide)], by rw [ne 24 (by decide)], by rw [ne 24 (by decide)], by rw [ne 24 (by decide)], by rw [ne 24 (by decide)]⟩, ?_, fun q' hq' => ?_⟩
      · have := hs1.2.1
        unfold VCb at *
        rw [ne 14 (by decide), ne 21 (by decide), ne 22 (by decide)]; exact this
      · rw [e3]
        unfold copyS
        rw [if_pos ⟨rfl, by simp, by simp; omega⟩]
        show σ1 52 (0 + (q' - 0)) = _
        rw [Nat.zero_add, Nat.sub_zero]
        exact h52 q' (by omega)
    | succ d ih =>
      intro q x σ1 n hd hn hs1 hx hc h52 h50
      obtain ⟨n, rfl⟩ := suc_n hn
      unfold wp_X9_changeAll_l12
      refine ⟨fun w => absurd w (by omega), fun _ => c_renewed hg hL hw hr hs1 (by omega) ⟨by omega, fun σ6 e6 => ⟨by omega, by omega, ?_⟩⟩⟩
      rw [Int.toNat_natCast] at e6
      have e52 : σ6 52 q = vNew ρ w q := by rw [e6, upS_s]
      have e51 : σ6 51 q = w q := by rw [e6, upS_k (by decide)]; exact hs1.2.2 q (by omega)
      have hs6 : VS ρ w σ6 := by rw [e6]; exact hs1
      have h526 : ∀ q', q' < q + 1 → σ6 52 q' = vNew ρ w q' := by
        intro q' hq'
        by_cases e : q' = q
        · rw [e]; exact e52
        · rw [e6, upS_j e]; exact h52 q' (by omega)
      have h506 : σ6 50 = σ 50 := by rw [e6, upS_k (by decide)]; exact h50
      rw [Int.toNat_natCast, e52, e51]
      unfold wp_X9_changeAll_b49
      refine ⟨fun he v ev v2 ev2 => ?_, fun he v ev v2 ev2 => ?_⟩
      · have e0 : b_or x 0 = x := by rcases hx with z | z <;> rw [z] <;> decide
        rw [ev2, w32_of (by omega) (by omega), show (q : Int) + 1 = ((q + 1 : Nat) : Int) by omega, ev, e0]
        refine ih (q + 1) x σ6 n (by omega) (by omega) hs6 hx (hc.trans ⟨fun ⟨q', a, b⟩ => ⟨q', by omega, b⟩, fun ⟨q', a, b⟩ => ⟨q', ?_, b⟩⟩) h526 h506
        by_cases z : q' = q
        · subst z; exact absurd he b
        · omega
      · have e0 : b_or x 1 = 1 := by rcases hx with z | z <;> rw [z] <;> decide
        rw [ev2, w32_of (by omega) (by omega), show (q : Int) + 1 = ((q + 1 : Nat) : Int) by omega, ev, e0]
        exact ih (q + 1) 1 σ6 n (by omega) (by omega) hs6 (Or.inr rfl) ⟨fun _ => ⟨q, by omega, he⟩, fun _ => rfl⟩ h526 h506
  unfold wp_X9_changeAll wp_X0_itemCount
  rw [hs.1.1.2.1.2.1, w32_of (x := (spN (LL ρ) : Int) * 12) (by omega) (by omega), show (spN (LL ρ) : Int) * 12 = ((12 * spN (LL ρ) : Nat) : Int) by omega]
  exact lp (12 * spN (LL ρ)) 0 0 σ bigN (by omega) (by unfold bigN; omega) hs (Or.inl rfl) ⟨fun w => absurd w (by decide), fun ⟨q, a, _⟩ => by omega⟩ (fun q' w => by omega) rfl
/-- how many rounds -/
def VT (ρ : St) (t : Int) : Prop := (t = -6 ∧ ∀ n : Nat, n < 100 → chg ρ (vIt ρ n) (12 * spN (LL ρ))) ∨ (1 ≤ t ∧ t ≤ 100 ∧ ¬ chg ρ (vIt ρ (t.toNat - 1)) (12 * spN (LL ρ)) ∧ ∀ n : Nat, (n : Int) + 1 < t → chg ρ (vIt ρ n) (12 * spN (LL ρ)))
theorem VT.uniq {ρ : St} {t u : Int} (h : VT ρ t) (h2 : VT ρ u) : t = u := by
  rcases h with ⟨a, b⟩ | ⟨a, b, c, d⟩ <;> rcases h2 with ⟨a', b'⟩ | ⟨a', b', c', d'⟩
  · omega
  · exact absurd (b (u.toNat - 1) (by omega)) c'
  · exact absurd (b' (t.toNat - 1) (by omega)) c
  · by_cases z : t < u
    · exact absurd (d' (t.toNat - 1) (by omega)) c
    · by_cases z2 : u < t
      · exact absurd (d (u.toNat - 1) (by omega)) c'
      · omega
/-- what is kept of the values -/
def VK (ρ σ : St) : Prop := VT ρ (σ 50 5) ∧ (σ 50 5 ≠ -6 → ∀ q, q < 12 * spN (LL ρ) → σ 51 q = vIt ρ (σ 50 5).toNat q)
theorem c_rt41 {ρ : St} (hg : Wg ρ) (hL : LL ρ < 9) (hw : Wb ρ) {Q : Int → St → Prop} (h : ∀ σ1, Bt ρ σ1 → VCb σ1 ρ → σ1 50 6 = 1 → VK ρ σ1 → Q (σ1 50 5) σ1) : ∀ (d m : Nat) (σ : St) (n : Nat), m + d = 100 → d + 1 < n → VS ρ (vIt ρ m) σ → σ 50 6 = 1 → σ 50 5 = -6 → (∀ k : Nat, k < m → chg ρ (vIt ρ k) (12 * spN (LL ρ))) → wp_X9_roundsTaken_l41 Q n ((m + 1 : Nat) : Int) σ := by
  intro d
  induction d with
  | zero =>
    intro m σ n hm hn hs h6 h5 hc
    obtain ⟨n, rfl⟩ := suc_n (show 0 < n by omega)
    unfold wp_X9_roundsTaken_l41
    exact ⟨fun _ => h σ hs.1 hs.2.1 h6 ⟨Or.inl ⟨h5, fun k hk => hc k (by omega)⟩, fun w => absurd h5 w⟩, fun w => absurd (by omega) w⟩
  | succ d ih =>
    intro m σ n hm hn hs h6 h5 hc
    obtain ⟨n, rfl⟩ := suc_n (show 0 < n by omega)
    unfold wp_X9_roundsTaken_l41 wp_X9_roundsTaken_b68
    refine ⟨fun w => absurd w (by omega), fun _ => ⟨fun w => absurd h5 w, fun _ => c_changeAll hg hL hw (vIt_r hg hL hw m) hs (fun σ1 r hs1 hr hch h50 => ⟨fun w v ev => ?_, fun w σ9 e9 v ev => ?_⟩)⟩⟩
    · rw [ev, w32_of (by omega) (by omega), show ((m + 1 : Nat) : Int) + 1 = ((m + 1 + 1 : Nat) : Int) by omega]
      have hch2 := hch.1 (by omega)
      refine ih (m + 1) σ1 n (by omega) (by omega) hs1 (by rw [h50]; exact h6) (by rw [h50]; exact h5) (fun k hk => ?_)
      by_cases e : k = m
      · rw [e]; exact hch2
      · exact hc k (by omega)
    · rw [ev, w32_of (by omega) (by omega)]
      have hch2 : ¬ chg ρ (vIt ρ m) (12 * spN (LL ρ)) := fun z => by have := hch.2 z; omega
      have e5 : σ9 50 5 = ((m + 1 : Nat) : Int) := by rw [e9, upS_s]
      have hk : VK ρ σ9 := by
        unfold VK
        rw [e5]
        refine ⟨Or.inr ⟨by omega, by omega, by rw [show (((m + 1 : Nat) : Int)).toNat - 1 = m by omega]; exact hch2, fun k hk => hc k (by omega)⟩, fun _ q hq => ?_⟩
        rw [e9, upS_k (by decide), Int.toNat_natCast]
        exact hs1.2.2 q hq
      have hq := h σ9 (by rw [e9]; exact hs1.1) (by rw [e9]; exact hs1.2.1) (by rw [e9, upS_j (by decide), h50]; exact h6) hk
      obtain ⟨n, rfl⟩ := suc_n (show 0 < n by omega)
      unfold wp_X9_roundsTaken_l41
      exact ⟨fun _ => hq, fun _ => ⟨fun _ => hq, fun z => absurd (show σ9 50 5 ≠ -6 by rw [e5]; omega) z⟩⟩
theorem c_roundsTaken {ρ σ : St} (hW : WW ρ) (hk : KL ρ σ) (vb : VCb σ ρ) (hv : σ 50 6 = 0 ∨ (σ 50 6 = 1 ∧ VK ρ σ)) {Q : Int → St → Prop} (h : ∀ σ1, Bt ρ σ1 → VCb σ1 ρ → σ1 50 6 = 1 → VK ρ σ1 → Q (σ1 50 5) σ1) : wp_X9_roundsTaken σ Q := by
  have hg := hW.2.2.1
  have hw := hW.2.2.2.1
  have hL : LL ρ < 9 := by have := hW.2.2.2.2.2.1; unfold LL; omega
  have h3 := sp_3 _ hL
  unfold wp_X9_roundsTaken
  refine mf_X0_build (σ0 := σ) (Q := fun _ σ1 => Bt ρ σ1) (fun r1 σ2 hB f => ?_) Fr.rf (c_build hW hk.1 hk.2.1 hk.2.2.1 (fun _ h => h))
  have e50 : σ2 50 = σ 50 := funext (fun j => f.at rfl)
  have e51 : σ2 51 = σ 51 := funext (fun j => f.at rfl)
  have vb2 : VCb σ2 ρ := vb.fr f ⟨rfl, rfl, rfl, fun _ => rfl, fun _ => rfl⟩
  refine ⟨fun w => ?_, fun w σ3 e3 σ4 e4 => ?_⟩
  · rw [e50] at w
    rcases hv with z | ⟨z, zk⟩
    · exact absurd z w
    · exact h σ2 hB vb2 (by rw [e50]; exact z) (by unfold VK at *; rw [e50, e51]; exact zk)
  · refine c_J7_fill_53178_C_c51 (fun σ6 a1 a2 => ?_)
    have ne : ∀ a, a ≠ 51 → a ≠ 50 → σ6 a = σ2 a := fun a h1 h2 => by rw [a2 a h1, e4, upS_k h2, e3, upS_k h2]
    have e48 : σ4 14 8 = ρ 0 6 := by rw [e4, e3]; exact vb2.2.1
    have hs : VS ρ (vIt ρ 0) σ6 := by
      refine ⟨hB.ext (by rw [ne 14 (by decide) (by decide)]) (fun k a b => ne k (by omega) (by omega)) (fun k a b => ne k (by omega) (by omega)) ⟨by rw [ne 24 (by decide) (by decide)], by rw [ne 24 (by decide) (by decide)], by rw [ne 24 (by decide) (by decide)], by rw [ne 24 (by decide) (by decide)], by rw [ne 24 (by decide) (by decide)], by rw [ne 24 (by decide) (by decide)]⟩, ?_, fun q hq => ?_⟩
      · have := vb2
        unfold VCb at *
        rw [ne 14 (by decide) (by decide), ne 21 (by decide) (by decide), ne 22 (by decide) (by decide)]; exact this
      · rw [a1 q (by omega), e48]; rfl
    have e6 : σ6 50 = σ4 50 := a2 50 (by decide)
    exact c_rt41 hg hL hw h 100 0 σ6 bigN (by omega) (by unfold bigN; omega) hs (by rw [e6, e4, upS_j (by decide), e3, upS_s]) (by rw [e6, e4, upS_s]) (fun k hk => by omega)
