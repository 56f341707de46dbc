/-! settled: the reference's -/
def rk (τ : St) (a i j : Int) : Int := ((rl τ a i j * 16 + (j - i)) * 16 + i) * 16 + a
def vsd (i j a : Int) (a' i' j' : Int) : Prop := i' < i ∨ (i' = i ∧ (j' < j ∨ (j' = j ∧ a' < a)))
def MB (ρ τ : St) (last best : Int) (V : Int → Int → Int → Prop) : Prop := (∀ a i j, isItm ρ a i j → V a i j → hT ρ a i j → last < rk τ a i j → best ≤ rk τ a i j) ∧ (best = 9223372036854775807 ∨ ∃ a i j, isItm ρ a i j ∧ hT ρ a i j ∧ last < rk τ a i j ∧ best = rk τ a i j)
theorem rl_r {ρ τ : St} (hg : Wg ρ) (ha : LA ρ τ) {a i j : Int} (h : isItm ρ a i j) : 0 ≤ rl τ a i j ∧ rl τ a i j ≤ 1000000000 := by
  obtain ⟨h1, h2, h3, h4⟩ := h
  rcases ha.2 a i j h1.1 h1.2 h2 h3 h4 with ⟨e, -⟩ | ⟨e, t, -⟩
  · omega
  · have := Te.nn jokA hg t; omega
theorem MB.mono {ρ τ : St} {last best : Int} {V V' : Int → Int → Int → Prop} (h : MB ρ τ last best V) (hV : ∀ a i j, isItm ρ a i j → V' a i j → V a i j) : MB ρ τ last best V' := ⟨fun a i j h1 h2 h3 h4 => h.1 a i j h1 (hV a i j h1 h2) h3 h4, h.2⟩
theorem r_st77 {ρ τ : St} (hg : Wg ρ) (hL : LL ρ < 9) (h80 : 0 ≤ ρ 0 8) (ha : LA ρ τ) {i j : Nat} (hi : i < j ∧ j ≤ LL ρ) {x1 x2 last x5 : Int} {Q : Int → St → Prop} {K36 : Int → Int → Int → Int → St → Prop} {K50 : Int → Int → Int → Int → Int → Int → St → Prop} {K : Int → Int → Int → Int → Int → Int → Int → St → Prop} (hk : ∀ best, MB ρ τ last best (vsd i ((j + 1 : Nat) : Int) 0) → K x1 x2 last x5 best i ((j + 1 : Nat) : Int) τ) : ∀ (d a : Nat) (best : Int) (n : Nat), a + d = 12 → d < n → MB ρ τ last best (vsd i j a) → wp_X12_settled_l77 Q K36 K50 K n x1 x2 last x5 best i j (a : Int) τ := by
  have hs8 : ρ 0 8 ≤ 8 := by unfold LL at hL; omega
  have eL : ((LL ρ : Nat) : Int) = ρ 0 8 := by unfold LL; omega
  intro d
  induction d with
  | zero =>
    intro a best n hd hn hm
    obtain ⟨n, rfl⟩ := suc_n hn
    unfold wp_X12_settled_l77
    refine ⟨fun _ v ev => ?_, fun w => absurd (by omega) w⟩
    rw [ev, w32_of (by omega) (by omega), show (j : Int) + 1 = ((j + 1 : Nat) : Int) by omega]
    refine hk best (hm.mono (fun a' i' j' h1 h2 => ?_))
    have := h1.1
    unfold vsd at *; omega
  | succ d ih =>
    intro a best n hd hn hm
    obtain ⟨n, rfl⟩ := suc_n hn
    have hI : isItm ρ (a : Int) (i : Int) (j : Int) := ⟨by omega, by omega, by omega, by omega⟩
    have hr := rl_r hg ha hI
    have ek : w64 (w64 (w64 (w64 (w64 (w64 (w64 (rl τ a i j * 16) + (j : Int)) - (i : Int)) * 16) + (i : Int)) * 16) + (a : Int)) = rk τ a i j := by
      rw [w64_of (x := rl τ a i j * 16) (by omega) (by omega), w64_of (x := rl τ a i j * 16 + (j : Int)) (by omega) (by omega), w64_of (x := rl τ a i j * 16 + (j : Int) - (i : Int)) (by omega) (by omega), w64_of (x := (rl τ a i j * 16 + (j : Int) - (i : Int)) * 16) (by omega) (by omega), w64_of (x := (rl τ a i j * 16 + (j : Int) - (i : Int)) * 16 + (i : Int)) (by omega) (by omega), w64_of (x := ((rl τ a i j * 16 + (j : Int) - (i : Int)) * 16 + (i : Int)) * 16) (by omega) (by omega), w64_of (by omega) (by omega)]
      unfold rk; omega
    have nx : ∀ b, MB ρ τ last b (vsd i j ((a + 1 : Nat) : Int)) → wp_X12_settled_b138 Q K36 K50 K (wp_X12_settled_l77 Q K36 K50 K n) x1 x2 last x5 b i j (a : Int) τ := by
      intro b hb
      unfold wp_X12_settled_b138
      intro v ev
      rw [ev, w32_of (by omega) (by omega), show (a : Int) + 1 = ((a + 1 : Nat) : Int) by omega]
      exact ih (a + 1) b n (by omega) (by omega) hb
    have ext : ∀ a' i' j', vsd i j ((a + 1 : Nat) : Int) a' i' j' → vsd i j a a' i' j' ∨ (a' = (a : Int) ∧ i' = (i : Int) ∧ j' = (j : Int)) := by
      intro a' i' j' h
      unfold vsd at *; omega
    unfold wp_X12_settled_l77
    refine ⟨fun w => absurd w (by omega), fun _ => r_item hI.1 (by omega) ⟨it_r hI.1 (by omega), ?_⟩⟩
    unfold wp_X12_order
    rw [show τ 15 (it a i j).toNat = rl τ a i j from rfl, ek]
    refine r_has2 ha hs8 hI (fun hn => ⟨fun _ => nx best ⟨fun a' i' j' h1 h2 h3 h4 => ?_, hm.2⟩, fun w => absurd rfl w⟩) (fun hy => ⟨fun w => absurd w (by decide), fun _ => ⟨fun w => nx best ⟨fun a' i' j' h1 h2 h3 h4 => ?_, hm.2⟩, fun w v ev => nx v ⟨fun a' i' j' h1 h2 h3 h4 => ?_, ?_⟩⟩⟩)
    · rcases ext a' i' j' h2 with h | ⟨rfl, rfl, rfl⟩
      · exact hm.1 a' i' j' h1 h h3 h4
      · exact absurd h3 hn
    · rcases ext a' i' j' h2 with h | ⟨rfl, rfl, rfl⟩
      · exact hm.1 a' i' j' h1 h h3 h4
      · omega
    · rcases ext a' i' j' h2 with h | ⟨rfl, rfl, rfl⟩
      · have := hm.1 a' i' j' h1 h h3 h4
        omega
      · omega
    · by_cases hb : best ≤ rk τ a i j
      · rw [ev, show min best (rk τ a i j) = best by omega]; exact hm.2
      · rw [ev, show min best (rk τ a i j) = rk τ a i j by omega]
        exact Or.inr ⟨a, i, j, hI, hy, by omega, rfl⟩
theorem r_st65 {ρ τ : St} (hg : Wg ρ) (hL : LL ρ < 9) (h80 : 0 ≤ ρ 0 8) (ha : LA ρ τ) {i : Nat} (hi : i < LL ρ) {x1 x2 last x5 : Int} {Q : Int → St → Prop} {K36 : Int → Int → Int → Int → St → Prop} {K : Int → Int → Int → Int → Int → Int → St → Prop} (hk : ∀ best, MB ρ τ last best (vsd ((i + 1 : Nat) : Int) 0 0) → K x1 x2 last x5 best ((i + 1 : Nat) : Int) τ) : ∀ (d t : Nat) (best : Int) (n : Nat), i + t + d = LL ρ → d < n → MB ρ τ last best (vsd i ((i + 1 + t : Nat) : Int) 0) → wp_X12_settled_l65 Q K36 K n x1 x2 last x5 best i ((i + 1 + t : Nat) : Int) τ := by
  have eL : ((LL ρ : Nat) : Int) = ρ 0 8 := by unfold LL; omega
  intro d
  induction d with
  | zero =>
    intro t best n hd hn hm
    obtain ⟨n, rfl⟩ := suc_n hn
    unfold wp_X12_settled_l65
    rw [ha.1.2.2.1]
    refine ⟨fun _ v ev => ?_, fun w => absurd (by omega) w⟩
    rw [ev, w32_of (by omega) (by omega), show (i : Int) + 1 = ((i + 1 : Nat) : Int) by omega]
    refine hk best (hm.mono (fun a' i' j' h1 h2 => ?_))
    have := h1.2
    unfold vsd at *; omega
  | succ d ih =>
    intro t best n hd hn hm
    obtain ⟨n, rfl⟩ := suc_n hn
    unfold wp_X12_settled_l65
    rw [ha.1.2.2.1]
    refine ⟨fun w => absurd w (by omega), fun _ => ?_⟩
    exact r_st77 hg hL h80 ha (i := i) (j := i + 1 + t) (by omega) (fun b hb => ih (t + 1) b n (by omega) (by omega) hb) 12 0 best bigN (by omega) (by unfold bigN; omega) hm
theorem r_st50 {ρ τ : St} (hg : Wg ρ) (hL : LL ρ < 9) (h80 : 0 ≤ ρ 0 8) (ha : LA ρ τ) {x1 x2 last : Int} {x5 : Nat} (h5 : x5 ≤ 432) {Q : Int → St → Prop} {K : Int → Int → Int → Int → St → Prop} (hk : ∀ best, MB ρ τ last best (fun _ _ _ => True) → K x1 x2 best ((x5 + 1 : Nat) : Int) τ) : ∀ (d i : Nat) (best : Int) (n : Nat), i + d = LL ρ → d < n → MB ρ τ last best (vsd i 0 0) → wp_X12_settled_l50 Q K n x1 x2 last (x5 : Int) best (i : Int) τ := by
  have eL : ((LL ρ : Nat) : Int) = ρ 0 8 := by unfold LL; omega
  intro d
  induction d with
  | zero =>
    intro i best n hd hn hm
    obtain ⟨n, rfl⟩ := suc_n hn
    unfold wp_X12_settled_l50
    rw [ha.1.2.2.1]
    refine ⟨fun _ v ev => ?_, fun w => absurd (by omega) w⟩
    rw [ev, w32_of (by omega) (by omega), show (x5 : Int) + 1 = ((x5 + 1 : Nat) : Int) by omega]
    refine hk best (hm.mono (fun a' i' j' h1 h2 => ?_))
    have := h1.2
    unfold vsd; omega
  | succ d ih =>
    intro i best n hd hn hm
    obtain ⟨n, rfl⟩ := suc_n hn
    unfold wp_X12_settled_l50
    rw [ha.1.2.2.1]
    refine ⟨fun w => absurd w (by omega), fun _ v ev => ?_⟩
    rw [ev, w32_of (by omega) (by omega), show (i : Int) + 1 = ((i + 1 + 0 : Nat) : Int) by omega]
    refine r_st65 hg hL h80 ha (i := i) (by omega) (fun b hb => ih (i + 1) b n (by omega) (by omega) hb) (LL ρ - i) 0 best bigN (by omega) (by unfold bigN; omega) (hm.mono (fun a' i' j' h1 h2 => ?_))
    have := h1.1
    have := h1.2
    unfold vsd at *; omega
/-- an item's key in the reference is its key in the class -/
theorem rk_ky {ρ τ : St} (hg : Wg ρ) (hL : LL ρ < 9) (h80 : 0 ≤ ρ 0 8) {f : Nat → Int} (hf : DR ρ ρ jA f (spN (LL ρ))) (ha : LA ρ τ) {a i j : Int} (h : isItm ρ a i j) (ht : hT ρ a i j) : rk τ a i j = kyF (LL ρ) f (itN ρ a i j) := by
  obtain ⟨h1, h2, h3, h4⟩ := h
  have hij : i.toNat < j.toNat ∧ j.toNat ≤ LL ρ := ⟨by omega, by unfold LL; omega⟩
  have q := sp_a (L := LL ρ) hL hij
  have lo := hf (spA (LL ρ) i.toNat j.toNat) a.toNat q.1 (by omega)
  rw [q.2.1, q.2.2, show ((a.toNat : Nat) : Int) = a by omega, show ((i.toNat : Nat) : Int) = i by omega, show ((j.toNat : Nat) : Int) = j by omega] at lo
  have l2 := ha.2 a i j h1.1 h1.2 h2 h3 h4
  have e := lo_agree lo l2
  rw [if_pos (l2.hT.2 ht)] at e
  unfold rk kyF itN
  rw [e, show (12 * spA (LL ρ) i.toNat j.toNat + a.toNat) / 12 = spA (LL ρ) i.toNat j.toNat by omega, show (12 * spA (LL ρ) i.toNat j.toNat + a.toNat) % 12 = a.toNat by omega]
  unfold spW
  rw [q.2.1, q.2.2]
  omega
theorem it_of {ρ : St} (hL : LL ρ < 9) (h80 : 0 ≤ ρ 0 8) {q : Nat} (hq : q < 12 * spN (LL ρ)) : isItm ρ ((q % 12 : Nat) : Int) ((spB (LL ρ) (q / 12) : Nat) : Int) ((spF (LL ρ) (q / 12) : Nat) : Int) ∧ itN ρ ((q % 12 : Nat) : Int) ((spB (LL ρ) (q / 12) : Nat) : Int) ((spF (LL ρ) (q / 12) : Nat) : Int) = q := by
  have s := sp_s hL (s := q / 12) (by omega)
  have eL : ((LL ρ : Nat) : Int) = ρ 0 8 := by unfold LL; omega
  refine ⟨⟨by omega, by omega, by omega, by omega⟩, ?_⟩
  unfold itN
  rw [Int.toNat_natCast, Int.toNat_natCast, Int.toNat_natCast, s.2.2]
  omega
theorem hPt_itN {ρ : St} (hL : LL ρ < 9) {a i j : Int} (h : isItm ρ a i j) : hPt ρ ((itN ρ a i j : Nat) : Int) ↔ hT ρ a i j := by
  obtain ⟨h1, h2, h3, h4⟩ := h
  have hij : i.toNat < j.toNat ∧ j.toNat ≤ LL ρ := ⟨by omega, by unfold LL; omega⟩
  have q := sp_a (L := LL ρ) hL hij
  unfold itN
  rw [hPt_it (by omega), q.2.1, q.2.2, show ((a.toNat : Nat) : Int) = a by omega, show ((i.toNat : Nat) : Int) = i by omega, show ((j.toNat : Nat) : Int) = j by omega]
theorem mb_next {ρ τ : St} (hg : Wg ρ) (hL : LL ρ < 9) (h80 : 0 ≤ ρ 0 8) {f : Nat → Int} (hf : DR ρ ρ jA f (spN (LL ρ))) (ha : LA ρ τ) {l : List Nat} (hO : OrdL ρ f l (12 * spN (LL ρ))) {n : Nat} (hn : n < l.length) {last best : Int} (hl : (n = 0 ∧ last = -1) ∨ (∃ h0 : 0 < n, last = kyF (LL ρ) f (l[n - 1]'(by omega)))) (hm : MB ρ τ last best (fun _ _ _ => True)) : best = kyF (LL ρ) f l[n] := by
  have m := (hO.2.1 l[n]).1 (List.getElem_mem hn)
  obtain ⟨i1, i2⟩ := it_of hL h80 m.1
  have t1 := (hPt_itN hL i1).1 (by rw [i2]; exact m.2)
  have k1 := rk_ky hg hL h80 hf ha i1 t1
  rw [i2] at k1
  have r1 := rl_r hg ha i1
  have gt : last < kyF (LL ρ) f l[n] := by
    rcases hl with ⟨e, e2⟩ | ⟨h0, e⟩
    · rw [e2, ← k1]
      have := i1.1; have := i1.2
      unfold rk; omega
    · rw [e]; exact hO.2.2 (n - 1) n hn (by omega)
  have le := hm.1 _ _ _ i1 trivial t1 (by rw [k1]; exact gt)
  rw [k1] at le
  have up : kyF (LL ρ) f l[n] < 9223372036854775807 := by
    rw [← k1]
    have := i1.1; have := i1.2
    have : ρ 0 8 ≤ 8 := by unfold LL at hL; omega
    unfold rk; omega
  rcases hm.2 with e | ⟨a, i, j, j1, j2, j3, j4⟩
  · omega
  · have k2 := rk_ky hg hL h80 hf ha j1 j2
    have mem : itN ρ a i j ∈ l := (hO.2.1 _).2 ⟨(itN_r hL j1).1, (hPt_itN hL j1).2 j2⟩
    obtain ⟨m', hm', em⟩ := List.getElem_of_mem mem
    rw [← em] at k2
    have hge : n ≤ m' := by
      by_cases w : n ≤ m'
      · exact w
      · exfalso
        rcases hl with ⟨e, e2⟩ | ⟨h0, e⟩
        · omega
        · rw [k2, e] at j3
          by_cases z : m' = n - 1
          · subst z; omega
          · have := hO.2.2 m' (n - 1) (by omega) (by omega)
            omega
    have : kyF (LL ρ) f l[n] ≤ kyF (LL ρ) f l[m'] := by
      by_cases z : n = m'
      · subst z; omega
      · have := hO.2.2 n m' hm' (by omega)
        omega
    omega
def stA (L : Nat) (f : Nat → Int) (q : Nat) (x2 : Int) : Int := if x2 = 0 then ((q % 12 : Nat) : Int) else if x2 = 1 then ((spB L (q / 12) : Nat) : Int) else if x2 = 2 then ((spF L (q / 12) : Nat) : Int) else f q
theorem and15 {x : Int} (hx : P64 x) : l_and x 15 = x % 16 := by
  rw [l_and_n hx ⟨by decide, by decide⟩, show (15 : Int).toNat = 2 ^ 4 - 1 from rfl, Nat.and_two_pow_sub_one_eq_mod]
  unfold P64 at hx; omega
theorem r_st36 {ρ τ : St} (hg : Wg ρ) (hL : LL ρ < 9) (h80 : 0 ≤ ρ 0 8) {f : Nat → Int} (hf : DR ρ ρ jA f (spN (LL ρ))) (ha : LA ρ τ) {l : List Nat} (hO : OrdL ρ f l (12 * spN (LL ρ))) {k : Nat} (hk : k < l.length) {x2 : Int} (h2 : 0 ≤ x2 ∧ x2 ≤ 3) {Q : Int → St → Prop} (hq : Q (stA (LL ρ) f l[k] x2) τ) : ∀ (d n : Nat) (last : Int) (fu : Nat) (hd : n + d = k + 1), d < fu → ((n = 0 ∧ last = -1) ∨ (∃ h0 : 0 < n, last = kyF (LL ρ) f (l[n - 1]'(by omega)))) → wp_X12_settled_l36 Q fu (k : Int) x2 last (n : Int) τ := by
  have h3 := sp_3 _ hL
  have hll := hO.lt
  intro d
  induction d with
  | zero =>
    intro n last fu hd hn hl
    obtain ⟨fu, rfl⟩ := suc_n hn
    unfold wp_X12_settled_l36
    refine ⟨fun _ => ?_, fun w => absurd (by omega) w⟩
    have el : last = kyF (LL ρ) f l[k] := by
      rcases hl with ⟨e, -⟩ | ⟨h0, e⟩
      · omega
      · have : n - 1 = k := by omega
        subst this; exact e
    have m := (hO.2.1 l[k]).1 (List.getElem_mem hk)
    obtain ⟨i1, i2⟩ := it_of hL h80 m.1
    have t1 := (hPt_itN hL i1).1 (by rw [i2]; exact m.2)
    have sp := sp_s hL (s := l[k] / 12) (by omega)
    have lo := hf (l[k] / 12) (l[k] % 12) (by omega) (Nat.mod_lt _ (by decide))
    rw [show 12 * (l[k] / 12) + l[k] % 12 = l[k] by omega] at lo
    have fr : 0 ≤ f l[k] ∧ f l[k] ≤ 353430 := by
      rcases lo with ⟨-, n⟩ | ⟨a, b, -⟩
      · obtain ⟨c, hc⟩ := t1; exact absurd hc (n c)
      · exact ⟨a, b⟩
    have sw : ((spW (LL ρ) (l[k] / 12) : Nat) : Int) = (((spF (LL ρ) (l[k] / 12) : Nat) : Int) - ((spB (LL ρ) (l[k] / 12) : Nat) : Int)) * 16 + ((spB (LL ρ) (l[k] / 12) : Nat) : Int) := by unfold spW; omega
    generalize hq0 : l[k] = q at *
    unfold kyF at el
    rw [sw] at el
    generalize hB : ((spB (LL ρ) (q / 12) : Nat) : Int) = B at *
    generalize hF : ((spF (LL ρ) (q / 12) : Nat) : Int) = F at *
    have bB : 0 ≤ B ∧ B < F ∧ F ≤ 8 := by omega
    have pl : P64 last := by unfold P64; omega
    have a1 : last.toNat / 2 ^ 4 = (f q * 256 + ((F - B) * 16 + B)).toNat := by rw [show (2 : Nat) ^ 4 = 16 from rfl]; omega
    have a2 : last.toNat / 2 ^ 8 = (f q * 16 + (F - B)).toNat := by rw [show (2 : Nat) ^ 8 = 256 from rfl]; omega
    have a3 : last.toNat / 2 ^ 12 = (f q).toNat := by rw [show (2 : Nat) ^ 12 = 4096 from rfl]; omega
    intro v ev
    rw [show (4 : Int) = ((4 : Nat) : Int) from rfl, l_shr_n pl (by decide), a1, and15 (by unfold P64; omega), l_int_n (by unfold P32; omega)] at ev
    have ev2 : v = B := by omega
    rw [show (12 : Int) = ((12 : Nat) : Int) from rfl, l_shr_n pl (by decide), a3, show (8 : Int) = ((8 : Nat) : Int) from rfl, l_shr_n pl (by decide), a2, and15 (by unfold P64; omega), and15 pl, l_int_n (by unfold P32; omega), l_int_n (by unfold P32; omega), l_int_n (by unfold P32; omega), ev2, w32_of (by omega) (by omega)]
    unfold stA at hq
    refine ⟨fun n0 => ⟨fun n1 => ⟨fun n2 => ?_, fun n2 => ?_⟩, fun n1 => ?_⟩, fun n0 => ?_⟩
    · rw [if_neg n0, if_neg n1, if_neg n2] at hq
      rw [show (((f q).toNat : Nat) : Int) = f q by omega]; exact hq
    · rw [if_neg n0, if_neg n1, if_pos (by omega), hF] at hq
      rw [show B + (((f q * 16 + (F - B)).toNat : Nat) : Int) % 16 = F by omega]; exact hq
    · rw [if_neg n0, if_pos (by omega), hB] at hq; exact hq
    · rw [if_pos (by omega)] at hq
      rw [show last % 16 = ((q % 12 : Nat) : Int) by omega]; exact hq
  | succ d ih =>
    intro n last fu hd hn hl
    obtain ⟨fu, rfl⟩ := suc_n hn
    unfold wp_X12_settled_l36
    refine ⟨fun w => absurd w (by omega), fun _ => ?_⟩
    refine r_st50 hg hL h80 ha (by omega) (fun best hm => ?_) (LL ρ) 0 9223372036854775807 bigN (by omega) (by unfold bigN; omega) ⟨fun a i j h1 h2 => ?_, Or.inl rfl⟩
    · exact ih (n + 1) best fu (by omega) (by omega) (Or.inr ⟨by omega, mb_next hg hL h80 hf ha hO (by omega) hl hm⟩)
    · have := h1.2
      unfold vsd at h2; omega
/-! the op -/
def CcO (Cc : Bool → St → St → Prop) : Prop := (∀ b σ ρ, Cc b σ ρ → (σ 36 9 = 0 ∨ (σ 36 9 = 1 ∧ OrK ρ σ))) ∧ (∀ b σ σ1 ρ, Cc b σ ρ → Bt ρ σ1 → (σ1 36 7 = 1 ∧ Lw ρ σ1) → (σ1 36 9 = 1 ∧ OrK ρ σ1) → Fr S_X11_settled σ σ1 → Cc b σ1 ρ)
theorem c_settled {ρ σ : St} (hW : WW ρ) (hk : KL ρ σ) (ho : σ 36 9 = 0 ∨ (σ 36 9 = 1 ∧ OrK ρ σ)) {x1 x2 : Int} {Q : Int → St → Prop} (hno : ¬ (0 ≤ x1 ∧ 0 ≤ x2 ∧ x2 ≤ 3) → Q (-2) σ) (hyes : (0 ≤ x1 ∧ 0 ≤ x2 ∧ x2 ≤ 3) → ∀ σ1 f l, Bt ρ σ1 → (σ1 36 7 = 1 ∧ Lw ρ σ1) → (σ1 36 9 = 1 ∧ OrK ρ σ1) → DR ρ ρ jA f (spN (LL ρ)) → OrdL ρ f l (12 * spN (LL ρ)) → Q (if h : x1.toNat < l.length then stA (LL ρ) f l[x1.toNat] x2 else -1) σ1) : wp_X11_settled x1 x2 σ Q := by
  have hg := hW.2.2.1
  have hL : LL ρ < 9 := by have := hW.2.2.2.2.2.1; unfold LL; omega
  have h3 := sp_3 _ hL
  unfold wp_X11_settled
  refine ⟨fun w => hno (by omega), fun w1 => ⟨fun w => hno (by omega), fun w2 => ⟨fun w3 => ?_, fun w => hno (by omega)⟩⟩⟩
  rw [show x1 = ((x1.toNat : Nat) : Int) by omega]
  refine c_itemInOrder hW hk ho (fun σ1 l b1 b2 b3 b4 b5 b6 => ?_)
  by_cases hl : x1.toNat < l.length
  · rw [dif_pos hl]
    have key : ∀ σ2, Bt ρ σ2 → (σ2 36 7 = 1 ∧ Lw ρ σ2) → (σ2 36 9 = 1 ∧ OrK ρ σ2) → Q (stA (LL ρ) (σ1 37) l[x1.toNat] x2) σ2 := by
      intro σ2 a b c
      have := hyes ⟨by omega, by omega, w3⟩ σ2 (σ1 37) l a b c b3 b6
      rw [dif_pos hl] at this; exact this
    have hy := key σ1 b1 ⟨b2, b3⟩ ⟨b4, b5⟩
    have m := (b6.2.1 l[x1.toNat]).1 (List.getElem_mem hl)
    generalize l[x1.toNat] = q at *
    have sp := b1.1.2.1.2.2.1 (q / 12) (by omega)
    refine ⟨fun _ => ⟨?_, ?_, ?_, ?_⟩, fun w => absurd (by omega) w⟩
    · intro e
      rw [b_rem_eq (by omega) (by omega) (by decide) (by decide)]
      unfold stA at hy; rw [if_pos e] at hy
      rw [show (q : Int) % 12 = ((q % 12 : Nat) : Int) by omega]; exact hy
    · intro e
      unfold wp_X0_beginOf
      rw [b_div_eq (by omega) (by omega) (by decide) (by decide), show ((q : Int) / 12).toNat = q / 12 by omega, sp.1]
      unfold stA at hy; rw [if_neg (by omega), if_pos e] at hy
      exact ⟨by omega, hy⟩
    · intro e
      unfold wp_X0_finishOf
      rw [b_div_eq (by omega) (by omega) (by decide) (by decide), show ((q : Int) / 12).toNat = q / 12 by omega, sp.2]
      unfold stA at hy; rw [if_neg (by omega), if_neg (by omega), if_pos e] at hy
      exact ⟨by omega, hy⟩
    · rintro ⟨e0, e1, e2⟩
      unfold wp_X1_lowestOf
      refine mf_X1_prepare (σ0 := σ1) (Q := fun _ σ2 => Bt ρ σ2 ∧ σ2 36 7 = 1 ∧ Lw ρ σ2) (fun _ σ2 h f => ⟨by omega, ?_⟩) Fr.rf (c_prepare hW b1.1.2.2.1.1 b1.1.1 (Or.inr b1) (Or.inr ⟨b2, b3⟩) (fun σ2 a b c => ⟨a, b, c⟩))
      have e9 : σ2 36 9 = σ1 36 9 := f.at rfl
      have e6 : σ2 36 6 = σ1 36 6 := f.at rfl
      have e40 : σ2 40 = σ1 40 := funext (fun j => f.at rfl)
      have hk := key σ2 h.1 h.2 ⟨by rw [e9]; exact b4, by unfold OrK; rw [e6, e40]; exact b5⟩
      unfold stA at hk; rw [if_neg e0, if_neg e1, if_neg e2] at hk
      rw [Int.toNat_natCast, DR.uniq h.2.2 b3 m.1]
      exact hk
  · have hy := hyes ⟨by omega, by omega, w3⟩ σ1 (σ1 37) l b1 ⟨b2, b3⟩ ⟨b4, b5⟩ b3 b6
    rw [dif_neg hl] at hy ⊢
    exact ⟨fun w => absurd w (by decide), fun _ => hy⟩
section OPS
variable {Cc : Bool → St → St → Prop}
theorem s_settled (hC : CcL Cc) (hO : CcO Cc) : Step_settled (Inv Cc) := by
  rintro b σ τ ⟨ρ, hW, hVC, hVR, hc⟩ x1 x2 c1 c2
  have hI : Inv Cc b σ τ := ⟨ρ, hW, hVC, hVR, hc⟩
  have hk := hC.kl hVC hc
  have ho := hO.1 b σ ρ hc
  have hg := hW.2.2.1
  have h80 := hW.2.2.2.2.1
  have hL : LL ρ < 9 := by have := hW.2.2.2.2.2.1; unfold LL; omega
  refine mf_X11_settled (Q := fun r σ1 => (¬ (0 ≤ x1 ∧ 0 ≤ x2 ∧ x2 ≤ 3) ∧ r = -2 ∧ σ1 = σ) ∨ ((0 ≤ x1 ∧ 0 ≤ x2 ∧ x2 ≤ 3) ∧ Bt ρ σ1 ∧ (σ1 36 7 = 1 ∧ Lw ρ σ1) ∧ (σ1 36 9 = 1 ∧ OrK ρ σ1) ∧ ∃ f l, DR ρ ρ jA f (spN (LL ρ)) ∧ OrdL ρ f l (12 * spN (LL ρ)) ∧ r = (if h : x1.toNat < l.length then stA (LL ρ) f l[x1.toNat] x2 else -1))) (fun r σ1 h f => ?_) Fr.rf (c_settled hW hk ho (fun h => Or.inl ⟨h, rfl, rfl⟩) (fun h σ1 f l a1 a2 a3 a4 a5 => Or.inr ⟨h, a1, a2, a3, f, l, a4, a5, rfl⟩))
  rcases h with ⟨g0, rfl, rfl⟩ | ⟨g0, g1, g2, g3, f0, l, g4, g5, rfl⟩
  · unfold wp_X12_settled
    refine ⟨fun _ => ⟨rfl, hI⟩, fun w1 => r_in ?_⟩
    by_cases h2 : 0 ≤ x2 ∧ x2 ≤ 3
    · exact absurd ⟨by omega, h2⟩ g0
    · rw [if_neg h2]
      exact ⟨fun w => absurd rfl w, fun _ => ⟨rfl, hI⟩⟩
  · refine mf_X12_settled (Q := fun r1 _ => r1 = (if h : x1.toNat < l.length then stA (LL ρ) f0 l[x1.toNat] x2 else -1)) (fun r1 τ1 h1 f1 => ⟨h1.symm, ρ, hW, VC.frB f (by decide) hVC, VR.frB f1 (by decide) hVR, hO.2 b σ σ1 ρ hc g1 g2 g3 f⟩) Fr.rf ?_
    unfold wp_X12_settled
    refine ⟨fun w => absurd w (by omega), fun _ => r_in ?_⟩
    rw [if_pos g0.2]
    refine ⟨fun _ => r_itemsMany hW hVR (fun τ1 ha => ?_), fun w => absurd (by decide) w⟩
    have en : (l.length : Int) = nI2 ρ (LL ρ) := by rw [g5.1, nQ_eq hL]
    rw [← en]
    refine ⟨fun w => ?_, fun w => by rw [dif_neg (by omega)]⟩
    have hl : x1.toNat < l.length := by omega
    rw [dif_pos hl]
    have := r_st36 hg hL h80 g4 ha g5 hl g0.2 (Q := fun r1 _ => r1 = stA (LL ρ) f0 l[x1.toNat] x2) rfl (x1.toNat + 1) 0 (-1) bigN (by omega) (by have := g5.lt; have := sp_3 _ hL; unfold bigN; omega) (Or.inl ⟨rfl, rfl⟩)
    rw [show ((x1.toNat : Nat) : Int) = x1 by omega] at this
    exact this
end OPS
