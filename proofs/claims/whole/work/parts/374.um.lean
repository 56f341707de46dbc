/-! bits of longs; rules in some tree, trees without a rule -/
def bt64 (x : Int) (k : Nat) : Bool := (Int64.ofInt x).toBitVec.getLsbD k
theorem bt64_or {x y : Int} {k : Nat} : bt64 (l_or x y) k = (bt64 x k || bt64 y k) := by
  unfold bt64 l_or
  rw [Int64.ofInt_toInt, Int64.toBitVec_or, BitVec.getLsbD_or]
theorem bt64_and {x y : Int} {k : Nat} : bt64 (l_and x y) k = (bt64 x k && bt64 y k) := by
  unfold bt64 l_and
  rw [Int64.ofInt_toInt, Int64.toBitVec_and, BitVec.getLsbD_and]
theorem bt64_n {x : Int} (hx : P64 x) {k : Nat} : bt64 x k = tb x k := by
  unfold bt64 tb
  rw [← BitVec.testBit_toNat, nat64 hx.1 hx.2]
theorem bt64_0 {k : Nat} : bt64 0 k = false := by
  rw [bt64_n ⟨by decide, by decide⟩, tb_0]
theorem bt64_m : ∀ k, k < 64 → bt64 (-1) k = true := by decide +kernel
theorem bt64_sh {r : Nat} (hr : r < 63) {k : Nat} : bt64 (l_shl 1 (r : Int)) k = decide (r = k) := by
  rw [l_shl_1 r hr, bt64_n (pow63 hr), tb_pow]
theorem bt64_ext {x y : Int} (hx : C64 x) (hy : C64 y) (h : ∀ k, k < 64 → bt64 x k = bt64 y k) : x = y := by
  have e : (Int64.ofInt x).toBitVec = (Int64.ofInt y).toBitVec := BitVec.eq_of_getLsbD_eq (fun k hk => h k hk)
  have e2 : Int64.ofInt x = Int64.ofInt y := Int64.toBitVec_inj.1 e
  rw [← l_toInt hx, ← l_toInt hy, e2]
theorem c64_or (x y : Int) : C64 (l_or x y) := c64_t _
theorem c64_and (x y : Int) : C64 (l_and x y) := c64_t _
/-- y = 1: rule k is in some tree; y = 0: there is a tree without it. A mark is a bit that is set (1) or not set (0) -/
def mkB (y x : Int) (k : Nat) : Prop := if y = 0 then bt64 x k = false else bt64 x k = true
def stp (y : Int) (k : Nat) (P : Nat → Prop) (c : Cs) : Prop := if y = 0 then (c.1 ≠ (k : Int) ∧ (0 ≤ c.2.2.1 → P c.2.2.1.toNat) ∧ (0 ≤ c.2.2.2 → P c.2.2.2.toNat)) else (c.1 = (k : Int) ∨ (0 ≤ c.2.2.1 ∧ P c.2.2.1.toNat) ∨ (0 ≤ c.2.2.2 ∧ P c.2.2.2.toNat))
theorem stp.mono {y : Int} {k : Nat} {P P' : Nat → Prop} {c : Cs} (h : stp y k P c) (h1 : 0 ≤ c.2.2.1 → P c.2.2.1.toNat → P' c.2.2.1.toNat) (h2 : 0 ≤ c.2.2.2 → P c.2.2.2.toNat → P' c.2.2.2.toNat) : stp y k P' c := by
  unfold stp at *
  by_cases e : y = 0
  · rw [if_pos e] at *
    exact ⟨h.1, fun z => h1 z (h.2.1 z), fun z => h2 z (h.2.2 z)⟩
  · rw [if_neg e] at *
    exact h.imp id (fun z => z.imp (fun w => ⟨w.1, h1 w.1 w.2⟩) (fun w => ⟨w.1, h2 w.1 w.2⟩))
def UM (ρ : St) (y : Int) (k : Nat) : Nat → Nat → Prop
  | 0, _ => False
  | n + 1, q => ∃ c ∈ cI ρ q, fullC ρ c ∧ stp y k (UM ρ y k n) c
def UQ (ρ : St) (y : Int) (k : Nat) (q : Nat) : Prop := ∃ n, UM ρ y k n q
theorem UM.up {ρ : St} {y : Int} {k : Nat} : ∀ (n : Nat) {q : Nat}, UM ρ y k n q → UM ρ y k (n + 1) q
  | 0, _, h => h.elim
  | n + 1, q, ⟨c, hc, hf, h⟩ => ⟨c, hc, hf, h.mono (fun _ z => UM.up n z) (fun _ z => UM.up n z)⟩
theorem UM.to {ρ : St} {y : Int} {k n m q : Nat} (h : UM ρ y k n q) (hn : n ≤ m) : UM ρ y k m q := by
  obtain ⟨d, rfl⟩ := Nat.le.dest hn
  induction d with
  | zero => exact h
  | succ d ih => exact UM.up (n + d) (ih (Nat.le_add_right n d))
theorem UQ.step {ρ : St} {y : Int} {k q : Nat} {c : Cs} (hc : c ∈ cI ρ q) (hf : fullC ρ c) (h : stp y k (UQ ρ y k) c) : UQ ρ y k q := by
  have one : ∀ x : Nat, ∃ n, UQ ρ y k x → UM ρ y k n x := fun x => by
    by_cases z : UQ ρ y k x
    · obtain ⟨n, hn⟩ := z; exact ⟨n, fun _ => hn⟩
    · exact ⟨0, fun w => absurd w z⟩
  obtain ⟨n1, h1⟩ := one c.2.2.1.toNat
  obtain ⟨n2, h2⟩ := one c.2.2.2.toNat
  exact ⟨n1 + n2 + 1, c, hc, hf, h.mono (fun _ z => (h1 z).to (by omega)) (fun _ z => (h2 z).to (by omega))⟩
theorem UQ.out {ρ : St} {y : Int} {k q : Nat} (h : UQ ρ y k q) : ∃ c ∈ cI ρ q, fullC ρ c ∧ stp y k (UQ ρ y k) c := by
  obtain ⟨n, hn⟩ := h
  cases n with
  | zero => exact hn.elim
  | succ n =>
    obtain ⟨c, hc, hf, h⟩ := hn
    exact ⟨c, hc, hf, h.mono (fun _ z => ⟨n, z⟩) (fun _ z => ⟨n, z⟩)⟩
/-- within a span, by unary rules after what its other cases give -/
def UD (ρ : St) (y : Int) (k s : Nat) : Nat → Nat → Prop
  | 0, a => ∃ c ∈ cI ρ (12 * s + a), fullC ρ c ∧ ¬ goC c ∧ stp y k (UQ ρ y k) c
  | n + 1, a => UD ρ y k s n a ∨ ∃ c ∈ cI ρ (12 * s + a), fullC ρ c ∧ goC c ∧ stp y k (fun x => UD ρ y k s n (x - 12 * s)) c
theorem UD.mono {ρ : St} {y : Int} {k s n a : Nat} (h : UD ρ y k s n a) : ∀ d, UD ρ y k s (n + d) a
  | 0 => h
  | d + 1 => Or.inl (h.mono d)
theorem UD_uq {ρ : St} (hg : Wg ρ) (hL : LL ρ < 9) {y : Int} {k s : Nat} (hs : s < spN (LL ρ)) : ∀ (n : Nat) {a : Nat}, a < 12 → UD ρ y k s n a → UQ ρ y k (12 * s + a)
  | 0, a, ha, ⟨c, hc, hf, _, h⟩ => UQ.step hc hf h
  | n + 1, a, ha, h => by
    rcases h with h | ⟨c, hc, hf, hgo, h⟩
    · exact UD_uq hg hL hs n ha h
    · obtain ⟨b, hb, eb⟩ := goC_lab hg hL hs ha hc hgo
      refine UQ.step hc hf (h.mono (fun z w => ?_) (fun z w => ?_))
      · rw [eb, Int.toNat_natCast] at w ⊢
        rw [show 12 * s + b - 12 * s = b by omega] at w
        exact UD_uq hg hL hs n hb w
      · obtain ⟨r', g1, g2, g3, g4, g5⟩ := cI_info ha hc
        rcases g5 with ⟨-, -, -, -, h9⟩ | ⟨-, m, -, -, -, -, h10, -⟩
        · omega
        · have := hgo.1; omega
/-- whoever holds what the other cases give, and is closed under unary rules, holds all -/
theorem uq_closed {ρ : St} (hg : Wg ρ) (hL : LL ρ < 9) {y : Int} {k s : Nat} (hs : s < spN (LL ρ)) {P : Nat → Prop} (h0 : ∀ a, a < 12 → UD ρ y k s 0 a → P a) (h1 : ∀ a, a < 12 → ∀ c ∈ cI ρ (12 * s + a), fullC ρ c → goC c → stp y k (fun x => P (x - 12 * s)) c → P a) : ∀ (n a : Nat), a < 12 → UM ρ y k n (12 * s + a) → P a
  | 0, _, _, h => h.elim
  | n + 1, a, ha, ⟨c, hc, hf, h⟩ => by
    by_cases hgo : goC c
    · obtain ⟨b, hb, eb⟩ := goC_lab hg hL hs ha hc hgo
      refine h1 a ha c hc hf hgo (h.mono (fun z w => ?_) (fun z w => ?_))
      · rw [eb, Int.toNat_natCast] at w ⊢
        show P (12 * s + b - 12 * s)
        rw [show 12 * s + b - 12 * s = b by omega]
        exact uq_closed hg hL hs h0 h1 n b hb w
      · obtain ⟨r', g1, g2, g3, g4, g5⟩ := cI_info ha hc
        rcases g5 with ⟨-, -, -, -, h9⟩ | ⟨-, m, -, -, -, -, h10, -⟩
        · omega
        · have := hgo.1; omega
    · exact h0 a ha ⟨c, hc, hf, hgo, h.mono (fun _ w => ⟨n, w⟩) (fun _ w => ⟨n, w⟩)⟩
theorem UD_13 {ρ : St} (hg : Wg ρ) (hL : LL ρ < 9) {y : Int} {k s : Nat} (hs : s < spN (LL ρ)) {a : Nat} (ha : a < 12) (h : UQ ρ y k (12 * s + a)) : UD ρ y k s 13 a := by
  obtain ⟨n, hn, hcl⟩ := grow12p (s := UD ρ y k s) (fun n a _ h => Or.inl h)
  obtain ⟨m, hm⟩ := h
  have key := uq_closed hg hL hs (P := fun b => b < 12 ∧ UD ρ y k s n b) (fun b hb hu => ⟨hb, by have := hu.mono n; rw [Nat.zero_add] at this; exact this⟩) (fun b hb c hc hf hgo hst => ⟨hb, hcl b hb (Or.inr ⟨c, hc, hf, hgo, hst.mono (fun _ w => w.2) (fun _ w => w.2)⟩)⟩) m a ha hm
  have := key.2.mono (13 - n)
  rw [show n + (13 - n) = 13 by omega] at this
  exact this
/-! trees without a rule -/
theorem case1r {ρ : St} (hg : Wg ρ) (hL : LL ρ < 9) (h80 : 0 ≤ ρ 0 8) {a : Nat} {r : Nat} (ha : a < 12) (hr : (r : Int) < ρ 0 4) (h8 : ρ 8 r = 0) (h3 : ρ 3 r = (a : Int)) {i j : Nat} (hi : i < j ∧ j ≤ LL ρ) (h5 : ρ 5 r = -1) (ht : hT ρ (ρ 4 r) i j) : ∃ c ∈ cI ρ (12 * spA (LL ρ) i j + a), fullC ρ c ∧ c.1 = (r : Int) ∧ c.2.2.1 = pv ρ (ρ 4 r) i j ∧ c.2.2.2 = -1 := by
  have q := sp_a (L := LL ρ) hL hi
  have hp := (hg.2.2 r hr).2.1
  have hv := (hPt_pv hg hL hp hi).2 ht
  refine ⟨((r : Int), -1, pv ρ (ρ 4 r) i j, -1), (mem_cI ha).2 ⟨r, by omega, inA_iff.2 ⟨h3, h8⟩, ?_⟩, ⟨hv.2, Or.inl (by show (-1 : Int) < 0; decide)⟩, rfl, rfl, rfl⟩
  rw [q.2.1, q.2.2]
  exact mem_cC.2 (Or.inl ⟨h5, hv.1, rfl⟩)
theorem case2r {ρ : St} (hg : Wg ρ) (hL : LL ρ < 9) (h80 : 0 ≤ ρ 0 8) {a : Nat} {r : Nat} (ha : a < 12) (hr : (r : Int) < ρ 0 4) (h8 : ρ 8 r = 0) (h3 : ρ 3 r = (a : Int)) {i m j : Nat} (hi : i < m ∧ m < j ∧ j ≤ LL ρ) (h5 : ρ 5 r ≠ -1) (h1 : hT ρ (ρ 4 r) i m) (h2 : hT ρ (ρ 5 r) m j) : ∃ c ∈ cI ρ (12 * spA (LL ρ) i j + a), fullC ρ c ∧ c.1 = (r : Int) ∧ c.2.2.1 = pv ρ (ρ 4 r) i m ∧ c.2.2.2 = pv ρ (ρ 5 r) m j := by
  have q := sp_a (L := LL ρ) hL (i := i) (j := j) (by omega)
  have hp := (hg.2.2 r hr).2.1
  have hp2 := (hg.2.2 r hr).2.2.1.resolve_left h5
  have v1 := (hPt_pv hg hL hp (i := i) (j := m) (by omega)).2 h1
  have v2 := (hPt_pv hg hL hp2 (i := m) (j := j) (by omega)).2 h2
  refine ⟨((r : Int), (m : Int), pv ρ (ρ 4 r) i m, pv ρ (ρ 5 r) m j), (mem_cI ha).2 ⟨r, by omega, inA_iff.2 ⟨h3, h8⟩, ?_⟩, ⟨v1.2, v2.2⟩, rfl, rfl, rfl⟩
  rw [q.2.1, q.2.2]
  exact mem_cC.2 (Or.inr ⟨h5, m, by omega, by omega, v1.1, v2.1, rfl⟩)
theorem Te_gO {ρ : St} {k : Int} : ∀ (n : Nat) {p i j c : Int}, TP (gO ρ k) jA n p i j c → TP ρ jA n p i j c
  | 0, p, i, j, c, h => ⟨h.1, h.2.1, by have := h.2.2.1; rw [gO_k (by decide)] at this; exact this, h.2.2.2⟩
  | n + 1, p, i, j, c, h => by
    rcases h with h | ⟨r, hr, h8, hp, h⟩
    · exact Or.inl (Te_gO n h)
    · rw [gO_k (by decide)] at hr
      rw [gO_8] at h8
      rw [gO_k (by decide)] at hp
      refine Or.inr ⟨r, hr, h8.1, hp, ?_⟩
      rw [gO_k (k := 5) (by decide), gO_k (k := 4) (by decide), gO_k (k := 6) (by decide)] at h
      rcases h with ⟨h5, c1, hc1, e⟩ | ⟨h5, m, c1, c2, hm1, hm2, hc1, hc2, e⟩
      · exact Or.inl ⟨h5, c1, Te_gO n hc1, e⟩
      · exact Or.inr ⟨h5, m, c1, c2, hm1, hm2, Te_gO n hc1, Te_gO n hc2, e⟩
theorem uq_gO {ρ : St} (hg : Wg ρ) (hL : LL ρ < 9) (h80 : 0 ≤ ρ 0 8) {k : Nat} : ∀ (n : Nat) {s a : Nat}, s < spN (LL ρ) → a < 12 → UM ρ 0 k n (12 * s + a) → hT (gO ρ (k : Int)) (a : Int) (spB (LL ρ) s : Nat) (spF (LL ρ) s : Nat)
  | 0, _, _, _, _, h => h.elim
  | n + 1, s, a, hs, ha, ⟨c, hc, hf, h⟩ => by
    have q := sp_s hL hs
    unfold stp at h
    rw [if_pos rfl] at h
    obtain ⟨r, r1, r2, r3, r4, hh⟩ := cI_info ha hc
    have hp1 := (hg.2.2 r r1).2.1
    have hp2 := (hg.2.2 r r1).2.2.1
    have rk2 : (r : Int) ≠ (k : Int) := by rw [← r4]; exact h.1
    have g8 : gO ρ (k : Int) 8 r = 0 := gO_8.2 ⟨r2, rk2⟩
    have part : ∀ (p : Int) (i j : Nat), isPart p → i < j ∧ j ≤ LL ρ → pv ρ p i j ≠ -2 → (0 ≤ pv ρ p i j → UM ρ 0 k n (pv ρ p i j).toNat) → hT (gO ρ (k : Int)) p i j := by
      intro p i j hp hi hn hu
      have hp' := hp
      unfold isPart at hp'
      by_cases hl : 100 ≤ p
      · have hcc := (pv_ok (ρ := ρ) hp (i := i) (j := j)).1 hn
        have hcc := hcc.resolve_left (by omega)
        refine ⟨0, 0, hl, by omega, ?_, rfl⟩
        rw [gO_k (by decide), Int.toNat_natCast]; exact hcc.2
      · have e := pv_itN (ρ := ρ) (p := p) (i := i) (j := j) (by omega)
        have hu2 := hu (by omega)
        rw [e, Int.toNat_natCast] at hu2
        have sp := sp_a (L := LL ρ) hL hi
        unfold itN at hu2
        rw [Int.toNat_natCast, Int.toNat_natCast] at hu2
        have := uq_gO hg hL h80 n sp.1 (a := p.toNat) (by omega) hu2
        rw [sp.2.1, sp.2.2, show ((p.toNat : Nat) : Int) = p by omega] at this
        exact this
    have e3 : gO ρ (k : Int) 3 r = (a : Int) := by rw [gO_k (by decide)]; exact r3
    have e04 : (r : Int) < gO ρ (k : Int) 0 4 := by rw [gO_k (by decide)]; exact r1
    rcases hh with ⟨h5, h6, h7, h8, h9⟩ | ⟨h5, m, h6, h7, h8, h9, h10, h11, h12⟩
    · obtain ⟨c1, t1⟩ := part (ρ 4 r) _ _ hp1 ⟨q.1, q.2.1⟩ h6 (by rw [← h8]; exact h.2.1)
      have := Te.single (g := gO ρ (k : Int)) (J := jA) (r := r) e04 g8 (by rw [gO_k (by decide)]; exact h5) (by rw [gO_k (k := 4) (by decide)]; exact t1)
      rw [e3] at this
      exact ⟨_, this⟩
    · have hp2 := hp2.resolve_left h5
      obtain ⟨c1, t1⟩ := part (ρ 4 r) (spB (LL ρ) s) m hp1 ⟨h6, by omega⟩ h8 (by rw [← h11]; exact h.2.1)
      obtain ⟨c2, t2⟩ := part (ρ 5 r) m (spF (LL ρ) s) hp2 ⟨h7, q.2.1⟩ h9 (by rw [← h12]; exact h.2.2)
      have := Te.pair (g := gO ρ (k : Int)) (J := jA) (r := r) (i := ((spB (LL ρ) s : Nat) : Int)) (m := (m : Int)) (j := ((spF (LL ρ) s : Nat) : Int)) e04 g8 (by rw [gO_k (by decide)]; exact h5) (by omega) (by omega) (by rw [gO_k (k := 4) (by decide)]; exact t1) (by rw [gO_k (k := 5) (by decide)]; exact t2)
      rw [e3] at this
      exact ⟨_, this⟩
theorem gO_uq {ρ : St} (hg : Wg ρ) (hL : LL ρ < 9) (h80 : 0 ≤ ρ 0 8) {k : Nat} : ∀ (n : Nat) {a : Nat} {i j : Nat} {c : Int}, a < 12 → i < j ∧ j ≤ LL ρ → TP (gO ρ (k : Int)) jA n (a : Int) i j c → UQ ρ 0 k (12 * spA (LL ρ) i j + a)
  | 0, a, i, j, c, ha, _, h => by have := h.1; omega
  | n + 1, a, i, j, c, ha, hi, h => by
    rcases h with h | ⟨r, hr, h8, hp, h⟩
    · exact gO_uq hg hL h80 n ha hi h
    · rw [gO_k (by decide)] at hr hp
      rw [gO_8] at h8
      rw [gO_k (k := 5) (by decide), gO_k (k := 4) (by decide)] at h
      have hp1 := (hg.2.2 r hr).2.1
      have hp2 := (hg.2.2 r hr).2.2.1
      have part : ∀ (p : Int) (i j : Nat) (c : Int), isPart p → i < j ∧ j ≤ LL ρ → TP (gO ρ (k : Int)) jA n p i j c → (0 ≤ pv ρ p i j → UQ ρ 0 k (pv ρ p i j).toNat) := by
        intro p i j c hp hi ht z
        unfold isPart at hp
        have hl : p < 100 := by
          refine Classical.byContradiction (fun w => ?_)
          by_cases hcc : j = i + 1 ∧ ρ 11 i = p - 100
          · rw [pv_yes (by omega) hcc] at z; exact absurd z (by decide)
          · rw [pv_no (by omega) hcc] at z; exact absurd z (by decide)
        rw [pv_itN (by omega), Int.toNat_natCast]
        unfold itN
        rw [Int.toNat_natCast, Int.toNat_natCast]
        exact gO_uq hg hL h80 n (a := p.toNat) (by omega) hi (by rw [show ((p.toNat : Nat) : Int) = p by omega]; exact ht)
      rcases h with ⟨h5, c1, hc1, -⟩ | ⟨h5, m, c1, c2, hm1, hm2, hc1, hc2, -⟩
      · obtain ⟨c, hc, hf, e0, e1, e2⟩ := case1r hg hL h80 ha hr h8.1 hp hi h5 ⟨c1, n, Te_gO n hc1⟩
        refine UQ.step hc hf ?_
        unfold stp
        rw [if_pos rfl]
        refine ⟨by rw [e0]; exact h8.2, ?_, fun z => by omega⟩
        rw [e1]; exact part _ _ _ _ hp1 hi hc1
      · have em : m = ((m.toNat : Nat) : Int) := by omega
        rw [em] at hc1 hc2 hm1 hm2
        obtain ⟨c, hc, hf, e0, e1, e2⟩ := case2r hg hL h80 ha hr h8.1 hp (i := i) (m := m.toNat) (j := j) (by omega) h5 ⟨c1, n, Te_gO n hc1⟩ ⟨c2, n, Te_gO n hc2⟩
        refine UQ.step hc hf ?_
        unfold stp
        rw [if_pos rfl]
        refine ⟨by rw [e0]; exact h8.2, ?_, ?_⟩
        · rw [e1]; exact part _ _ _ _ hp1 (by omega) hc1
        · rw [e2]; exact part _ _ _ _ (hp2.resolve_left h5) (by omega) hc2
