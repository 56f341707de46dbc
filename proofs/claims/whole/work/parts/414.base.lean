/-! the class's base lists: the first trees of cases of shorter spans -/
def BEc (ρ σ : St) (q a i : Nat) (z : En) : Prop := σ 61 (16 * a + i) = z.1 ∧ σ 62 (16 * a + i) = (((PL ρ q).length + z.2.1 : Nat) : Int) ∧ σ 63 (16 * a + i) = ((16 * z.2.2.1 + z.2.2.2 : Nat) : Int) ∧ z.2.2.1 < 16 ∧ z.2.2.2 < 16
def GSt (ρ σ : St) (F : Fo) (D : Nat → Prop) : Prop := BL ρ σ ∧ FRc ρ σ F D ∧ RKc ρ σ F D
def okG (k : Nat) : Prop := k ≤ 53 ∨ (55 ≤ k ∧ k ≤ 60)
theorem BL.extK {ρ σ σ1 : St} (e : ∀ k, k ≤ 53 → σ1 k = σ k) (h : BL ρ σ) : BL ρ σ1 := by
  obtain ⟨a, b, d⟩ := h
  refine ⟨a.ext ?_ (fun k _ _ => e k (by omega)) (fun k _ _ => e k (by omega)) ?_, ?_, ?_⟩
  · rw [e 14 (by decide)]
  · rw [e 24 (by decide)]; exact ⟨rfl, rfl, rfl, rfl, rfl, rfl⟩
  · rw [e 36 (by decide)]; exact b
  · unfold Lw; rw [e 37 (by decide)]; exact d
theorem GSt.ext {ρ σ σ1 : St} {F : Fo} {D : Nat → Prop} (e : ∀ k, okG k → σ1 k = σ k) (h : GSt ρ σ F D) : GSt ρ σ1 F D := by
  obtain ⟨a, b, d⟩ := h
  refine ⟨a.extK (fun k hk => e k (Or.inl hk)), ?_, ?_⟩
  · unfold FRc
    rw [e 55 (Or.inr (by decide)), e 56 (Or.inr (by decide)), e 57 (Or.inr (by decide)), e 59 (Or.inr (by decide))]
    exact b
  · unfold RKc
    rw [e 58 (Or.inr (by decide))]
    exact d
def frB (a : Nat) (σ σ1 : St) : Prop := (∀ k, k ≠ 61 → k ≠ 62 → k ≠ 63 → k ≠ 64 → σ1 k = σ k) ∧ (∀ k, 61 ≤ k → k ≤ 63 → ∀ j, (j < 16 * a ∨ 16 * a + 16 ≤ j) → σ1 k j = σ k j) ∧ ∀ j, j ≠ a → σ1 64 j = σ 64 j
theorem frB.rf {a : Nat} {σ : St} : frB a σ σ := ⟨fun _ _ _ _ _ => rfl, fun _ _ _ _ _ => rfl, fun _ _ => rfl⟩
theorem frB.tr {a : Nat} {σ σ1 σ2 : St} (h : frB a σ σ1) (h2 : frB a σ1 σ2) : frB a σ σ2 := ⟨fun k h1 h3 h4 h5 => (h2.1 k h1 h3 h4 h5).trans (h.1 k h1 h3 h4 h5), fun k h1 h3 j hj => (h2.2.1 k h1 h3 j hj).trans (h.2.1 k h1 h3 j hj), fun j hj => (h2.2.2 j hj).trans (h.2.2 j hj)⟩
theorem frB.gs {ρ σ σ1 : St} {F : Fo} {D : Nat → Prop} {a : Nat} (f : frB a σ σ1) (h : GSt ρ σ F D) : GSt ρ σ1 F D := h.ext (fun k hk => f.1 k (by unfold okG at hk; omega) (by unfold okG at hk; omega) (by unfold okG at hk; omega) (by unfold okG at hk; omega))
/-- the rows move up by one from p on, and the new one stands at p -/
theorem c_pb129 {σ0 : St} {a p l : Nat} (ha : a < 12) (hp : p ≤ l) (hl : l ≤ 15) {x2 x3 x4 : Int} {Q : Int → St → Prop} (hq : ∀ σ1, frB a σ0 σ1 → σ1 64 a = ((l + 1 : Nat) : Int) → (∀ i, i < p → σ1 61 (16 * a + i) = σ0 61 (16 * a + i) ∧ σ1 62 (16 * a + i) = σ0 62 (16 * a + i) ∧ σ1 63 (16 * a + i) = σ0 63 (16 * a + i)) → (σ1 61 (16 * a + p) = x2 ∧ σ1 62 (16 * a + p) = x3 ∧ σ1 63 (16 * a + p) = x4) → (∀ i, p < i → i ≤ l → σ1 61 (16 * a + i) = σ0 61 (16 * a + (i - 1)) ∧ σ1 62 (16 * a + i) = σ0 62 (16 * a + (i - 1)) ∧ σ1 63 (16 * a + i) = σ0 63 (16 * a + (i - 1))) → Q 1 σ1) : ∀ (d j : Nat) (σ : St) (n : Nat), p + d = j → j ≤ l → d < n → frB a σ0 σ → σ 64 a = σ0 64 a → (∀ i, i ≤ j → σ 61 (16 * a + i) = σ0 61 (16 * a + i) ∧ σ 62 (16 * a + i) = σ0 62 (16 * a + i) ∧ σ 63 (16 * a + i) = σ0 63 (16 * a + i)) → (∀ i, j < i → i ≤ l → σ 61 (16 * a + i) = σ0 61 (16 * a + (i - 1)) ∧ σ 62 (16 * a + i) = σ0 62 (16 * a + (i - 1)) ∧ σ 63 (16 * a + i) = σ0 63 (16 * a + (i - 1))) → wp_X3_putInBase_l129 Q n (a : Int) x2 x3 x4 ((16 * a : Nat) : Int) ((16 * a + p : Nat) : Int) ((16 * a + l : Nat) : Int) ((16 * a + j : Nat) : Int) σ := by
  intro d
  induction d with
  | zero =>
    intro j σ n hj hjl hn hf h64 hlo hhi
    obtain ⟨n, rfl⟩ := suc_n hn
    have ej : j = p := by omega
    subst ej
    unfold wp_X3_putInBase_l129
    refine ⟨fun _ => ⟨by omega, fun σ8 e8 => ⟨by omega, fun σ9 e9 => ⟨by omega, fun σ10 e10 => ⟨by omega, fun σ11 e11 => ?_⟩⟩⟩⟩, fun h => absurd (Int.le_refl _) h⟩
    rw [Int.toNat_natCast] at e8 e9 e10 e11
    rw [w32_of (x := ((16 * a + l : Nat) : Int) - ((16 * a : Nat) : Int)) (by omega) (by omega), w32_of (by omega) (by omega), show ((16 * a + l : Nat) : Int) - ((16 * a : Nat) : Int) + 1 = ((l + 1 : Nat) : Int) by omega] at e11
    have q61 : σ11 61 = upS σ 61 (16 * a + j) x2 61 := by rw [e11, upS_k (by decide), e10, upS_k (by decide), e9, upS_k (by decide), e8]
    have q62 : σ11 62 = upS σ 62 (16 * a + j) x3 62 := by
      rw [e11, upS_k (by decide), e10, upS_k (by decide), e9, e8]; funext i
      by_cases e : i = 16 * a + j
      · rw [e, upS_s, upS_s]
      · rw [upS_j e, upS_j e, upS_k (by decide)]
    have q63 : σ11 63 = upS σ 63 (16 * a + j) x4 63 := by
      rw [e11, upS_k (by decide), e10, e9, e8]; funext i
      by_cases e : i = 16 * a + j
      · rw [e, upS_s, upS_s]
      · rw [upS_j e, upS_j e, upS_k (by decide), upS_k (by decide)]
    refine hq σ11 (hf.tr ⟨fun k h1 h2 h3 h4 => by rw [e11, upS_k h4, e10, upS_k h3, e9, upS_k h2, e8, upS_k h1], fun k h1 h2 i hi => ?_, fun i hi => by rw [e11, upS_j hi, e10, upS_k (by decide), e9, upS_k (by decide), e8, upS_k (by decide)]⟩) (by rw [e11, upS_s]) (fun i hi => ?_) ⟨by rw [q61, upS_s], by rw [q62, upS_s], by rw [q63, upS_s]⟩ (fun i h1 h2 => ?_)
    · have : k = 61 ∨ k = 62 ∨ k = 63 := by omega
      rcases this with rfl | rfl | rfl
      · rw [q61, upS_j (by omega)]
      · rw [q62, upS_j (by omega)]
      · rw [q63, upS_j (by omega)]
    · rw [q61, q62, q63, upS_j (by omega), upS_j (by omega), upS_j (by omega)]; exact hlo i (by omega)
    · rw [q61, q62, q63, upS_j (by omega), upS_j (by omega), upS_j (by omega)]; exact hhi i h1 h2
  | succ d ih =>
    intro j σ n hj hjl hn hf h64 hlo hhi
    obtain ⟨n, rfl⟩ := suc_n hn
    unfold wp_X3_putInBase_l129
    have ew : w32 (((16 * a + j : Nat) : Int) - 1) = ((16 * a + (j - 1) : Nat) : Int) := by rw [w32_of (by omega) (by omega)]; omega
    have ew2 : w32 (((16 * a + j : Nat) : Int) + (-1)) = ((16 * a + (j - 1) : Nat) : Int) := by rw [w32_of (by omega) (by omega)]; omega
    rw [ew, ew2]
    refine ⟨fun h => absurd h (by omega), fun _ => ⟨by omega, by omega, fun σ12 e12 => ⟨by omega, by omega, fun σ13 e13 => ⟨by omega, by omega, fun σ14 e14 v15 e15 => ?_⟩⟩⟩⟩
    rw [e15]
    simp only [Int.toNat_natCast] at e12 e13 e14
    have k12 : σ12 62 = σ 62 := by rw [e12, upS_k (by decide)]
    have k13 : σ13 63 = σ 63 := by rw [e13, upS_k (by decide), e12, upS_k (by decide)]
    rw [k12] at e13
    rw [k13] at e14
    have q61 : σ14 61 = upS σ 61 (16 * a + j) (σ 61 (16 * a + (j - 1))) 61 := by rw [e14, upS_k (by decide), e13, upS_k (by decide), e12]
    have q62 : σ14 62 = upS σ12 62 (16 * a + j) (σ 62 (16 * a + (j - 1))) 62 := by rw [e14, upS_k (by decide), e13]
    have q63 : σ14 63 = upS σ13 63 (16 * a + j) (σ 63 (16 * a + (j - 1))) 63 := by rw [e14]
    have oth : ∀ i, i ≠ 16 * a + j → σ14 61 i = σ 61 i ∧ σ14 62 i = σ 62 i ∧ σ14 63 i = σ 63 i := fun i hi => by
      rw [q61, q62, q63, upS_j hi, upS_j hi, upS_j hi, k12, k13]; exact ⟨rfl, rfl, rfl⟩
    refine ih (j - 1) σ14 n (by omega) (by omega) (by omega) (hf.tr ⟨fun k h1 h2 h3 h4 => by rw [e14, upS_k h3, e13, upS_k h2, e12, upS_k h1], fun k h1 h2 i hi => ?_, fun i hi => by rw [e14, upS_k (by decide), e13, upS_k (by decide), e12, upS_k (by decide)]⟩) (by rw [e14, upS_k (by decide), e13, upS_k (by decide), e12, upS_k (by decide)]; exact h64) (fun i hi => ?_) (fun i h1 h2 => ?_)
    · have o := oth i (by omega)
      have : k = 61 ∨ k = 62 ∨ k = 63 := by omega
      rcases this with rfl | rfl | rfl
      · exact o.1
      · exact o.2.1
      · exact o.2.2
    · have o := oth (16 * a + i) (by omega)
      rw [o.1, o.2.1, o.2.2]; exact hlo i (by omega)
    · by_cases e : i = j
      · subst e
        rw [q61, q62, q63, upS_s, upS_s, upS_s]; exact hlo (i - 1) (by omega)
      · have o := oth (16 * a + i) (by omega)
        rw [o.1, o.2.1, o.2.2]; exact hhi i (by omega) h2
/-- a label's base list -/
def BLs (ρ σ : St) (F : Fo) (q a : Nat) (P : En → Prop) (n : Nat) (L : Nat → En) : Prop := TopP (ltE ρ F q) P n L ∧ σ 64 a = (n : Int) ∧ (∀ i, i < n → BEc ρ σ q a i (L i)) ∧ (∀ z, P z → CandE ρ F q z)
theorem c_putInBase {ρ σ : St} (hg : Wg ρ) (hL : LL ρ < 9) {F : Fo} {D : Nat → Prop} (hF : ClF ρ F D) (hG : GSt ρ σ F D) {q a : Nat} (hq : q < 12 * spN (LL ρ)) (ha : a < 12) {P : En → Prop} {n : Nat} {L : Nat → En} (hB : BLs ρ σ F q a P n L) {z : En} (hp : ∀ t, t < (cI ρ q).length → (∃ w, CandE ρ F q w ∧ w.2.1 = t ∧ (w = z ∨ P w)) → PDf ρ D q t) (hz : CandE ρ F q z) (hzP : ¬ P z) (hz16 : z.2.2.1 < 16 ∧ z.2.2.2 < 16) {Q : Int → St → Prop} (hyes : ∀ σ1 n1 L1, frB a σ σ1 → BLs ρ σ1 F q a (fun w => P w ∨ w = z) n1 L1 → Q 1 σ1) (hno : n = 16 → (∀ i, i < 16 → ltE ρ F q (L i) z) → Q 0 σ) : wp_X3_putInBase (a : Int) z.1 (((PL ρ q).length + z.2.1 : Nat) : Int) ((16 * z.2.2.1 + z.2.2.2 : Nat) : Int) σ Q := by
  obtain ⟨hT, h64, hE, hPc⟩ := hB
  have hT' := hT
  obtain ⟨t1, t2, t3, t4⟩ := hT
  have ne : ∀ i, i < n → L i ≠ z := fun i hi e => hzP (e ▸ t2 i hi)
  have cL : ∀ i, i < n → CandE ρ F q (L i) := fun i hi => hPc _ (t2 i hi)
  have pz := hp z.2.1 hz.1 ⟨z, hz, rfl, Or.inl rfl⟩
  -- once the place is found
  have fin : ∀ (p : Nat), p ≤ n → (∀ i, p ≤ i → i < n → ltE ρ F q z (L i)) → (∀ i, i < p → ltE ρ F q (L i) z) → wp_X3_putInBase_b97 Q (a : Int) z.1 (((PL ρ q).length + z.2.1 : Nat) : Int) ((16 * z.2.2.1 + z.2.2.2 : Nat) : Int) ((16 * a : Nat) : Int) ((16 * a + p : Nat) : Int) σ := by
    intro p hpn hhi hlo
    unfold wp_X3_putInBase_b97
    rw [w32_of (x := ((16 * a : Nat) : Int) + 16) (by omega) (by omega), Int.toNat_natCast, h64]
    refine ⟨fun h => ⟨by omega, fun v7 e7 => ?_⟩, fun h => hno (by omega) (fun i hi => hlo i (by omega))⟩
    have hp16 : p < 16 := by omega
    rw [w32_of (by omega) (by omega), show ((16 * a : Nat) : Int) + min (n : Int) 15 = ((16 * a + min n 15 : Nat) : Int) by omega] at e7
    rw [e7]
    refine c_pb129 (σ0 := σ) ha (p := p) (l := min n 15) (by omega) (by omega) (fun σ1 f1 c64 clo cp chi => ?_) (min n 15 - p) (min n 15) σ bigN (by omega) (Nat.le_refl _) (by unfold bigN; omega) frB.rf rfl (fun _ _ => ⟨rfl, rfl, rfl⟩) (fun i h1 h2 => by omega)
    have T := hT'.ins (fun _ _ _ x y => x.tr y) (z := z) hpn hp16 hlo hhi
    refine hyes σ1 (min (n + 1) 16) _ f1 ⟨T, by rw [c64]; omega, fun i hi => ?_, fun w hw => ?_⟩
    · show BEc ρ σ1 q a i (if i < p then L i else if i = p then z else L (i - 1))
      by_cases g : i < p
      · rw [if_pos g]
        obtain ⟨b1, b2, b3, b4⟩ := hE i (by omega)
        obtain ⟨d1, d2, d3⟩ := clo i g
        exact ⟨d1.trans b1, d2.trans b2, d3.trans b3, b4⟩
      · rw [if_neg g]
        by_cases g2 : i = p
        · rw [if_pos g2, g2]
          exact ⟨cp.1, cp.2.1, cp.2.2, hz16⟩
        · rw [if_neg g2]
          obtain ⟨b1, b2, b3, b4⟩ := hE (i - 1) (by omega)
          obtain ⟨d1, d2, d3⟩ := chi i (by omega) (by omega)
          exact ⟨d1.trans b1, d2.trans b2, d3.trans b3, b4⟩
    · rcases hw with hw | rfl
      · exact hPc w hw
      · exact hz
  have low : ∀ p, p < n → ltE ρ F q (L p) z → ∀ i, i < p + 1 → ltE ρ F q (L i) z := fun p hpn h i hi => by
    by_cases e : i = p
    · rw [e]; exact h
    · exact (t3 i p (by omega) hpn).tr h
  have lp43 : ∀ (p m : Nat), p ≤ n → p < m → (∀ i, p ≤ i → i < n → ltE ρ F q z (L i)) → (∀ i, i < p → (L i).1 ≤ z.1) → wp_X3_putInBase_l43 Q m (a : Int) z.1 (((PL ρ q).length + z.2.1 : Nat) : Int) ((16 * z.2.2.1 + z.2.2.2 : Nat) : Int) ((16 * a : Nat) : Int) ((16 * a + p : Nat) : Int) σ := by
    intro p
    induction p with
    | zero =>
      intro m hpn hm hhi hc
      obtain ⟨m, rfl⟩ := suc_n hm
      unfold wp_X3_putInBase_l43
      exact ⟨fun _ => fin 0 hpn hhi (fun i hi => by omega), fun h => absurd (by omega) h⟩
    | succ p ih =>
      intro m hpn hm hhi hc
      obtain ⟨m, rfl⟩ := suc_n hm
      obtain ⟨b1, b2, b3, b4⟩ := hE p (by omega)
      unfold wp_X3_putInBase_l43
      have ew : w32 (((16 * a + (p + 1) : Nat) : Int) - 1) = ((16 * a + p : Nat) : Int) := by rw [w32_of (by omega) (by omega)]; omega
      have ew2 : w32 (((16 * a + (p + 1) : Nat) : Int) + (-1)) = ((16 * a + p : Nat) : Int) := by rw [w32_of (by omega) (by omega)]; omega
      rw [ew, ew2, Int.toNat_natCast, b1, b2, b3]
      refine ⟨fun h => absurd h (by omega), fun _ => ⟨by omega, fun h => fin (p + 1) hpn hhi (low p (by omega) (Or.inl (by have := hc p (by omega); omega))), fun h => ⟨by omega, by omega, ?_⟩⟩⟩
      have he : (L p).1 = z.1 := by omega
      refine c_isSmaller hg hL hG.1.1 hF hG.2.1 hG.2.2 hq pz hz (cL p (by omega)) hz16 b4 (fun hs => ⟨fun h => absurd h (by decide), fun _ v6 e6 => ?_⟩) (fun hs => ⟨fun _ => fin (p + 1) hpn hhi (low p (by omega) ?_), fun h => absurd rfl h⟩)
      · rw [e6]
        refine ih m (by omega) (by omega) (fun i h1 h2 => ?_) (fun i hi => hc i (by omega))
        by_cases e : i = p
        · rw [e]; exact Or.inr ⟨he.symm, hs⟩
        · exact hhi i (by omega) h2
      · rcases hF.shTp (hp (L p).2.1 (cL p (by omega)).1 ⟨L p, cL p (by omega), rfl, Or.inr (t2 p (by omega))⟩) (cL p (by omega)) hz (ne p (by omega)) with g | g
        · exact Or.inr ⟨he, g⟩
        · exact absurd g hs
  have lp17 : ∀ (p m : Nat), p ≤ n → p < m → (∀ i, p ≤ i → i < n → ltE ρ F q z (L i)) → wp_X3_putInBase_l17 Q m (a : Int) z.1 (((PL ρ q).length + z.2.1 : Nat) : Int) ((16 * z.2.2.1 + z.2.2.2 : Nat) : Int) ((16 * a : Nat) : Int) ((16 * a + p : Nat) : Int) σ := by
    intro p
    induction p with
    | zero =>
      intro m hpn hm hhi
      obtain ⟨m, rfl⟩ := suc_n hm
      unfold wp_X3_putInBase_l17
      exact ⟨fun _ => lp43 0 bigN hpn (by unfold bigN; omega) hhi (fun i hi => by omega), fun h => absurd (by omega) h⟩
    | succ p ih =>
      intro m hpn hm hhi
      obtain ⟨m, rfl⟩ := suc_n hm
      obtain ⟨b1, b2, b3, b4⟩ := hE p (by omega)
      unfold wp_X3_putInBase_l17
      have ew : w32 (((16 * a + (p + 1) : Nat) : Int) - 1) = ((16 * a + p : Nat) : Int) := by rw [w32_of (by omega) (by omega)]; omega
      have ew2 : w32 (((16 * a + (p + 1) : Nat) : Int) + (-1)) = ((16 * a + p : Nat) : Int) := by rw [w32_of (by omega) (by omega)]; omega
      rw [ew, ew2, Int.toNat_natCast, b1]
      refine ⟨fun h => absurd h (by omega), fun _ => ⟨by omega, fun h => lp43 (p + 1) bigN hpn (by unfold bigN; omega) hhi (fun i hi => ?_), fun h v3 e3 => ?_⟩⟩
      · by_cases e : i = p
        · rw [e]; exact h
        · have := (t3 i p (by omega) (by omega)).le; omega
      · rw [e3]
        refine ih m (by omega) (by omega) (fun i h1 h2 => ?_)
        by_cases e : i = p
        · rw [e]; exact Or.inl (by omega)
        · exact hhi i (by omega) h2
  unfold wp_X3_putInBase
  intro v1 e1
  rw [w32_of (by omega) (by omega), show (a : Int) * 16 = ((16 * a : Nat) : Int) by omega] at e1
  refine ⟨by omega, fun v2 e2 => ?_⟩
  rw [e1, Int.toNat_natCast, h64, w32_of (by omega) (by omega), show ((16 * a : Nat) : Int) + (n : Int) = ((16 * a + n : Nat) : Int) by omega] at e2
  rw [e2, e1]
  exact lp17 n bigN (Nat.le_refl _) (by unfold bigN; omega) (fun i h1 h2 => by omega)
