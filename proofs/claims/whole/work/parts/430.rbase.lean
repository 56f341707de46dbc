/-! the reference's lists of a span while cases of two parts come -/
def stF (τ τ1 : St) : Prop := (∀ k, (1 ≤ k ∧ k < 28) ∨ 40 ≤ k → τ1 k = τ k) ∧ ∀ j, j ≠ 54 → j ≠ 55 → j ≠ 59 → τ1 0 j = τ 0 j
theorem stF.rf {τ : St} : stF τ τ := ⟨fun _ _ => rfl, fun _ _ _ _ => rfl⟩
theorem stF.tr {τ τ1 τ2 : St} (h : stF τ τ1) (h2 : stF τ1 τ2) : stF τ τ2 := ⟨fun k hk => (h2.1 k hk).trans (h.1 k hk), fun j a b c => (h2.2 j a b c).trans (h.2 j a b c)⟩
def ndL (ρ τ : St) (s b i : Nat) : Int := τ 37 (16 * iR ρ (12 * s + b) + i)
def BPh (ρ τ : St) (F : Fo) (D : Nat → Prop) (s N0 : Nat) (P : Nat → En → Prop) (n : Nat → Nat) (L : Nat → Nat → En) : Prop := RFo ρ τ F D ∧ (∀ p, D p → ∀ k, k < F.1 p → τ 37 (16 * iR ρ p + k) < (N0 : Int)) ∧ (∀ b, b < 12 → TopP (ltE ρ F (12 * s + b)) (P b) (n b) (L b) ∧ RRw ρ τ F (12 * s + b) (n b) (L b) ∧ ∀ i, i < n b → (N0 : Int) ≤ ndL ρ τ s b i ∧ ndL ρ τ s b i < τ 0 54) ∧ (∀ b c i j, b < 12 → c < 12 → i < n b → j < n c → ndL ρ τ s b i = ndL ρ τ s c j → b = c ∧ i = j) ∧ (τ 0 55 = -1 ∨ ((N0 : Int) ≤ τ 0 55 ∧ τ 0 55 < τ 0 54 ∧ ∀ b i, b < 12 → i < n b → ndL ρ τ s b i ≠ τ 0 55)) ∧ τ 0 54 = ((N0 + sumG n 12 : Nat) : Int) + (if τ 0 55 = -1 then 0 else 1) ∧ ∀ q, q < 12 * spN (LL ρ) → s < q / 12 → τ 38 (iR ρ q) = 0
theorem RFo.fr {ρ τ τ1 : St} {F : Fo} {D : Nat → Prop} {v : Int} (h : RFo ρ τ F D) (f : frN v τ τ1) (v0 : 0 ≤ v) (hv : ∀ p, D p → ∀ k, k < F.1 p → τ 37 (16 * iR ρ p + k) ≠ v) : RFo ρ τ1 F D := by
  intro p hp
  obtain ⟨h1, h2, h3, h4⟩ := h p hp
  refine ⟨h1, h2, by rw [f.1 38 (by decide)]; exact h3, fun k hk => ?_⟩
  rw [f.1 37 (by decide)]
  exact f.nd v0 (hv p hp k hk) (h4 k hk)
theorem RFo.fc {ρ τ τ1 : St} (hL : LL ρ < 9) {F : Fo} {D : Nat → Prop} (hF : ClF ρ F D) {q n p' : Nat} {v : Int} (h : RFo ρ τ F D) (hq : q < 12 * spN (LL ρ)) (hDq : ¬ D q) (f : frCm ρ q n p' v τ τ1) : RFo ρ τ1 F D := by
  have hDD : ∀ p, D p → p < 12 * spN (LL ρ) ∧ p ≠ q ∧ F.1 p ≤ 16 := fun p hp => ⟨(h p hp).1, fun e => hDq (e ▸ hp), (h p hp).2.1⟩
  intro p hp
  obtain ⟨h1, h2, h3, h4⟩ := h p hp
  have hne : iR ρ p ≠ iR ρ q := fun e => (hDD p hp).2.1 (iR_inj hL h1 hq e)
  refine ⟨h1, h2, by rw [f.2.2.1 _ hne]; exact h3, fun k hk => ?_⟩
  rw [f.2.1 _ (by omega)]
  have c := ((hF p hp).1 k hk).1
  exact NdC.cg hL hDD hq (fun i i1 i2 => f.1 i (by omega) (by omega) (by omega)) f.2.1 ((hF p hp).2.2 _ c.1) c (h4 k hk)
def n2F (n : Nat → Nat) (a b : Nat) : Nat := if b = a then min (n a + 1) 16 else n b
theorem ins_inj {g g2 : Nat → Nat → Int} {n : Nat → Nat} {a p : Nat} {v : Int} (ha : a < 12) (pn : p ≤ n a) (b4 : ∀ b c i j, b < 12 → c < 12 → i < n b → j < n c → g b i = g c j → b = c ∧ i = j) (vfr : ∀ b i, b < 12 → i < n b → g b i ≠ v) (nd2 : ∀ b i, b < 12 → b ≠ a → i < n b → g2 b i = g b i) (nda : ∀ i, i < min (n a + 1) 16 → g2 a i = if i < p then g a i else if i = p then v else g a (i - 1)) : ∀ b c i j, b < 12 → c < 12 → i < n2F n a b → j < n2F n a c → g2 b i = g2 c j → b = c ∧ i = j := by
  have inja : ∀ i j, i < min (n a + 1) 16 → j < min (n a + 1) 16 → g2 a i = g2 a j → i = j := by
    intro i j hi hj e
    rw [nda i hi, nda j hj] at e
    by_cases i1 : i < p
    · rw [if_pos i1] at e
      by_cases j1 : j < p
      · rw [if_pos j1] at e
        exact (b4 a a i j ha ha (by omega) (by omega) e).2
      · rw [if_neg j1] at e
        by_cases j2 : j = p
        · rw [if_pos j2] at e
          exact absurd e (vfr a i ha (by omega))
        · rw [if_neg j2] at e
          have := (b4 a a i (j - 1) ha ha (by omega) (by omega) e).2
          omega
    · rw [if_neg i1] at e
      by_cases i2 : i = p
      · rw [if_pos i2] at e
        by_cases j1 : j < p
        · rw [if_pos j1] at e
          exact absurd e.symm (vfr a j ha (by omega))
        · rw [if_neg j1] at e
          by_cases j2 : j = p
          · omega
          · rw [if_neg j2] at e
            exact absurd e.symm (vfr a (j - 1) ha (by omega))
      · rw [if_neg i2] at e
        by_cases j1 : j < p
        · rw [if_pos j1] at e
          have := (b4 a a (i - 1) j ha ha (by omega) (by omega) e).2
          omega
        · rw [if_neg j1] at e
          by_cases j2 : j = p
          · rw [if_pos j2] at e
            exact absurd e (vfr a (i - 1) ha (by omega))
          · rw [if_neg j2] at e
            have := (b4 a a (i - 1) (j - 1) ha ha (by omega) (by omega) e).2
            omega
  have injb : ∀ i b j, i < min (n a + 1) 16 → b < 12 → b ≠ a → j < n b → g2 a i ≠ g b j := by
    intro i b j hi hb hne hj e
    rw [nda i hi] at e
    by_cases i1 : i < p
    · rw [if_pos i1] at e
      exact hne (b4 a b i j ha hb (by omega) hj e).1.symm
    · rw [if_neg i1] at e
      by_cases i2 : i = p
      · rw [if_pos i2] at e
        exact vfr b j hb hj e.symm
      · rw [if_neg i2] at e
        exact hne (b4 a b (i - 1) j ha hb (by omega) hj e).1.symm
  intro b c i j hb hc hi hj e
  unfold n2F at hi hj
  by_cases eb : b = a
  · subst eb
    rw [if_pos rfl] at hi
    by_cases ec : c = b
    · subst ec
      rw [if_pos rfl] at hj
      exact ⟨rfl, inja i j hi hj e⟩
    · rw [if_neg ec] at hj
      rw [nd2 c j hc ec hj] at e
      exact absurd e (injb i c j hi hc ec hj)
  · rw [if_neg eb] at hi
    by_cases ec : c = a
    · subst ec
      rw [if_pos rfl] at hj
      rw [nd2 b i hb eb hi] at e
      exact absurd e.symm (injb j b i hj hb eb hi)
    · rw [if_neg ec] at hj
      rw [nd2 b i hb eb hi, nd2 c j hc ec hj] at e
      exact b4 b c i j hb hc hi hj e
theorem ins_15 {g g2 : Nat → Nat → Int} {n : Nat → Nat} {a p : Nat} {v : Int} (ha : a < 12) (p16 : p < 16) (e16 : n a = 16) (b4 : ∀ b c i j, b < 12 → c < 12 → i < n b → j < n c → g b i = g c j → b = c ∧ i = j) (vfr : ∀ b i, b < 12 → i < n b → g b i ≠ v) (nd2 : ∀ b i, b < 12 → b ≠ a → i < n b → g2 b i = g b i) (nda : ∀ i, i < min (n a + 1) 16 → g2 a i = if i < p then g a i else if i = p then v else g a (i - 1)) : ∀ b i, b < 12 → i < n2F n a b → g2 b i ≠ g a 15 := by
  intro b i hb hi
  unfold n2F at hi
  by_cases eb : b = a
  · subst eb
    rw [if_pos rfl] at hi
    rw [nda i hi]
    by_cases i1 : i < p
    · rw [if_pos i1]
      intro ee
      have := (b4 b b i 15 hb hb (by omega) (by omega) ee).2
      omega
    · rw [if_neg i1]
      by_cases i2 : i = p
      · rw [if_pos i2]
        intro ee
        exact vfr b 15 hb (by omega) ee.symm
      · rw [if_neg i2]
        intro ee
        have := (b4 b b (i - 1) 15 hb hb (by omega) (by omega) ee).2
        omega
  · rw [if_neg eb] at hi
    rw [nd2 b i hb eb hi]
    intro ee
    exact eb (b4 b a i 15 hb ha hi (by omega) ee).1
theorem ins_bnd {g g2 : Nat → Nat → Int} {n : Nat → Nat} {a p : Nat} {v N0 T T2 : Int} (ha : a < 12) (pn : p ≤ n a) (b3 : ∀ b, b < 12 → ∀ i, i < n b → N0 ≤ g b i ∧ g b i < T) (hv : N0 ≤ v ∧ v < T2) (hT : T ≤ T2) (nd2 : ∀ b i, b < 12 → b ≠ a → i < n b → g2 b i = g b i) (nda : ∀ i, i < min (n a + 1) 16 → g2 a i = if i < p then g a i else if i = p then v else g a (i - 1)) : ∀ b, b < 12 → ∀ i, i < n2F n a b → N0 ≤ g2 b i ∧ g2 b i < T2 := by
  intro b hb i hi
  unfold n2F at hi
  by_cases eb : b = a
  · subst eb
    rw [if_pos rfl] at hi
    rw [nda i hi]
    by_cases i1 : i < p
    · rw [if_pos i1]
      have := b3 b hb i (by omega); omega
    · rw [if_neg i1]
      by_cases i2 : i = p
      · rw [if_pos i2]; exact hv
      · rw [if_neg i2]
        have := b3 b hb (i - 1) (by omega); omega
  · rw [if_neg eb] at hi
    rw [nd2 b i hb eb hi]
    have := b3 b hb i hi; omega
theorem ins_sum {n : Nat → Nat} {a : Nat} (ha : a < 12) (h : n a ≤ 16) : sumG (n2F n a) 12 = sumG n 12 + (if n a = 16 then 0 else 1) := by
  by_cases e : n a = 16
  · rw [if_pos e, Nat.add_zero]
    refine sumG_cg (f := n2F n a) (g := n) 12 (fun b _ => ?_)
    unfold n2F
    by_cases eb : b = a
    · rw [if_pos eb, eb]; omega
    · rw [if_neg eb]
  · rw [if_neg e, ← sumG_up (f := n) 12 ha]
    refine sumG_cg (f := n2F n a) (g := fun b => if b = a then n a + 1 else n b) 12 (fun b _ => ?_)
    show n2F n a b = if b = a then n a + 1 else n b
    unfold n2F
    by_cases eb : b = a
    · rw [if_pos eb, if_pos eb]; omega
    · rw [if_neg eb, if_neg eb]
def L2F (L : Nat → Nat → En) (a p : Nat) (z : En) (b : Nat) : Nat → En := if b = a then (fun i => if i < p then L a i else if i = p then z else L a (i - 1)) else L b
theorem r_base1 {ρ τ : St} (hg : Wg ρ) (hL : LL ρ < 9) (h1 : ∀ r : Nat, (r : Int) < ρ 0 4 → τ 1 r = ρ 3 r ∧ τ 4 r = ρ 6 r) {F : Fo} {D : Nat → Prop} (hF : ClF ρ F D) (hT : ∀ q, D q → SgF ρ F q) {s N0 : Nat} (hs : s < spN (LL ρ)) (hD : ∀ q, D q → q / 12 ≠ s) (hN : N0 ≤ 39000) {P : Nat → En → Prop} (hP : ∀ b, b < 12 → ∀ w, P b w → CandE ρ F (12 * s + b) w ∧ PDf ρ D (12 * s + b) w.2.1) {n : Nat → Nat} {L : Nat → Nat → En} (hB : BPh ρ τ F D s N0 P n L) {a : Nat} (ha : a < 12) {z : En} (hp : PDf ρ D (12 * s + a) z.2.1) (hz : CandE ρ F (12 * s + a) z) (hzP : ¬ P a z) {r : Nat} (hr : (cq ρ (12 * s + a) z.2.1).1 = (r : Int)) (hr4 : (r : Int) < ρ 0 4) {i m j x y : Int} (hi : i = (spB (LL ρ) s : Nat)) (hm : m = cm ρ (12 * s + a) z.2.1) (hj : j = (spF (LL ρ) s : Nat)) (hx : x = chN ρ τ (cf ρ (12 * s + a) z.2.1) z.2.2.1) (hy : y = chN ρ τ (cg ρ (12 * s + a) z.2.1) z.2.2.2) {Q : Int → St → Prop} (hQ : ∀ τ2 n2 L2, BPh ρ τ2 F D s N0 (fun b w => P b w ∨ (b = a ∧ w = z)) n2 L2 → stF τ τ2 → Q 0 τ2) : wp_X12_writes (r : Int) i m j x y τ (fun r12 σ13 => wp_X12_comes r12 σ13 Q) := by
  obtain ⟨b1, b2, b3, b4, b5, b6, b7⟩ := hB
  have s16 := sumG_le (f := n) 12 (fun b hb => (b3 b hb).1.1)
  have eqs : (12 * s + a) / 12 = s := by omega
  have hqb : ∀ b, b < 12 → 12 * s + b < 12 * spN (LL ρ) := fun b hb => by omega
  have hDb : ∀ b, b < 12 → ¬ D (12 * s + b) := fun b hb h => hD _ h (by omega)
  -- the node to be written
  obtain ⟨v, hv⟩ : ∃ v : Int, v = if τ 0 55 = -1 then τ 0 54 else τ 0 55 := ⟨_, rfl⟩
  have vN : (N0 : Int) ≤ v ∧ v < 40000 ∧ (τ 0 55 = -1 → v = τ 0 54) ∧ (τ 0 55 ≠ -1 → v = τ 0 55) := by
    rcases b5 with e | ⟨e1, e2, -⟩
    · rw [if_pos e] at hv b6
      exact ⟨by omega, by omega, fun _ => hv, fun h => absurd e h⟩
    · have : τ 0 55 ≠ -1 := by omega
      rw [if_neg this] at hv b6
      exact ⟨by omega, by omega, fun h => absurd h this, fun _ => hv⟩
  have vfr : ∀ b i, b < 12 → i < n b → ndL ρ τ s b i ≠ v := by
    intro b i hb hi e
    have := ((b3 b hb).2.2 i hi).2
    rcases b5 with e1 | ⟨e1, e2, e3⟩
    · have := vN.2.2.1 e1; omega
    · have h55 : τ 0 55 ≠ -1 := by omega
      exact e3 b i hb hi (e.trans (vN.2.2.2 h55))
  have vlow : ∀ p, D p → ∀ k, k < F.1 p → τ 37 (16 * iR ρ p + k) ≠ v := fun p hp k hk => by
    have := b2 p hp k hk; omega
  have chv : ∀ (p : Int) (x : Nat), (0 ≤ p → D p.toNat) → x < hsF F p → chN ρ τ p x ≠ v := by
    intro p x hp hx
    unfold chN
    by_cases h0 : p < 0
    · rw [if_pos h0]; omega
    · rw [if_neg h0]
      rw [hsF_pos (by omega)] at hx
      exact vlow _ (hp (by omega)) x hx
  refine r_writes hg hL hF hT b1 hp hz hr hr4 (h1 r hr4).2 hv ⟨by omega, vN.2.1⟩ (chv _ _ hp.1 hz.2.1) (chv _ _ hp.2.1 hz.2.2.1) (by rw [eqs]; exact hi) hm (by rw [eqs]; exact hj) hx hy (fun τ1 f1 nv => ?_)
  have v0 : 0 ≤ v := by omega
  have e37 : τ1 37 = τ 37 := f1.1 37 (by decide)
  have e0 : τ1 0 = τ 0 := f1.1 0 (by decide)
  have R1 := b1.fr f1 v0 vlow
  have row1 : ∀ b, b < 12 → RRw ρ τ1 F (12 * s + b) (n b) (L b) := fun b hb => by
    obtain ⟨g1, g2⟩ := (b3 b hb).2.1
    refine ⟨by rw [f1.1 38 (by decide)]; exact g1, fun i hi => ?_⟩
    rw [e37]
    exact f1.nd v0 (vfr b i hb hi) (g2 i hi)
  have st1 : stF τ τ1 := ⟨fun k hk => f1.1 k (by omega), fun j _ _ _ => by rw [e0]⟩
  refine r_comes hg hL (fun r hr => by rw [f1.1 1 (by decide)]; exact (h1 r hr).1) hF hT R1 (hqb a ha) (hDb a ha) (b3 a ha).1 (hP a ha) (row1 a ha) hp hz hzP nv (fun i hi => by rw [e37]; exact vfr a i ha hi) (by rw [e0]; split at b6 <;> omega) (fun n16 hall => ?_) (fun τ2 p pn p16 f top row2 => ?_)
  · refine hQ τ1 n L ⟨R1, by rw [e37]; exact b2, fun b hb => ⟨?_, row1 b hb, ?_⟩, ?_, ?_, by rw [e0]; exact b6, by rw [f1.1 38 (by decide)]; exact b7⟩ st1
    · refine (b3 b hb).1.more (fun w hw => Or.inl hw) (fun w hw hn => ?_)
      rcases hw with hw | ⟨rfl, rfl⟩
      · exact absurd hw hn
      · exact ⟨n16, hall⟩
    · unfold ndL; rw [e37, e0]; exact (b3 b hb).2.2
    · unfold ndL; rw [e37]; exact b4
    · unfold ndL; rw [e37, e0]; exact b5
  · obtain ⟨f2, f3, f4, f5, f6, f7, f8, f9⟩ := id f
    rw [e0] at f8
    rw [e37] at f3 f7 f9
    have na16 := (b3 a ha).1.1
    have other : ∀ b, b < 12 → b ≠ a → iR ρ (12 * s + b) ≠ iR ρ (12 * s + a) := fun b hb hne e => hne (by have := iR_inj hL (hqb b hb) (hqb a ha) e; clear f6 f8 f9 b6; omega)
    have away : ∀ b i, b < 12 → b ≠ a → i < n b → 16 * iR ρ (12 * s + b) + i < 16 * iR ρ (12 * s + a) ∨ 16 * iR ρ (12 * s + a) + 16 ≤ 16 * iR ρ (12 * s + b) + i := fun b i hb hne hi => by
      have h1 := other b hb hne
      have h2 := (b3 b hb).1.1
      clear f6 f8 f9 b6 s16 vN hv
      omega
    have nd2 : ∀ b i, b < 12 → b ≠ a → i < n b → ndL ρ τ2 s b i = ndL ρ τ s b i := fun b i hb hne hi => f3 _ (away b i hb hne hi)
    have nda : ∀ i, i < min (n a + 1) 16 → ndL ρ τ2 s a i = if i < p then ndL ρ τ s a i else if i = p then v else ndL ρ τ s a (i - 1) := fun i hi => f7 i hi
    have lt54 : τ 0 54 ≤ τ2 0 54 ∧ v < τ2 0 54 := by
      rw [f8]
      by_cases e : τ 0 55 = -1
      · rw [if_pos e]; have := vN.2.2.1 e; clear f6 f9 b6; omega
      · rw [if_neg e]
        have := vN.2.2.2 e
        rcases b5 with e1 | ⟨e1, e2, -⟩
        · exact absurd e1 e
        · clear f6 f9 b6; omega
    have st2 : stF τ τ2 := st1.tr ⟨fun k hk => f2 k (by clear f6 f8 f9 b6; omega) (by clear f6 f8 f9 b6; omega) (by clear f6 f8 f9 b6; omega), fun j j1 j2 _ => f5 j j1 j2⟩
    have bnd := ins_bnd ha pn (fun b hb => (b3 b hb).2.2) ⟨vN.1, lt54.2⟩ lt54.1 nd2 nda
    have fk : ∀ k, 28 ≤ k → k ≤ 36 → τ2 k = τ1 k := fun k k1 k2 => f2 k (by clear f6 f8 f9 b6; omega) (by clear f6 f8 f9 b6; omega) (by clear f6 f8 f9 b6; omega)
    refine hQ τ2 (n2F n a) (L2F L a p z) ⟨R1.fc hL hF (hqb a ha) (hDb a ha) f, fun p' hp' k hk => ?_, fun b hb => ?_, ins_inj ha pn b4 vfr nd2 nda, ?_, ?_, fun q hq hsq => ?_⟩ st2
    · have hne : iR ρ p' ≠ iR ρ (12 * s + a) := fun e => hDb a ha (by have := iR_inj hL (b1 p' hp').1 (hqb a ha) e; rw [← this]; exact hp')
      have h16 := (b1 p' hp').2.1
      rw [f3 _ (by clear f6 f8 f9 b6 s16 vN hv; omega)]
      exact b2 p' hp' k hk
    · refine ⟨?_, ?_, bnd b hb⟩
      · unfold n2F L2F
        by_cases eb : b = a
        · subst eb
          rw [if_pos rfl, if_pos rfl]
          exact top.cg (fun w => ⟨fun h => h.elim Or.inl (fun h => Or.inr ⟨rfl, h⟩), fun h => h.elim Or.inl (fun h => Or.inr h.2)⟩) (fun _ _ => rfl)
        · rw [if_neg eb, if_neg eb]
          exact (b3 b hb).1.cg (fun w => ⟨Or.inl, fun h => h.elim id (fun h => absurd h.1 eb)⟩) (fun _ _ => rfl)
      · unfold n2F L2F
        by_cases eb : b = a
        · subst eb
          rw [if_pos rfl, if_pos rfl]
          exact row2
        · rw [if_neg eb, if_neg eb]
          obtain ⟨g1, g2⟩ := row1 b hb
          refine ⟨by rw [f4 _ (other b hb eb)]; exact g1, fun i hi => ?_⟩
          rw [f.2.1 _ (away b i hb eb hi)]
          have hh := hP b hb _ ((b3 b hb).1.2.1 i hi)
          exact NdC.cg (q := 12 * s + a) hL (fun p hp => ⟨(R1 p hp).1, fun e => hDb a ha (by rw [← e]; exact hp), (R1 p hp).2.1⟩) (hqb a ha) fk f.2.1 hh.2 hh.1 (g2 i hi)
    · rw [f9]
      by_cases e : n a = 16
      · rw [if_pos e]
        have q15 := (b3 a ha).2.2 15 (by rw [e]; decide)
        exact Or.inr ⟨q15.1, Int.lt_of_lt_of_le q15.2 lt54.1, ins_15 ha p16 e b4 vfr nd2 nda⟩
      · rw [if_neg e]; exact Or.inl rfl
    · rw [ins_sum ha na16, f8, f9, b6]
      by_cases e : n a = 16
      · rw [if_pos e, if_pos e]
        have q15 := ((b3 a ha).2.2 15 (by rw [e]; decide)).1
        have h15 : ¬ (τ 37 (16 * iR ρ (12 * s + a) + 15) = -1) := by
          intro e2
          have q15 : (N0 : Int) ≤ τ 37 (16 * iR ρ (12 * s + a) + 15) := q15
          rw [e2] at q15
          clear f6 f8 f9 b6
          omega
        rw [if_neg h15]
        by_cases e5 : τ 0 55 = -1
        · rw [if_pos e5, if_pos e5]; push_cast; clear f6 f8 f9 b6; omega
        · rw [if_neg e5, if_neg e5]; push_cast; clear f6 f8 f9 b6; omega
      · rw [if_neg e, if_neg e, if_pos rfl]
        by_cases e5 : τ 0 55 = -1
        · rw [if_pos e5, if_pos e5]; push_cast; clear f6 f8 f9 b6; omega
        · rw [if_neg e5, if_neg e5]; push_cast; clear f6 f8 f9 b6; omega
    · rw [f4 _ (fun e => by have := iR_inj hL hq (hqb a ha) e; clear f6 f8 f9 b6; omega), f1.1 38 (by decide)]
      exact b7 q hq hsq
