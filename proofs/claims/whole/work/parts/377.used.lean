/-! used -/
def SmK (ρ σ : St) : Prop := ∀ q, q < 12 * spN (LL ρ) → gR ρ 1 q (σ 43 q)
def EcK (ρ σ : St) : Prop := ∀ q, q < 12 * spN (LL ρ) → gR ρ 0 q (σ 44 q)
theorem c_inSome {ρ σ : St} (hW : WW ρ) (hk : KL ρ σ) (hs : σ 41 7 = 0 ∨ (σ 41 7 = 1 ∧ SmK ρ σ)) {q : Nat} (hq4 : q < 432) {Q : Int → St → Prop} (hq : ∀ σ1, Bt ρ σ1 → σ1 36 7 = 1 → Lw ρ σ1 → σ1 41 7 = 1 → SmK ρ σ1 → Fr (mkS [26, 27, 28, 29, 30, 31, 32, 33, 34, 35, 37, 43] [(24, 3), (24, 12), (24, 14), (24, 16), (24, 17), (36, 7), (41, 7)]) σ σ1 → Q (σ1 43 q) σ1) : wp_X2_inSome (q : Int) σ Q := by
  have hg := hW.2.2.1
  have hL : LL ρ < 9 := by have := hW.2.2.2.2.2.1; unfold LL; omega
  refine mf_X2_inSome (σ0 := σ) (Q := fun r σ1 => Bt ρ σ1 ∧ σ1 36 7 = 1 ∧ Lw ρ σ1 ∧ σ1 41 7 = 1 ∧ SmK ρ σ1 ∧ r = σ1 43 q) (fun r σ1 h f => ?_) Fr.rf ?_
  · obtain ⟨a1, a2, a3, a4, a5, rfl⟩ := h
    exact hq σ1 a1 a2 a3 a4 a5 (Fr.rf.tr f (mkS_sub (by decide) (by decide)))
  unfold wp_X2_inSome wp_X2_inSome_b28
  refine mf_X1_prepare (σ0 := σ) (Q := fun _ σ1 => Bt ρ σ1 ∧ σ1 36 7 = 1 ∧ Lw ρ σ1) (fun _ σ2 h f => ?_) Fr.rf (c_prepare hW hk.1 hk.2.1 hk.2.2.1 hk.2.2.2 (fun σ1 a b c => ⟨a, b, c⟩))
  obtain ⟨b1, b2, b3⟩ := h
  have e7 : σ2 41 7 = σ 41 7 := f.at rfl
  have e43 : σ2 43 = σ 43 := funext (fun j => f.at rfl)
  rw [Int.toNat_natCast]
  refine ⟨fun w => ⟨by omega, ?_⟩, fun w σ3 e3 => ?_⟩
  · rcases hs with z | z
    · exact absurd (by rw [e7]; exact z) w
    · exact ⟨b1, b2, b3, by rw [e7]; exact z.1, by unfold SmK; rw [e43]; exact z.2, rfl⟩
  · refine mf_X2_gather_c43 (σ0 := σ3) (Q := fun _ σ4 => TG43 ρ 1 (spN (LL ρ)) σ4) (fun _ σ4 hT f4 => ⟨by omega, hT.1, ?_, hT.2.1, ?_, hT.2.2, rfl⟩) Fr.rf (c_gather43 hg hL (by rw [e3]; exact b1) (by rw [e3]; exact b3) (fun _ h => h))
    · rw [f4.at rfl, e3]; exact b2
    · rw [f4.at rfl, e3, upS_s]
theorem c_inEach {ρ σ : St} (hW : WW ρ) (hk : KL ρ σ) (hs : σ 41 8 = 0 ∨ (σ 41 8 = 1 ∧ EcK ρ σ)) {q : Nat} (hq12 : q < 12 * spN (LL ρ)) {Q : Int → St → Prop} (hq : ∀ σ1 v, Bt ρ σ1 → σ1 36 7 = 1 → Lw ρ σ1 → σ1 41 8 = 1 → EcK ρ σ1 → Fr (mkS [26, 27, 28, 29, 30, 31, 32, 33, 34, 35, 37, 44] [(24, 3), (24, 12), (24, 14), (24, 16), (24, 17), (36, 7), (41, 8)]) σ σ1 → ((¬ hPt ρ ((q : Nat) : Int) ∧ v = 0) ∨ (hPt ρ ((q : Nat) : Int) ∧ v = σ1 44 q)) → Q v σ1) : wp_X2_inEach (q : Int) σ Q := by
  have hg := hW.2.2.1
  have hL : LL ρ < 9 := by have := hW.2.2.2.2.2.1; unfold LL; omega
  have h3 := sp_3 _ hL
  refine mf_X2_inEach (σ0 := σ) (Q := fun r σ1 => Bt ρ σ1 ∧ σ1 36 7 = 1 ∧ Lw ρ σ1 ∧ σ1 41 8 = 1 ∧ EcK ρ σ1 ∧ ((¬ hPt ρ ((q : Nat) : Int) ∧ r = 0) ∨ (hPt ρ ((q : Nat) : Int) ∧ r = σ1 44 q))) (fun r σ1 h f => ?_) Fr.rf ?_
  · obtain ⟨a1, a2, a3, a4, a5, a6⟩ := h
    exact hq σ1 r a1 a2 a3 a4 a5 (Fr.rf.tr f (mkS_sub (by decide) (by decide))) a6
  unfold wp_X2_inEach wp_X2_inEach_b28
  refine mf_X1_prepare (σ0 := σ) (Q := fun _ σ1 => Bt ρ σ1 ∧ σ1 36 7 = 1 ∧ Lw ρ σ1) (fun _ σ2 h f => ?_) Fr.rf (c_prepare hW hk.1 hk.2.1 hk.2.2.1 hk.2.2.2 (fun σ1 a b c => ⟨a, b, c⟩))
  obtain ⟨b1, b2, b3⟩ := h
  have e8 : σ2 41 8 = σ 41 8 := f.at rfl
  have e44 : σ2 44 = σ 44 := funext (fun j => f.at rfl)
  have fin : ∀ σ1, Bt ρ σ1 → σ1 36 7 = 1 → Lw ρ σ1 → σ1 41 8 = 1 → EcK ρ σ1 → wp_X1_has ((q : Nat) : Int) σ1 (fun r6 σ7 => ((r6 = 0) → Bt ρ σ7 ∧ σ7 36 7 = 1 ∧ Lw ρ σ7 ∧ σ7 41 8 = 1 ∧ EcK ρ σ7 ∧ ((¬ hPt ρ ((q : Nat) : Int) ∧ (0 : Int) = 0) ∨ (hPt ρ ((q : Nat) : Int) ∧ 0 = σ7 44 q))) ∧ (¬ (r6 = 0) → (0 ≤ ((q : Nat) : Int) ∧ ((q : Nat) : Int) < 432) ∧ Bt ρ σ7 ∧ σ7 36 7 = 1 ∧ Lw ρ σ7 ∧ σ7 41 8 = 1 ∧ EcK ρ σ7 ∧ ((¬ hPt ρ ((q : Nat) : Int) ∧ σ7 44 (((q : Nat) : Int).toNat) = 0) ∨ (hPt ρ ((q : Nat) : Int) ∧ σ7 44 (((q : Nat) : Int).toNat) = σ7 44 q)))) := by
    intro σ1 a1 a2 a3 a4 a5
    refine c_hasI hg hL a3 (by omega) (fun hn => ⟨fun _ => ⟨a1, a2, a3, a4, a5, Or.inl ⟨hn, rfl⟩⟩, fun z => absurd rfl z⟩) (fun hy => ⟨fun z => absurd z (by decide), fun _ => ⟨by omega, a1, a2, a3, a4, a5, Or.inr ⟨hy, by rw [Int.toNat_natCast]⟩⟩⟩)
  refine ⟨fun w => ?_, fun w σ3 e3 => ?_⟩
  · rcases hs with z | z
    · exact absurd (by rw [e8]; exact z) w
    · exact fin σ2 b1 b2 b3 (by rw [e8]; exact z.1) (by unfold EcK; rw [e44]; exact z.2)
  · refine mf_X2_gather_c44 (σ0 := σ3) (Q := fun _ σ4 => TG44 ρ 0 (spN (LL ρ)) σ4) (fun _ σ4 hT f4 => fin σ4 hT.1 ?_ hT.2.1 ?_ hT.2.2) Fr.rf (c_gather44 hg hL (by rw [e3]; exact b1) (by rw [e3]; exact b3) (fun _ h => h))
    · rw [f4.at rfl, e3]; exact b2
    · rw [f4.at rfl, e3, upS_s]
/-! the reference's -/
theorem met_all {ρ τ : St} (hg : Wg ρ) (hL : LL ρ < 9) (hd : ∀ q, q < 12 * spN (LL ρ) → met ρ τ q → DC ρ τ (cI ρ q)) {k : Nat} : ∀ (n : Nat) {q : Nat}, q < 12 * spN (LL ρ) → met ρ τ q → UM ρ 1 k n q → tb (τ 0 36) k = true
  | 0, _, _, _, h => h.elim
  | n + 1, q, hq, hm, ⟨c, hc, hf, h⟩ => by
    have d := hd q hq hm c hc hf
    have ok := cI_ok hg hL hq hc
    rcases stp1.1 h with z | z | z
    · rw [z, Int.toNat_natCast] at d; exact d.1
    · exact met_all hg hL hd n (by have := ok.2.1; omega) (d.2.1 z.1) z.2
    · exact met_all hg hL hd n (by have := ok.2.2; omega) (d.2.2 z.1) z.2
def smR (ρ : St) (q : Nat) (v : Int) : Prop := P64 v ∧ ∀ k, tb v k = true ↔ UQ ρ 1 k q
def ecR (ρ : St) (a i j v : Int) : Prop := P64 v ∧ ∀ k : Nat, tb v k = true ↔ ((k : Int) < ρ 0 4 ∧ ¬ hT (gO ρ (k : Int)) a i j)
theorem r_us94 {ρ : St} (hg : Wg ρ) (h8 : 0 ≤ ρ 0 8 ∧ ρ 0 8 ≤ 8) {a i j : Int} (hI : isItm ρ a i j) {Q : Int → St → Prop} (hq : ∀ τ1 v, ecR ρ a i j v → Q v τ1) : ∀ (d r : Nat) (x : Int) (τ : St) (n : Nat), (r : Int) + d = ρ 0 4 → d < n → RH τ ρ → τ 0 2 = osum (ρ 8) (ρ 0 4).toNat → P64 x → (∀ k : Nat, tb x k = true ↔ (k < r ∧ ¬ hT (gO ρ (k : Int)) a i j)) → wp_X12_used_l94 Q n a i j x (r : Int) τ := by
  have h40 := hg.2.1
  intro d
  induction d with
  | zero =>
    intro r x τ n hd hn hv ho hx hb
    obtain ⟨n, rfl⟩ := suc_n hn
    unfold wp_X12_used_l94
    rw [hv.1]
    refine ⟨fun _ => hq τ x ⟨hx, fun k => (hb k).trans ⟨fun z => ⟨by omega, z.2⟩, fun z => ⟨by omega, z.2⟩⟩⟩, fun w => absurd (by omega) w⟩
  | succ d ih =>
    intro r x τ n hd hn hv ho hx hb
    obtain ⟨n, rfl⟩ := suc_n hn
    have hr : (r : Int) < ρ 0 4 := by push_cast at hd; omega
    have eg : ∀ k, k ≠ 8 → gO ρ (r : Int) k = ρ k := fun k h => gO_k h
    unfold wp_X12_used_l94
    rw [hv.1, ho, osum_or hg (x1 := (r : Int)) (by omega)]
    refine ⟨fun w => absurd w (by omega), fun _ => ?_⟩
    refine mf_X12_laysLeast (σ0 := τ) (Q := fun _ τ1 => LA (gO ρ (r : Int)) τ1) (fun _ τ1 ha f => ?_) Fr.rf (r_laysLeast (g := gO ρ (r : Int)) (gO_W hg) (by rw [eg 0 (by decide)]; exact h8) (by
      unfold RH
      rw [eg 0 (by decide), eg 3 (by decide), eg 4 (by decide), eg 5 (by decide), eg 6 (by decide), eg 11 (by decide)]
      exact hv) rfl (fun _ h => h))
    have hv1 : RH τ1 ρ := by
      obtain ⟨v1, v2, v3, v4, v5⟩ := ha.1
      rw [eg 0 (by decide)] at v1 v3 v4 v5
      rw [eg 3 (by decide), eg 4 (by decide), eg 5 (by decide), eg 6 (by decide)] at v4
      rw [eg 11 (by decide)] at v5
      exact ⟨v1, v3, v4, v5⟩
    have ho1 : τ1 0 2 = osum (ρ 8) (ρ 0 4).toNat := by rw [f.at rfl]; exact ho
    have hI2 : isItm (gO ρ (r : Int)) a i j := by unfold isItm; rw [eg 0 (by decide)]; exact hI
    refine r_has2 ha (by rw [eg 0 (by decide)]; exact h8.2) hI2 (fun hn => ⟨fun z => absurd rfl z, fun _ v ev => ?_⟩) (fun hy => ⟨fun _ => ?_, fun z => absurd (by decide) z⟩)
    · unfold wp_X12_used_b135
      intro v2 ev2
      rw [ev2, w32_of (by omega) (by omega), show (r : Int) + 1 = ((r + 1 : Nat) : Int) by omega, ev, l_shl_1 r (by omega)]
      have hp := pow63 (k := r) (by omega)
      refine ih (r + 1) _ τ1 n (by push_cast at hd ⊢; omega) (by omega) hv1 ho1 (l_or_p hx hp) (fun k => ?_)
      rw [tb_lor hx hp, tb_pow, Bool.or_eq_true, hb k, decide_eq_true_iff]
      constructor
      · rintro (z | z)
        · exact ⟨by omega, z.2⟩
        · subst z; exact ⟨by omega, hn⟩
      · rintro ⟨z1, z2⟩
        by_cases e : r = k
        · exact Or.inr e
        · exact Or.inl ⟨by omega, z2⟩
    · unfold wp_X12_used_b135
      intro v2 ev2
      rw [ev2, w32_of (by omega) (by omega), show (r : Int) + 1 = ((r + 1 : Nat) : Int) by omega]
      refine ih (r + 1) x τ1 n (by push_cast at hd ⊢; omega) (by omega) hv1 ho1 hx (fun k => (hb k).trans ⟨fun z => ⟨by omega, z.2⟩, fun z => ⟨?_, z.2⟩⟩)
      by_cases e : k = r
      · subst e; exact absurd hy z.2
      · omega
theorem r_used {ρ τ : St} (hW : WW ρ) (hV : VR τ ρ) {x1 x2 x3 x4 : Int} {Q : Int → St → Prop} (hno : ¬ (isItm ρ x1 x2 x3 ∧ 0 ≤ x4 ∧ x4 ≤ 1) → Q (-2) τ) (hz : isItm ρ x1 x2 x3 → (0 ≤ x4 ∧ x4 ≤ 1) → ¬ hT ρ x1 x2 x3 → ∀ τ1, Q 0 τ1) (h0 : isItm ρ x1 x2 x3 → x4 = 0 → hT ρ x1 x2 x3 → ∀ τ1 v, smR ρ (itN ρ x1 x2 x3) v → Q v τ1) (h1 : isItm ρ x1 x2 x3 → x4 = 1 → hT ρ x1 x2 x3 → ∀ τ1 v, ecR ρ x1 x2 x3 v → Q v τ1) : wp_X12_used x1 x2 x3 x4 τ Q := by
  have hg := hW.2.2.1
  have h80 := hW.2.2.2.2.1
  have hs8 := hW.2.2.2.2.2.1
  have hL : LL ρ < 9 := by unfold LL; omega
  have h3 := sp_3 _ hL
  unfold wp_X12_used
  refine r_isItem hV.2.2.2.2.2.1 (fun h => ⟨fun _ => hno (fun w => h w.1), fun q => absurd rfl q⟩) (fun h => ⟨fun q => absurd q (by decide), fun _ => r_in ?_⟩)
  by_cases h4 : 0 ≤ x4 ∧ x4 ≤ 1
  · rw [if_pos h4]
    refine ⟨fun _ => ?_, fun q => absurd (by decide) q⟩
    refine mf_X12_looks (Q := fun _ τ1 => LA ρ τ1) (fun r τ1 hA f => ?_) Fr.rf (r_looks hW hV (fun _ h => h))
    have hV1 : VR τ1 ρ := VR.frB f (by decide) hV
    refine r_has2 hA hs8 h (fun hn => ⟨fun q => absurd rfl q, fun _ => hz h h4 hn τ1⟩) (fun hy => ⟨fun _ τ9 e9 => ?_, fun q => absurd (by decide) q⟩)
    have lp : ∀ (d x : Nat) (τ2 : St) (n : Nat), x + d = 768 → d < n → LA ρ τ2 → τ2 0 36 = 0 → τ2 0 2 = osum (ρ 8) (ρ 0 4).toNat → (∀ k : Nat, k < x → τ2 21 k = 0) → wp_X12_used_l49 Q n x1 x2 x3 x4 (x : Int) τ2 := by
      intro d
      induction d with
      | zero =>
        intro x τ2 n hd hn a1 a2 a3 a4
        obtain ⟨n, rfl⟩ := suc_n hn
        unfold wp_X12_used_l49
        refine ⟨fun _ => ⟨fun w => ?_, fun w => ?_⟩, fun w => absurd (by omega) w⟩
        · refine r_us94 hg ⟨h80, hs8⟩ h (fun τ3 v hv => h1 h (by omega) hy τ3 v hv) (ρ 0 4).toNat 0 0 τ2 bigN (by have := hg.1; omega) (by have := hg.2.1; unfold bigN; omega) ⟨a1.1.1, a1.1.2.2.1, a1.1.2.2.2.1, a1.1.2.2.2.2⟩ a3 ⟨by decide, by decide⟩ (fun k => by rw [tb_0]; exact ⟨fun z => (by cases z), fun z => (by omega)⟩)
        · have nm : ∀ q, q < 12 * spN (LL ρ) → ¬ met ρ τ2 q := by
            intro q hq hm
            obtain ⟨i1, i2⟩ := it_of hL h80 hq
            have := it_r i1.1 (i := ((spB (LL ρ) (q / 12) : Nat) : Int)) (j := ((spF (LL ρ) (q / 12) : Nat) : Int)) (by have := i1.2; omega)
            exact hm (a4 _ (by unfold itq; omega))
          refine r_meets hg hL h80 440 x1 x2 x3 τ2 _ h ⟨a1, by rw [a2]; exact ⟨by decide, by decide⟩⟩ (by have := cntB_le (unm ρ τ2) (12 * spN (LL ρ)); omega) (fun _ τ3 g m => h0 h (by omega) hy τ3 _ ⟨g.1.2, fun k => ⟨fun z => ?_, fun ⟨n, z⟩ => ?_⟩⟩)
          · rcases g.2.2.2.2 k z with y | y
            · rw [a2, tb_0] at y; cases y
            · exact y
          · exact met_all hg hL (fun q hq hm => (g.2.2.2.1 q hq hm).resolve_left (nm q hq)) n (itN_r hL h).1 m z
      | succ d ih =>
        intro x τ2 n hd hn a1 a2 a3 a4
        obtain ⟨n, rfl⟩ := suc_n hn
        unfold wp_X12_used_l49
        refine ⟨fun w => absurd w (by omega), fun _ => ⟨by omega, fun τ3 e3 v ev => ?_⟩⟩
        rw [ev, w32_of (by omega) (by omega), show (x : Int) + 1 = ((x + 1 : Nat) : Int) by omega]
        rw [show b_and 0 1 = 0 by decide, Int.toNat_natCast] at e3
        refine ih (x + 1) τ3 n (by omega) (by omega) (by rw [e3]; exact a1) (by rw [e3]; exact a2) (by rw [e3]; exact a3) (fun k hk => ?_)
        by_cases e : k = x
        · rw [e3, e, upS_s]
        · rw [e3, upS_j e]; exact a4 k (by omega)
    exact lp 768 0 τ9 bigN (by omega) (by unfold bigN; omega) (by rw [e9]; exact hA) (by rw [e9, upS_s]) (by rw [e9]; exact hV1.2.2.2.1.2.1) (fun k hk => by omega)
  · rw [if_neg h4]
    exact ⟨fun q => absurd rfl q, fun _ => hno (fun w => h4 w.2)⟩
/-! the op -/
theorem each_eq {ρ : St} (hg : Wg ρ) (hL : LL ρ < 9) (h80 : 0 ≤ ρ 0 8) {a i j x v : Int} (hI : isItm ρ a i j) (ht : hT ρ a i j) (hx : gR ρ 0 (itN ρ a i j) x) (hv : ecR ρ a i j v) : x = v := by
  have h1 := hI.1
  have h2 := hI.2
  have hij : i.toNat < j.toNat ∧ j.toNat ≤ LL ρ := ⟨by omega, by unfold LL; omega⟩
  have q := sp_a (L := LL ρ) hL hij
  have key : ∀ k : Nat, UQ ρ 0 k (itN ρ a i j) ↔ hT (gO ρ (k : Int)) a i j := by
    intro k
    unfold itN
    constructor
    · rintro ⟨n, hn⟩
      have := uq_gO hg hL h80 n q.1 (a := a.toNat) (by omega) hn
      rw [q.2.1, q.2.2, show ((a.toNat : Nat) : Int) = a by omega, show ((i.toNat : Nat) : Int) = i by omega, show ((j.toNat : Nat) : Int) = j by omega] at this
      exact this
    · rintro ⟨c, n, hn⟩
      exact gO_uq hg hL h80 n (a := a.toNat) (by omega) hij (by rw [show ((a.toNat : Nat) : Int) = a by omega, show ((i.toNat : Nat) : Int) = i by omega, show ((j.toNat : Nat) : Int) = j by omega]; exact hn)
  refine bt64_ext hx.1 (by have := hv.1; unfold P64 at this; unfold C64; omega) (fun k hk => ?_)
  rw [bt64_n hv.1]
  have hm := hx.2 k hk
  unfold mkB at hm
  rw [if_pos rfl, key k] at hm
  have e2 := hv.2 k
  by_cases hR : (k : Int) < ρ 0 4
  · cases e : tb v k with
    | true =>
      have := (e2.1 e).2
      cases e3 : bt64 x k with
      | true => rfl
      | false => exact absurd (hm.1 e3) this
    | false =>
      refine hm.2 (Classical.byContradiction (fun z => ?_))
      rw [e2.2 ⟨hR, z⟩] at e; cases e
  · have e : tb v k = false := by
      cases e : tb v k with
      | false => rfl
      | true => exact absurd (e2.1 e).1 hR
    rw [e]
    refine hm.2 ?_
    obtain ⟨c, n, hn⟩ := ht
    obtain ⟨c', hc'⟩ := tp_gen (g := ρ) (g1 := gO ρ (k : Int)) (J := jA) (J' := jA) (by rw [gO_k (by decide)]) (fun r hr => ⟨by rw [gO_k (by decide)], by rw [gO_k (by decide)], by rw [gO_k (by decide)], by
      unfold gO
      rw [if_neg (by omega), Int.toNat_natCast, upS_j (by omega)]⟩) (fun _ => by rw [gO_k (by decide)]) n hn
    exact ⟨c', n, hc'⟩
theorem some_eq {ρ : St} {q : Nat} {x v : Int} (hx : gR ρ 1 q x) (hv : smR ρ q v) : x = v := by
  refine bt64_ext hx.1 (by have := hv.1; unfold P64 at this; unfold C64; omega) (fun k hk => ?_)
  rw [bt64_n hv.1]
  have hm := hx.2 k hk
  unfold mkB at hm
  rw [if_neg (by decide)] at hm
  have := hm.trans (hv.2 k).symm
  cases e : bt64 x k <;> cases e2 : tb v k <;> simp_all
theorem full_hT {ρ : St} (hg : Wg ρ) (hL : LL ρ < 9) (h80 : 0 ≤ ρ 0 8) {q : Nat} (hq : q < 12 * spN (LL ρ)) {c : Cs} (hc : c ∈ cI ρ q) (hf : fullC ρ c) : hPt ρ ((q : Nat) : Int) := by
  have e : q = 12 * (q / 12) + q % 12 := by omega
  have hs : q / 12 < spN (LL ρ) := by omega
  have sp := sp_s hL hs
  rw [e] at hc ⊢
  rw [hPt_it (Nat.mod_lt _ (by decide))]
  obtain ⟨r, r1, r2, r3, r4, hh⟩ := cI_info (Nat.mod_lt _ (by decide)) hc
  have hp1 := (hg.2.2 r r1).2.1
  have hp2 := (hg.2.2 r r1).2.2.1
  rcases hh with ⟨h5, h6, h7, h8, h9⟩ | ⟨h5, m, h6, h7, h8, h9, h10, h11, h12⟩
  · obtain ⟨c1, t1⟩ := (hPt_pv hg hL hp1 (i := spB (LL ρ) (q / 12)) (j := spF (LL ρ) (q / 12)) (by omega)).1 ⟨h6, by rw [← h8]; exact hf.1⟩
    have := Te.single (J := jA) r1 r2 h5 t1
    rw [r3] at this
    exact ⟨_, this⟩
  · have hp2 := hp2.resolve_left h5
    obtain ⟨c1, t1⟩ := (hPt_pv hg hL hp1 (i := spB (LL ρ) (q / 12)) (j := m) (by omega)).1 ⟨h8, by rw [← h11]; exact hf.1⟩
    obtain ⟨c2, t2⟩ := (hPt_pv hg hL hp2 (i := m) (j := spF (LL ρ) (q / 12)) (by omega)).1 ⟨h9, by rw [← h12]; exact hf.2⟩
    have := Te.pair (J := jA) r1 r2 h5 (i := ((spB (LL ρ) (q / 12) : Nat) : Int)) (m := (m : Int)) (j := ((spF (LL ρ) (q / 12) : Nat) : Int)) (by omega) (by omega) t1 t2
    rw [r3] at this
    exact ⟨_, this⟩
def CcU (Cc : Bool → St → St → Prop) : Prop := (∀ b σ ρ, Cc b σ ρ → (σ 41 7 = 0 ∨ (σ 41 7 = 1 ∧ SmK ρ σ)) ∧ (σ 41 8 = 0 ∨ (σ 41 8 = 1 ∧ EcK ρ σ))) ∧ (∀ b σ σ1 ρ, Cc b σ ρ → Bt ρ σ1 → (σ1 36 7 = 1 ∧ Lw ρ σ1) → (σ1 41 7 = 0 ∨ (σ1 41 7 = 1 ∧ SmK ρ σ1)) → (σ1 41 8 = 0 ∨ (σ1 41 8 = 1 ∧ EcK ρ σ1)) → Fr S_X11_used σ σ1 → Cc b σ1 ρ)
section OPS
variable {Cc : Bool → St → St → Prop}
theorem s_used (hC : CcL Cc) (hB : CcB Cc) (hU : CcU Cc) : Step_used (Inv Cc) := by
  rintro b σ τ ⟨ρ, hW, hVC, hVR, hc⟩ x1 x2 x3 x4 c1 c2 c3 c4
  have hk := hC.kl hVC hc
  have hu := hU.1 b σ ρ hc
  have hg := hW.2.2.1
  have h80 := hW.2.2.2.2.1
  have hL : LL ρ < 9 := by have := hW.2.2.2.2.2.1; unfold LL; omega
  refine mf_X11_used (Q := fun r σ1 => (¬ (isItm ρ x1 x2 x3 ∧ 0 ≤ x4 ∧ x4 ≤ 1) ∧ r = -2 ∧ (σ1 = σ ∨ (Bt ρ σ1 ∧ Fr S_X0_build σ σ1))) ∨ ((isItm ρ x1 x2 x3 ∧ 0 ≤ x4 ∧ x4 ≤ 1) ∧ Bt ρ σ1 ∧ (σ1 36 7 = 1 ∧ Lw ρ σ1) ∧ (σ1 41 7 = 0 ∨ (σ1 41 7 = 1 ∧ SmK ρ σ1)) ∧ (σ1 41 8 = 0 ∨ (σ1 41 8 = 1 ∧ EcK ρ σ1)) ∧ ((x4 = 0 ∧ gR ρ 1 (itN ρ x1 x2 x3) r) ∨ (x4 = 1 ∧ ((¬ hT ρ x1 x2 x3 ∧ r = 0) ∨ (hT ρ x1 x2 x3 ∧ gR ρ 0 (itN ρ x1 x2 x3) r)))))) (fun r σ1 h f => ?_) Fr.rf (by
    unfold wp_X11_used
    refine c_itemOf hW hk.1 hk.2.1 hk.2.2.1 (fun h => ⟨fun _ => Or.inl ⟨fun w => h w.1, rfl, Or.inl rfl⟩, fun q => absurd (by decide) q⟩) (fun h σ1 hB1 f => ⟨fun q => absurd q (by omega), fun _ => ⟨fun w => Or.inl ⟨fun z => by omega, rfl, Or.inr ⟨hB1, f⟩⟩, fun w1 => ⟨fun w2 => ⟨fun w3 => ?_, fun w3 => ?_⟩, fun w => Or.inl ⟨fun z => by omega, rfl, Or.inr ⟨hB1, f⟩⟩⟩⟩⟩)
    · have e7 : σ1 41 7 = σ 41 7 := f.at rfl
      have e8 : σ1 41 8 = σ 41 8 := f.at rfl
      have e43 : σ1 43 = σ 43 := funext (fun j => f.at rfl)
      have e44 : σ1 44 = σ 44 := funext (fun j => f.at rfl)
      refine c_inEach hW (hk.bt hB1 f) (by unfold EcK; rw [e8, e44]; exact hu.2) (itN_r hL h).1 (fun σ2 v a1 a2 a3 a4 a5 f2 a6 => Or.inr ⟨⟨h, by omega, by omega⟩, a1, ⟨a2, a3⟩, ?_, Or.inr ⟨a4, a5⟩, Or.inr ⟨by omega, ?_⟩⟩)
      · have g7 : σ2 41 7 = σ1 41 7 := f2.at rfl
        have g43 : σ2 43 = σ1 43 := funext (fun j => f2.at rfl)
        unfold SmK; rw [g7, g43, e7, e43]; exact hu.1
      · rw [hPt_itN hL h] at a6
        rcases a6 with z | z
        · exact Or.inl z
        · exact Or.inr ⟨z.1, by rw [z.2]; exact a5 _ (itN_r hL h).1⟩
    · have e7 : σ1 41 7 = σ 41 7 := f.at rfl
      have e8 : σ1 41 8 = σ 41 8 := f.at rfl
      have e43 : σ1 43 = σ 43 := funext (fun j => f.at rfl)
      have e44 : σ1 44 = σ 44 := funext (fun j => f.at rfl)
      refine c_inSome hW (hk.bt hB1 f) (by unfold SmK; rw [e7, e43]; exact hu.1) (itN_r hL h).2 (fun σ2 a1 a2 a3 a4 a5 f2 => Or.inr ⟨⟨h, by omega, by omega⟩, a1, ⟨a2, a3⟩, Or.inr ⟨a4, a5⟩, ?_, Or.inl ⟨by omega, a5 _ (itN_r hL h).1⟩⟩)
      have g8 : σ2 41 8 = σ1 41 8 := f2.at rfl
      have g44 : σ2 44 = σ1 44 := funext (fun j => f2.at rfl)
      unfold EcK; rw [g8, g44, e8, e44]; exact hu.2)
  refine mf_X12_used (Q := fun r _ => (¬ (isItm ρ x1 x2 x3 ∧ 0 ≤ x4 ∧ x4 ≤ 1) ∧ r = -2) ∨ ((isItm ρ x1 x2 x3 ∧ 0 ≤ x4 ∧ x4 ≤ 1) ∧ ((¬ hT ρ x1 x2 x3 ∧ r = 0) ∨ (x4 = 0 ∧ hT ρ x1 x2 x3 ∧ smR ρ (itN ρ x1 x2 x3) r) ∨ (x4 = 1 ∧ hT ρ x1 x2 x3 ∧ ecR ρ x1 x2 x3 r)))) (fun r1 τ1 h1 f1 => ?_) Fr.rf (r_used hW hVR (fun h => Or.inl ⟨h, rfl⟩) (fun h h4 hn τ1 => Or.inr ⟨⟨h, h4⟩, Or.inl ⟨hn, rfl⟩⟩) (fun h h4 hy τ1 v hv => Or.inr ⟨⟨h, by omega, by omega⟩, Or.inr (Or.inl ⟨h4, hy, hv⟩)⟩) (fun h h4 hy τ1 v hv => Or.inr ⟨⟨h, by omega, by omega⟩, Or.inr (Or.inr ⟨h4, hy, hv⟩)⟩))
  have hR : VR τ1 ρ := VR.frB f1 (by decide) hVR
  have hS : VC σ1 ρ := VC.frB f (by decide) hVC
  rcases h with ⟨g0, rfl, g1⟩ | ⟨g0, g1, g2, g3, g4, g5⟩
  · rcases h1 with ⟨k0, rfl⟩ | ⟨k0, -⟩
    · refine ⟨rfl, ρ, hW, hS, hR, ?_⟩
      rcases g1 with e | e
      · rw [e]; exact hc
      · exact hB b σ σ1 ρ hc e.1 (Fr.rf.tr e.2 (mkS_sub (by decide) (by decide)))
    · exact absurd k0 g0
  · rcases h1 with ⟨k0, -⟩ | ⟨k0, k1⟩
    · exact absurd g0 k0
    · refine ⟨?_, ρ, hW, hS, hR, hU.2 b σ σ1 ρ hc g1 g2 g3 g4 f⟩
      rcases g5 with ⟨z1, z2⟩ | ⟨z1, z2⟩
      · rcases k1 with ⟨y1, y2⟩ | ⟨y1, y2, y3⟩ | ⟨y1, -⟩
        · have no : smR ρ (itN ρ x1 x2 x3) 0 := by
            refine ⟨⟨by decide, by decide⟩, fun k => ?_⟩
            rw [tb_0]
            refine ⟨fun w => (by cases w), fun w => absurd ?_ y1⟩
            obtain ⟨c, hcm, hf, -⟩ := w.out
            obtain ⟨i1, i2⟩ := it_of hL h80 (itN_r hL g0.1).1
            have e12 : itN ρ x1 x2 x3 = 12 * (itN ρ x1 x2 x3 / 12) + itN ρ x1 x2 x3 % 12 := by omega
            exact (hPt_itN hL g0.1).1 (full_hT hg hL h80 (itN_r hL g0.1).1 hcm hf)
          rw [y2]; exact some_eq z2 no
        · exact some_eq z2 y3
        · omega
      · rcases k1 with ⟨y1, y2⟩ | ⟨y1, -⟩ | ⟨y1, y2, y3⟩
        · rcases z2 with ⟨w1, w2⟩ | ⟨w1, -⟩
          · rw [w2, y2]
          · exact absurd w1 y1
        · omega
        · rcases z2 with ⟨w1, -⟩ | ⟨w1, w2⟩
          · exact absurd y2 w1
          · exact each_eq hg hL h80 g0.1 y2 w2 y3
end OPS
