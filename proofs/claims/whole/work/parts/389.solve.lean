/-! sums: a span is solved; the class's -/
noncomputable def eqMt (ρ : St) (s : Nat) (R : RsT) (t : Nat) : Mx := fun k => sumN (fun a => ix (hsB ρ s a = true ∧ rwN ρ s a = k / 13) * ent ρ s R a (k % 13) (cI ρ (12 * s + a))) t
theorem eqMt_z {ρ : St} {s : Nat} {R : RsT} {t k : Nat} (h : ∀ a, a < t → hsB ρ s a = true → rwN ρ s a ≠ k / 13) : eqMt ρ s R t k = 0 := by
  unfold eqMt
  exact sumN_none (fun a ha => by rw [ix_n (fun z => h a ha z.1 z.2), Int.zero_mul])
theorem eqMt_y {ρ : St} {s : Nat} {R : RsT} {t : Nat} (h : hsB ρ s t = true) : eqMt ρ s R (t + 1) = setR (rwN ρ s t) (fun j => ent ρ s R t j (cI ρ (12 * s + t))) (eqMt ρ s R t) := by
  refine funext (fun k => ?_)
  unfold setR
  by_cases z : k / 13 = rwN ρ s t
  · rw [if_pos z]
    have e0 : eqMt ρ s R t k = 0 := eqMt_z (fun a ha hh e => by have := rw_inj hh h (by omega); omega)
    show eqMt ρ s R t k + ix _ * _ = _
    rw [e0, ix_y ⟨h, z.symm⟩, Int.one_mul, Int.zero_add]
  · rw [if_neg z]
    show eqMt ρ s R t k + ix _ * _ = _
    rw [ix_n (fun w => z w.2.symm), Int.zero_mul, Int.add_zero]
theorem eqMt_n {ρ : St} {s : Nat} {R : RsT} {t : Nat} (h : ¬ hsB ρ s t = true) : eqMt ρ s R (t + 1) = eqMt ρ s R t := by
  refine funext (fun k => ?_)
  show eqMt ρ s R t k + ix _ * _ = _
  rw [ix_n (fun w => h w.1), Int.zero_mul, Int.add_zero]
theorem eqMt_ok {ρ : St} {s : Nat} {R : RsT} : ∀ t, mOK (eqMt ρ s R t)
  | 0 => fun k _ => by show mR 0; unfold mR; omega
  | t + 1 => by
    by_cases h : hsB ρ s t = true
    · rw [eqMt_y h]; exact setR_ok (fun j => ent_r) (eqMt_ok t)
    · rw [eqMt_n h]; exact eqMt_ok t
def bdP (ρ : St) (s : Nat) (R : RsT) (t : Nat) : Prop := ∃ a, a < t ∧ hsB ρ s a = true ∧ ∃ k ∈ cI ρ (12 * s + a), fullC ρ k ∧ ¬ goC k ∧ badK R k
noncomputable def elS (ρ : St) (s : Nat) (R : RsT) : Bool × Mx := elF (rwN ρ s 12) (rwN ρ s 12) 0 (eqMt ρ s R 12)
def flP (ρ : St) (s : Nat) (R : RsT) : Prop := bdP ρ s R 12 ∨ (elS ρ s R).1 = false
noncomputable def RS (ρ : St) : Nat → RsT
  | 0 => (fun _ => false, fun _ => 0)
  | s + 1 => (fun t => if t = s then @decide (flP ρ s (RS ρ s)) (Classical.propDecidable _) else (RS ρ s).1 t, fun q => if q / 12 = s then (elS ρ s (RS ρ s)).2 (13 * rwN ρ s (q % 12) + 12) else (RS ρ s).2 q)
theorem RS_f {ρ : St} {s : Nat} : (RS ρ (s + 1)).1 s = true ↔ flP ρ s (RS ρ s) := by
  show (if s = s then _ else _) = true ↔ _
  rw [if_pos rfl]
  exact @decide_eq_true_iff _ (Classical.propDecidable _)
theorem RS_o {ρ : St} {s t : Nat} (h : t ≠ s) : (RS ρ (s + 1)).1 t = (RS ρ s).1 t := by
  show (if t = s then _ else _) = _
  rw [if_neg h]
theorem RS_v {ρ : St} {s a : Nat} (ha : a < 12) : (RS ρ (s + 1)).2 (12 * s + a) = (elS ρ s (RS ρ s)).2 (13 * rwN ρ s a + 12) := by
  show (if (12 * s + a) / 12 = s then _ else _) = _
  rw [if_pos (by omega), show (12 * s + a) % 12 = a by omega]
theorem RS_w {ρ : St} {s q : Nat} (h : q / 12 ≠ s) : (RS ρ (s + 1)).2 q = (RS ρ s).2 q := by
  show (if q / 12 = s then _ else _) = _
  rw [if_neg h]
theorem elF_ok {u : Nat} (hu : u ≤ 12) : ∀ (d c : Nat) (m : Mx), c + d = u → mOK m → mOK (elF u d c m).2
  | 0, c, m, _, h => h
  | d + 1, c, m, hc, h => by
    unfold elF
    by_cases z : fpv m u c (u - c) c < u
    · rw [if_pos z]; exact elF_ok hu d (c + 1) _ (by omega) (stM_ok (by omega) (by omega) h)
    · rw [if_neg z]; exact h
/-- what the class knows of the first spans -/
def SuK (ρ σ : St) (n : Nat) : Prop := ∀ s, s < n → σ 47 s = (if (RS ρ n).1 s then 1 else 0) ∧ ((RS ρ n).1 s = false → ∀ a, a < 12 → hsB ρ s a = true → σ 46 (12 * s + a) = (RS ρ n).2 (12 * s + a) ∧ mR ((RS ρ n).2 (12 * s + a)))
theorem c_hasS {ρ σ : St} (hg : Wg ρ) (hL : LL ρ < 9) (hw : Lw ρ σ) {s a : Nat} (hs : s < spN (LL ρ)) (ha : a < 12) {x : Int} (hx : x = ((12 * s + a : Nat) : Int)) {Q : Int → St → Prop} (hno : ¬ hsB ρ s a = true → Q 0 σ) (hyes : hsB ρ s a = true → Q 1 σ) : wp_X1_has x σ Q := by
  rw [hx]
  exact c_hasI hg hL hw (by omega) (fun h => hno (fun z => h (hsB_iff.1 z))) (fun h => hyes (hsB_iff.2 h))
theorem c_so148 {ρ : St} (hg : Wg ρ) (hL : LL ρ < 9) {s : Nat} (hs : s < spN (LL ρ)) {m : Mx} {x4 : Int} {σ0 : St} (hB : BL ρ σ0) (h49 : ∀ b, b < 12 → σ0 49 b = ((rwN ρ s b : Nat) : Int)) (hM : x4 ≠ 0 → Mat 48 σ0 m) {Q : Int → St → Prop} (hq : ∀ σ1, (∀ k, k ≠ 46 → σ1 k = σ0 k) → (∀ j, j / 12 ≠ s → σ1 46 j = σ0 46 j) → (x4 ≠ 0 → ∀ b, b < 12 → hsB ρ s b = true → σ1 46 (12 * s + b) = m (13 * rwN ρ s b + 12)) → Q 0 σ1) : ∀ (d a : Nat) (σ : St) (n : Nat), a + d = 12 → d < n → (∀ k, k ≠ 46 → σ k = σ0 k) → (∀ j, j / 12 ≠ s → σ 46 j = σ0 46 j) → (x4 ≠ 0 → ∀ b, b < a → hsB ρ s b = true → σ 46 (12 * s + b) = m (13 * rwN ρ s b + 12)) → wp_X7_solveSpan_l148 Q n ((12 * s : Nat) : Int) x4 (a : Int) σ := by
  have h3 := sp_3 _ hL
  intro d
  induction d with
  | zero =>
    intro a σ n hd hn h1 h2 h4
    obtain ⟨n, rfl⟩ := suc_n hn
    unfold wp_X7_solveSpan_l148
    rw [show a = 12 by omega] at h4 ⊢
    exact ⟨fun _ => hq σ h1 h2 h4, fun w => absurd (by decide) w⟩
  | succ d ih =>
    intro a σ n hd hn h1 h2 h4
    obtain ⟨n, rfl⟩ := suc_n hn
    have ha : a < 12 := by omega
    have hB1 : BL ρ σ := hB.low (fun k hk => h1 k (by omega))
    have rw12 := rw_12 (ρ := ρ) (s := s) (a := a)
    have nx : ∀ v, (x4 ≠ 0 → hsB ρ s a = true → v = m (13 * rwN ρ s a + 12)) → wp_X7_solveSpan_b216 Q (wp_X7_solveSpan_l148 Q n) ((12 * s : Nat) : Int) x4 (a : Int) v (w32 (((12 * s : Nat) : Int) + (a : Int))) σ := by
      intro v hv
      unfold wp_X7_solveSpan_b216
      rw [w32_of (x := ((12 * s : Nat) : Int) + (a : Int)) (by omega) (by omega), show (((12 * s : Nat) : Int) + (a : Int)).toNat = 12 * s + a by omega]
      refine ⟨by omega, fun σ2 e2 v2 ev2 => ?_⟩
      rw [ev2, w32_of (by omega) (by omega), e2]
      refine ih (a + 1) _ n (by omega) (by omega) (fun k hk => by rw [upS_k hk]; exact h1 k hk) (fun j hj => by rw [upS_j (by omega)]; exact h2 j hj) (fun hx b hb hh => ?_)
      by_cases e : b = a
      · subst e; rw [upS_s]; exact hv hx hh
      · rw [upS_j (by omega)]; exact h4 hx b (by omega) hh
    unfold wp_X7_solveSpan_l148 wp_X7_solveSpan_b178 wp_X7_solveSpan_b179
    refine ⟨fun w => absurd w (by omega), fun _ => ⟨fun z => ⟨fun _ => nx 0 (fun w => absurd z w), fun w => absurd rfl w⟩, fun z => ?_⟩⟩
    rw [w32_of (x := ((12 * s : Nat) : Int) + (a : Int)) (by omega) (by omega)] at nx ⊢
    refine c_hasS hg hL hB1.2.2 hs ha (by omega) (fun hh => ⟨fun _ => ⟨fun _ => nx 0 (fun _ w => absurd w hh), fun w => absurd rfl w⟩, fun w => absurd rfl w⟩) (fun hh => ⟨fun w => absurd w (by decide), fun _ => ⟨fun w => absurd w (by decide), fun _ => ⟨by omega, ?_⟩⟩⟩)
    rw [Int.toNat_natCast, h1 49 (by decide), h49 a ha, h1 48 (by decide)]
    have := ixC (a := rwN ρ s a) (t := 12) (by omega) (by decide)
    rw [show ((12 : Nat) : Int) = 12 from rfl] at this
    rw [this, Int.toNat_natCast, hM z (13 * rwN ρ s a + 12) (by omega)]
    exact ⟨by omega, nx _ (fun _ _ => rfl)⟩
theorem c_so62 {ρ : St} (hg : Wg ρ) (hL : LL ρ < 9) {s : Nat} (hs : s < spN (LL ρ)) {R : RsT} {σ0 : St} (hB : BL ρ σ0) (h49 : ∀ b, b < 12 → σ0 49 b = ((rwN ρ s b : Nat) : Int)) (hP : ∀ a, a < 12 → ∀ k ∈ cI ρ (12 * s + a), fullC ρ k → ¬ goC k → ptK R σ0 k.2.2.1 ∧ ptK R σ0 k.2.2.2) {Q : Int → St → Prop} (hq : ∀ σ1, (∀ k, k ≠ 46 → k ≠ 47 → k ≠ 48 → σ1 k = σ0 k) → (∀ j, j ≠ s → σ1 47 j = σ0 47 j) → (∀ j, j / 12 ≠ s → σ1 46 j = σ0 46 j) → ((flP ρ s R ∧ σ1 47 s = 1) ∨ (¬ flP ρ s R ∧ σ1 47 s = 0 ∧ ∀ b, b < 12 → hsB ρ s b = true → σ1 46 (12 * s + b) = (elS ρ s R).2 (13 * rwN ρ s b + 12))) → Q 0 σ1) : ∀ (d a : Nat) (x4 : Int) (m : Mx) (σ : St) (n : Nat), a + d = 12 → d < n → (∀ k, k ≠ 48 → σ k = σ0 k) → mOK m → Mat 48 σ m → (∀ b, a ≤ b → hsB ρ s b = true → ∀ j, j < 13 → m (13 * rwN ρ s b + j) = 0) → ((x4 = 1 ∧ ¬ bdP ρ s R a ∧ m = eqMt ρ s R a) ∨ (x4 = 0 ∧ bdP ρ s R a)) → wp_X7_solveSpan_l62 Q n (s : Int) ((12 * s : Nat) : Int) ((rwN ρ s 12 : Nat) : Int) x4 (a : Int) σ := by
  have h3 := sp_3 _ hL
  intro d
  induction d with
  | zero =>
    intro a x4 m σ n hd hn hE hm hM hz hx
    obtain ⟨n, rfl⟩ := suc_n hn
    have e12 : a = 12 := by omega
    rw [e12] at hx ⊢
    have hB1 : BL ρ σ := hB.low (fun k hk => hE k (by omega))
    have b126 : ∀ σ2, (∀ k, k ≠ 48 → σ2 k = σ0 k) → flP ρ s R → wp_X7_solveSpan_b126 Q (s : Int) ((12 * s : Nat) : Int) σ2 := by
      intro σ2 g1 hf
      unfold wp_X7_solveSpan_b126 wp_X7_solveSpan_b127 wp_X7_solveSpan_b144
      refine ⟨fun w => absurd rfl w, fun _ => ⟨by omega, fun σ3 e3 => ?_⟩⟩
      rw [Int.toNat_natCast, show b_and 1 1 = 1 by decide] at e3
      have E3 : ∀ k, k ≠ 47 → k ≠ 48 → σ3 k = σ0 k := fun k h1 h2 => by rw [e3, upS_k h1]; exact g1 k h2
      refine c_so148 hg hL hs (m := m) (x4 := 0) (σ0 := σ3) (hB.low (fun k hk => E3 k (by omega) (by omega))) (by rw [E3 49 (by decide) (by decide)]; exact h49) (fun w => absurd rfl w) (fun σ4 f1 f2 _ => hq σ4 (fun k k1 k2 k3 => by rw [f1 k k1]; exact E3 k k2 k3) (fun j hj => ?_) (fun j hj => by rw [f2 j hj, E3 46 (by decide) (by decide)]) (Or.inl ⟨hf, ?_⟩)) 12 0 σ3 bigN (by omega) (by unfold bigN; omega) (fun _ _ => rfl) (fun _ _ => rfl) (fun w => absurd rfl w)
      · rw [f1 47 (by decide), e3, upS_j hj, g1 47 (by decide)]
      · rw [f1 47 (by decide), e3, upS_s]
    unfold wp_X7_solveSpan_l62
    refine ⟨fun _ => ⟨fun z => ?_, fun z => ?_⟩, fun w => absurd (by decide) w⟩
    · rcases hx with ⟨x1, -, -⟩ | ⟨-, x2⟩
      · omega
      · exact b126 σ hE (Or.inl x2)
    · rcases hx with ⟨x1, x2, x3⟩ | ⟨x1, -⟩
      · have hu : rwN ρ s 12 ≤ 12 := rw_12
        subst x3
        refine mf_X7_eliminate (σ0 := σ) (Q := fun r σ1 => Mat 48 σ1 (elS ρ s R).2 ∧ r = (if (elS ρ s R).1 then 1 else 0)) (fun r σ1 g f => ?_) Fr.rf (by
          unfold wp_X7_eliminate
          exact c_eliminate hu (rwN ρ s 12) 0 _ σ bigN (by omega) (by unfold bigN; omega) hm hM (fun σ1 g => ⟨g, rfl⟩))
        obtain ⟨g1, g2⟩ := g
        have E1 : ∀ k, k ≠ 48 → σ1 k = σ0 k := fun k hk => by
          rw [← hE k hk]
          exact funext (fun j => f.at (by show (([48] : List Nat).contains k || ([] : List (Nat × Nat)).contains (k, j)) = false; simp [hk]))
        refine ⟨fun z => b126 σ1 E1 (Or.inr ?_), fun z => ?_⟩
        · cases w : (elS ρ s R).1 with
          | false => rfl
          | true => rw [w, if_pos rfl] at g2; omega
        · have et : (elS ρ s R).1 = true := by
            cases w : (elS ρ s R).1 with
            | true => rfl
            | false => rw [w] at g2; exact absurd g2 z
          unfold wp_X7_solveSpan_b127 wp_X7_solveSpan_b144
          refine ⟨fun _ => ⟨by omega, fun σ3 e3 => ?_⟩, fun w => absurd (by decide) w⟩
          rw [Int.toNat_natCast, show b_and 0 1 = 0 by decide] at e3
          have E3 : ∀ k, k ≠ 47 → k ≠ 48 → σ3 k = σ0 k := fun k h1 h2 => by rw [e3, upS_k h1]; exact E1 k h2
          refine c_so148 hg hL hs (m := (elS ρ s R).2) (x4 := 1) (σ0 := σ3) (hB.low (fun k hk => E3 k (by omega) (by omega))) (by rw [E3 49 (by decide) (by decide)]; exact h49) (fun _ => by rw [e3]; exact g1) (fun σ4 f1 f2 f3 => hq σ4 (fun k k1 k2 k3 => by rw [f1 k k1]; exact E3 k k2 k3) (fun j hj => ?_) (fun j hj => by rw [f2 j hj, E3 46 (by decide) (by decide)]) (Or.inr ⟨?_, ?_, f3 (by decide)⟩)) 12 0 σ3 bigN (by omega) (by unfold bigN; omega) (fun _ _ => rfl) (fun _ _ => rfl) (fun _ b hb => by omega)
          · rw [f1 47 (by decide), e3, upS_j hj, E1 47 (by decide)]
          · rintro (w | w)
            · exact x2 w
            · rw [et] at w; cases w
          · rw [f1 47 (by decide), e3, upS_s]
      · exact absurd x1 z
  | succ d ih =>
    intro a x4 m σ n hd hn hE hm hM hz hx
    obtain ⟨n, rfl⟩ := suc_n hn
    have ha : a < 12 := by omega
    have hB1 : BL ρ σ := hB.low (fun k hk => hE k (by omega))
    have e49 : σ 49 = σ0 49 := hE 49 (by decide)
    have nx : ∀ y m1 σ2, (∀ k, k ≠ 48 → σ2 k = σ0 k) → mOK m1 → Mat 48 σ2 m1 → (∀ b, a + 1 ≤ b → hsB ρ s b = true → ∀ j, j < 13 → m1 (13 * rwN ρ s b + j) = 0) → ((y = 1 ∧ ¬ bdP ρ s R (a + 1) ∧ m1 = eqMt ρ s R (a + 1)) ∨ (y = 0 ∧ bdP ρ s R (a + 1))) → wp_X7_solveSpan_b103 Q (wp_X7_solveSpan_l62 Q n) (s : Int) ((12 * s : Nat) : Int) ((rwN ρ s 12 : Nat) : Int) y (a : Int) σ2 := by
      intro y m1 σ2 g1 g2 g3 g4 g5
      unfold wp_X7_solveSpan_b103
      intro v ev
      rw [ev, w32_of (by omega) (by omega)]
      exact ih (a + 1) y m1 σ2 n (by omega) (by omega) g1 g2 g3 g4 g5
    have bup : bdP ρ s R a → bdP ρ s R (a + 1) := fun ⟨b, b1, b2⟩ => ⟨b, by omega, b2⟩
    unfold wp_X7_solveSpan_l62
    rw [w32_of (x := ((12 * s : Nat) : Int) + (a : Int)) (by omega) (by omega)]
    refine ⟨fun w => absurd w (by omega), fun _ => c_hasS hg hL hB1.2.2 hs ha (by omega) (fun hh => ⟨fun _ => nx x4 m σ hE hm hM (fun b hb => hz b (by omega)) ?_, fun w => absurd rfl w⟩) (fun hh => ⟨fun w => absurd w (by decide), fun _ => ⟨by omega, ?_⟩⟩)⟩
    · rcases hx with ⟨x1, x2, x3⟩ | ⟨x1, x2⟩
      · refine Or.inl ⟨x1, fun ⟨b, b1, b2, b3⟩ => ?_, by rw [x3, eqMt_n hh]⟩
        by_cases e : b = a
        · subst e; exact hh b2
        · exact x2 ⟨b, by omega, b2, b3⟩
      · exact Or.inr ⟨x1, bup x2⟩
    · rw [Int.toNat_natCast, e49, h49 a ha, show ((12 * s : Nat) : Int) + (a : Int) = ((12 * s + a : Nat) : Int) by omega]
      refine c_setEq hg hL hB1 (R := R) hs ha hh (by rw [e49]; exact h49) (fun k hk hf hgo => ?_) hm (hz a (Nat.le_refl _) hh) hM (fun σ2 m1 b1 b2 b3 b4 b5 v ev => ?_) (fun σ2 b1 b2 b3 v ev => ?_)
      · have := hP a ha k hk hf hgo
        unfold ptK at *
        rw [hE 46 (by decide), hE 47 (by decide)]; exact this
      · have hv : v = 0 := by
          rcases hx with ⟨x1, -⟩ | ⟨x1, -⟩
          · rw [ev, x1]; decide
          · rw [ev, x1]; decide
        refine nx v m1 σ2 (fun k hk => by rw [b2 k hk]; exact hE k hk) b3 b4 (fun b hb hb2 j hj => ?_) (Or.inr ⟨hv, a, by omega, hh, b1⟩)
        have := rw_lt hh (show a < b by omega)
        rw [b5 _ (by omega)]; exact hz b (by omega) hb2 j hj
      · refine nx v _ σ2 (fun k hk => by rw [b2 k hk]; exact hE k hk) (setR_ok (fun j => ent_r) hm) b3 (fun b hb hb2 j hj => ?_) ?_
        · have := rw_lt hh (show a < b by omega)
          unfold setR
          rw [if_neg (by omega)]; exact hz b (by omega) hb2 j hj
        · rcases hx with ⟨x1, x2, x3⟩ | ⟨x1, x2⟩
          · refine Or.inl ⟨by rw [ev, x1]; decide, fun ⟨b, c1, c2, k, c3, c4, c5, c6⟩ => ?_, by rw [x3, eqMt_y hh]⟩
            by_cases e : b = a
            · subst e; exact b1 k c3 c4 c5 c6
            · exact x2 ⟨b, by omega, c2, k, c3, c4, c5, c6⟩
          · exact Or.inr ⟨by rw [ev, x1]; decide, bup x2⟩
