def TS37 (ρ : St) (y o : Int) (s : Nat) (σ0 σ : St) (b : Int) : Prop := Bt ρ σ ∧ (∀ x : Nat, (∀ a, a < 12 → x ≠ 12 * s + a) → σ 37 x = σ0 37 x) ∧ (∀ a : Nat, a < 12 → σ 37 (12 * s + a) = -1 ∨ (0 ≤ σ 37 (12 * s + a) ∧ σ 37 (12 * s + a) ≤ b ∧ Te (gO ρ o) (jY y) (a : Int) (spB (LL ρ) s : Nat) (spF (LL ρ) s : Nat) (σ 37 (12 * s + a))))
theorem TS37.put {ρ : St} {y o : Int} {s : Nat} {σ0 σ : St} {b b1 : Int} (h : TS37 ρ y o s σ0 σ b) (hb : b ≤ b1) {a : Nat} (ha : a < 12) {v : Int} (hv : v = -1 ∨ (0 ≤ v ∧ v ≤ b1 ∧ Te (gO ρ o) (jY y) (a : Int) (spB (LL ρ) s : Nat) (spF (LL ρ) s : Nat) v)) : TS37 ρ y o s σ0 (upS σ 37 (12 * s + a) v) b1 := by
  obtain ⟨h1, h2, h3⟩ := h
  refine ⟨h1, fun x hx => ?_, fun c hc => ?_⟩
  · rw [upS_j (hx a ha)]; exact h2 x hx
  · by_cases e : c = a
    · subst e; rw [upS_s]; exact hv
    · rw [upS_j (by omega)]
      rcases h3 c hc with q | ⟨q1, q2, q3⟩
      · exact Or.inl q
      · exact Or.inr ⟨q1, by omega, q3⟩
theorem TS37.up {ρ : St} {y o : Int} {s : Nat} {σ0 σ : St} {b b1 : Int} (h : TS37 ρ y o s σ0 σ b) (hb : b ≤ b1) : TS37 ρ y o s σ0 σ b1 := by
  obtain ⟨h1, h2, h3⟩ := h
  refine ⟨h1, h2, fun c hc => ?_⟩
  rcases h3 c hc with q | ⟨q1, q2, q3⟩
  · exact Or.inl q
  · exact Or.inr ⟨q1, by omega, q3⟩
theorem c_rx37 {ρ : St} (hg : Wg ρ) (hL : LL ρ < 9) {y o : Int} {s : Nat} (hs : s < spN (LL ρ)) {σ0 σs : St} {B : Int} (hB : 0 ≤ B ∧ B ≤ 10000000) {Q : Int → St → Prop} (hq : ∀ σ1 f1, TS37 ρ y o s σ0 σ1 (B + 3960) → (f1 = 0 ∨ f1 = 1) → (∀ a, a < 12 → vF (σ1 37 (12 * s + a)) ≤ vF (σs 37 (12 * s + a))) → (f1 = 0 → ∀ a, a < 12 → σ1 37 (12 * s + a) = σs 37 (12 * s + a)) → (∀ r ∈ uyL ρ 12, (r : Int) ≠ o → ∀ c1, vF (σs 37 (12 * s + (ρ 4 r).toNat)) ≤ c1 → vF (σ1 37 (12 * s + (ρ 3 r).toNat)) ≤ jY y (ρ 6 r) c1) → Q f1 σ1) : ∀ (d t : Nat) (σ : St) (f : Int) (n : Nat), t + d = (uyL ρ 12).length → d < n → TS37 ρ y o s σ0 σ (B + 99 * t) → (f = 0 ∨ f = 1) → (∀ a, a < 12 → vF (σ 37 (12 * s + a)) ≤ vF (σs 37 (12 * s + a))) → (f = 0 → ∀ a, a < 12 → σ 37 (12 * s + a) = σs 37 (12 * s + a)) → (∀ (t' : Nat) (h : t' < (uyL ρ 12).length), t' < t → (((uyL ρ 12)[t'] : Nat) : Int) ≠ o → ∀ c1, vF (σs 37 (12 * s + (ρ 4 (uyL ρ 12)[t']).toNat)) ≤ c1 → vF (σ 37 (12 * s + (ρ 3 (uyL ρ 12)[t']).toNat)) ≤ jY y (ρ 6 (uyL ρ 12)[t']) c1) → wp_X1_relax_c37_l6 Q n ((12 * s : Nat) : Int) o y f (t : Int) σ := by
  intro d
  have q3 := sp_3 _ hL
  have hn0 := hg.1
  have hn4 := hg.2.1
  have hul : (uyL ρ 12).length ≤ 40 := Nat.le_trans (uyL_le 12) (liL_40 hg)
  have hJ := jokY y
  induction d with
  | zero =>
    intro t σ f n hd hn hT hf hle h0 hc
    obtain ⟨n, rfl⟩ := suc_n hn
    unfold wp_X1_relax_c37_l6
    rw [hT.1.1.2.2.1.2.2.2.1]
    refine ⟨fun _ => ⟨hf, hq σ f (hT.up (by omega)) hf hle h0 (fun r hr hro c1 hc1 => ?_)⟩, fun h => absurd h (by omega)⟩
    obtain ⟨t', ht', e⟩ := List.getElem_of_mem hr
    subst e
    exact hc t' ht' (by omega) hro c1 hc1
  | succ d ih =>
    intro t σ f n hd hn hT hf hle h0 hc
    obtain ⟨n, rfl⟩ := suc_n hn
    have ht : t < (uyL ρ 12).length := by omega
    have e12 := hT.1.1.2.2.1.2.2.2.1
    have e33 : σ 33 t = (((uyL ρ 12)[t] : Nat) : Int) := hT.1.1.2.2.1.2.2.2.2 t ht
    have hm := List.getElem_mem ht
    have nx0 : ∀ (σ1 : St) (f1 : Int), TS37 ρ y o s σ0 σ1 (B + 99 * ((t + 1 : Nat) : Int)) → (f1 = 0 ∨ f1 = 1) → (∀ a, a < 12 → vF (σ1 37 (12 * s + a)) ≤ vF (σ 37 (12 * s + a))) → (f1 = 0 → f = 0 ∧ ∀ a, a < 12 → σ1 37 (12 * s + a) = σ 37 (12 * s + a)) → ((((uyL ρ 12)[t] : Nat) : Int) ≠ o → ∀ c1, vF (σs 37 (12 * s + (ρ 4 (uyL ρ 12)[t]).toNat)) ≤ c1 → vF (σ1 37 (12 * s + (ρ 3 (uyL ρ 12)[t]).toNat)) ≤ jY y (ρ 6 (uyL ρ 12)[t]) c1) → ∀ v : Int, v = w32 ((t : Int) + 1) → wp_X1_relax_c37_l6 Q n ((12 * s : Nat) : Int) o y f1 v σ1 := by
      intro σ1 f1 hT1 hf1 hle1 h01 hc1 v ev
      rw [ev, w32_of (by omega) (by omega), show (t : Int) + 1 = ((t + 1 : Nat) : Int) by omega]
      refine ih (t + 1) σ1 f1 n (by omega) (by omega) hT1 hf1 (fun a ha => Int.le_trans (hle1 a ha) (hle a ha)) (fun hf a ha => by rw [(h01 hf).2 a ha, h0 (h01 hf).1 a ha]) (fun t' ht' hlt hro c1 hcc => ?_)
      by_cases e : t' = t
      · subst e; exact hc1 hro c1 hcc
      · have hr3 := (mem_uyL 12).1 (List.getElem_mem ht')
        have hh := w_head hg (r := (uyL ρ 12)[t']) (by omega)
        exact Int.le_trans (hle1 _ (by omega)) (hc t' ht' (by omega) hro c1 hcc)
    generalize (uyL ρ 12)[t] = r at *
    rw [mem_uyL] at hm
    obtain ⟨hr, a', ha', hin⟩ := hm
    rw [Bool.and_eq_true] at hin
    obtain ⟨hin, hun⟩ := hin
    unfold inA at hin
    unfold unR at hun
    rw [Bool.and_eq_true, decide_eq_true_iff, decide_eq_true_iff] at hin hun
    have hr4 : (r : Int) < ρ 0 4 := by omega
    obtain ⟨hh, hp1, -, hpr, -⟩ := hg.2.2 r hr4
    unfold isPart at hp1
    obtain ⟨k1, k2, k3, k4, k5, k6⟩ := hT.1.1.2.2.1.1.2 r hr4
    unfold wp_X1_relax_c37_l6 wp_X1_relax_c37_b113 wp_X1_relax_c37_b122
    rw [e12, Int.toNat_natCast, e33]
    refine ⟨fun h => absurd h (by omega), fun _ => ⟨by omega, fun v1 e1 => ?_⟩⟩
    subst e1
    rw [Int.toNat_natCast, k1, k2, k4]
    have x1 : w32 (((12 * s : Nat) : Int) + ρ 4 r) = ((12 * s + (ρ 4 r).toNat : Nat) : Int) := by rw [w32_of (by omega) (by omega)]; push_cast; omega
    have x2 : w32 (((12 * s : Nat) : Int) + ρ 3 r) = ((12 * s + (ρ 3 r).toNat : Nat) : Int) := by rw [w32_of (by omega) (by omega)]; push_cast; omega
    rw [x1, x2, Int.toNat_natCast]
    refine ⟨by omega, by omega, fun v2 e2 => ⟨by omega, fun v3 e3 => ?_⟩⟩
    subst e2 e3
    rw [Int.toNat_natCast]
    have vub : ∀ a, a < 12 → vF (σ 37 (12 * s + a)) ≤ 1000000000 := by
      intro a ha
      rcases hT.2.2 a ha with q | ⟨q1, q2, -⟩
      · rw [vF_m (by omega)]; omega
      · rw [vF_n q1]; omega
    have hTu : TS37 ρ y o s σ0 σ (B + 99 * ((t + 1 : Nat) : Int)) := hT.up (by push_cast; omega)
    refine ⟨fun h => nx0 σ f hTu hf (fun a _ => Int.le_refl _) (fun h => ⟨h, fun a _ => rfl⟩) (fun hro => absurd h hro), fun hro => ⟨fun hneg => nx0 σ f hTu hf (fun a _ => Int.le_refl _) (fun h => ⟨h, fun a _ => rfl⟩) (fun _ c1 hc1 => ?_), fun hpos => ⟨by omega, by omega, ?_⟩⟩⟩
    · have := hle (ρ 4 r).toNat (by omega)
      rw [vF_m hneg] at this
      have := vub (ρ 3 r).toNat (by omega)
      have := hJ.1 (ρ 6 r) c1 (by omega)
      omega
    · obtain ⟨p1, p2⟩ : σ 37 (12 * s + (ρ 4 r).toNat) ≤ B + 99 * t ∧ Te (gO ρ o) (jY y) (ρ 4 r) (spB (LL ρ) s : Nat) (spF (LL ρ) s : Nat) (σ 37 (12 * s + (ρ 4 r).toNat)) := by
        rcases hT.2.2 (ρ 4 r).toNat (by omega) with q | ⟨-, q2, q3⟩
        · omega
        · rw [show (((ρ 4 r).toNat : Nat) : Int) = ρ 4 r by omega] at q3
          exact ⟨q2, q3⟩
      have n2 := hJ.1 (ρ 6 r) (σ 37 (12 * s + (ρ 4 r).toNat)) (by omega)
      have u2 : jY y (ρ 6 r) (σ 37 (12 * s + (ρ 4 r).toNat)) ≤ ρ 6 r + σ 37 (12 * s + (ρ 4 r).toNat) := by
        by_cases hy : y = 0
        · rw [hy, jY_0]; omega
        · rw [jY_1 hy]; omega
      have tt : Te (gO ρ o) (jY y) (((ρ 3 r).toNat : Nat) : Int) (spB (LL ρ) s : Nat) (spF (LL ρ) s : Nat) (jY y (ρ 6 r) (σ 37 (12 * s + (ρ 4 r).toNat))) := by
        have t1 := Te.single (g := gO ρ o) (r := r) (by rw [gO_k (by decide)]; exact hr4) (gO_8.2 ⟨hin.2, hro⟩) (by rw [gO_k (by decide)]; exact hun.1) (by rw [gO_k (k := 4) (by decide)]; exact p2)
        rw [gO_k (k := 3) (by decide), gO_k (k := 6) (by decide)] at t1
        rw [show (((ρ 3 r).toNat : Nat) : Int) = ρ 3 r by omega]; exact t1
      refine c_join (by omega) (by omega) (c_lesser ⟨by omega, ?_⟩)
      have hsv : ∀ w, w = lsr (σ 37 (12 * s + (ρ 3 r).toNat)) (jY y (ρ 6 r) (σ 37 (12 * s + (ρ 4 r).toNat))) → (0 ≤ w ∧ w ≤ jY y (ρ 6 r) (σ 37 (12 * s + (ρ 4 r).toNat)) ∧ vF w ≤ vF (σ 37 (12 * s + (ρ 3 r).toNat)) ∧ (w = -1 ∨ (0 ≤ w ∧ w ≤ B + 99 * ((t + 1 : Nat) : Int) ∧ Te (gO ρ o) (jY y) (((ρ 3 r).toNat : Nat) : Int) (spB (LL ρ) s : Nat) (spF (LL ρ) s : Nat) w))) := by
        intro w ew
        unfold lsr at ew
        rcases hT.2.2 (ρ 3 r).toNat (by omega) with q | ⟨q1, q2, q4⟩
        · rw [if_pos (Or.inl q)] at ew
          subst ew
          exact ⟨by omega, Int.le_refl _, by rw [q, vF_m (x := -1) (by decide), vF_n (by omega)]; omega, Or.inr ⟨by omega, by push_cast; omega, tt⟩⟩
        · by_cases hlt : jY y (ρ 6 r) (σ 37 (12 * s + (ρ 4 r).toNat)) < σ 37 (12 * s + (ρ 3 r).toNat)
          · rw [if_pos (Or.inr hlt)] at ew
            subst ew
            exact ⟨by omega, Int.le_refl _, by rw [vF_n q1, vF_n (by omega)]; omega, Or.inr ⟨by omega, by push_cast; omega, tt⟩⟩
          · rw [if_neg (by omega)] at ew
            subst ew
            exact ⟨q1, by omega, Int.le_refl _, Or.inr ⟨q1, by push_cast; omega, q4⟩⟩
      obtain ⟨w0, w1, w2, w3⟩ := hsv _ rfl
      generalize lsr (σ 37 (12 * s + (ρ 3 r).toNat)) (jY y (ρ 6 r) (σ 37 (12 * s + (ρ 4 r).toNat))) = w at *
      have go : ∀ (f0 : Int), (f0 = 0 ∨ f0 = 1) → (f0 = 0 → w = σ 37 (12 * s + (ρ 3 r).toNat)) → ∀ v9 : Int, v9 = b_or f f0 → (0 ≤ (((12 * s + (ρ 3 r).toNat : Nat) : Int)) ∧ (((12 * s + (ρ 3 r).toNat : Nat) : Int)) < 432) ∧ ∀ σ10 : St, σ10 = upS σ 37 (12 * s + (ρ 3 r).toNat) w → ∀ v8 : Int, v8 = w32 ((t : Int) + 1) → wp_X1_relax_c37_l6 Q n ((12 * s : Nat) : Int) o y v9 v8 σ10 := by
        intro f0 hf0 hfw v9 e9
        refine ⟨by omega, fun σ10 e10 => ?_⟩
        have hf9 : (v9 = 0 ∨ v9 = 1) ∧ (v9 = 0 → f = 0 ∧ f0 = 0) := by
          rw [e9]
          rcases hf with rfl | rfl <;> rcases hf0 with rfl | rfl <;> decide
        rw [e10]
        refine nx0 _ v9 (hT.put (by push_cast; omega) (by omega) w3) hf9.1 (fun a ha => ?_) (fun h9 => ⟨(hf9.2 h9).1, fun a ha => ?_⟩) (fun _ c1 hc1 => ?_)
        · by_cases e : a = (ρ 3 r).toNat
          · rw [e, upS_s]; exact w2
          · rw [upS_j (by omega)]; exact Int.le_refl _
        · by_cases e : a = (ρ 3 r).toNat
          · rw [e, upS_s]; exact hfw (hf9.2 h9).2
          · rw [upS_j (by omega)]
        · rw [upS_s, vF_n w0]
          have g1 := hle (ρ 4 r).toNat (by omega)
          rw [vF_n (by omega)] at g1
          exact Int.le_trans w1 (hJ.2.2 _ _ _ _ (Int.le_refl _) (by omega))
      exact ⟨fun hw => go 0 (Or.inl rfl) (fun _ => hw), fun hw => go 1 (Or.inr rfl) (fun h => absurd h (by decide))⟩
def TS38 (ρ : St) (y o : Int) (s : Nat) (σ0 σ : St) (b : Int) : Prop := Bt ρ σ ∧ (∀ x : Nat, (∀ a, a < 12 → x ≠ 12 * s + a) → σ 38 x = σ0 38 x) ∧ (∀ a : Nat, a < 12 → σ 38 (12 * s + a) = -1 ∨ (0 ≤ σ 38 (12 * s + a) ∧ σ 38 (12 * s + a) ≤ b ∧ Te (gO ρ o) (jY y) (a : Int) (spB (LL ρ) s : Nat) (spF (LL ρ) s : Nat) (σ 38 (12 * s + a))))
theorem TS38.put {ρ : St} {y o : Int} {s : Nat} {σ0 σ : St} {b b1 : Int} (h : TS38 ρ y o s σ0 σ b) (hb : b ≤ b1) {a : Nat} (ha : a < 12) {v : Int} (hv : v = -1 ∨ (0 ≤ v ∧ v ≤ b1 ∧ Te (gO ρ o) (jY y) (a : Int) (spB (LL ρ) s : Nat) (spF (LL ρ) s : Nat) v)) : TS38 ρ y o s σ0 (upS σ 38 (12 * s + a) v) b1 := by
  obtain ⟨h1, h2, h3⟩ := h
  refine ⟨h1, fun x hx => ?_, fun c hc => ?_⟩
  · rw [upS_j (hx a ha)]; exact h2 x hx
  · by_cases e : c = a
    · subst e; rw [upS_s]; exact hv
    · rw [upS_j (by omega)]
      rcases h3 c hc with q | ⟨q1, q2, q3⟩
      · exact Or.inl q
      · exact Or.inr ⟨q1, by omega, q3⟩
theorem TS38.up {ρ : St} {y o : Int} {s : Nat} {σ0 σ : St} {b b1 : Int} (h : TS38 ρ y o s σ0 σ b) (hb : b ≤ b1) : TS38 ρ y o s σ0 σ b1 := by
  obtain ⟨h1, h2, h3⟩ := h
  refine ⟨h1, h2, fun c hc => ?_⟩
  rcases h3 c hc with q | ⟨q1, q2, q3⟩
  · exact Or.inl q
  · exact Or.inr ⟨q1, by omega, q3⟩
theorem c_rx38 {ρ : St} (hg : Wg ρ) (hL : LL ρ < 9) {y o : Int} {s : Nat} (hs : s < spN (LL ρ)) {σ0 σs : St} {B : Int} (hB : 0 ≤ B ∧ B ≤ 10000000) {Q : Int → St → Prop} (hq : ∀ σ1 f1, TS38 ρ y o s σ0 σ1 (B + 3960) → (f1 = 0 ∨ f1 = 1) → (∀ a, a < 12 → vF (σ1 38 (12 * s + a)) ≤ vF (σs 38 (12 * s + a))) → (f1 = 0 → ∀ a, a < 12 → σ1 38 (12 * s + a) = σs 38 (12 * s + a)) → (∀ r ∈ uyL ρ 12, (r : Int) ≠ o → ∀ c1, vF (σs 38 (12 * s + (ρ 4 r).toNat)) ≤ c1 → vF (σ1 38 (12 * s + (ρ 3 r).toNat)) ≤ jY y (ρ 6 r) c1) → Q f1 σ1) : ∀ (d t : Nat) (σ : St) (f : Int) (n : Nat), t + d = (uyL ρ 12).length → d < n → TS38 ρ y o s σ0 σ (B + 99 * t) → (f = 0 ∨ f = 1) → (∀ a, a < 12 → vF (σ 38 (12 * s + a)) ≤ vF (σs 38 (12 * s + a))) → (f = 0 → ∀ a, a < 12 → σ 38 (12 * s + a) = σs 38 (12 * s + a)) → (∀ (t' : Nat) (h : t' < (uyL ρ 12).length), t' < t → (((uyL ρ 12)[t'] : Nat) : Int) ≠ o → ∀ c1, vF (σs 38 (12 * s + (ρ 4 (uyL ρ 12)[t']).toNat)) ≤ c1 → vF (σ 38 (12 * s + (ρ 3 (uyL ρ 12)[t']).toNat)) ≤ jY y (ρ 6 (uyL ρ 12)[t']) c1) → wp_X1_relax_c38_l6 Q n ((12 * s : Nat) : Int) o y f (t : Int) σ := by
  intro d
  have q3 := sp_3 _ hL
  have hn0 := hg.1
  have hn4 := hg.2.1
  have hul : (uyL ρ 12).length ≤ 40 := Nat.le_trans (uyL_le 12) (liL_40 hg)
  have hJ := jokY y
  induction d with
  | zero =>
    intro t σ f n hd hn hT hf hle h0 hc
    obtain ⟨n, rfl⟩ := suc_n hn
    unfold wp_X1_relax_c38_l6
    rw [hT.1.1.2.2.1.2.2.2.1]
    refine ⟨fun _ => ⟨hf, hq σ f (hT.up (by omega)) hf hle h0 (fun r hr hro c1 hc1 => ?_)⟩, fun h => absurd h (by omega)⟩
    obtain ⟨t', ht', e⟩ := List.getElem_of_mem hr
    subst e
    exact hc t' ht' (by omega) hro c1 hc1
  | succ d ih =>
    intro t σ f n hd hn hT hf hle h0 hc
    obtain ⟨n, rfl⟩ := suc_n hn
    have ht : t < (uyL ρ 12).length := by omega
    have e12 := hT.1.1.2.2.1.2.2.2.1
    have e33 : σ 33 t = (((uyL ρ 12)[t] : Nat) : Int) := hT.1.1.2.2.1.2.2.2.2 t ht
    have hm := List.getElem_mem ht
    have nx0 : ∀ (σ1 : St) (f1 : Int), TS38 ρ y o s σ0 σ1 (B + 99 * ((t + 1 : Nat) : Int)) → (f1 = 0 ∨ f1 = 1) → (∀ a, a < 12 → vF (σ1 38 (12 * s + a)) ≤ vF (σ 38 (12 * s + a))) → (f1 = 0 → f = 0 ∧ ∀ a, a < 12 → σ1 38 (12 * s + a) = σ 38 (12 * s + a)) → ((((uyL ρ 12)[t] : Nat) : Int) ≠ o → ∀ c1, vF (σs 38 (12 * s + (ρ 4 (uyL ρ 12)[t]).toNat)) ≤ c1 → vF (σ1 38 (12 * s + (ρ 3 (uyL ρ 12)[t]).toNat)) ≤ jY y (ρ 6 (uyL ρ 12)[t]) c1) → ∀ v : Int, v = w32 ((t : Int) + 1) → wp_X1_relax_c38_l6 Q n ((12 * s : Nat) : Int) o y f1 v σ1 := by
      intro σ1 f1 hT1 hf1 hle1 h01 hc1 v ev
      rw [ev, w32_of (by omega) (by omega), show (t : Int) + 1 = ((t + 1 : Nat) : Int) by omega]
      refine ih (t + 1) σ1 f1 n (by omega) (by omega) hT1 hf1 (fun a ha => Int.le_trans (hle1 a ha) (hle a ha)) (fun hf a ha => by rw [(h01 hf).2 a ha, h0 (h01 hf).1 a ha]) (fun t' ht' hlt hro c1 hcc => ?_)
      by_cases e : t' = t
      · subst e; exact hc1 hro c1 hcc
      · have hr3 := (mem_uyL 12).1 (List.getElem_mem ht')
        have hh := w_head hg (r := (uyL ρ 12)[t']) (by omega)
        exact Int.le_trans (hle1 _ (by omega)) (hc t' ht' (by omega) hro c1 hcc)
    generalize (uyL ρ 12)[t] = r at *
    rw [mem_uyL] at hm
    obtain ⟨hr, a', ha', hin⟩ := hm
    rw [Bool.and_eq_true] at hin
    obtain ⟨hin, hun⟩ := hin
    unfold inA at hin
    unfold unR at hun
    rw [Bool.and_eq_true, decide_eq_true_iff, decide_eq_true_iff] at hin hun
    have hr4 : (r : Int) < ρ 0 4 := by omega
    obtain ⟨hh, hp1, -, hpr, -⟩ := hg.2.2 r hr4
    unfold isPart at hp1
    obtain ⟨k1, k2, k3, k4, k5, k6⟩ := hT.1.1.2.2.1.1.2 r hr4
    unfold wp_X1_relax_c38_l6 wp_X1_relax_c38_b113 wp_X1_relax_c38_b122
    rw [e12, Int.toNat_natCast, e33]
    refine ⟨fun h => absurd h (by omega), fun _ => ⟨by omega, fun v1 e1 => ?_⟩⟩
    subst e1
    rw [Int.toNat_natCast, k1, k2, k4]
    have x1 : w32 (((12 * s : Nat) : Int) + ρ 4 r) = ((12 * s + (ρ 4 r).toNat : Nat) : Int) := by rw [w32_of (by omega) (by omega)]; push_cast; omega
    have x2 : w32 (((12 * s : Nat) : Int) + ρ 3 r) = ((12 * s + (ρ 3 r).toNat : Nat) : Int) := by rw [w32_of (by omega) (by omega)]; push_cast; omega
    rw [x1, x2, Int.toNat_natCast]
    refine ⟨by omega, by omega, fun v2 e2 => ⟨by omega, fun v3 e3 => ?_⟩⟩
    subst e2 e3
    rw [Int.toNat_natCast]
    have vub : ∀ a, a < 12 → vF (σ 38 (12 * s + a)) ≤ 1000000000 := by
      intro a ha
      rcases hT.2.2 a ha with q | ⟨q1, q2, -⟩
      · rw [vF_m (by omega)]; omega
      · rw [vF_n q1]; omega
    have hTu : TS38 ρ y o s σ0 σ (B + 99 * ((t + 1 : Nat) : Int)) := hT.up (by push_cast; omega)
    refine ⟨fun h => nx0 σ f hTu hf (fun a _ => Int.le_refl _) (fun h => ⟨h, fun a _ => rfl⟩) (fun hro => absurd h hro), fun hro => ⟨fun hneg => nx0 σ f hTu hf (fun a _ => Int.le_refl _) (fun h => ⟨h, fun a _ => rfl⟩) (fun _ c1 hc1 => ?_), fun hpos => ⟨by omega, by omega, ?_⟩⟩⟩
    · have := hle (ρ 4 r).toNat (by omega)
      rw [vF_m hneg] at this
      have := vub (ρ 3 r).toNat (by omega)
      have := hJ.1 (ρ 6 r) c1 (by omega)
      omega
    · obtain ⟨p1, p2⟩ : σ 38 (12 * s + (ρ 4 r).toNat) ≤ B + 99 * t ∧ Te (gO ρ o) (jY y) (ρ 4 r) (spB (LL ρ) s : Nat) (spF (LL ρ) s : Nat) (σ 38 (12 * s + (ρ 4 r).toNat)) := by
        rcases hT.2.2 (ρ 4 r).toNat (by omega) with q | ⟨-, q2, q3⟩
        · omega
        · rw [show (((ρ 4 r).toNat : Nat) : Int) = ρ 4 r by omega] at q3
          exact ⟨q2, q3⟩
      have n2 := hJ.1 (ρ 6 r) (σ 38 (12 * s + (ρ 4 r).toNat)) (by omega)
      have u2 : jY y (ρ 6 r) (σ 38 (12 * s + (ρ 4 r).toNat)) ≤ ρ 6 r + σ 38 (12 * s + (ρ 4 r).toNat) := by
        by_cases hy : y = 0
        · rw [hy, jY_0]; omega
        · rw [jY_1 hy]; omega
      have tt : Te (gO ρ o) (jY y) (((ρ 3 r).toNat : Nat) : Int) (spB (LL ρ) s : Nat) (spF (LL ρ) s : Nat) (jY y (ρ 6 r) (σ 38 (12 * s + (ρ 4 r).toNat))) := by
        have t1 := Te.single (g := gO ρ o) (r := r) (by rw [gO_k (by decide)]; exact hr4) (gO_8.2 ⟨hin.2, hro⟩) (by rw [gO_k (by decide)]; exact hun.1) (by rw [gO_k (k := 4) (by decide)]; exact p2)
        rw [gO_k (k := 3) (by decide), gO_k (k := 6) (by decide)] at t1
        rw [show (((ρ 3 r).toNat : Nat) : Int) = ρ 3 r by omega]; exact t1
      refine c_join (by omega) (by omega) (c_lesser ⟨by omega, ?_⟩)
      have hsv : ∀ w, w = lsr (σ 38 (12 * s + (ρ 3 r).toNat)) (jY y (ρ 6 r) (σ 38 (12 * s + (ρ 4 r).toNat))) → (0 ≤ w ∧ w ≤ jY y (ρ 6 r) (σ 38 (12 * s + (ρ 4 r).toNat)) ∧ vF w ≤ vF (σ 38 (12 * s + (ρ 3 r).toNat)) ∧ (w = -1 ∨ (0 ≤ w ∧ w ≤ B + 99 * ((t + 1 : Nat) : Int) ∧ Te (gO ρ o) (jY y) (((ρ 3 r).toNat : Nat) : Int) (spB (LL ρ) s : Nat) (spF (LL ρ) s : Nat) w))) := by
        intro w ew
        unfold lsr at ew
        rcases hT.2.2 (ρ 3 r).toNat (by omega) with q | ⟨q1, q2, q4⟩
        · rw [if_pos (Or.inl q)] at ew
          subst ew
          exact ⟨by omega, Int.le_refl _, by rw [q, vF_m (x := -1) (by decide), vF_n (by omega)]; omega, Or.inr ⟨by omega, by push_cast; omega, tt⟩⟩
        · by_cases hlt : jY y (ρ 6 r) (σ 38 (12 * s + (ρ 4 r).toNat)) < σ 38 (12 * s + (ρ 3 r).toNat)
          · rw [if_pos (Or.inr hlt)] at ew
            subst ew
            exact ⟨by omega, Int.le_refl _, by rw [vF_n q1, vF_n (by omega)]; omega, Or.inr ⟨by omega, by push_cast; omega, tt⟩⟩
          · rw [if_neg (by omega)] at ew
            subst ew
            exact ⟨q1, by omega, Int.le_refl _, Or.inr ⟨q1, by push_cast; omega, q4⟩⟩
      obtain ⟨w0, w1, w2, w3⟩ := hsv _ rfl
      generalize lsr (σ 38 (12 * s + (ρ 3 r).toNat)) (jY y (ρ 6 r) (σ 38 (12 * s + (ρ 4 r).toNat))) = w at *
      have go : ∀ (f0 : Int), (f0 = 0 ∨ f0 = 1) → (f0 = 0 → w = σ 38 (12 * s + (ρ 3 r).toNat)) → ∀ v9 : Int, v9 = b_or f f0 → (0 ≤ (((12 * s + (ρ 3 r).toNat : Nat) : Int)) ∧ (((12 * s + (ρ 3 r).toNat : Nat) : Int)) < 432) ∧ ∀ σ10 : St, σ10 = upS σ 38 (12 * s + (ρ 3 r).toNat) w → ∀ v8 : Int, v8 = w32 ((t : Int) + 1) → wp_X1_relax_c38_l6 Q n ((12 * s : Nat) : Int) o y v9 v8 σ10 := by
        intro f0 hf0 hfw v9 e9
        refine ⟨by omega, fun σ10 e10 => ?_⟩
        have hf9 : (v9 = 0 ∨ v9 = 1) ∧ (v9 = 0 → f = 0 ∧ f0 = 0) := by
          rw [e9]
          rcases hf with rfl | rfl <;> rcases hf0 with rfl | rfl <;> decide
        rw [e10]
        refine nx0 _ v9 (hT.put (by push_cast; omega) (by omega) w3) hf9.1 (fun a ha => ?_) (fun h9 => ⟨(hf9.2 h9).1, fun a ha => ?_⟩) (fun _ c1 hc1 => ?_)
        · by_cases e : a = (ρ 3 r).toNat
          · rw [e, upS_s]; exact w2
          · rw [upS_j (by omega)]; exact Int.le_refl _
        · by_cases e : a = (ρ 3 r).toNat
          · rw [e, upS_s]; exact hfw (hf9.2 h9).2
          · rw [upS_j (by omega)]
        · rw [upS_s, vF_n w0]
          have g1 := hle (ρ 4 r).toNat (by omega)
          rw [vF_n (by omega)] at g1
          exact Int.le_trans w1 (hJ.2.2 _ _ _ _ (Int.le_refl _) (by omega))
      exact ⟨fun hw => go 0 (Or.inl rfl) (fun _ => hw), fun hw => go 1 (Or.inr rfl) (fun h => absurd h (by decide))⟩
def TS39 (ρ : St) (y o : Int) (s : Nat) (σ0 σ : St) (b : Int) : Prop := Bt ρ σ ∧ (∀ x : Nat, (∀ a, a < 12 → x ≠ 12 * s + a) → σ 39 x = σ0 39 x) ∧ (∀ a : Nat, a < 12 → σ 39 (12 * s + a) = -1 ∨ (0 ≤ σ 39 (12 * s + a) ∧ σ 39 (12 * s + a) ≤ b ∧ Te (gO ρ o) (jY y) (a : Int) (spB (LL ρ) s : Nat) (spF (LL ρ) s : Nat) (σ 39 (12 * s + a))))
theorem TS39.put {ρ : St} {y o : Int} {s : Nat} {σ0 σ : St} {b b1 : Int} (h : TS39 ρ y o s σ0 σ b) (hb : b ≤ b1) {a : Nat} (ha : a < 12) {v : Int} (hv : v = -1 ∨ (0 ≤ v ∧ v ≤ b1 ∧ Te (gO ρ o) (jY y) (a : Int) (spB (LL ρ) s : Nat) (spF (LL ρ) s : Nat) v)) : TS39 ρ y o s σ0 (upS σ 39 (12 * s + a) v) b1 := by
  obtain ⟨h1, h2, h3⟩ := h
  refine ⟨h1, fun x hx => ?_, fun c hc => ?_⟩
  · rw [upS_j (hx a ha)]; exact h2 x hx
  · by_cases e : c = a
    · subst e; rw [upS_s]; exact hv
    · rw [upS_j (by omega)]
      rcases h3 c hc with q | ⟨q1, q2, q3⟩
      · exact Or.inl q
      · exact Or.inr ⟨q1, by omega, q3⟩
theorem TS39.up {ρ : St} {y o : Int} {s : Nat} {σ0 σ : St} {b b1 : Int} (h : TS39 ρ y o s σ0 σ b) (hb : b ≤ b1) : TS39 ρ y o s σ0 σ b1 := by
  obtain ⟨h1, h2, h3⟩ := h
  refine ⟨h1, h2, fun c hc => ?_⟩
  rcases h3 c hc with q | ⟨q1, q2, q3⟩
  · exact Or.inl q
  · exact Or.inr ⟨q1, by omega, q3⟩
theorem c_rx39 {ρ : St} (hg : Wg ρ) (hL : LL ρ < 9) {y o : Int} {s : Nat} (hs : s < spN (LL ρ)) {σ0 σs : St} {B : Int} (hB : 0 ≤ B ∧ B ≤ 10000000) {Q : Int → St → Prop} (hq : ∀ σ1 f1, TS39 ρ y o s σ0 σ1 (B + 3960) → (f1 = 0 ∨ f1 = 1) → (∀ a, a < 12 → vF (σ1 39 (12 * s + a)) ≤ vF (σs 39 (12 * s + a))) → (f1 = 0 → ∀ a, a < 12 → σ1 39 (12 * s + a) = σs 39 (12 * s + a)) → (∀ r ∈ uyL ρ 12, (r : Int) ≠ o → ∀ c1, vF (σs 39 (12 * s + (ρ 4 r).toNat)) ≤ c1 → vF (σ1 39 (12 * s + (ρ 3 r).toNat)) ≤ jY y (ρ 6 r) c1) → Q f1 σ1) : ∀ (d t : Nat) (σ : St) (f : Int) (n : Nat), t + d = (uyL ρ 12).length → d < n → TS39 ρ y o s σ0 σ (B + 99 * t) → (f = 0 ∨ f = 1) → (∀ a, a < 12 → vF (σ 39 (12 * s + a)) ≤ vF (σs 39 (12 * s + a))) → (f = 0 → ∀ a, a < 12 → σ 39 (12 * s + a) = σs 39 (12 * s + a)) → (∀ (t' : Nat) (h : t' < (uyL ρ 12).length), t' < t → (((uyL ρ 12)[t'] : Nat) : Int) ≠ o → ∀ c1, vF (σs 39 (12 * s + (ρ 4 (uyL ρ 12)[t']).toNat)) ≤ c1 → vF (σ 39 (12 * s + (ρ 3 (uyL ρ 12)[t']).toNat)) ≤ jY y (ρ 6 (uyL ρ 12)[t']) c1) → wp_X1_relax_c39_l6 Q n ((12 * s : Nat) : Int) o y f (t : Int) σ := by
  intro d
  have q3 := sp_3 _ hL
  have hn0 := hg.1
  have hn4 := hg.2.1
  have hul : (uyL ρ 12).length ≤ 40 := Nat.le_trans (uyL_le 12) (liL_40 hg)
  have hJ := jokY y
  induction d with
  | zero =>
    intro t σ f n hd hn hT hf hle h0 hc
    obtain ⟨n, rfl⟩ := suc_n hn
    unfold wp_X1_relax_c39_l6
    rw [hT.1.1.2.2.1.2.2.2.1]
    refine ⟨fun _ => ⟨hf, hq σ f (hT.up (by omega)) hf hle h0 (fun r hr hro c1 hc1 => ?_)⟩, fun h => absurd h (by omega)⟩
    obtain ⟨t', ht', e⟩ := List.getElem_of_mem hr
    subst e
    exact hc t' ht' (by omega) hro c1 hc1
  | succ d ih =>
    intro t σ f n hd hn hT hf hle h0 hc
    obtain ⟨n, rfl⟩ := suc_n hn
    have ht : t < (uyL ρ 12).length := by omega
    have e12 := hT.1.1.2.2.1.2.2.2.1
    have e33 : σ 33 t = (((uyL ρ 12)[t] : Nat) : Int) := hT.1.1.2.2.1.2.2.2.2 t ht
    have hm := List.getElem_mem ht
    have nx0 : ∀ (σ1 : St) (f1 : Int), TS39 ρ y o s σ0 σ1 (B + 99 * ((t + 1 : Nat) : Int)) → (f1 = 0 ∨ f1 = 1) → (∀ a, a < 12 → vF (σ1 39 (12 * s + a)) ≤ vF (σ 39 (12 * s + a))) → (f1 = 0 → f = 0 ∧ ∀ a, a < 12 → σ1 39 (12 * s + a) = σ 39 (12 * s + a)) → ((((uyL ρ 12)[t] : Nat) : Int) ≠ o → ∀ c1, vF (σs 39 (12 * s + (ρ 4 (uyL ρ 12)[t]).toNat)) ≤ c1 → vF (σ1 39 (12 * s + (ρ 3 (uyL ρ 12)[t]).toNat)) ≤ jY y (ρ 6 (uyL ρ 12)[t]) c1) → ∀ v : Int, v = w32 ((t : Int) + 1) → wp_X1_relax_c39_l6 Q n ((12 * s : Nat) : Int) o y f1 v σ1 := by
      intro σ1 f1 hT1 hf1 hle1 h01 hc1 v ev
      rw [ev, w32_of (by omega) (by omega), show (t : Int) + 1 = ((t + 1 : Nat) : Int) by omega]
      refine ih (t + 1) σ1 f1 n (by omega) (by omega) hT1 hf1 (fun a ha => Int.le_trans (hle1 a ha) (hle a ha)) (fun hf a ha => by rw [(h01 hf).2 a ha, h0 (h01 hf).1 a ha]) (fun t' ht' hlt hro c1 hcc => ?_)
      by_cases e : t' = t
      · subst e; exact hc1 hro c1 hcc
      · have hr3 := (mem_uyL 12).1 (List.getElem_mem ht')
        have hh := w_head hg (r := (uyL ρ 12)[t']) (by omega)
        exact Int.le_trans (hle1 _ (by omega)) (hc t' ht' (by omega) hro c1 hcc)
    generalize (uyL ρ 12)[t] = r at *
    rw [mem_uyL] at hm
    obtain ⟨hr, a', ha', hin⟩ := hm
    rw [Bool.and_eq_true] at hin
    obtain ⟨hin, hun⟩ := hin
    unfold inA at hin
    unfold unR at hun
    rw [Bool.and_eq_true, decide_eq_true_iff, decide_eq_true_iff] at hin hun
    have hr4 : (r : Int) < ρ 0 4 := by omega
    obtain ⟨hh, hp1, -, hpr, -⟩ := hg.2.2 r hr4
    unfold isPart at hp1
    obtain ⟨k1, k2, k3, k4, k5, k6⟩ := hT.1.1.2.2.1.1.2 r hr4
    unfold wp_X1_relax_c39_l6 wp_X1_relax_c39_b113 wp_X1_relax_c39_b122
    rw [e12, Int.toNat_natCast, e33]
    refine ⟨fun h => absurd h (by omega), fun _ => ⟨by omega, fun v1 e1 => ?_⟩⟩
    subst e1
    rw [Int.toNat_natCast, k1, k2, k4]
    have x1 : w32 (((12 * s : Nat) : Int) + ρ 4 r) = ((12 * s + (ρ 4 r).toNat : Nat) : Int) := by rw [w32_of (by omega) (by omega)]; push_cast; omega
    have x2 : w32 (((12 * s : Nat) : Int) + ρ 3 r) = ((12 * s + (ρ 3 r).toNat : Nat) : Int) := by rw [w32_of (by omega) (by omega)]; push_cast; omega
    rw [x1, x2, Int.toNat_natCast]
    refine ⟨by omega, by omega, fun v2 e2 => ⟨by omega, fun v3 e3 => ?_⟩⟩
    subst e2 e3
    rw [Int.toNat_natCast]
    have vub : ∀ a, a < 12 → vF (σ 39 (12 * s + a)) ≤ 1000000000 := by
      intro a ha
      rcases hT.2.2 a ha with q | ⟨q1, q2, -⟩
      · rw [vF_m (by omega)]; omega
      · rw [vF_n q1]; omega
    have hTu : TS39 ρ y o s σ0 σ (B + 99 * ((t + 1 : Nat) : Int)) := hT.up (by push_cast; omega)
    refine ⟨fun h => nx0 σ f hTu hf (fun a _ => Int.le_refl _) (fun h => ⟨h, fun a _ => rfl⟩) (fun hro => absurd h hro), fun hro => ⟨fun hneg => nx0 σ f hTu hf (fun a _ => Int.le_refl _) (fun h => ⟨h, fun a _ => rfl⟩) (fun _ c1 hc1 => ?_), fun hpos => ⟨by omega, by omega, ?_⟩⟩⟩
    · have := hle (ρ 4 r).toNat (by omega)
      rw [vF_m hneg] at this
      have := vub (ρ 3 r).toNat (by omega)
      have := hJ.1 (ρ 6 r) c1 (by omega)
      omega
    · obtain ⟨p1, p2⟩ : σ 39 (12 * s + (ρ 4 r).toNat) ≤ B + 99 * t ∧ Te (gO ρ o) (jY y) (ρ 4 r) (spB (LL ρ) s : Nat) (spF (LL ρ) s : Nat) (σ 39 (12 * s + (ρ 4 r).toNat)) := by
        rcases hT.2.2 (ρ 4 r).toNat (by omega) with q | ⟨-, q2, q3⟩
        · omega
        · rw [show (((ρ 4 r).toNat : Nat) : Int) = ρ 4 r by omega] at q3
          exact ⟨q2, q3⟩
      have n2 := hJ.1 (ρ 6 r) (σ 39 (12 * s + (ρ 4 r).toNat)) (by omega)
      have u2 : jY y (ρ 6 r) (σ 39 (12 * s + (ρ 4 r).toNat)) ≤ ρ 6 r + σ 39 (12 * s + (ρ 4 r).toNat) := by
        by_cases hy : y = 0
        · rw [hy, jY_0]; omega
        · rw [jY_1 hy]; omega
      have tt : Te (gO ρ o) (jY y) (((ρ 3 r).toNat : Nat) : Int) (spB (LL ρ) s : Nat) (spF (LL ρ) s : Nat) (jY y (ρ 6 r) (σ 39 (12 * s + (ρ 4 r).toNat))) := by
        have t1 := Te.single (g := gO ρ o) (r := r) (by rw [gO_k (by decide)]; exact hr4) (gO_8.2 ⟨hin.2, hro⟩) (by rw [gO_k (by decide)]; exact hun.1) (by rw [gO_k (k := 4) (by decide)]; exact p2)
        rw [gO_k (k := 3) (by decide), gO_k (k := 6) (by decide)] at t1
        rw [show (((ρ 3 r).toNat : Nat) : Int) = ρ 3 r by omega]; exact t1
      refine c_join (by omega) (by omega) (c_lesser ⟨by omega, ?_⟩)
      have hsv : ∀ w, w = lsr (σ 39 (12 * s + (ρ 3 r).toNat)) (jY y (ρ 6 r) (σ 39 (12 * s + (ρ 4 r).toNat))) → (0 ≤ w ∧ w ≤ jY y (ρ 6 r) (σ 39 (12 * s + (ρ 4 r).toNat)) ∧ vF w ≤ vF (σ 39 (12 * s + (ρ 3 r).toNat)) ∧ (w = -1 ∨ (0 ≤ w ∧ w ≤ B + 99 * ((t + 1 : Nat) : Int) ∧ Te (gO ρ o) (jY y) (((ρ 3 r).toNat : Nat) : Int) (spB (LL ρ) s : Nat) (spF (LL ρ) s : Nat) w))) := by
        intro w ew
        unfold lsr at ew
        rcases hT.2.2 (ρ 3 r).toNat (by omega) with q | ⟨q1, q2, q4⟩
        · rw [if_pos (Or.inl q)] at ew
          subst ew
          exact ⟨by omega, Int.le_refl _, by rw [q, vF_m (x := -1) (by decide), vF_n (by omega)]; omega, Or.inr ⟨by omega, by push_cast; omega, tt⟩⟩
        · by_cases hlt : jY y (ρ 6 r) (σ 39 (12 * s + (ρ 4 r).toNat)) < σ 39 (12 * s + (ρ 3 r).toNat)
          · rw [if_pos (Or.inr hlt)] at ew
            subst ew
            exact ⟨by omega, Int.le_refl _, by rw [vF_n q1, vF_n (by omega)]; omega, Or.inr ⟨by omega, by push_cast; omega, tt⟩⟩
          · rw [if_neg (by omega)] at ew
            subst ew
            exact ⟨q1, by omega, Int.le_refl _, Or.inr ⟨q1, by push_cast; omega, q4⟩⟩
      obtain ⟨w0, w1, w2, w3⟩ := hsv _ rfl
      generalize lsr (σ 39 (12 * s + (ρ 3 r).toNat)) (jY y (ρ 6 r) (σ 39 (12 * s + (ρ 4 r).toNat))) = w at *
      have go : ∀ (f0 : Int), (f0 = 0 ∨ f0 = 1) → (f0 = 0 → w = σ 39 (12 * s + (ρ 3 r).toNat)) → ∀ v9 : Int, v9 = b_or f f0 → (0 ≤ (((12 * s + (ρ 3 r).toNat : Nat) : Int)) ∧ (((12 * s + (ρ 3 r).toNat : Nat) : Int)) < 432) ∧ ∀ σ10 : St, σ10 = upS σ 39 (12 * s + (ρ 3 r).toNat) w → ∀ v8 : Int, v8 = w32 ((t : Int) + 1) → wp_X1_relax_c39_l6 Q n ((12 * s : Nat) : Int) o y v9 v8 σ10 := by
        intro f0 hf0 hfw v9 e9
        refine ⟨by omega, fun σ10 e10 => ?_⟩
        have hf9 : (v9 = 0 ∨ v9 = 1) ∧ (v9 = 0 → f = 0 ∧ f0 = 0) := by
          rw [e9]
          rcases hf with rfl | rfl <;> rcases hf0 with rfl | rfl <;> decide
        rw [e10]
        refine nx0 _ v9 (hT.put (by push_cast; omega) (by omega) w3) hf9.1 (fun a ha => ?_) (fun h9 => ⟨(hf9.2 h9).1, fun a ha => ?_⟩) (fun _ c1 hc1 => ?_)
        · by_cases e : a = (ρ 3 r).toNat
          · rw [e, upS_s]; exact w2
          · rw [upS_j (by omega)]; exact Int.le_refl _
        · by_cases e : a = (ρ 3 r).toNat
          · rw [e, upS_s]; exact hfw (hf9.2 h9).2
          · rw [upS_j (by omega)]
        · rw [upS_s, vF_n w0]
          have g1 := hle (ρ 4 r).toNat (by omega)
          rw [vF_n (by omega)] at g1
          exact Int.le_trans w1 (hJ.2.2 _ _ _ _ (Int.le_refl _) (by omega))
      exact ⟨fun hw => go 0 (Or.inl rfl) (fun _ => hw), fun hw => go 1 (Or.inr rfl) (fun h => absurd h (by decide))⟩
