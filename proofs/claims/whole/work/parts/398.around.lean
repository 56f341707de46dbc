/-! the class's row around: the least that the rest of a tree costs -/
def ASm (ρ σ : St) (M : Int) : Prop := ∀ s a : Nat, s < spN (LL ρ) → a < 12 → σ 81 (12 * s + a) = -1 ∨ (0 ≤ σ 81 (12 * s + a) ∧ σ 81 (12 * s + a) ≤ M ∧ Cx ρ (a : Int) (spB (LL ρ) s : Nat) (spF (LL ρ) s : Nat) (σ 81 (12 * s + a)))
theorem ASm.up {ρ σ : St} {M M1 : Int} (h : ASm ρ σ M) (hM : M ≤ M1) : ASm ρ σ M1 := by
  intro s a hs ha
  rcases h s a hs ha with q | ⟨q1, q2, q3⟩
  · exact Or.inl q
  · exact Or.inr ⟨q1, by omega, q3⟩
theorem ASm.va {ρ σ : St} {M : Int} (h : ASm ρ σ M) {s a : Nat} (hs : s < spN (LL ρ)) (ha : a < 12) : σ 81 (12 * s + a) = -1 ∨ 0 ≤ σ 81 (12 * s + a) := by
  rcases h s a hs ha with q | ⟨q1, q2, q3⟩
  · exact Or.inl q
  · exact Or.inr q1
theorem ASm.put {ρ σ : St} {M M1 : Int} (h : ASm ρ σ M) (hM : M ≤ M1) {s a : Nat} (ha : a < 12) {w c : Int} (hw : w = σ 81 (12 * s + a) ∨ w = c) (h0 : 0 ≤ c) (hc : c ≤ M1) (hx : Cx ρ (a : Int) (spB (LL ρ) s : Nat) (spF (LL ρ) s : Nat) c) : ASm ρ (upS σ 81 (12 * s + a) w) M1 := by
  intro s2 b hs2 hb
  by_cases e : 12 * s2 + b = 12 * s + a
  · have e1 : s2 = s := by omega
    have e2 : b = a := by omega
    subst e1 e2
    rw [upS_s]
    rcases hw with hw | hw
    · rw [hw]; exact h.up hM s2 b hs2 hb
    · rw [hw]; exact Or.inr ⟨h0, hc, hx⟩
  · rw [upS_j e]; exact h.up hM s2 b hs2 hb
theorem vle_put {σ : St} {x : Nat} {w : Int} (h : vle w (σ 81 x)) (y : Nat) : vle (upS σ 81 x w 81 y) (σ 81 y) := by
  by_cases e : y = x
  · rw [e, upS_s]; exact h
  · rw [upS_j e]; exact vle.rf
theorem c_mrx {ρ : St} (hg : Wg ρ) (hL : LL ρ < 9) {s : Nat} (hs : s < spN (LL ρ)) {σs : St} {M : Int} (hM : 0 ≤ M ∧ M ≤ 20000000) {Q : Int → St → Prop} (hq : ∀ σ1 f1, BL ρ σ1 → σ1 37 = σs 37 → ASm ρ σ1 (M + 3960) → (∀ x, (∀ a, a < 12 → x ≠ 12 * s + a) → σ1 81 x = σs 81 x) → (∀ x, vle (σ1 81 x) (σs 81 x)) → (f1 = 0 ∨ f1 = 1) → (f1 = 0 → ∀ a, a < 12 → σ1 81 (12 * s + a) = σs 81 (12 * s + a)) → (∀ r ∈ uyL ρ 12, ∀ c1, cvr (σs 81 (12 * s + (ρ 3 r).toNat)) c1 → cvr (σ1 81 (12 * s + (ρ 4 r).toNat)) (c1 + ρ 6 r)) → Q f1 σ1) : ∀ (d t : Nat) (σ : St) (f : Int) (n : Nat), t + d = (uyL ρ 12).length → d < n → BL ρ σ → σ 37 = σs 37 → ASm ρ σ (M + 99 * t) → (∀ x, (∀ a, a < 12 → x ≠ 12 * s + a) → σ 81 x = σs 81 x) → (∀ x, vle (σ 81 x) (σs 81 x)) → (f = 0 ∨ f = 1) → (f = 0 → ∀ a, a < 12 → σ 81 (12 * s + a) = σs 81 (12 * s + a)) → (∀ (t' : Nat) (h : t' < (uyL ρ 12).length), t' < t → ∀ c1, cvr (σs 81 (12 * s + (ρ 3 (uyL ρ 12)[t']).toNat)) c1 → cvr (σ 81 (12 * s + (ρ 4 (uyL ρ 12)[t']).toNat)) (c1 + ρ 6 (uyL ρ 12)[t'])) → wp_X5_relax_l4 Q n ((12 * s : Nat) : Int) f (t : Int) σ := by
  intro d
  have q3 := sp_3 _ hL
  have hn4 := hg.2.1
  have hul : (uyL ρ 12).length ≤ 40 := Nat.le_trans (uyL_le 12) (liL_40 hg)
  induction d with
  | zero =>
    intro t σ f n hd hn hB e37 hA ho hv hf h0 hc
    obtain ⟨n, rfl⟩ := suc_n hn
    unfold wp_X5_relax_l4
    rw [hB.1.1.2.2.1.2.2.2.1]
    refine ⟨fun _ => ⟨hf, hq σ f hB e37 (hA.up (by omega)) ho hv hf h0 (fun r hr c1 hc1 => ?_)⟩, fun h => absurd h (by omega)⟩
    obtain ⟨t', ht', e⟩ := List.getElem_of_mem hr
    subst e
    exact hc t' ht' (by omega) c1 hc1
  | succ d ih =>
    intro t σ f n hd hn hB e37 hA ho hv hf h0 hc
    obtain ⟨n, rfl⟩ := suc_n hn
    have ht : t < (uyL ρ 12).length := by omega
    have e12 := hB.1.1.2.2.1.2.2.2.1
    have e33 : σ 33 t = (((uyL ρ 12)[t] : Nat) : Int) := hB.1.1.2.2.1.2.2.2.2 t ht
    have hm := List.getElem_mem ht
    have nx0 : ∀ (σ1 : St) (f1 : Int), BL ρ σ1 → σ1 37 = σs 37 → ASm ρ σ1 (M + 99 * ((t + 1 : Nat) : Int)) → (∀ x, (∀ a, a < 12 → x ≠ 12 * s + a) → σ1 81 x = σs 81 x) → (∀ x, vle (σ1 81 x) (σ 81 x)) → (f1 = 0 ∨ f1 = 1) → (f1 = 0 → f = 0 ∧ ∀ a, a < 12 → σ1 81 (12 * s + a) = σ 81 (12 * s + a)) → (∀ c1, cvr (σs 81 (12 * s + (ρ 3 (uyL ρ 12)[t]).toNat)) c1 → cvr (σ1 81 (12 * s + (ρ 4 (uyL ρ 12)[t]).toNat)) (c1 + ρ 6 (uyL ρ 12)[t])) → ∀ v : Int, v = w32 ((t : Int) + 1) → wp_X5_relax_l4 Q n ((12 * s : Nat) : Int) f1 v σ1 := by
      intro σ1 f1 hB1 e1 hA1 ho1 hv1 hf1 h01 hc1 v ev
      rw [ev, w32_of (by omega) (by omega), show (t : Int) + 1 = ((t + 1 : Nat) : Int) by omega]
      refine ih (t + 1) σ1 f1 n (by omega) (by omega) hB1 e1 hA1 ho1 (fun x => (hv1 x).tr (hv x)) hf1 (fun hf a ha => by rw [(h01 hf).2 a ha, h0 (h01 hf).1 a ha]) (fun t' ht' hlt c1 hcc => ?_)
      by_cases e : t' = t
      · subst e; exact hc1 c1 hcc
      · exact (hc t' ht' (by omega) c1 hcc).le (hv1 _)
    generalize (uyL ρ 12)[t] = r at *
    rw [mem_uyL] at hm
    obtain ⟨hr, a', ha', hin⟩ := hm
    rw [Bool.and_eq_true] at hin
    obtain ⟨hin, hun⟩ := hin
    unfold inA at hin
    unfold unR at hun
    rw [Bool.and_eq_true, decide_eq_true_iff, decide_eq_true_iff] at hin hun
    have hr4 : (r : Int) < ρ 0 4 := by omega
    obtain ⟨hh, hp1, -, hpr, -⟩ := hg.2.2 r hr4
    unfold isPart at hp1
    obtain ⟨k1, k2, k3, k4, k5, k6⟩ := hB.1.1.2.2.1.1.2 r hr4
    unfold wp_X5_relax_l4 wp_X5_relax_b86
    rw [e12, Int.toNat_natCast, e33]
    refine ⟨fun h => absurd h (by omega), fun _ => ⟨by omega, fun v1 e1 => ?_⟩⟩
    subst e1
    rw [Int.toNat_natCast, k1, k2, k4]
    have x1 : w32 (((12 * s : Nat) : Int) + ρ 4 r) = ((12 * s + (ρ 4 r).toNat : Nat) : Int) := by rw [w32_of (by omega) (by omega)]; push_cast; omega
    have x2 : w32 (((12 * s : Nat) : Int) + ρ 3 r) = ((12 * s + (ρ 3 r).toNat : Nat) : Int) := by rw [w32_of (by omega) (by omega)]; push_cast; omega
    rw [x1, x2, Int.toNat_natCast]
    refine ⟨by omega, by omega, fun v2 e2 => ?_⟩
    subst e2
    have hA1 : ASm ρ σ (M + 99 * ((t + 1 : Nat) : Int)) := hA.up (by push_cast; omega)
    have hvh := hv (12 * s + (ρ 3 r).toNat)
    rcases hA s (ρ 3 r).toNat hs (by omega) with qh | ⟨qh1, qh2, qh3⟩
    · refine ⟨fun _ => nx0 σ f hB e37 hA1 ho (fun x => vle.rf) hf (fun h => ⟨h, fun a _ => rfl⟩) (fun c1 hc1 => ?_), fun q => absurd qh q⟩
      have := hvh hc1.1; omega
    · refine ⟨fun q => absurd q (by omega), fun _ => ⟨by omega, by omega, ?_⟩⟩
      rw [w32_of (x := σ 81 (12 * s + (ρ 3 r).toNat) + ρ 6 r) (by omega) (by omega)]
      refine c_imp81 (by omega) (by omega) (hA.va hs (by omega)) (fun w f0 w1 w2 w3 hf0 hfw v5 e5 => ?_)
      have hf9 : (v5 = 0 ∨ v5 = 1) ∧ (v5 = 0 → f = 0 ∧ f0 = 0) := by
        rw [e5]
        rcases hf with rfl | rfl <;> rcases hf0 with rfl | rfl <;> decide
      refine nx0 _ v5 hB e37 ?_ (fun x hx => ?_) (vle_put w1) hf9.1 (fun h9 => ⟨(hf9.2 h9).1, fun a ha => ?_⟩) (fun c1 hc1 => ?_)
      · refine hA.put (c := σ 81 (12 * s + (ρ 3 r).toNat) + ρ 6 r) (by push_cast; omega) (by omega) w3 (by omega) (by push_cast; omega) ?_
        rw [show (((ρ 3 r).toNat : Nat) : Int) = ρ 3 r by omega] at qh3
        rw [show (((ρ 4 r).toNat : Nat) : Int) = ρ 4 r by omega]
        exact Cx.one hr4 hin.2 hun.1 qh3
      · rw [upS_j (hx _ (by omega))]; exact ho x hx
      · by_cases e : a = (ρ 4 r).toNat
        · rw [e, upS_s]; exact hfw (hf9.2 h9).2
        · rw [upS_j (by omega)]
      · rw [upS_s]
        have := hvh hc1.1
        exact w2.up (by have := hc1.2; omega)
theorem c_mtn {ρ : St} (hg : Wg ρ) (hL : LL ρ < 9) {s : Nat} (hs : s < spN (LL ρ)) {σ0 : St} {M : Int} (hM : 0 ≤ M ∧ M ≤ 18000000) (hb : ∀ (a : Nat) (c : Int), a < 12 → Cx ρ (a : Int) (spB (LL ρ) s : Nat) (spF (LL ρ) s : Nat) c → cvr (σ0 81 (12 * s + a)) c ∨ ∃ r : Nat, r ∈ uyL ρ 12 ∧ ρ 4 r = (a : Int) ∧ ∃ c1, Cx ρ (ρ 3 r) (spB (LL ρ) s : Nat) (spF (LL ρ) s : Nat) c1 ∧ c = c1 + ρ 6 r) {Q : Int → St → Prop} {K : Int → St → Prop} (hq : ∀ σ1, BL ρ σ1 → σ1 37 = σ0 37 → ASm ρ σ1 (M + 51480) → (∀ x, (∀ a, a < 12 → x ≠ 12 * s + a) → σ1 81 x = σ0 81 x) → (∀ x, vle (σ1 81 x) (σ0 81 x)) → (∀ (a : Nat) (c : Int), a < 12 → Cx ρ (a : Int) (spB (LL ρ) s : Nat) (spF (LL ρ) s : Nat) c → cvr (σ1 81 (12 * s + a)) c) → wp_X5_goDown_b65 Q K (s : Int) ((12 * s : Nat) : Int) σ1) : ∀ (d x : Nat) (σ : St) (f : Int) (n : Nat) (H : Nat → Nat → Int), x + d = 13 → d < n → BL ρ σ → σ 37 = σ0 37 → ASm ρ σ (M + 3960 * x) → (∀ x, (∀ a, a < 12 → x ≠ 12 * s + a) → σ 81 x = σ0 81 x) → (∀ x, vle (σ 81 x) (σ0 81 x)) → (f = 0 ∨ f = 1) → (∀ a, a < 12 → H x a = σ 81 (12 * s + a)) → (∀ a, a < 12 → H 0 a = σ0 81 (12 * s + a)) → (∀ m a, m < x → a < 12 → vle (H (m + 1) a) (H m a)) → (∀ m, m < x → ∀ r ∈ uyL ρ 12, ∀ c1, cvr (H m (ρ 3 r).toNat) c1 → cvr (H (m + 1) (ρ 4 r).toNat) (c1 + ρ 6 r)) → (f = 0 → 0 < x ∧ ∀ a, a < 12 → H x a = H (x - 1) a) → wp_X5_goDown_l40 Q K n (s : Int) ((12 * s : Nat) : Int) f (x : Int) σ := by
  intro d
  have q3 := sp_3 _ hL
  have un : ∀ r, r ∈ uyL ρ 12 → (r : Int) < ρ 0 4 ∧ (0 ≤ ρ 3 r ∧ ρ 3 r < 12) ∧ (0 ≤ ρ 4 r ∧ ρ 4 r < 12) ∧ 1 ≤ ρ 6 r := by
    intro r hr
    rw [mem_uyL] at hr
    obtain ⟨hr, a', ha', hin⟩ := hr
    rw [Bool.and_eq_true] at hin
    have hun := hin.2
    unfold unR at hun
    rw [Bool.and_eq_true, decide_eq_true_iff, decide_eq_true_iff] at hun
    have hr4 : (r : Int) < ρ 0 4 := by have := hg.1; omega
    obtain ⟨hh, hp1, -, hpr, -⟩ := hg.2.2 r hr4
    unfold isPart at hp1
    omega
  have fin : ∀ (x : Nat) (σ : St) (f : Int) (H : Nat → Nat → Int), x ≤ 13 → (x < 13 → f = 0) → BL ρ σ → σ 37 = σ0 37 → ASm ρ σ (M + 3960 * x) → (∀ x, (∀ a, a < 12 → x ≠ 12 * s + a) → σ 81 x = σ0 81 x) → (∀ x, vle (σ 81 x) (σ0 81 x)) → (∀ a, a < 12 → H x a = σ 81 (12 * s + a)) → (∀ a, a < 12 → H 0 a = σ0 81 (12 * s + a)) → (∀ m a, m < x → a < 12 → vle (H (m + 1) a) (H m a)) → (∀ m, m < x → ∀ r ∈ uyL ρ 12, ∀ c1, cvr (H m (ρ 3 r).toNat) c1 → cvr (H (m + 1) (ρ 4 r).toNat) (c1 + ρ 6 r)) → (f = 0 → 0 < x ∧ ∀ a, a < 12 → H x a = H (x - 1) a) → wp_X5_goDown_b65 Q K (s : Int) ((12 * s : Nat) : Int) σ := by
    intro x σ f H hx hxf hB e37 hA ho hv hH hH0 hm hu h0
    refine hq σ hB e37 (hA.up (by omega)) ho hv (fun a c ha hc => ?_)
    have key := fin13 (T := fun a c => Cx ρ ((a : Nat) : Int) (spB (LL ρ) s : Nat) (spF (LL ρ) s : Nat) c) (K := fun n a c => cvr (H (min n x) a) c) (fun n a c hn ha h => ?_) (fun n a c c' h hc => cvr.up h hc) (fun a c ha ht => ⟨Cx.nn hg ht, ?_⟩) ha hc
    · have key : cvr (H (min 13 x) a) c := key
      rw [show min 13 x = x by omega, hH a ha] at key; exact key
    · show cvr (H (min (n + 1) x) a) c
      have h : cvr (H (min n x) a) c := h
      by_cases hnx : n < x
      · rw [show min (n + 1) x = n + 1 by omega]
        rw [show min n x = n by omega] at h
        exact h.le (hm n a hnx ha)
      · rw [show min (n + 1) x = x by omega]
        rw [show min n x = x by omega] at h
        exact h
    · rcases hb a c ha ht with q | ⟨r, hr, h4, c1, hc1, e⟩
      · left
        show cvr (H (min 0 x) a) c
        rw [show min 0 x = 0 by omega, hH0 a ha]; exact q
      · obtain ⟨u1, u2, u3, u4⟩ := un r hr
        right
        refine ⟨(ρ 3 r).toNat, c1, by omega, by omega, ?_, fun n hn h => ?_⟩
        · rw [show (((ρ 3 r).toNat : Nat) : Int) = ρ 3 r by omega]; exact hc1
        · have h : cvr (H (min n x) (ρ 3 r).toNat) c1 := h
          show cvr (H (min (n + 1) x) a) c
          have ea : a = (ρ 4 r).toNat := by omega
          rw [e, ea]
          by_cases hnx : n < x
          · rw [show min (n + 1) x = n + 1 by omega]
            rw [show min n x = n by omega] at h
            exact hu n hnx r hr c1 h
          · rw [show min (n + 1) x = x by omega]
            rw [show min n x = x by omega] at h
            obtain ⟨x0, hx1⟩ := h0 (hxf (by omega))
            rw [hx1 _ (by omega)] at h
            have := hu (x - 1) (by omega) r hr c1 h
            rw [show x - 1 + 1 = x by omega] at this
            exact this
  induction d with
  | zero =>
    intro x σ f n H hd hn hB e37 hA ho hv hf hH hH0 hm hu h0
    obtain ⟨n, rfl⟩ := suc_n hn
    unfold wp_X5_goDown_l40
    exact ⟨fun _ => fin x σ f H (by omega) (fun h => by omega) hB e37 hA ho hv hH hH0 hm hu h0, fun h => absurd h (by omega)⟩
  | succ d ih =>
    intro x σ f n H hd hn hB e37 hA ho hv hf hH hH0 hm hu h0
    obtain ⟨n, rfl⟩ := suc_n hn
    unfold wp_X5_goDown_l40
    refine ⟨fun h => absurd h (by omega), fun _ => ⟨fun hf0 => fin x σ f H (by omega) (fun _ => hf0) hB e37 hA ho hv hH hH0 hm hu h0, fun hf1 => ?_⟩⟩
    unfold wp_X5_relax
    have hul : (uyL ρ 12).length ≤ 40 := Nat.le_trans (uyL_le 12) (liL_40 hg)
    refine c_mrx hg hL hs (σs := σ) (M := M + 3960 * (x : Int)) (by omega) (fun σ1 f1 hB1 e1 hA1 ho1 hv1 hf1 hz hcl v ev => ?_) (uyL ρ 12).length 0 σ 0 bigN (by omega) (by unfold bigN; omega) hB rfl (hA.up (by omega)) (fun _ _ => rfl) (fun _ => vle.rf) (Or.inl rfl) (fun _ a _ => rfl) (fun t' _ h => by omega)
    rw [ev, w32_of (by omega) (by omega), show (x : Int) + 1 = ((x + 1 : Nat) : Int) by omega]
    have eL : ∀ m, m ≤ x → (if m ≤ x then H m else fun a => σ1 81 (12 * s + a)) = H m := fun m h => by rw [if_pos h]
    have eR : (if x + 1 ≤ x then H (x + 1) else fun a => σ1 81 (12 * s + a)) = fun a => σ1 81 (12 * s + a) := by rw [if_neg (by omega)]
    refine ih (x + 1) σ1 f1 n (fun m => if m ≤ x then H m else fun a => σ1 81 (12 * s + a)) (by omega) (by omega) hB1 (e1.trans e37) (hA1.up (by push_cast; omega)) (fun y hy => (ho1 y hy).trans (ho y hy)) (fun y => (hv1 y).tr (hv y)) hf1 (fun a _ => by simp only [eR]) (fun a ha => by simp only [eL 0 (by omega)]; exact hH0 a ha) (fun m a hmx ha => ?_) (fun m hmx r hr c1 hc1 => ?_) (fun hf => ⟨by omega, fun a ha => ?_⟩)
    · by_cases e : m = x
      · subst e
        simp only [eR, eL m (by omega)]
        rw [hH a ha]; exact hv1 _
      · simp only [eL m (by omega), eL (m + 1) (by omega)]
        exact hm m a (by omega) ha
    · obtain ⟨u1, u2, u3, u4⟩ := un r hr
      by_cases e : m = x
      · subst e
        simp only [eL m (by omega)] at hc1
        simp only [eR]
        rw [hH _ (by omega)] at hc1
        exact hcl r hr c1 hc1
      · simp only [eL m (by omega)] at hc1
        simp only [eL (m + 1) (by omega)]
        exact hu m (by omega) r hr c1 hc1
    · simp only [eR, show x + 1 - 1 = x by omega, eL x (by omega)]
      rw [hH a ha, hz hf a ha]
