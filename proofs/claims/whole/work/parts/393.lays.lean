/-! sums: a span; the reference's -/
def SuR (ρ τ : St) (n : Nat) : Prop := ∀ s, s < n → τ 23 (spB (LL ρ) s * 8 + spF (LL ρ) s - 1) = (if (RS ρ n).1 s then 1 else 0) ∧ ∀ a : Nat, a < 12 → hsB ρ s a = true → mR (τ 22 (it a (spB (LL ρ) s : Nat) (spF (LL ρ) s : Nat)).toNat) ∧ ((RS ρ n).1 s = false → τ 22 (it a (spB (LL ρ) s : Nat) (spF (LL ρ) s : Nat)).toNat = (RS ρ n).2 (12 * s + a))
theorem SuR.pt {ρ τ : St} (hL : LL ρ < 9) {n : Nat} (h : SuR ρ τ n) {p : Int} (hp : isPart p) {i j : Nat} (hi : i < j ∧ j ≤ LL ρ) (hlt : spA (LL ρ) i j < n) : ptR ρ (RS ρ n) τ p i j := by
  intro h12 ht
  unfold isPart at hp
  have q := sp_a (L := LL ρ) hL hi
  obtain ⟨a1, a2⟩ := h _ hlt
  rw [q.2.1, q.2.2] at a1 a2
  have hh : hsB ρ (spA (LL ρ) i j) p.toNat = true := hsB_iff.2 ((hPt_it (by omega)).2 (by rw [q.2.1, q.2.2, show ((p.toNat : Nat) : Int) = p by omega]; exact ht))
  have b := a2 p.toNat (by omega) hh
  rw [show ((p.toNat : Nat) : Int) = p by omega] at b
  exact ⟨a1, b.1, b.2⟩
def LG (ρ τ : St) (s : Nat) : Prop := LA ρ τ ∧ SuR ρ τ s ∧ UnK ρ τ s ∧ τ 0 41 = ((rwN ρ s 12 : Nat) : Int)
theorem LA.e24 {ρ τ τ1 : St} (hE : ∀ k, k ≠ 24 → τ1 k = τ k) (hA : LA ρ τ) : LA ρ τ1 := by
  unfold LA RG at *
  rw [hE 0 (by decide), hE 1 (by decide), hE 2 (by decide), hE 3 (by decide), hE 4 (by decide), hE 14 (by decide)]
  refine ⟨hA.1, fun a k l h1 h2 h3 h4 h5 => ?_⟩
  have := hA.2 a k l h1 h2 h3 h4 h5
  unfold rl at *
  rw [hE 15 (by decide)]; exact this
theorem LG.e24 {ρ τ τ1 : St} {s : Nat} (hE : ∀ k, k ≠ 24 → τ1 k = τ k) (h : LG ρ τ s) : LG ρ τ1 s := by
  obtain ⟨a, b, c, d⟩ := h
  refine ⟨a.e24 hE, ?_, ?_, ?_⟩
  · unfold SuR; rw [hE 22 (by decide), hE 23 (by decide)]; exact b
  · unfold UnK; rw [hE 25 (by decide)]; exact c
  · rw [hE 0 (by decide)]; exact d
section LS2
variable {ρ : St} {s : Nat}
theorem r_ls247 (hL : LL ρ < 9) (h80 : 0 ≤ ρ 0 8) (hs : s < spN (LL ρ)) {m : Mx} {τ0 : St} (hG : LG ρ τ0 s) (hM : Mat 24 τ0 m) {Q : Int → St → Prop} (hq : ∀ τ1, (∀ k, k ≠ 22 → τ1 k = τ0 k) → (∀ b k l, isItm ρ b k l → ¬ (k = ((spB (LL ρ) s : Nat) : Int) ∧ l = ((spF (LL ρ) s : Nat) : Int)) → τ1 22 (it b k l).toNat = τ0 22 (it b k l).toNat) → (∀ a : Nat, a < 12 → hsB ρ s a = true → τ1 22 (it a (spB (LL ρ) s : Nat) (spF (LL ρ) s : Nat)).toNat = m (13 * rwN ρ s a + 12)) → Q 0 τ1) : ∀ (d x : Nat) (τ : St) (n : Nat), x + d = rwN ρ s 12 → d < n → (∀ k, k ≠ 22 → τ k = τ0 k) → (∀ b k l, isItm ρ b k l → ¬ (k = ((spB (LL ρ) s : Nat) : Int) ∧ l = ((spF (LL ρ) s : Nat) : Int)) → τ 22 (it b k l).toNat = τ0 22 (it b k l).toNat) → (∀ a : Nat, a < 12 → hsB ρ s a = true → rwN ρ s a < x → τ 22 (it a (spB (LL ρ) s : Nat) (spF (LL ρ) s : Nat)).toNat = m (13 * rwN ρ s a + 12)) → wp_X12_laysSums_l247 Q n ((spB (LL ρ) s : Nat) : Int) ((spF (LL ρ) s : Nat) : Int) (x : Int) τ := by
  have eL : ((LL ρ : Nat) : Int) = ρ 0 8 := by unfold LL; omega
  have hs8 : ρ 0 8 ≤ 8 := by unfold LL at hL; omega
  have sp := sp_s hL hs
  have u12 : rwN ρ s 12 ≤ 12 := rw_12
  intro d
  induction d with
  | zero =>
    intro x τ n hd hn h1 h2 h3
    obtain ⟨n, rfl⟩ := suc_n hn
    unfold wp_X12_laysSums_l247
    rw [h1 0 (by decide), hG.2.2.2]
    exact ⟨fun _ => hq τ h1 h2 (fun a ha hh => h3 a ha hh (by have := rw_lt hh ha; omega)), fun w => absurd (by omega) w⟩
  | succ d ih =>
    intro x τ n hd hn h1 h2 h3
    obtain ⟨n, rfl⟩ := suc_n hn
    obtain ⟨b, b1, b2, b3⟩ := rw_sur (ρ := ρ) (s := s) (x := x) 12 (by omega)
    have e25 : τ 25 x = (b : Int) := by rw [h1 25 (by decide), ← b3]; exact hG.2.2.1 b b1 b2
    have hI : isItm ρ (b : Int) ((spB (LL ρ) s : Nat) : Int) ((spF (LL ρ) s : Nat) : Int) := ⟨by omega, by omega, by omega, by omega⟩
    unfold wp_X12_laysSums_l247
    rw [h1 0 (by decide), hG.2.2.2, Int.toNat_natCast, e25]
    refine ⟨fun w => absurd w (by omega), fun _ => ⟨by omega, r_item hI.1 (by omega) ?_⟩⟩
    have ie : w32 (w32 (13 * (x : Int)) + 12) = ((13 * x + 12 : Nat) : Int) := ixR (a := x) (t := 12) (by omega) (by decide)
    rw [ie, Int.toNat_natCast, h1 24 (by decide), hM (13 * x + 12) (by omega)]
    refine ⟨by omega, it_r hI.1 (by omega), fun τ2 e2 v ev => ?_⟩
    rw [ev, w32_of (by omega) (by omega), e2]
    refine ih (x + 1) _ n (by omega) (by omega) (fun k hk => by rw [upS_k hk]; exact h1 k hk) (fun c k l hc hne => ?_) (fun a ha hh hlt => ?_)
    · rw [upS_j (fun z => by have := itm_inj hs8 hc hI z; exact hne this.2)]; exact h2 c k l hc hne
    · by_cases e : a = b
      · subst e; rw [upS_s, b3]
      · have hIa : isItm ρ (a : Int) ((spB (LL ρ) s : Nat) : Int) ((spF (LL ρ) s : Nat) : Int) := ⟨by omega, by omega, by omega, by omega⟩
        rw [upS_j (fun z => by have := itm_inj hs8 hIa hI z; omega)]
        refine h3 a ha hh ?_
        have : rwN ρ s a ≠ x := fun z => e (rw_inj hh b2 (by omega))
        omega
theorem r_ls225 (hL : LL ρ < 9) (h80 : 0 ≤ ρ 0 8) (hs : s < spN (LL ρ)) {m : Mx} (hm : mOK m) {τ : St} (hG : LG ρ τ s) (hM : Mat 24 τ m) {x3 : Int} (hx : (flP ρ s (RS ρ s) ∧ x3 = 0) ∨ (¬ flP ρ s (RS ρ s) ∧ x3 = 1 ∧ m = (elS ρ s (RS ρ s)).2)) {Q : Int → St → Prop} (hq : ∀ τ1, LA ρ τ1 → SuR ρ τ1 (s + 1) → Q 0 τ1) : wp_X12_laysSums_b225 Q ((spB (LL ρ) s : Nat) : Int) ((spF (LL ρ) s : Nat) : Int) x3 τ := by
  have eL : ((LL ρ : Nat) : Int) = ρ 0 8 := by unfold LL; omega
  have hs8 : ρ 0 8 ≤ 8 := by unfold LL at hL; omega
  have sp := sp_s hL hs
  have b243 : ∀ y, b_and y 1 = (if (RS ρ (s + 1)).1 s then 1 else 0) → wp_X12_laysSums_b243 Q ((spB (LL ρ) s : Nat) : Int) ((spF (LL ρ) s : Nat) : Int) y ((spB (LL ρ) s * 8 + spF (LL ρ) s - 1 : Nat) : Int) τ := by
    intro y ey
    unfold wp_X12_laysSums_b243
    rw [Int.toNat_natCast]
    refine ⟨by omega, fun τ2 e2 => ?_⟩
    rw [ey] at e2
    have E2 : ∀ k, k ≠ 23 → τ2 k = τ k := fun k hk => by rw [e2, upS_k hk]
    have U2 : UnK ρ τ2 s := by unfold UnK; rw [E2 25 (by decide)]; exact hG.2.2.1
    have A2 : LA ρ τ2 := by rw [e2]; exact hG.1
    have loop : ∀ τ3, (∀ k, k ≠ 22 → τ3 k = τ2 k) → (∀ b k l, isItm ρ b k l → ¬ (k = ((spB (LL ρ) s : Nat) : Int) ∧ l = ((spF (LL ρ) s : Nat) : Int)) → τ3 22 (it b k l).toNat = τ2 22 (it b k l).toNat) → (∀ a : Nat, a < 12 → hsB ρ s a = true → τ3 22 (it a (spB (LL ρ) s : Nat) (spF (LL ρ) s : Nat)).toNat = m (13 * rwN ρ s a + 12)) → Q 0 τ3 := by
      intro τ3 c1 c2 c3
      refine hq τ3 ?_ (fun t ht => ?_)
      · have A3 : ∀ k, k ≠ 22 → τ3 k = τ2 k := c1
        unfold LA RG at A2 ⊢
        rw [A3 0 (by decide), A3 1 (by decide), A3 2 (by decide), A3 3 (by decide), A3 4 (by decide), A3 14 (by decide)]
        refine ⟨A2.1, fun a k l h1 h2 h3 h4 h5 => ?_⟩
        have := A2.2 a k l h1 h2 h3 h4 h5
        unfold rl at *
        rw [A3 15 (by decide)]; exact this
      · rw [c1 23 (by decide), e2]
        by_cases e : t = s
        · subst e
          refine ⟨by rw [upS_s], fun a ha hh => ?_⟩
          have r12 := rw_12 (ρ := ρ) (s := t) (a := a)
          rw [c3 a ha hh]
          refine ⟨hm _ (by omega), fun hf => ?_⟩
          rcases hx with ⟨f, -⟩ | ⟨-, -, f⟩
          · rw [RS_f.2 f] at hf; cases hf
          · rw [RS_v ha, f]
        · have st := sp_s hL (show t < spN (LL ρ) by omega)
          obtain ⟨a1, a2⟩ := hG.2.1 t (by omega)
          have ne : ¬ (spB (LL ρ) t = spB (LL ρ) s ∧ spF (LL ρ) t = spF (LL ρ) s) := fun z => e (by rw [← st.2.2, ← sp.2.2, z.1, z.2])
          rw [upS_j (by omega), RS_o e]
          refine ⟨a1, fun a ha hh => ?_⟩
          rw [c2 a _ _ ⟨by omega, by omega, by omega, by omega⟩ (fun z => ne (by omega)), e2, upS_k (by decide), RS_w (by omega)]
          exact a2 a ha hh
    refine r_ls247 hL h80 hs (m := m) (τ0 := τ2) ⟨A2, ?_, U2, by rw [E2 0 (by decide)]; exact hG.2.2.2⟩ (by rw [e2]; exact hM) loop (rwN ρ s 12) 0 τ2 bigN (by omega) (by have := rw_12 (ρ := ρ) (s := s) (a := 12); unfold bigN; omega) (fun _ _ => rfl) (fun _ _ _ _ _ => rfl) (fun a _ _ hlt => by omega)
    intro t ht
    obtain ⟨a1, a2⟩ := hG.2.1 t ht
    have st := sp_s hL (show t < spN (LL ρ) by omega)
    have ne : ¬ (spB (LL ρ) t = spB (LL ρ) s ∧ spF (LL ρ) t = spF (LL ρ) s) := fun z => by
      have : t = s := by rw [← st.2.2, ← sp.2.2, z.1, z.2]
      omega
    rw [e2, upS_j (by omega)]
    exact ⟨a1, a2⟩
  unfold wp_X12_laysSums_b225 wp_X12_span
  have ie : w32 (w32 (w32 (((spB (LL ρ) s : Nat) : Int) * 8) + ((spF (LL ρ) s : Nat) : Int)) - 1) = ((spB (LL ρ) s * 8 + spF (LL ρ) s - 1 : Nat) : Int) := by
    rw [w32_of (x := ((spB (LL ρ) s : Nat) : Int) * 8) (by omega) (by omega), w32_of (x := ((spB (LL ρ) s : Nat) : Int) * 8 + ((spF (LL ρ) s : Nat) : Int)) (by omega) (by omega), w32_of (by omega) (by omega)]; omega
  rw [ie]
  refine ⟨fun z => b243 0 ?_, fun z => b243 1 ?_⟩
  · rcases hx with ⟨-, f⟩ | ⟨f, -⟩
    · exact absurd f z
    · have : (RS ρ (s + 1)).1 s = false := by
        cases w : (RS ρ (s + 1)).1 s with
        | false => rfl
        | true => exact absurd (RS_f.1 w) f
      rw [this]; decide
  · rcases hx with ⟨f, -⟩ | ⟨-, f, -⟩
    · rw [RS_f.2 f]; decide
    · omega
theorem r_ls199 (hL : LL ρ < 9) (h80 : 0 ≤ ρ 0 8) (hs : s < spN (LL ρ)) {Q : Int → St → Prop} (hq : ∀ τ1, LA ρ τ1 → SuR ρ τ1 (s + 1) → Q 0 τ1) : ∀ (d c : Nat) (x3 : Int) (m : Mx) (τ : St) (n : Nat), c + d = rwN ρ s 12 → d < n → mOK m → LG ρ τ s → Mat 24 τ m → ((x3 = 0 ∧ flP ρ s (RS ρ s)) ∨ (x3 = 1 ∧ ¬ bdP ρ s (RS ρ s) 12 ∧ elF (rwN ρ s 12) d c m = elS ρ s (RS ρ s))) → wp_X12_laysSums_l199 Q n ((spB (LL ρ) s : Nat) : Int) ((spF (LL ρ) s : Nat) : Int) x3 (c : Int) τ := by
  have u12 : rwN ρ s 12 ≤ 12 := rw_12
  have out : ∀ (m : Mx) (τ : St), mOK m → LG ρ τ s → Mat 24 τ m → flP ρ s (RS ρ s) → wp_X12_laysSums_b225 Q ((spB (LL ρ) s : Nat) : Int) ((spF (LL ρ) s : Nat) : Int) 0 τ := fun m τ hm hG hM hf => r_ls225 hL h80 hs hm hG hM (Or.inl ⟨hf, rfl⟩) hq
  intro d
  induction d with
  | zero =>
    intro c x3 m τ n hd hn hm hG hM hx
    obtain ⟨n, rfl⟩ := suc_n hn
    unfold wp_X12_laysSums_l199
    rw [hG.2.2.2]
    refine ⟨fun _ => ?_, fun w => absurd (by omega) w⟩
    rcases hx with ⟨rfl, f⟩ | ⟨rfl, f1, f2⟩
    · exact out m τ hm hG hM f
    · refine r_ls225 hL h80 hs hm hG hM (Or.inr ⟨?_, rfl, by rw [← f2]; rfl⟩) hq
      rintro (z | z)
      · exact f1 z
      · rw [← f2] at z; cases z
  | succ d ih =>
    intro c x3 m τ n hd hn hm hG hM hx
    obtain ⟨n, rfl⟩ := suc_n hn
    unfold wp_X12_laysSums_l199
    rw [hG.2.2.2]
    rcases hx with ⟨rfl, f⟩ | ⟨rfl, f1, f2⟩
    · exact ⟨fun _ => out m τ hm hG hM f, fun _ => ⟨fun _ => out m τ hm hG hM f, fun w => absurd rfl w⟩⟩
    · refine ⟨fun w => absurd w (by omega), fun _ => ⟨fun w => absurd w (by decide), fun _ => ?_⟩⟩
      refine mf_X12_clears (σ0 := τ) (Q := fun r τ1 => (¬ fpv m (rwN ρ s 12) c (rwN ρ s 12 - c) c < rwN ρ s 12 ∧ r = 0 ∧ τ1 = τ) ∨ (fpv m (rwN ρ s 12) c (rwN ρ s 12 - c) c < rwN ρ s 12 ∧ r = 1 ∧ MatU (rwN ρ s 12) τ1 (stM (rwN ρ s 12) c (fpv m (rwN ρ s 12) c (rwN ρ s 12 - c) c) m))) (fun r τ1 g f v ev => ?_) Fr.rf (r_clears u12 (by omega) hm ⟨hM, hG.2.2.2⟩ (fun h => Or.inl ⟨h, rfl, rfl⟩) (fun h τ1 h1 => Or.inr ⟨h, rfl, h1⟩))
      have E1 : ∀ k, k ≠ 24 → τ1 k = τ k := fun k hk => funext (fun j => f.at (by show (([24] : List Nat).contains k || ([] : List (Nat × Nat)).contains (k, j)) = false; simp [hk]))
      rw [ev, w32_of (by omega) (by omega)]
      unfold elF at f2
      rcases g with ⟨g1, rfl, rfl⟩ | ⟨g1, rfl, g2⟩
      · rw [if_neg g1] at f2
        exact ih (c + 1) 0 m τ1 n (by omega) (by omega) hm hG hM (Or.inl ⟨rfl, Or.inr (by rw [← f2])⟩)
      · rw [if_pos g1] at f2
        exact ih (c + 1) 1 _ τ1 n (by omega) (by omega) (stM_ok (by omega) (by omega) hm) (hG.e24 E1) g2.1 (Or.inr ⟨rfl, f1, f2⟩)
end LS2
