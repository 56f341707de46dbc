/-! clearing a column: the reference's -/
def MatU (u : Nat) (τ : St) (m : Mx) : Prop := Mat 24 τ m ∧ τ 0 41 = (u : Int)
theorem r_cl213 {u c r : Nat} (hu : u ≤ 12) (hc : c < u) (hr : r < u) (hrc : r ≠ c) {m : Mx} (hm : mOK m) {Q : Int → St → Prop} {K : Int → Int → St → Prop} (hk : ∀ τ1, MatU u τ1 (sbr r c m) → K (c : Int) ((r + 1 : Nat) : Int) τ1) : ∀ (d t : Nat) (τ : St) (n : Nat), t + d = 13 → d < n → MXt 24 τ (sbr r c m) m t → τ 0 41 = (u : Int) → wp_X12_clears_l213 Q K n (c : Int) (r : Int) (m (13 * r + c)) (t : Int) τ := by
  have hf := hm (13 * r + c) (by omega)
  intro d
  induction d with
  | zero =>
    intro t τ n hd hn hM h41
    obtain ⟨n, rfl⟩ := suc_n hn
    unfold wp_X12_clears_l213 wp_X12_clears_b276
    refine ⟨fun _ v ev => ?_, fun w => absurd (by omega) w⟩
    rw [ev, w32_of (by omega) (by omega)]
    rw [show t = 13 by omega] at hM
    exact hk τ ⟨hM.all, h41⟩
  | succ d ih =>
    intro t τ n hd hn hM h41
    obtain ⟨n, rfl⟩ := suc_n hn
    have ht : t < 13 := by omega
    unfold wp_X12_clears_l213
    rw [ixR (a := r) (by omega) ht, ixR (a := c) (by omega) ht, Int.toNat_natCast, Int.toNat_natCast]
    have e1 := hM (13 * r + t) (by omega)
    have e2 := hM (13 * c + t) (by omega)
    rw [if_neg (by omega)] at e1 e2
    have h1 := hm (13 * r + t) (by omega)
    have h2 := hm (13 * c + t) (by omega)
    unfold mR at hf h1 h2
    have hx : 0 ≤ (9973 - m (13 * r + c)) * m (13 * c + t) := Int.mul_nonneg (by omega) h2.1
    have hx2 : (9973 - m (13 * r + c)) * m (13 * c + t) ≤ 9973 * 9973 := Int.mul_le_mul (by omega) (by omega) h2.1 (by decide)
    rw [e1, e2, w64_of (x := 9973 - m (13 * r + c)) (by omega) (by omega), w64_of (x := (9973 - m (13 * r + c)) * m (13 * c + t)) (by omega) (by omega), w64_of (by omega) (by omega), l_rem_eq (by omega) (by omega) (by decide) (by decide)]
    refine ⟨fun w => absurd w (by omega), fun _ => ⟨by omega, by omega, by omega, fun τ1 s1 v ev => ?_⟩⟩
    rw [ev, w32_of (by omega) (by omega), s1]
    refine ih (t + 1) _ n (by omega) (by omega) (hM.put (fun k _ h1 => by unfold sbr; rw [if_neg h1]) ht ?_) (by rw [upS_k (by decide)]; exact h41)
    unfold sbr
    rw [if_pos (by omega), show (13 * r + t) % 13 = t by omega, Int.sub_mul, Int.mul_comm (m (13 * r + c))]
    generalize m (13 * c + t) * m (13 * r + c) = y
    omega
theorem r_cl171 {u c : Nat} (hu : u ≤ 12) (hc : c < u) {m : Mx} (hm : mOK m) {Q : Int → St → Prop} (hq : ∀ τ1, MatU u τ1 (sbs c u m) → Q 1 τ1) : ∀ (d r : Nat) (τ : St) (n : Nat), r + d = u → d < n → MatU u τ (sbs c r m) → wp_X12_clears_l171 Q n (c : Int) (r : Int) τ := by
  intro d
  induction d with
  | zero =>
    intro r τ n hd hn hM
    obtain ⟨n, rfl⟩ := suc_n hn
    unfold wp_X12_clears_l171
    rw [hM.2]
    refine ⟨fun _ => ?_, fun w => absurd (by omega) w⟩
    rw [show r = u by omega] at hM
    exact hq τ hM
  | succ d ih =>
    intro r τ n hd hn hM
    obtain ⟨n, rfl⟩ := suc_n hn
    have nx : ∀ τ1, MatU u τ1 (sbs c (r + 1) m) → wp_X12_clears_b276 Q (wp_X12_clears_l171 Q n) (c : Int) (r : Int) τ1 := by
      intro τ1 h1
      unfold wp_X12_clears_b276
      intro v ev
      rw [ev, w32_of (by omega) (by omega)]
      exact ih (r + 1) τ1 n (by omega) (by omega) h1
    have ok := sbs_ok (c := c) hm r
    unfold wp_X12_clears_l171
    rw [hM.2, ixR (a := r) (t := c) (by omega) (by omega), Int.toNat_natCast, hM.1 (13 * r + c) (by omega)]
    refine ⟨fun w => absurd w (by omega), fun _ => ⟨by omega, fun v10 e10 => ?_⟩⟩
    rw [e10]
    refine ⟨fun e => nx τ ?_, fun e => ⟨fun z => ?_, fun z => nx τ ?_⟩⟩
    · show MatU u τ (if r = c then _ else _)
      rw [if_pos (by omega)]; exact hM
    · refine r_cl213 hu hc (by omega) (by omega) ok (fun τ1 h1 => ih (r + 1) τ1 n (by omega) (by omega) ?_) 13 0 τ bigN (by omega) (by unfold bigN; omega) hM.1.mx hM.2
      show MatU u τ1 (if r = c then _ else _)
      rw [if_neg (by omega)]; exact h1
    · show MatU u τ (if r = c then _ else _)
      rw [if_neg (by omega)]
      refine ⟨fun k hk => ?_, hM.2⟩
      rw [hM.1 k hk]
      unfold sbr
      by_cases e2 : k / 13 = r
      · have := ok k hk
        rw [if_pos e2, show sbs c r m (13 * r + c) = 0 from Classical.byContradiction z, Int.mul_zero]; unfold mR at this; omega
      · rw [if_neg e2]
theorem r_cl125 {u c : Nat} (hu : u ≤ 12) (hc : c < u) {m : Mx} (hm : mOK m) {f : Int} (hf : mR f) {Q : Int → St → Prop} (hq : ∀ τ1, MatU u τ1 (sbs c u (scl c f m)) → Q 1 τ1) : ∀ (d t : Nat) (τ : St) (n : Nat), t + d = 13 → d < n → MXt 24 τ (scl c f m) m t → τ 0 41 = (u : Int) → wp_X12_clears_l125 Q n (c : Int) f (t : Int) τ := by
  intro d
  induction d with
  | zero =>
    intro t τ n hd hn hM h41
    obtain ⟨n, rfl⟩ := suc_n hn
    unfold wp_X12_clears_l125
    refine ⟨fun _ => ?_, fun w => absurd (by omega) w⟩
    rw [show t = 13 by omega] at hM
    exact r_cl171 hu hc (scl_ok hm) hq u 0 τ bigN (by omega) (by unfold bigN; omega) ⟨hM.all, h41⟩
  | succ d ih =>
    intro t τ n hd hn hM h41
    obtain ⟨n, rfl⟩ := suc_n hn
    have ht : t < 13 := by omega
    unfold wp_X12_clears_l125
    rw [ixR (a := c) (by omega) ht, Int.toNat_natCast]
    have e1 := hM (13 * c + t) (by omega)
    rw [if_neg (by omega)] at e1
    have hx := mR_mul (hm (13 * c + t) (by omega)) hf
    rw [e1, w64_of (by omega) (by omega), l_rem_eq hx.1 (by omega) (by decide) (by decide)]
    refine ⟨fun w => absurd w (by omega), fun _ => ⟨by omega, by omega, fun τ1 s1 v ev => ?_⟩⟩
    rw [ev, w32_of (by omega) (by omega), s1]
    exact ih (t + 1) _ n (by omega) (by omega) (hM.put (fun k _ h1 => by unfold scl; rw [if_neg h1]) ht (by unfold scl; rw [if_pos (by omega)])) (by rw [upS_k (by decide)]; exact h41)
theorem r_cl44 {u c x : Nat} (hu : u ≤ 12) (hc : c < u) (hx : x < u) {m : Mx} (hm : mOK m) {Q : Int → St → Prop} (hq : ∀ τ1, MatU u τ1 (stM u c x m) → Q 1 τ1) : ∀ (d t : Nat) (τ : St) (n : Nat), t + d = 13 → d < n → MXt 24 τ (swp x c m) m t → τ 0 41 = (u : Int) → wp_X12_clears_l44 Q n (c : Int) (x : Int) (t : Int) τ := by
  have o1 := swp_ok (a := x) (b := c) (by omega) (by omega) hm
  intro d
  induction d with
  | zero =>
    intro t τ n hd hn hM h41
    obtain ⟨n, rfl⟩ := suc_n hn
    unfold wp_X12_clears_l44
    rw [show t = 13 by omega] at hM ⊢
    rw [ixR (a := c) (t := c) (by omega) (by omega), Int.toNat_natCast, hM.all (13 * c + c) (by omega)]
    refine ⟨fun _ => ⟨by omega, ?_⟩, fun w => absurd (by decide) w⟩
    exact r_power (o1 _ (by omega)) (N := 9971) (Nat.le_refl _) (r_cl125 hu hc o1 (mR_mod _) hq 13 0 τ bigN (by omega) (by unfold bigN; omega) hM.all.mx h41)
  | succ d ih =>
    intro t τ n hd hn hM h41
    obtain ⟨n, rfl⟩ := suc_n hn
    have ht : t < 13 := by omega
    unfold wp_X12_clears_l44
    rw [ixR (a := x) (by omega) ht, ixR (a := c) (t := t) (by omega) ht, Int.toNat_natCast, Int.toNat_natCast]
    have e1 := hM (13 * x + t) (by omega)
    have e2 := hM (13 * c + t) (by omega)
    rw [if_neg (by omega)] at e1 e2
    refine ⟨fun w => absurd w (by omega), fun _ => ⟨by omega, fun v4 e4 => ⟨by omega, by omega, fun τ5 s5 => ⟨by omega, fun τ6 s6 v ev => ?_⟩⟩⟩⟩
    rw [ev, w32_of (by omega) (by omega), s6, s5, e4]
    exact ih (t + 1) _ n (by omega) (by omega) (hM.put2 (fun k _ h1 h2 => swp_o h1 h2) ht (by rw [e2, swp_a ht]) (by rw [e1, swp_b ht])) (by rw [upS_k (by decide), upS_k (by decide)]; exact h41)
theorem r_clears {u c : Nat} (hu : u ≤ 12) (hc : c < u) {m : Mx} (hm : mOK m) {τ : St} (hM : MatU u τ m) {Q : Int → St → Prop} (hno : ¬ fpv m u c (u - c) c < u → Q 0 τ) (hyes : fpv m u c (u - c) c < u → ∀ τ1, MatU u τ1 (stM u c (fpv m u c (u - c) c) m) → Q 1 τ1) : wp_X12_clears (c : Int) τ Q := by
  have b32 : ∀ x, c ≤ x → x ≤ u → fpv m u c (u - c) c = x → wp_X12_clears_b32 Q (c : Int) (x : Int) τ := by
    intro x hx1 hx2 hx
    unfold wp_X12_clears_b32
    rw [hM.2]
    rw [hx] at hno hyes
    refine ⟨fun w => ?_, fun w => hno (by omega)⟩
    exact r_cl44 hu hc (by omega) hm (hyes (by omega)) 13 0 τ bigN (by omega) (by unfold bigN; omega) hM.1.mx hM.2
  have l2 : ∀ (e x : Nat) (n2 : Nat), x + e = u → c ≤ x → e < n2 → fpv m u c (u - c) c = fpv m u c e x → wp_X12_clears_l2 Q n2 (c : Int) (x : Int) τ := by
    intro e
    induction e with
    | zero =>
      intro x n2 hx hcx hn2 hf
      obtain ⟨n2, rfl⟩ := suc_n hn2
      unfold wp_X12_clears_l2
      rw [hM.2]
      exact ⟨fun _ => b32 x hcx (by omega) hf, fun w => absurd (by omega) w⟩
    | succ e ihe =>
      intro x n2 hx hcx hn2 hf
      obtain ⟨n2, rfl⟩ := suc_n hn2
      unfold wp_X12_clears_l2
      rw [hM.2, ixR (a := x) (t := c) (by omega) (by omega), Int.toNat_natCast, hM.1 (13 * x + c) (by omega)]
      rw [show fpv m u c (e + 1) x = (if m (13 * x + c) = 0 then fpv m u c e (x + 1) else x) from rfl] at hf
      refine ⟨fun w => absurd w (by omega), fun _ => ⟨by omega, fun z => ?_, fun z v ev => ?_⟩⟩
      · rw [if_neg z] at hf; exact b32 x hcx (by omega) hf
      · rw [ev, w32_of (by omega) (by omega)]
        rw [if_pos (Classical.byContradiction z)] at hf
        exact ihe (x + 1) n2 (by omega) (by omega) (by omega) hf
  unfold wp_X12_clears
  exact l2 (u - c) c bigN (by omega) (Nat.le_refl _) (by unfold bigN; omega) rfl
