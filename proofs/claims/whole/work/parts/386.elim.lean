/-! clearing a matrix of 12 rows, 13 wide, modulo 9973 -/
abbrev Mx : Type := Nat → Int
def mOK (m : Mx) : Prop := ∀ k, k < 156 → mR (m k)
def Mat (cl : Nat) (σ : St) (m : Mx) : Prop := ∀ k, k < 156 → σ cl k = m k
def MXt (cl : Nat) (σ : St) (m1 m : Mx) (t : Nat) : Prop := ∀ k, k < 156 → σ cl k = if k % 13 < t then m1 k else m k
theorem Mat.mx {cl : Nat} {σ : St} {m1 m : Mx} (h : Mat cl σ m) : MXt cl σ m1 m 0 := fun k hk => by rw [if_neg (by omega)]; exact h k hk
theorem MXt.all {cl : Nat} {σ : St} {m1 m : Mx} (h : MXt cl σ m1 m 13) : Mat cl σ m1 := fun k hk => by have := h k hk; rw [if_pos (Nat.mod_lt _ (by decide))] at this; exact this
def swp (a b : Nat) (m : Mx) : Mx := fun k => if k / 13 = a then m (13 * b + k % 13) else if k / 13 = b then m (13 * a + k % 13) else m k
def scl (r : Nat) (f : Int) (m : Mx) : Mx := fun k => if k / 13 = r then m k * f % 9973 else m k
def sbr (r c : Nat) (m : Mx) : Mx := fun k => if k / 13 = r then (m k - m (13 * c + k % 13) * m (13 * r + c)) % 9973 else m k
theorem MXt.put {cl : Nat} {σ : St} {m1 m : Mx} {t r : Nat} (h : MXt cl σ m1 m t) (hr : ∀ k, k < 156 → k / 13 ≠ r → m1 k = m k) (ht : t < 13) {v : Int} (hv : v = m1 (13 * r + t)) : MXt cl (upS σ cl (13 * r + t) v) m1 m (t + 1) := by
  intro k hk
  by_cases e : k = 13 * r + t
  · rw [e, upS_s, if_pos (by omega)]; exact hv
  · rw [upS_j e, h k hk]
    by_cases z : k % 13 < t
    · rw [if_pos z, if_pos (by omega)]
    · rw [if_neg z]
      by_cases z2 : k % 13 < t + 1
      · rw [if_pos z2]; exact (hr k hk (by omega)).symm
      · rw [if_neg z2]
theorem MXt.put2 {cl : Nat} {σ : St} {m1 m : Mx} {t r r2 : Nat} (h : MXt cl σ m1 m t) (hr : ∀ k, k < 156 → k / 13 ≠ r → k / 13 ≠ r2 → m1 k = m k) (ht : t < 13) {v w : Int} (hv : v = m1 (13 * r + t)) (hw : w = m1 (13 * r2 + t)) : MXt cl (upS (upS σ cl (13 * r + t) v) cl (13 * r2 + t) w) m1 m (t + 1) := by
  intro k hk
  by_cases e2 : k = 13 * r2 + t
  · rw [e2, upS_s, if_pos (by omega)]; exact hw
  · rw [upS_j e2]
    by_cases e : k = 13 * r + t
    · rw [e, upS_s, if_pos (by omega)]; exact hv
    · rw [upS_j e, h k hk]
      by_cases z : k % 13 < t
      · rw [if_pos z, if_pos (by omega)]
      · rw [if_neg z]
        by_cases z2 : k % 13 < t + 1
        · rw [if_pos z2]; exact (hr k hk (by omega) (by omega)).symm
        · rw [if_neg z2]
theorem ixC {a t : Nat} (ha : a < 12) (ht : t < 13) : w32 (w32 ((a : Int) * 13) + (t : Int)) = ((13 * a + t : Nat) : Int) := by
  rw [w32_of (x := (a : Int) * 13) (by omega) (by omega), w32_of (by omega) (by omega)]; omega
theorem ixR {a t : Nat} (ha : a < 12) (ht : t < 13) : w32 (w32 (13 * (a : Int)) + (t : Int)) = ((13 * a + t : Nat) : Int) := by
  rw [w32_of (x := 13 * (a : Int)) (by omega) (by omega), w32_of (by omega) (by omega)]; omega
theorem swp_a {a b t : Nat} {m : Mx} (ht : t < 13) : swp a b m (13 * a + t) = m (13 * b + t) := by
  unfold swp; rw [if_pos (by omega), show (13 * a + t) % 13 = t by omega]
theorem swp_b {a b t : Nat} {m : Mx} (ht : t < 13) : swp a b m (13 * b + t) = m (13 * a + t) := by
  unfold swp
  rw [show (13 * b + t) % 13 = t by omega]
  by_cases e : (13 * b + t) / 13 = a
  · rw [if_pos e, show a = b by omega]
  · rw [if_neg e, if_pos (by omega)]
theorem swp_o {a b k : Nat} {m : Mx} (h1 : k / 13 ≠ a) (h2 : k / 13 ≠ b) : swp a b m k = m k := by unfold swp; rw [if_neg h1, if_neg h2]
theorem swp_same {a : Nat} {m : Mx} : swp a a m = m := by
  refine funext (fun k => ?_)
  unfold swp
  by_cases e : k / 13 = a
  · rw [if_pos e, show 13 * a + k % 13 = k by omega]
  · rw [if_neg e, if_neg e]
theorem swp_ok {a b : Nat} {m : Mx} (ha : a < 12) (hb : b < 12) (h : mOK m) : mOK (swp a b m) := by
  intro k hk
  unfold swp
  by_cases e : k / 13 = a
  · rw [if_pos e]; exact h _ (by omega)
  · rw [if_neg e]
    by_cases e2 : k / 13 = b
    · rw [if_pos e2]; exact h _ (by omega)
    · rw [if_neg e2]; exact h k hk
theorem scl_ok {r : Nat} {f : Int} {m : Mx} (h : mOK m) : mOK (scl r f m) := by
  intro k hk
  unfold scl
  by_cases e : k / 13 = r
  · rw [if_pos e]; exact mR_mod _
  · rw [if_neg e]; exact h k hk
theorem sbr_ok {r c : Nat} {m : Mx} (h : mOK m) : mOK (sbr r c m) := by
  intro k hk
  unfold sbr
  by_cases e : k / 13 = r
  · rw [if_pos e]; exact mR_mod _
  · rw [if_neg e]; exact h k hk
/-! the class's rows -/
theorem c_swap {m : Mx} {a b : Nat} (ha : a < 12) (hb : b < 12) {σ : St} (h : Mat 48 σ m) {Q : Int → St → Prop} (hq : ∀ σ1, Mat 48 σ1 (swp a b m) → Q 0 σ1) : wp_X7_swapRows (a : Int) (b : Int) σ Q := by
  unfold wp_X7_swapRows
  by_cases hab : a = b
  · subst hab
    obtain ⟨n, hn⟩ := suc_n (show 0 < bigN by unfold bigN; omega)
    rw [hn]
    unfold wp_X7_swapRows_l2
    rw [swp_same] at hq
    exact ⟨fun _ => hq σ h, fun _ => ⟨fun _ => hq σ h, fun w => absurd rfl w⟩⟩
  have lp : ∀ (d t : Nat) (σ : St) (n : Nat), t + d = 13 → d < n → MXt 48 σ (swp a b m) m t → wp_X7_swapRows_l2 Q n (a : Int) (b : Int) (t : Int) σ := by
    intro d
    induction d with
    | zero =>
      intro t σ n hd hn hM
      obtain ⟨n, rfl⟩ := suc_n hn
      unfold wp_X7_swapRows_l2
      rw [show t = 13 by omega] at hM ⊢
      exact ⟨fun _ => hq σ hM.all, fun w => absurd (by decide) w⟩
    | succ d ih =>
      intro t σ n hd hn hM
      obtain ⟨n, rfl⟩ := suc_n hn
      have ht : t < 13 := by omega
      unfold wp_X7_swapRows_l2
      rw [ixC ha ht, ixC hb ht, Int.toNat_natCast, Int.toNat_natCast]
      have e1 := hM (13 * a + t) (by omega)
      have e2 := hM (13 * b + t) (by omega)
      rw [if_neg (by omega)] at e1 e2
      refine ⟨fun w => absurd w (by omega), fun _ => ⟨fun w => absurd w (by omega), fun _ => ⟨by omega, fun v1 ev1 => ⟨by omega, by omega, fun σ2 s2 => ⟨by omega, fun σ3 s3 v4 ev4 => ?_⟩⟩⟩⟩⟩
      rw [ev4, w32_of (by omega) (by omega), s3, s2, ev1]
      exact ih (t + 1) _ n (by omega) (by omega) (hM.put2 (fun k _ h1 h2 => swp_o h1 h2) ht (by rw [e2, swp_a ht]) (by rw [e1, swp_b ht]))
  exact lp 13 0 σ bigN (by omega) (by unfold bigN; omega) h.mx
theorem c_scale {m : Mx} (hm : mOK m) {r : Nat} (hr : r < 12) {f : Int} (hf : mR f) {σ : St} (h : Mat 48 σ m) {Q : Int → St → Prop} (hq : ∀ σ1, Mat 48 σ1 (scl r f m) → Q 0 σ1) : wp_X7_scaleRow (r : Int) f σ Q := by
  unfold wp_X7_scaleRow
  by_cases hf1 : f = 1
  · obtain ⟨n, hn⟩ := suc_n (show 0 < bigN by unfold bigN; omega)
    rw [hn]
    unfold wp_X7_scaleRow_l2
    have hh := hq σ (fun k hk => by
      rw [h k hk]
      unfold scl
      by_cases e : k / 13 = r
      · have := hm k hk
        rw [if_pos e, hf1, Int.mul_one]; unfold mR at this; omega
      · rw [if_neg e])
    exact ⟨fun _ => hh, fun _ => ⟨fun _ => hh, fun w => absurd hf1 w⟩⟩
  have lp : ∀ (d t : Nat) (σ : St) (n : Nat), t + d = 13 → d < n → MXt 48 σ (scl r f m) m t → wp_X7_scaleRow_l2 Q n (r : Int) f (t : Int) σ := by
    intro d
    induction d with
    | zero =>
      intro t σ n hd hn hM
      obtain ⟨n, rfl⟩ := suc_n hn
      unfold wp_X7_scaleRow_l2
      rw [show t = 13 by omega] at hM ⊢
      exact ⟨fun _ => hq σ hM.all, fun w => absurd (by decide) w⟩
    | succ d ih =>
      intro t σ n hd hn hM
      obtain ⟨n, rfl⟩ := suc_n hn
      have ht : t < 13 := by omega
      unfold wp_X7_scaleRow_l2
      rw [ixC hr ht, Int.toNat_natCast]
      have e1 := hM (13 * r + t) (by omega)
      rw [if_neg (by omega)] at e1
      have hx := mR_mul (hm (13 * r + t) (by omega)) hf
      rw [e1, w32_of (x := m (13 * r + t) * f) (by omega) (by omega), b_rem_eq hx.1 (by omega) (by decide) (by decide)]
      refine ⟨fun w => absurd w (by omega), fun _ => ⟨fun w => absurd w hf1, fun _ => ⟨by omega, by omega, fun σ1 s1 v2 ev2 => ?_⟩⟩⟩
      rw [ev2, w32_of (by omega) (by omega), s1]
      exact ih (t + 1) _ n (by omega) (by omega) (hM.put (fun k _ h1 => by unfold scl; rw [if_neg h1]) ht (by unfold scl; rw [if_pos (by omega)]))
  exact lp 13 0 σ bigN (by omega) (by unfold bigN; omega) h.mx
theorem c_subtr {m : Mx} (hm : mOK m) {r c : Nat} (hr : r < 12) (hc : c < 12) (hrc : r ≠ c) {σ : St} (h : Mat 48 σ m) {Q : Int → St → Prop} (hq : ∀ σ1, Mat 48 σ1 (sbr r c m) → Q 0 σ1) : wp_X7_subtractRow (r : Int) (c : Int) (m (13 * r + c)) σ Q := by
  unfold wp_X7_subtractRow
  have hf := hm (13 * r + c) (by omega)
  by_cases hf1 : m (13 * r + c) = 0
  · obtain ⟨n, hn⟩ := suc_n (show 0 < bigN by unfold bigN; omega)
    rw [hn]
    unfold wp_X7_subtractRow_l3
    have hh := hq σ (fun k hk => by
      rw [h k hk]
      unfold sbr
      by_cases e : k / 13 = r
      · have := hm k hk
        rw [if_pos e, hf1, Int.mul_zero]; unfold mR at this; omega
      · rw [if_neg e])
    exact ⟨fun _ => hh, fun _ => ⟨fun _ => hh, fun w => absurd hf1 w⟩⟩
  have lp : ∀ (d t : Nat) (σ : St) (n : Nat), t + d = 13 → d < n → MXt 48 σ (sbr r c m) m t → wp_X7_subtractRow_l3 Q n (r : Int) (c : Int) (m (13 * r + c)) (t : Int) σ := by
    intro d
    induction d with
    | zero =>
      intro t σ n hd hn hM
      obtain ⟨n, rfl⟩ := suc_n hn
      unfold wp_X7_subtractRow_l3
      rw [show t = 13 by omega] at hM ⊢
      exact ⟨fun _ => hq σ hM.all, fun w => absurd (by decide) w⟩
    | succ d ih =>
      intro t σ n hd hn hM
      obtain ⟨n, rfl⟩ := suc_n hn
      have ht : t < 13 := by omega
      unfold wp_X7_subtractRow_l3
      rw [ixC hr ht, ixC hc ht, Int.toNat_natCast, Int.toNat_natCast]
      have e1 := hM (13 * r + t) (by omega)
      have e2 := hM (13 * c + t) (by omega)
      rw [if_neg (by omega)] at e1 e2
      have hx := mR_mul (hm (13 * c + t) (by omega)) hf
      have h1 := hm (13 * r + t) (by omega)
      rw [e1, e2, w32_of (x := m (13 * c + t) * m (13 * r + c)) (by omega) (by omega), b_rem_eq hx.1 (by omega) (by decide) (by decide)]
      unfold mR at h1
      refine ⟨fun w => absurd w (by omega), fun _ => ⟨fun w => absurd w hf1, fun _ => ⟨by omega, fun v1 ev1 => ⟨by omega, ?_⟩⟩⟩⟩
      rw [w32_of (by omega) (by omega)]
      refine c_floorMod (by omega) (by omega) ⟨by omega, fun σ4 s4 v5 ev5 => ?_⟩
      rw [ev5, w32_of (by omega) (by omega), s4]
      refine ih (t + 1) _ n (by omega) (by omega) (hM.put (fun k _ h1 => by unfold sbr; rw [if_neg h1]) ht ?_)
      unfold sbr
      rw [if_pos (by omega), show (13 * r + t) % 13 = t by omega, ev1]
      generalize m (13 * c + t) * m (13 * r + c) = y
      omega
  exact lp 13 0 σ bigN (by omega) (by unfold bigN; omega) h.mx
/-! clearing a column, and all -/
def sbs (c : Nat) : Nat → Mx → Mx
  | 0, m => m
  | r + 1, m => if r = c then sbs c r m else sbr r c (sbs c r m)
theorem sbs_ok {c : Nat} {m : Mx} (h : mOK m) : ∀ r, mOK (sbs c r m)
  | 0 => h
  | r + 1 => by
    show mOK (if r = c then _ else _)
    by_cases e : r = c
    · rw [if_pos e]; exact sbs_ok h r
    · rw [if_neg e]; exact sbr_ok (sbs_ok h r)
def fpv (m : Mx) (u c : Nat) : Nat → Nat → Nat
  | 0, x => x
  | n + 1, x => if m (13 * x + c) = 0 then fpv m u c n (x + 1) else x
def stM (u c x : Nat) (m : Mx) : Mx := sbs c u (scl c (ivN (swp x c m (13 * c + c))) (swp x c m))
theorem stM_ok {u c x : Nat} {m : Mx} (hc : c < 12) (hx : x < 12) (h : mOK m) : mOK (stM u c x m) := sbs_ok (scl_ok (swp_ok hx hc h)) u
noncomputable def elF (u : Nat) : Nat → Nat → Mx → Bool × Mx
  | 0, _, m => (true, m)
  | d + 1, c, m => if fpv m u c (u - c) c < u then elF u d (c + 1) (stM u c (fpv m u c (u - c) c) m) else (false, m)
theorem c_elim69 {u c : Nat} (hu : u ≤ 12) (hc : c < u) {m : Mx} (hm : mOK m) {Q : Int → St → Prop} {K : Int → Int → St → Prop} (hk : ∀ σ1, Mat 48 σ1 (sbs c u m) → K (u : Int) ((c + 1 : Nat) : Int) σ1) : ∀ (d r : Nat) (σ : St) (n : Nat), r + d = u → d < n → Mat 48 σ (sbs c r m) → wp_X7_eliminate_l69 Q K n (u : Int) (c : Int) (r : Int) σ := by
  intro d
  induction d with
  | zero =>
    intro r σ n hd hn hM
    obtain ⟨n, rfl⟩ := suc_n hn
    unfold wp_X7_eliminate_l69
    refine ⟨fun _ v ev => ?_, fun w => absurd (by omega) w⟩
    rw [ev, w32_of (by omega) (by omega)]
    rw [show r = u by omega] at hM
    exact hk σ hM
  | succ d ih =>
    intro r σ n hd hn hM
    obtain ⟨n, rfl⟩ := suc_n hn
    have nx : ∀ σ1, Mat 48 σ1 (sbs c (r + 1) m) → wp_X7_eliminate_b100 Q K (wp_X7_eliminate_l69 Q K n) (u : Int) (c : Int) (r : Int) σ1 := by
      intro σ1 h1
      unfold wp_X7_eliminate_b100
      intro v ev
      rw [ev, w32_of (by omega) (by omega)]
      exact ih (r + 1) σ1 n (by omega) (by omega) h1
    unfold wp_X7_eliminate_l69
    rw [ixC (a := r) (t := c) (by omega) (by omega), Int.toNat_natCast, hM (13 * r + c) (by omega)]
    refine ⟨fun w => absurd w (by omega), fun _ => ⟨fun e => nx σ ?_, fun e => ⟨by omega, c_subtr (sbs_ok hm r) (by omega) (by omega) (by omega) hM (fun σ1 h1 => nx σ1 ?_)⟩⟩⟩
    · show Mat 48 σ (if r = c then _ else _)
      rw [if_pos (by omega)]; exact hM
    · show Mat 48 σ1 (if r = c then _ else _)
      rw [if_neg (by omega)]; exact h1
theorem c_eliminate {u : Nat} (hu : u ≤ 12) {Q : Int → St → Prop} : ∀ (d c : Nat) (m : Mx) (σ : St) (n : Nat), c + d = u → d < n → mOK m → Mat 48 σ m → (∀ σ1, Mat 48 σ1 (elF u d c m).2 → Q (if (elF u d c m).1 then 1 else 0) σ1) → wp_X7_eliminate_l2 Q n (u : Int) (c : Int) σ := by
  intro d
  induction d with
  | zero =>
    intro c m σ n hd hn hm hM hq
    obtain ⟨n, rfl⟩ := suc_n hn
    unfold wp_X7_eliminate_l2
    exact ⟨fun _ => hq σ hM, fun w => absurd (by omega) w⟩
  | succ d ih =>
    intro c m σ n hd hn hm hM hq
    obtain ⟨n, rfl⟩ := suc_n hn
    unfold wp_X7_eliminate_l2
    refine ⟨fun w => absurd w (by omega), fun _ => ?_⟩
    have b34 : ∀ x, c ≤ x → x ≤ u → fpv m u c (u - c) c = x → wp_X7_eliminate_b34 Q (wp_X7_eliminate_l2 Q n) (u : Int) (c : Int) (x : Int) σ := by
      intro x hx1 hx2 hx
      unfold wp_X7_eliminate_b34
      unfold elF at hq
      rw [hx] at hq
      refine ⟨fun w => ?_, fun w => ?_⟩
      · rw [if_pos (by omega)] at hq
        refine c_swap (by omega) (by omega) hM (fun σ1 h1 => ?_)
        rw [ixC (a := c) (t := c) (by omega) (by omega), Int.toNat_natCast, h1 (13 * c + c) (by omega)]
        have o1 := swp_ok (a := x) (b := c) (by omega) (by omega) hm
        refine ⟨by omega, c_inverse (o1 _ (by omega)) (c_scale o1 (by omega) (mR_mod _) h1 (fun σ2 h2 => ?_))⟩
        exact c_elim69 hu (by omega) (scl_ok o1) (fun σ3 h3 => ih (c + 1) _ σ3 n (by omega) (by omega) (stM_ok (by omega) (by omega) hm) h3 hq) u 0 σ2 bigN (by omega) (by unfold bigN; omega) h2
      · rw [if_neg (by omega)] at hq
        exact hq σ hM
    have l9 : ∀ (e x : Nat) (n2 : Nat), x + e = u → c ≤ x → e < n2 → fpv m u c (u - c) c = fpv m u c e x → wp_X7_eliminate_l9 Q (wp_X7_eliminate_l2 Q n) n2 (u : Int) (c : Int) (x : Int) σ := by
      intro e
      induction e with
      | zero =>
        intro x n2 hx hcx hn2 hf
        obtain ⟨n2, rfl⟩ := suc_n hn2
        unfold wp_X7_eliminate_l9
        exact ⟨fun _ => b34 x hcx (by omega) hf, fun w => absurd (by omega) w⟩
      | succ e ihe =>
        intro x n2 hx hcx hn2 hf
        obtain ⟨n2, rfl⟩ := suc_n hn2
        unfold wp_X7_eliminate_l9
        rw [ixC (a := x) (t := c) (by omega) (by omega), Int.toNat_natCast, hM (13 * x + c) (by omega)]
        rw [show fpv m u c (e + 1) x = (if m (13 * x + c) = 0 then fpv m u c e (x + 1) else x) from rfl] at hf
        refine ⟨fun w => absurd w (by omega), fun _ => ⟨by omega, fun z => ?_, fun z v ev => ?_⟩⟩
        · rw [if_neg z] at hf; exact b34 x hcx (by omega) hf
        · rw [ev, w32_of (by omega) (by omega)]
          rw [if_pos (Classical.byContradiction z)] at hf
          exact ihe (x + 1) n2 (by omega) (by omega) (by omega) hf
    exact l9 (u - c) c bigN (by omega) (Nat.le_refl _) (by unfold bigN; omega) rfl
