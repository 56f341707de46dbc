/-! how many trees cost so much: the reference's -/
def tr (ρ : St) (p : Int) (i j c : Nat) : Int := if pv ρ p i j = -2 then 0 else tp (ct ρ) (pv ρ p i j) c
theorem tr_n {ρ : St} (hg : Wg ρ) (p : Int) (i j c : Nat) : 0 ≤ tr ρ p i j c := by
  unfold tr
  by_cases h : pv ρ p i j = -2
  · rw [if_pos h]; exact Int.le_refl _
  · rw [if_neg h]; exact tpc_n hg _ _
theorem tr_te {ρ : St} (hg : Wg ρ) (hL : LL ρ < 9) {p : Int} (hp : isPart p) {i j : Nat} (hi : i < j ∧ j ≤ LL ρ) {c : Nat} (h : tr ρ p i j c ≠ 0) : Te ρ jA p i j (c : Int) := by
  unfold tr at h
  by_cases h2 : pv ρ p i j = -2
  · rw [if_pos h2] at h; exact absurd rfl h
  · rw [if_neg h2] at h
    exact tp_te hg hL (fun s a hs ha hh => ct_te hg hL hs ha hh) hp hi h2 h
def cx (a i j : Int) (x : Nat) : Nat := (it a i j).toNat * 301 + x
/-- all items of a span are counted up to a cost -/
def DN (ρ τ : St) (i j : Int) (mo : Nat) : Prop := ∀ a : Int, 0 ≤ a ∧ a < 12 → ∀ x, 1 ≤ x → x ≤ mo → τ 41 (cx a i j x) = min B0 (ct ρ (itN ρ a i j) x)
theorem r_leastP {ρ τ : St} (hg : Wg ρ) (hL : LL ρ < 9) (h80 : 0 ≤ ρ 0 8) (ha : LA ρ τ) {p : Int} (hp : isPart p) {i j : Nat} (hi : i < j ∧ j ≤ LL ρ) (ht : hT ρ p i j) {Q : Int → St → Prop} (hq : ∀ v, 0 ≤ v → v < 1000000000 → (∀ n : Nat, tr ρ p i j n ≠ 0 → v ≤ (n : Int)) → Q v τ) : wp_X12_leastPart p (i : Int) (j : Int) τ Q := by
  have eL : ((LL ρ : Nat) : Int) = ρ 0 8 := by unfold LL; omega
  unfold isPart at hp
  unfold wp_X12_leastPart
  refine ⟨fun w => r_item (by omega) (by omega) ⟨it_r (by omega) (by omega), ?_⟩, fun w => hq 0 (by omega) (by omega) (fun n _ => by omega)⟩
  have lo := ha.2 p i j (by omega) (by omega) (by omega) (by omega) (by omega)
  have lt := lo.hT.2 ht
  refine hq _ ((lo.te lt).nn jok_add hg) lt (fun n hn => (lo.le (tr_te hg hL (by unfold isPart; omega) hi hn)).1)
theorem r_cheapPart {ρ τ : St} (hg : Wg ρ) (hL : LL ρ < 9) (h80 : 0 ≤ ρ 0 8) (ha : LA ρ τ) {p : Int} (hp : isPart p) {i j : Nat} (hi : i < j ∧ j ≤ LL ρ) {c : Nat} (hc : c ≤ 300) (hd : DN ρ τ i j c) {Q : Int → St → Prop} (hq : Q (min B0 (tr ρ p i j c)) τ) : wp_X12_cheapPart p (i : Int) (j : Int) (c : Int) τ Q := by
  have eL : ((LL ρ : Nat) : Int) = ρ 0 8 := by unfold LL; omega
  have hs8 : ρ 0 8 ≤ 8 := by unfold LL at hL; omega
  have hpo := hp
  unfold isPart at hp
  have z0 : min B0 (0 : Int) = 0 := by unfold B0; decide
  unfold wp_X12_cheapPart wp_X12_cheapPart_b25
  refine ⟨fun w => ⟨fun w2 => ?_, fun w2 => ?_⟩, fun w => ⟨fun w2 => ?_, fun w2 => ?_⟩⟩
  · have e := pv_itN (ρ := ρ) (p := p) (i := i) (j := j) (by omega)
    have ir := it_r (a := p) (i := (i : Int)) (j := (j : Int)) (by omega) (by omega)
    refine r_item (by omega) (by omega) ?_
    rw [w32_of (x := it p i j * 301) (by omega) (by omega), w32_of (by omega) (by omega), show (it p i j * 301 + (c : Int)).toNat = cx p i j c by unfold cx; omega, hd p (by omega) c (by omega) (by omega)]
    refine ⟨by omega, ?_⟩
    unfold tr at hq
    rw [e, if_neg (by omega), tp_pos (by omega), Int.toNat_natCast] at hq
    exact hq
  · have e := pv_itN (ρ := ρ) (p := p) (i := i) (j := j) (by omega)
    unfold tr at hq
    rw [e, if_neg (by omega), tp_pos (by omega), show c = 0 by omega, ct_0, z0] at hq
    exact hq
  · have : tr ρ p i j c = 0 := by
      unfold tr
      by_cases hcc : j = i + 1 ∧ ρ 11 i = p - 100
      · rw [pv_yes (by omega) hcc, if_neg (by decide), (tp_neg (by decide)).2 c (by omega)]
      · rw [pv_no (by omega) hcc, if_pos rfl]
    rw [this, z0] at hq; exact hq
  · refine r_fits2 hg ha hs8 hpo (by omega) (fun h => ⟨fun _ => ?_, fun z => absurd rfl z⟩) (fun h => ⟨fun z => absurd z (by decide), fun _ => ?_⟩)
    · have : tr ρ p i j c = 0 := Classical.byContradiction (fun z => h ⟨_, tr_te hg hL hpo hi z⟩)
      rw [this, z0] at hq; exact hq
    · have n2 := ((hPt_pv hg hL hpo hi).2 h).1
      have : tr ρ p i j c = 1 := by
        unfold tr
        rw [if_neg n2]
        by_cases hcc : j = i + 1 ∧ ρ 11 i = p - 100
        · rw [pv_yes (by omega) hcc, show c = 0 by omega, (tp_neg (by decide)).1]
        · exact absurd (pv_no (by omega) hcc) n2
      rw [this, show min B0 (1 : Int) = 1 by unfold B0; decide] at hq; exact hq
/-! sums over the cases of a rule -/
def Gd (ρ : St) (d : Nat) (k : Cs) : Int := cv (tp (ct ρ) k.2.2.1) (tp (ct ρ) k.2.2.2) d
theorem Gd_one {ρ : St} {r : Nat} {m p p2 : Int} {i j k l d : Nat} : sumC (Gd ρ d) (cOne r m (pv ρ p i j) (pv ρ p2 k l)) = cv (tr ρ p i j) (tr ρ p2 k l) d := by
  unfold cOne
  by_cases h : pv ρ p i j = -2 ∨ pv ρ p2 k l = -2
  · rw [if_pos h]
    refine (sumN_none (fun x hx => ?_)).symm
    rcases h with h | h
    · rw [show tr ρ p i j x = 0 by unfold tr; rw [if_pos h], Int.zero_mul]
    · rw [show tr ρ p2 k l (d - x) = 0 by unfold tr; rw [if_pos h], Int.mul_zero]
  · rw [if_neg h]
    have e1 : tr ρ p i j = tp (ct ρ) (pv ρ p i j) := funext (fun x => by unfold tr; rw [if_neg (fun z => h (Or.inl z))])
    have e2 : tr ρ p2 k l = tp (ct ρ) (pv ρ p2 k l) := funext (fun x => by unfold tr; rw [if_neg (fun z => h (Or.inr z))])
    rw [e1, e2]
    show cv _ _ d + 0 = _
    rw [Int.add_zero]
theorem Gd_single {ρ : St} {r : Nat} {m p : Int} {i j d : Nat} : sumC (Gd ρ d) (cOne r m (pv ρ p i j) (-1)) = tr ρ p i j d := by
  unfold cOne tr
  by_cases h : pv ρ p i j = -2
  · rw [if_pos (Or.inl h), if_pos h]; rfl
  · rw [if_neg (fun z => by rcases z with z | z; exact h z; exact absurd z (by decide)), if_neg h]
    show cv _ (tp (ct ρ) (-1)) d + 0 = _
    rw [Int.add_zero, cv_r (tp_neg (by decide)).1 (tp_neg (by decide)).2]
theorem Gd_cC {ρ : St} (hg : Wg ρ) {c i j r : Nat} (hr : (r : Int) < ρ 0 4) : sumC (cwt ρ (ct ρ) c) (cC ρ i j r) = if ρ 6 r ≤ (c : Int) then sumC (Gd ρ (c - (ρ 6 r).toNat)) (cC ρ i j r) else 0 := by
  have hp := (hg.2.2 r hr).2.2.2.1
  have e : ∀ k ∈ cC ρ i j r, prN ρ k = (ρ 6 r).toNat := by
    intro k hk
    unfold prN
    rcases mem_cC.1 hk with ⟨-, -, rfl⟩ | ⟨-, m, -, -, -, -, rfl⟩
    · show (ρ 6 ((r : Int)).toNat).toNat = _
      rw [Int.toNat_natCast]
    · show (ρ 6 ((r : Int)).toNat).toNat = _
      rw [Int.toNat_natCast]
  by_cases h : ρ 6 r ≤ (c : Int)
  · rw [if_pos h]
    refine sumC_congr _ (fun k hk => ?_)
    unfold cwt
    rw [e k hk, if_pos (by omega)]; rfl
  · rw [if_neg h]
    rw [sumC_congr (h := fun _ => 0) _ (fun k hk => by unfold cwt; rw [e k hk, if_neg (by omega)])]
    have : ∀ l : List Cs, sumC (fun _ => 0) l = 0 := by
      intro l
      induction l with
      | nil => rfl
      | cons a l ih => show (0 : Int) + sumC (fun _ => 0) l = 0; rw [ih]; rfl
    exact this _
theorem sat_pl {A t : Int} (hA : 0 ≤ A) (ht : 0 ≤ t) : min B0 (min B0 A + min B0 t) = min B0 (A + t) := by unfold B0; omega
theorem sat_mu {a b : Int} (ha : 0 ≤ a) (hb : 0 ≤ b) : min B0 (min B0 a * min B0 b) = min B0 (a * b) := by
  have z0 : min B0 (0 : Int) = 0 := by unfold B0; decide
  by_cases h1 : a = 0
  · rw [h1, z0, Int.zero_mul, Int.zero_mul]
  by_cases h2 : b = 0
  · rw [h2, z0, Int.mul_zero, Int.mul_zero]
  exact sat_mul (by omega) (by omega)
theorem r_twos86 {ρ τ : St} (hg : Wg ρ) (hL : LL ρ < 9) (h80 : 0 ≤ ρ 0 8) (ha : LA ρ τ) {r : Nat} (hr : (r : Int) < ρ 0 4) (h5 : ρ 5 r ≠ -1) {i m j d : Nat} (hi : i < m ∧ m < j ∧ j ≤ LL ρ) (hd : d ≤ 300) (d1 : DN ρ τ i m d) (d2 : DN ρ τ m j d) {A v1 v2 : Int} (hA : 0 ≤ A) (hv1 : 0 ≤ v1) (hv2 : 0 ≤ v2 ∧ v2 < 1000000000) (n1 : ∀ n : Nat, tr ρ (ρ 4 r) i m n ≠ 0 → v1 ≤ (n : Int)) (n2 : ∀ n : Nat, tr ρ (ρ 5 r) m j n ≠ 0 → v2 ≤ (n : Int)) (hv1b : v1 < 1000000000) {Q : Int → St → Prop} {K : Int → Int → Int → Int → Int → Int → St → Prop} (hk : K r i j d (min B0 (A + cv (tr ρ (ρ 4 r) i m) (tr ρ (ρ 5 r) m j) d)) ((m + 1 : Nat) : Int) τ) : wp_X12_cheapTwos_l86 Q K bigN r i j d (min B0 A) m ((d : Int) - v2) v1 τ := by
  have h40 := hg.2.1
  obtain ⟨hh, hp1, hp2, hpr, -⟩ := hg.2.2 r hr
  have hp2 : isPart (ρ 5 r) := hp2.resolve_left h5
  obtain ⟨k1, k2, k3, k4⟩ := ha.1.2.2.2.1 r hr
  have tn : ∀ x, 0 ≤ tr ρ (ρ 4 r) i m x * tr ρ (ρ 5 r) m j (d - x) := fun x => Int.mul_nonneg (tr_n hg _ _ _ _) (tr_n hg _ _ _ _)
  have zt : ∀ x, x ≤ d → ((x : Int) < v1 ∨ (d : Int) - v2 < (x : Int)) → tr ρ (ρ 4 r) i m x * tr ρ (ρ 5 r) m j (d - x) = 0 := by
    intro x hx ho
    by_cases z1 : tr ρ (ρ 4 r) i m x = 0
    · rw [z1, Int.zero_mul]
    by_cases z2 : tr ρ (ρ 5 r) m j (d - x) = 0
    · rw [z2, Int.mul_zero]
    exfalso
    have c1 := n1 x z1
    have c2 := n2 (d - x) z2
    omega
  have fin : ∀ y, y = min B0 (A + cv (tr ρ (ρ 4 r) i m) (tr ρ (ρ 5 r) m j) d) → wp_X12_cheapTwos_b153 Q K r i j d y m τ := by
    intro y ey
    unfold wp_X12_cheapTwos_b153
    intro v ev
    rw [ev, w32_of (by omega) (by omega), ey]; exact hk
  have lp : ∀ (e x : Nat) (n : Nat), (x : Int) + e = (d : Int) - v2 + 1 → v1 ≤ (x : Int) → e < n → wp_X12_cheapTwos_l86 Q K n r i j d (min B0 (A + sumN (fun x => tr ρ (ρ 4 r) i m x * tr ρ (ρ 5 r) m j (d - x)) x)) m ((d : Int) - v2) (x : Int) τ := by
    intro e
    induction e with
    | zero =>
      intro x n hx hv hn
      obtain ⟨n, rfl⟩ := suc_n hn
      unfold wp_X12_cheapTwos_l86
      refine ⟨fun _ => fin _ ?_, fun w => absurd (by omega) w⟩
      unfold cv
      rw [show d + 1 = x + (d + 1 - x) by omega, sumN_app, sumN_none (f := fun a => tr ρ (ρ 4 r) i m (x + a) * tr ρ (ρ 5 r) m j (d - (x + a))) (fun t ht => zt (x + t) (by omega) (Or.inr (by omega))), Int.add_zero]
    | succ e ih =>
      intro x n hx hv hn
      obtain ⟨n, rfl⟩ := suc_n hn
      push_cast at hx
      have sn := sumN_nn (f := fun x => tr ρ (ρ 4 r) i m x * tr ρ (ρ 5 r) m j (d - x)) x (fun k _ => tn k)
      have nx : ∀ y, y = min B0 (A + sumN (fun x => tr ρ (ρ 4 r) i m x * tr ρ (ρ 5 r) m j (d - x)) (x + 1)) → wp_X12_cheapTwos_b147 Q K (wp_X12_cheapTwos_l86 Q K n) r i j d y m ((d : Int) - v2) (x : Int) τ := by
        intro y ey
        unfold wp_X12_cheapTwos_b147
        intro v ev
        rw [ev, w32_of (by omega) (by omega), ey]
        exact ih (x + 1) n (by push_cast; omega) (by omega) (by omega)
      have st : sumN (fun x => tr ρ (ρ 4 r) i m x * tr ρ (ρ 5 r) m j (d - x)) (x + 1) = sumN (fun x => tr ρ (ρ 4 r) i m x * tr ρ (ρ 5 r) m j (d - x)) x + tr ρ (ρ 4 r) i m x * tr ρ (ρ 5 r) m j (d - x) := rfl
      have t0 := tn x
      have b1 := tr_n hg (ρ 4 r) i m x
      have b2 := tr_n hg (ρ 5 r) m j (d - x)
      unfold wp_X12_cheapTwos_l86
      rw [Int.toNat_natCast, k2, w32_of (x := (d : Int) - (x : Int)) (by omega) (by omega), show (d : Int) - (x : Int) = ((d - x : Nat) : Int) by omega]
      refine ⟨fun w => absurd w (by omega), fun _ => ⟨by omega, r_cheapPart hg hL h80 ha hp1 (by omega) (by omega) (fun a hb y y1 y2 => d1 a hb y y1 (by omega)) ⟨fun w => nx _ ?_, fun w => ⟨by omega, ?_⟩⟩⟩⟩
      · have : tr ρ (ρ 4 r) i m x = 0 := by unfold B0 at w; omega
        rw [st, this, Int.zero_mul, Int.add_zero]
      · rw [k3]
        refine r_cheapPart hg hL h80 ha hp2 (by omega) (by omega) (fun a hb y y1 y2 => d2 a hb y y1 (by omega)) (r_timesGreat (sat_r b1) (sat_r b2) ?_)
        rw [sat_mu b1 b2]
        refine r_plusGreat (sat_r (by omega)) (sat_r t0) (nx _ ?_)
        rw [st, sat_pl (by omega) t0, Int.add_assoc]
  by_cases hle : v1 ≤ (d : Int) - v2 + 1
  · have := lp ((d : Int) - v2 + 1 - v1).toNat v1.toNat bigN (by omega) (by omega) (by unfold bigN; omega)
    rw [sumN_none (fun t ht => zt t (by omega) (Or.inl (by omega))), show ((v1.toNat : Nat) : Int) = v1 by omega, Int.add_zero] at this
    exact this
  · obtain ⟨n, hn⟩ := suc_n (show 0 < bigN by unfold bigN; omega)
    rw [hn]
    unfold wp_X12_cheapTwos_l86
    refine ⟨fun _ => fin _ ?_, fun w => absurd (by omega) w⟩
    rw [show cv (tr ρ (ρ 4 r) i m) (tr ρ (ρ 5 r) m j) d = 0 from sumN_none (fun t ht => zt t (by omega) (by omega)), Int.add_zero]
theorem r_cTwos {ρ τ : St} (hg : Wg ρ) (hL : LL ρ < 9) (h80 : 0 ≤ ρ 0 8) (ha : LA ρ τ) {r : Nat} (hr : (r : Int) < ρ 0 4) (h5 : ρ 5 r ≠ -1) {i j d : Nat} (hi : i < j ∧ j ≤ LL ρ) (hd : d ≤ 300) (hD : ∀ m : Nat, i < m → m < j → DN ρ τ i m d ∧ DN ρ τ m j d) {Q : Int → St → Prop} (hq : Q (min B0 (sumC (Gd ρ d) (cB ρ r i j (j - i - 1)))) τ) : wp_X12_cheapTwos (r : Int) (i : Int) (j : Int) (d : Int) τ Q := by
  have h40 := hg.2.1
  have eL : ((LL ρ : Nat) : Int) = ρ 0 8 := by unfold LL; omega
  have hs8 : ρ 0 8 ≤ 8 := by unfold LL at hL; omega
  obtain ⟨hh, hp1, hp2, hpr, -⟩ := hg.2.2 r hr
  have hp2 : isPart (ρ 5 r) := hp2.resolve_left h5
  obtain ⟨k1, k2, k3, k4⟩ := ha.1.2.2.2.1 r hr
  have gn : ∀ l : List Cs, 0 ≤ sumC (Gd ρ d) l := fun l => sumC_nn l (fun k _ => cv_nn (fun x _ => tpc_n hg _ _) (fun x _ => tpc_n hg _ _))
  have lp : ∀ (e t : Nat) (n : Nat), i + 1 + t + e = j → e < n → wp_X12_cheapTwos_l8 Q n r i j d (min B0 (sumC (Gd ρ d) (cB ρ r i j t))) ((i + 1 + t : Nat) : Int) τ := by
    intro e
    induction e with
    | zero =>
      intro t n ht hn
      obtain ⟨n, rfl⟩ := suc_n hn
      unfold wp_X12_cheapTwos_l8
      refine ⟨fun _ => ?_, fun w => absurd (by omega) w⟩
      rw [show t = j - i - 1 by omega]; exact hq
    | succ e ih =>
      intro t n ht hn
      obtain ⟨n, rfl⟩ := suc_n hn
      have st : sumC (Gd ρ d) (cB ρ r i j (t + 1)) = sumC (Gd ρ d) (cB ρ r i j t) + cv (tr ρ (ρ 4 r) i (i + 1 + t)) (tr ρ (ρ 5 r) (i + 1 + t) j) d := by
        show sumC (Gd ρ d) (cB ρ r i j t ++ cOne r _ _ _) = _
        rw [sumC_app, Gd_one]
      have skip : ¬ (hT ρ (ρ 4 r) i ((i + 1 + t : Nat) : Int) ∧ hT ρ (ρ 5 r) ((i + 1 + t : Nat) : Int) j) → wp_X12_cheapTwos_b153 Q (wp_X12_cheapTwos_l8 Q n) r i j d (min B0 (sumC (Gd ρ d) (cB ρ r i j t))) ((i + 1 + t : Nat) : Int) τ := by
        intro h
        have z : cv (tr ρ (ρ 4 r) i (i + 1 + t)) (tr ρ (ρ 5 r) (i + 1 + t) j) d = 0 := by
          refine sumN_none (fun x hx => ?_)
          by_cases z1 : tr ρ (ρ 4 r) i (i + 1 + t) x = 0
          · rw [z1, Int.zero_mul]
          by_cases z2 : tr ρ (ρ 5 r) (i + 1 + t) j (d - x) = 0
          · rw [z2, Int.mul_zero]
          exact absurd ⟨⟨_, tr_te hg hL hp1 (by omega) z1⟩, ⟨_, tr_te hg hL hp2 (by omega) z2⟩⟩ h
        unfold wp_X12_cheapTwos_b153
        intro v ev
        rw [ev, w32_of (by omega) (by omega), show ((i + 1 + t : Nat) : Int) + 1 = ((i + 1 + (t + 1) : Nat) : Int) by omega]
        have := ih (t + 1) n (by omega) (by omega)
        rw [st, z, Int.add_zero] at this
        exact this
      unfold wp_X12_cheapTwos_l8
      rw [Int.toNat_natCast, k2]
      refine ⟨fun w => absurd w (by omega), fun _ => ⟨by omega, r_fits2 hg ha hs8 hp1 (by omega) (fun h => ⟨fun _ => skip (fun z => h z.1), fun z => absurd rfl z⟩) (fun y1 => ⟨fun z => absurd z (by decide), fun _ => ⟨by omega, ?_⟩⟩)⟩⟩
      rw [k3]
      refine r_fits2 hg ha hs8 hp2 (by omega) (fun h => ⟨fun z => absurd rfl z, fun _ => skip (fun z => h z.2)⟩) (fun y2 => ⟨fun _ => ⟨by omega, ?_⟩, fun z => absurd (by decide) z⟩)
      rw [k2]
      refine r_leastP hg hL h80 ha hp1 (by omega) y1 (fun v1 a1 a2 a3 => ⟨by omega, ?_⟩)
      rw [k3]
      refine r_leastP hg hL h80 ha hp2 (by omega) y2 (fun v2 b1 b2 b3 v ev => ?_)
      rw [ev, w32_of (by omega) (by omega)]
      have dd := hD (i + 1 + t) (by omega) (by omega)
      refine r_twos86 hg hL h80 ha hr h5 (by omega) hd dd.1 dd.2 (gn _) a1 ⟨b1, b2⟩ a3 b3 a2 ?_
      rw [← st]
      exact ih (t + 1) n (by omega) (by omega)
  unfold wp_X12_cheapTwos
  intro v ev
  rw [ev, w32_of (by omega) (by omega), show (i : Int) + 1 = ((i + 1 + 0 : Nat) : Int) by omega]
  have := lp (j - (i + 1)) 0 bigN (by omega) (by unfold bigN; omega)
  rw [show min B0 (sumC (Gd ρ d) (cB ρ r i j 0)) = 0 by show min B0 0 = (0 : Int); unfold B0; decide] at this
  exact this
