/-! how many trees cost so much, exactly -/
def tp (w : Nat → Nat → Int) (x : Int) (c : Nat) : Int := if x < 0 then (if c = 0 then 1 else 0) else w x.toNat c
def cv (f g : Nat → Int) (d : Nat) : Int := sumN (fun x => f x * g (d - x)) (d + 1)
def prN (ρ : St) (k : Cs) : Nat := (ρ 6 k.1.toNat).toNat
def cwt (ρ : St) (w : Nat → Nat → Int) (c : Nat) (k : Cs) : Int := if prN ρ k ≤ c then cv (tp w k.2.2.1) (tp w k.2.2.2) (c - prN ρ k) else 0
def ctF (ρ : St) (w : Nat → Nat → Int) (q c : Nat) : Int := sumC (cwt ρ w c) (cI ρ q)
def ctH (ρ : St) : Nat → Nat → Nat → Int
  | 0 => fun _ _ => 0
  | n + 1 => fun q c => if c = n + 1 then ctF ρ (ctH ρ n) q c else ctH ρ n q c
def ct (ρ : St) (q c : Nat) : Int := ctH ρ c q c
theorem ctH_le {ρ : St} {q c : Nat} : ∀ n, c ≤ n → ctH ρ n q c = ct ρ q c
  | 0, h => by rw [show c = 0 by omega]; rfl
  | n + 1, h => by
    by_cases e : c = n + 1
    · subst e; rfl
    · show (if c = n + 1 then _ else ctH ρ n q c) = _
      rw [if_neg e]; exact ctH_le n (by omega)
theorem ct_0 {ρ : St} {q : Nat} : ct ρ q 0 = 0 := rfl
theorem cI_at {ρ : St} {q : Nat} {k : Cs} (hk : k ∈ cI ρ q) : k ∈ cI ρ (12 * (q / 12) + q % 12) := by rw [show 12 * (q / 12) + q % 12 = q by omega]; exact hk
theorem prN_r {ρ : St} (hg : Wg ρ) {q : Nat} {k : Cs} (hk : k ∈ cI ρ q) : 1 ≤ prN ρ k ∧ prN ρ k ≤ 99 ∧ ((prN ρ k : Nat) : Int) = ρ 6 k.1.toNat ∧ (0 ≤ k.1 ∧ k.1 < ρ 0 4) := by
  obtain ⟨r, h1, h2, h3, h4, -⟩ := cI_info (Nat.mod_lt _ (by decide)) (cI_at hk)
  have := (hg.2.2 r h1).2.2.2.1
  unfold prN
  rw [h4, Int.toNat_natCast]
  omega
theorem tp_congr {w v : Nat → Nat → Int} {x : Int} {c : Nat} (h : ∀ q, w q c = v q c) : tp w x c = tp v x c := by unfold tp; rw [h]
theorem cv_congr {f f2 g g2 : Nat → Int} {d : Nat} (h : ∀ x, x ≤ d → f x = f2 x) (h2 : ∀ x, x ≤ d → g x = g2 x) : cv f g d = cv f2 g2 d := by
  unfold cv
  exact sumN_congr _ (fun k hk => by rw [h k (by omega), h2 (d - k) (by omega)])
theorem ct_eq {ρ : St} (hg : Wg ρ) {q c : Nat} (hc : 1 ≤ c) : ct ρ q c = ctF ρ (ct ρ) q c := by
  obtain ⟨n, rfl⟩ : ∃ n, c = n + 1 := ⟨c - 1, by omega⟩
  show (if n + 1 = n + 1 then ctF ρ (ctH ρ n) q (n + 1) else _) = _
  rw [if_pos rfl]
  unfold ctF
  refine sumC_congr _ (fun k hk => ?_)
  have hp := prN_r hg hk
  unfold cwt
  by_cases hle : prN ρ k ≤ n + 1
  · rw [if_pos hle, if_pos hle]
    exact cv_congr (fun x hx => tp_congr (fun q => ctH_le n (by omega))) (fun x hx => tp_congr (fun q => ctH_le n (by omega)))
  · rw [if_neg hle, if_neg hle]
theorem sumN_ge {f : Nat → Int} : ∀ n, (∀ k, k < n → 0 ≤ f k) → ∀ a, a < n → f a ≤ sumN f n
  | 0, _, a, ha => by omega
  | n + 1, h, a, ha => by
    have h1 := sumN_nn n (fun k hk => h k (by omega))
    have h2 := h n (by omega)
    show f a ≤ sumN f n + f n
    by_cases e : a = n
    · subst e; omega
    · have := sumN_ge n (fun k hk => h k (by omega)) a (by omega)
      omega
theorem sumC_ge {g : Cs → Int} : ∀ l, (∀ c ∈ l, 0 ≤ g c) → ∀ k ∈ l, g k ≤ sumC g l
  | [], _, k, hk => (by cases hk)
  | c :: l, hh, k, hk => by
    have h1 := hh c List.mem_cons_self
    have h2 := sumC_nn l (fun d hd => hh d (List.mem_cons_of_mem _ hd))
    show g k ≤ g c + sumC g l
    rcases List.mem_cons.1 hk with e | e
    · subst e; omega
    · have := sumC_ge l (fun d hd => hh d (List.mem_cons_of_mem _ hd)) k e
      omega
theorem tp_nn {w : Nat → Nat → Int} {x : Int} {c : Nat} (h : ∀ q, 0 ≤ w q c) : 0 ≤ tp w x c := by
  unfold tp
  by_cases h0 : x < 0
  · rw [if_pos h0]
    by_cases h1 : c = 0
    · rw [if_pos h1]; decide
    · rw [if_neg h1]; decide
  · rw [if_neg h0]; exact h _
theorem cv_nn {f g : Nat → Int} {d : Nat} (h : ∀ x, x ≤ d → 0 ≤ f x) (h2 : ∀ x, x ≤ d → 0 ≤ g x) : 0 ≤ cv f g d := sumN_nn _ (fun k hk => Int.mul_nonneg (h k (by omega)) (h2 _ (by omega)))
theorem cwt_nn' {ρ : St} {w : Nat → Nat → Int} {c : Nat} {k : Cs} (hp : 1 ≤ prN ρ k) (h : ∀ q x, x < c → 0 ≤ w q x) : 0 ≤ cwt ρ w c k := by
  unfold cwt
  by_cases hle : prN ρ k ≤ c
  · rw [if_pos hle]
    exact cv_nn (fun x hx => tp_nn (fun q => h q x (by omega))) (fun x hx => tp_nn (fun q => h q x (by omega)))
  · rw [if_neg hle]; exact Int.le_refl _
theorem ct_nn {ρ : St} (hg : Wg ρ) : ∀ n c q, c < n → 0 ≤ ct ρ q c
  | 0, c, q, h => by omega
  | n + 1, c, q, h => by
    by_cases e : c = 0
    · subst e; exact Int.le_refl _
    · rw [ct_eq hg (by omega)]
      exact sumC_nn _ (fun k hk => cwt_nn' (prN_r hg hk).1 (fun q x hx => ct_nn hg n x q (by omega)))
theorem ct_n {ρ : St} (hg : Wg ρ) (q c : Nat) : 0 ≤ ct ρ q c := ct_nn hg (c + 1) c q (by omega)
theorem tpc_n {ρ : St} (hg : Wg ρ) (x : Int) (c : Nat) : 0 ≤ tp (ct ρ) x c := tp_nn (fun q => ct_n hg q c)
theorem cwt_n {ρ : St} (hg : Wg ρ) (c : Nat) {q : Nat} {k : Cs} (hk : k ∈ cI ρ q) : 0 ≤ cwt ρ (ct ρ) c k := cwt_nn' (prN_r hg hk).1 (fun q x _ => ct_n hg q x)
theorem sumN_ne {f : Nat → Int} : ∀ n, sumN f n ≠ 0 → ∃ k, k < n ∧ f k ≠ 0
  | 0, h => absurd rfl h
  | n + 1, h => by
    by_cases e : f n = 0
    · have : sumN f n ≠ 0 := fun z => h (by show sumN f n + f n = 0; omega)
      obtain ⟨k, hk, hf⟩ := sumN_ne n this
      exact ⟨k, by omega, hf⟩
    · exact ⟨n, by omega, e⟩
theorem sumC_ne {g : Cs → Int} : ∀ l, sumC g l ≠ 0 → ∃ k ∈ l, g k ≠ 0
  | [], h => absurd rfl h
  | c :: l, h => by
    by_cases e : g c = 0
    · have : sumC g l ≠ 0 := fun z => h (by show g c + sumC g l = 0; omega)
      obtain ⟨k, hk, hf⟩ := sumC_ne l this
      exact ⟨k, List.mem_cons_of_mem _ hk, hf⟩
    · exact ⟨c, List.mem_cons_self, e⟩
theorem tp_te {ρ : St} (hg : Wg ρ) (hL : LL ρ < 9) {n : Nat} (ih : ∀ s a, s < spN (LL ρ) → a < 12 → ct ρ (12 * s + a) n ≠ 0 → Te ρ jA (a : Int) (spB (LL ρ) s : Nat) (spF (LL ρ) s : Nat) (n : Int)) {p : Int} (hp : isPart p) {i j : Nat} (hi : i < j ∧ j ≤ LL ρ) (h2 : pv ρ p i j ≠ -2) (h : tp (ct ρ) (pv ρ p i j) n ≠ 0) : Te ρ jA p i j (n : Int) := by
  have q := sp_a (L := LL ρ) hL hi
  unfold isPart at hp
  unfold tp at h
  by_cases hl : 100 ≤ p
  · by_cases hc : j = i + 1 ∧ ρ 11 i = p - 100
    · rw [pv_yes hl hc, if_pos (by decide)] at h
      have e : n = 0 := Classical.byContradiction (fun z => h (by rw [if_neg z]))
      subst e
      exact (Te.letter_iff hg hl).2 ⟨by omega, by rw [Int.toNat_natCast]; exact hc.2, rfl⟩
    · exact absurd (pv_no hl hc) h2
  · have e : pv ρ p i j = ((12 * spA (LL ρ) i j + p.toNat : Nat) : Int) := by rw [pv_lab (by omega)]; omega
    rw [e, if_neg (by omega), Int.toNat_natCast] at h
    have := ih _ _ q.1 (by omega) h
    rw [q.2.1, q.2.2, show ((p.toNat : Nat) : Int) = p by omega] at this
    exact this
theorem ct_te' {ρ : St} (hg : Wg ρ) (hL : LL ρ < 9) : ∀ N n, n < N → ∀ s a, s < spN (LL ρ) → a < 12 → ct ρ (12 * s + a) n ≠ 0 → Te ρ jA (a : Int) (spB (LL ρ) s : Nat) (spF (LL ρ) s : Nat) (n : Int)
  | 0, n, h => by omega
  | N + 1, n, hN => fun s a hs ha h => by
    have ih := ct_te' hg hL N
    have sp := sp_s hL hs
    by_cases e : n = 0
    · subst e; exact absurd ct_0 h
    rw [ct_eq hg (by omega)] at h
    obtain ⟨k, hk, h⟩ := sumC_ne _ h
    have hp := prN_r hg hk
    unfold cwt at h
    have hle : prN ρ k ≤ n := Classical.byContradiction (fun z => h (by rw [if_neg z]))
    rw [if_pos hle] at h
    obtain ⟨x, hx, h⟩ := sumN_ne _ h
    have f1 : tp (ct ρ) k.2.2.1 x ≠ 0 := fun z => h (by rw [z, Int.zero_mul])
    have f2 : tp (ct ρ) k.2.2.2 (n - prN ρ k - x) ≠ 0 := fun z => h (by rw [z, Int.mul_zero])
    obtain ⟨r, r1, r2, r3, r4, rr⟩ := cI_info ha hk
    have hp1 := (hg.2.2 r r1).2.1
    have hp2 := (hg.2.2 r r1).2.2.1
    rw [r4, Int.toNat_natCast] at hp
    rcases rr with ⟨h5, h6, -, h7, h8⟩ | ⟨h5, m, m1, m2, h6, h7, -, h8, h9⟩
    · rw [h7] at f1
      rw [h8] at f2
      unfold tp at f2
      rw [if_pos (by decide)] at f2
      have e0 : n - prN ρ k - x = 0 := Classical.byContradiction (fun z => f2 (by rw [if_neg z]))
      have t := Te.single r1 r2 h5 (tp_te hg hL (n := x) (ih x (by omega)) hp1 (by omega) h6 f1)
      rw [r3] at t
      have : jA (ρ 6 r) (x : Int) = (n : Int) := by show ρ 6 r + (x : Int) = _; omega
      rw [this] at t; exact t
    · rw [h8] at f1
      rw [h9] at f2
      have t := Te.pair r1 r2 h5 (by omega) (by omega) (tp_te hg hL (n := x) (ih x (by omega)) hp1 (by omega) h6 f1) (tp_te hg hL (n := n - prN ρ k - x) (ih _ (by omega)) (hp2.resolve_left h5) (by omega) h7 f2)
      rw [r3] at t
      have : jA (ρ 6 r) (jA (x : Int) ((n - prN ρ k - x : Nat) : Int)) = (n : Int) := by show ρ 6 r + ((x : Int) + ((n - prN ρ k - x : Nat) : Int)) = _; omega
      rw [this] at t; exact t
theorem ct_te {ρ : St} (hg : Wg ρ) (hL : LL ρ < 9) {s a n : Nat} (hs : s < spN (LL ρ)) (ha : a < 12) (h : ct ρ (12 * s + a) n ≠ 0) : Te ρ jA (a : Int) (spB (LL ρ) s : Nat) (spF (LL ρ) s : Nat) (n : Int) := ct_te' hg hL (n + 1) n (by omega) s a hs ha h
/-- all up to a cost -/
def ctP (ρ : St) (q c : Nat) : Int := sumN (ct ρ q) (c + 1)
theorem ctP_n {ρ : St} (hg : Wg ρ) (q c : Nat) : 0 ≤ ctP ρ q c := sumN_nn _ (fun k _ => ct_n hg q k)
theorem ctP_s {ρ : St} {q c : Nat} : ctP ρ q (c + 1) = ctP ρ q c + ct ρ q (c + 1) := rfl
theorem sumN_pre {f : Nat → Int} (h : ∀ k, 0 ≤ f k) {m n : Nat} (hm : m ≤ n) : sumN f m ≤ sumN f n := by
  rw [show n = m + (n - m) by omega, sumN_app]
  have := sumN_nn (f := fun a => f (m + a)) (n - m) (fun k _ => h _)
  omega
/-- what a part has below x, the whole has below c -/
theorem ct_dom {ρ : St} (hg : Wg ρ) {q : Nat} {k : Cs} (hk : k ∈ cI ρ q) {c x : Nat} (hc : prN ρ k ≤ c) (hx : x ≤ c - prN ρ k) : (1 ≤ tp (ct ρ) k.2.2.2 (c - prN ρ k - x) → sumN (tp (ct ρ) k.2.2.1) x ≤ sumN (ct ρ q) c) ∧ (1 ≤ tp (ct ρ) k.2.2.1 (c - prN ρ k - x) → sumN (tp (ct ρ) k.2.2.2) x ≤ sumN (ct ρ q) c) := by
  have hp := prN_r hg hk
  have main : ∀ f : Nat → Int, (∀ t, t < x → f t ≤ ct ρ q (c - x + t)) → sumN f x ≤ sumN (ct ρ q) c := by
    intro f hf
    have e : sumN (ct ρ q) c = sumN (ct ρ q) (c - x) + sumN (fun t => ct ρ q (c - x + t)) x := by
      rw [← sumN_app, show c - x + x = c by omega]
    have h1 := sumN_nn (f := ct ρ q) (c - x) (fun k _ => ct_n hg q k)
    have h2 := sumN_le (f := f) (g := fun t => ct ρ q (c - x + t)) x hf
    omega
  have low : ∀ t, t < x → ∀ u, u ≤ c - x + t - prN ρ k → tp (ct ρ) k.2.2.1 u * tp (ct ρ) k.2.2.2 (c - x + t - prN ρ k - u) ≤ ct ρ q (c - x + t) := by
    intro t ht u hu
    have e1 : ct ρ q (c - x + t) = ctF ρ (ct ρ) q (c - x + t) := ct_eq hg (by omega)
    have e2 := sumC_ge (g := cwt ρ (ct ρ) (c - x + t)) (cI ρ q) (fun k hk => cwt_n hg _ hk) k hk
    have e3 : cwt ρ (ct ρ) (c - x + t) k = cv (tp (ct ρ) k.2.2.1) (tp (ct ρ) k.2.2.2) (c - x + t - prN ρ k) := by unfold cwt; rw [if_pos (by omega)]
    have e4 := sumN_ge (f := fun y => tp (ct ρ) k.2.2.1 y * tp (ct ρ) k.2.2.2 (c - x + t - prN ρ k - y)) (c - x + t - prN ρ k + 1) (fun y _ => Int.mul_nonneg (tpc_n hg _ _) (tpc_n hg _ _)) u (by omega)
    have e4 : tp (ct ρ) k.2.2.1 u * tp (ct ρ) k.2.2.2 (c - x + t - prN ρ k - u) ≤ cv (tp (ct ρ) k.2.2.1) (tp (ct ρ) k.2.2.2) (c - x + t - prN ρ k) := e4
    unfold ctF at e1
    omega
  refine ⟨fun h => main _ (fun t ht => ?_), fun h => main _ (fun t ht => ?_)⟩
  · have l := low t ht t (by omega)
    rw [show c - x + t - prN ρ k - t = c - prN ρ k - x by omega] at l
    have := Int.mul_le_mul_of_nonneg_left h (tpc_n hg k.2.2.1 t)
    rw [Int.mul_one] at this
    omega
  · have l := low t ht (c - prN ρ k - x) (by omega)
    rw [show c - x + t - prN ρ k - (c - prN ρ k - x) = t by omega] at l
    have := Int.mul_le_mul_of_nonneg_right h (tpc_n hg k.2.2.2 t)
    rw [Int.one_mul] at this
    omega
