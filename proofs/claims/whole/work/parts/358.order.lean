/-! items in their order: the class's -/
def spW (L s : Nat) : Nat := (spF L s - spB L s) * 16 + spB L s
theorem spW_b : ((List.range 9).all fun L => (List.range 36).all fun s => (List.range 36).all fun t => !decide (s < t ∧ t < spN L) || decide (spW L s < spW L t ∧ spF L s - spB L s < 16 ∧ spB L s < 16)) = true := by decide +kernel
theorem spW_lt {L s t : Nat} (hL : L < 9) (h : s < t ∧ t < spN L) : spW L s < spW L t := by
  have h3 := sp_3 L hL
  have := all_of (all_of (all_of spW_b hL) (show s < 36 by omega)) (show t < 36 by omega)
  simp only [Bool.or_eq_true, Bool.not_eq_true', decide_eq_false_iff_not, decide_eq_true_iff] at this
  exact (this.resolve_left (fun w => w h)).1
def kyF (L : Nat) (f : Nat → Int) (q : Nat) : Int := (f q * 256 + (spW L (q / 12) : Nat)) * 16 + (q % 12 : Nat)
theorem spW_r {L s : Nat} (hL : L < 9) (hs : s < spN L) : spW L s < 256 := by
  have := sp_s hL hs
  unfold spW; omega
theorem ky_lt {L : Nat} (hL : L < 9) {f : Nat → Int} {a b : Nat} (ha : a < 12 * spN L) (hb : b < 12 * spN L) : kyF L f a < kyF L f b ↔ (f a < f b ∨ (f a = f b ∧ a < b)) := by
  have wa := spW_r (s := a / 12) hL (by omega)
  have wb := spW_r (s := b / 12) hL (by omega)
  have k : a < b → spW L (a / 12) * 16 + a % 12 < spW L (b / 12) * 16 + b % 12 := by
    intro h
    by_cases e : a / 12 = b / 12
    · rw [e]; omega
    · have := spW_lt hL (s := a / 12) (t := b / 12) (by omega)
      omega
  have k2 : b < a → spW L (b / 12) * 16 + b % 12 < spW L (a / 12) * 16 + a % 12 := by
    intro h
    by_cases e : a / 12 = b / 12
    · rw [e]; omega
    · have := spW_lt hL (s := b / 12) (t := a / 12) (by omega)
      omega
  have k3 : a = b → spW L (a / 12) * 16 + a % 12 = spW L (b / 12) * 16 + b % 12 := fun h => by rw [h]
  unfold kyF
  omega
def OrdL (ρ : St) (f : Nat → Int) (l : List Nat) (n : Nat) : Prop := (l.length : Int) = nQ ρ n ∧ (∀ q, q ∈ l ↔ q < n ∧ hPt ρ ((q : Nat) : Int)) ∧ (∀ t u (hu : u < l.length) (htu : t < u), kyF (LL ρ) f (l[t]'(Nat.lt_trans htu hu)) < kyF (LL ρ) f l[u])
theorem OrdL.lt {ρ : St} {f : Nat → Int} {l : List Nat} {n : Nat} (h : OrdL ρ f l n) : l.length ≤ n := by
  have := nQ_r (ρ := ρ) n
  have := h.1
  omega
theorem OrdL.skip {ρ : St} {f : Nat → Int} {l : List Nat} {n : Nat} (h : OrdL ρ f l n) (hn : ¬ hPt ρ ((n : Nat) : Int)) : OrdL ρ f l (n + 1) := by
  refine ⟨?_, fun q => ?_, h.2.2⟩
  · rw [h.1]; show nQ ρ n = nQ ρ n + ix _; rw [ix_n hn]; omega
  · rw [h.2.1 q]
    constructor
    · rintro ⟨a, b⟩; exact ⟨by omega, b⟩
    · rintro ⟨a, b⟩
      by_cases e : q = n
      · subst e; exact absurd b hn
      · exact ⟨by omega, b⟩
theorem OrdL.put {ρ : St} (hL : LL ρ < 9) {f : Nat → Int} {l : List Nat} {n p : Nat} (hn12 : n < 12 * spN (LL ρ)) (h : OrdL ρ f l n) (hn : hPt ρ ((n : Nat) : Int)) (hp : p ≤ l.length) (h1 : ∀ t (ht : t < l.length), t < p → f l[t] ≤ f n) (h2 : ∀ t (ht : t < l.length), p ≤ t → f n < f l[t]) : OrdL ρ f (l.insertIdx p n) (n + 1) := by
  have hlen : (l.insertIdx p n).length = l.length + 1 := List.length_insertIdx_of_le_length hp _
  have mem : ∀ t (ht : t < l.length), l[t] < n := fun t ht => ((h.2.1 l[t]).1 (List.getElem_mem ht)).1
  refine ⟨?_, fun q => ?_, fun t u hu htu => ?_⟩
  · rw [hlen]
    show ((l.length + 1 : Nat) : Int) = nQ ρ n + ix _
    rw [ix_y hn, ← h.1]; push_cast; omega
  · rw [List.mem_insertIdx hp, h.2.1 q]
    constructor
    · rintro (e | ⟨a, b⟩)
      · subst e; exact ⟨by omega, hn⟩
      · exact ⟨by omega, b⟩
    · rintro ⟨a, b⟩
      by_cases e : q = n
      · exact Or.inl e
      · exact Or.inr ⟨by omega, b⟩
  · rw [List.getElem_insertIdx, List.getElem_insertIdx]
    rw [hlen] at hu
    by_cases u1 : u < p
    · have a1 : t < p := by omega
      simp only [a1, u1, dite_true]
      exact h.2.2 t u (by omega) htu
    · by_cases u2 : u = p
      · subst u2
        simp only [htu, Nat.lt_irrefl, dite_true, dite_false]
        have ht : t < l.length := by omega
        refine (ky_lt hL (by have := mem t ht; omega) hn12).2 ?_
        have := h1 t ht htu
        have := mem t ht
        omega
      · simp only [u1, u2, dite_false]
        have hu1 : u - 1 < l.length := by omega
        by_cases t1 : t < p
        · simp only [t1, dite_true]
          exact h.2.2 t (u - 1) hu1 (by omega)
        · by_cases t2 : t = p
          · simp only [t1, t2, Nat.lt_irrefl, dite_false, dite_true]
            refine (ky_lt hL hn12 (by have := mem (u - 1) hu1; omega)).2 (Or.inl (h2 (u - 1) hu1 (by omega)))
          · simp only [t1, t2, dite_false]
            exact h.2.2 (t - 1) (u - 1) hu1 (by omega)
/-- the class's store while items are put in order -/
def OS (ρ : St) (f : Nat → Int) (l : List Nat) (σ : St) : Prop := Bt ρ σ ∧ σ 36 7 = 1 ∧ σ 36 9 = 1 ∧ σ 37 = f ∧ σ 36 6 = l.length ∧ ArL (σ 40) l
theorem c_po74 {ρ σ0 : St} {f : Nat → Int} {l : List Nat} {q p : Nat} (hl : l.length < 432) (hp : p ≤ l.length) {Q : Int → St → Prop} (hq : ∀ σ1, OS ρ f (l.insertIdx p q) σ1 → Q 0 σ1) : ∀ (d y : Nat) (σ : St) (n : Nat), p + d = y → y ≤ l.length → d < n → Bt ρ σ → σ 36 7 = 1 → σ 36 9 = 1 → σ 37 = f → σ 36 6 = l.length → (∀ t (ht : t < l.length), t < y → σ 40 t = (l[t] : Nat)) → (∀ t (ht : t < l.length), y ≤ t → σ 40 (t + 1) = (l[t] : Nat)) → wp_X1_putInOrder_l74 Q n (q : Int) (p : Int) (y : Int) σ := by
  intro d
  induction d with
  | zero =>
    intro y σ n hy hyl hn b1 b2 b3 b4 b5 h1 h2
    obtain ⟨n, rfl⟩ := suc_n hn
    unfold wp_X1_putInOrder_l74
    refine ⟨fun _ => ⟨by omega, fun σ6 e6 σ7 e7 => ?_⟩, fun w => absurd (by omega) w⟩
    have hlen : (l.insertIdx p q).length = l.length + 1 := List.length_insertIdx_of_le_length hp _
    have e66 : σ6 36 6 = l.length := by rw [e6]; exact b5
    rw [e66, w32_of (by omega) (by omega)] at e7
    refine hq σ7 ⟨by rw [e7, e6]; exact b1, by rw [e7, e6]; exact b2, by rw [e7, e6]; exact b3, by rw [e7, e6]; exact b4, by rw [e7, upS_s, hlen]; push_cast; rfl, fun t ht => ?_⟩
    rw [hlen] at ht
    rw [List.getElem_insertIdx, e7, upS_k (by decide), e6]
    by_cases t1 : t < p
    · simp only [t1, dite_true]
      rw [upS_j (by omega)]; exact h1 t (by omega) (by omega)
    · by_cases t2 : t = p
      · simp only [t1, t2, Nat.lt_irrefl, dite_false, dite_true]
        rw [Int.toNat_natCast, upS_s]
      · simp only [t1, t2, dite_false]
        rw [Int.toNat_natCast, upS_j t2]
        have := h2 (t - 1) (by omega) (by omega)
        rw [show t - 1 + 1 = t by omega] at this
        exact this
  | succ d ih =>
    intro y σ n hy hyl hn b1 b2 b3 b4 b5 h1 h2
    obtain ⟨n, rfl⟩ := suc_n hn
    unfold wp_X1_putInOrder_l74
    rw [w32_of (x := (y : Int) - 1) (by omega) (by omega), show ((y : Int) - 1).toNat = y - 1 by omega]
    refine ⟨fun w => absurd w (by omega), fun _ => ⟨by omega, by omega, fun σ8 e8 v9 e9 => ?_⟩⟩
    rw [w32_of (by omega) (by omega), show (y : Int) + (-1) = ((y - 1 : Nat) : Int) by omega] at e9
    rw [e9]
    rw [Int.toNat_natCast] at e8
    refine ih (y - 1) σ8 n (by omega) (by omega) (by omega) (by rw [e8]; exact b1) (by rw [e8]; exact b2) (by rw [e8]; exact b3) (by rw [e8]; exact b4) (by rw [e8]; exact b5) (fun t ht hty => ?_) (fun t ht hty => ?_)
    · rw [e8, upS_j (by omega)]; exact h1 t ht (by omega)
    · rw [e8]
      by_cases e : t + 1 = y
      · rw [e, upS_s, show y - 1 = t by omega]; exact h1 t ht (by omega)
      · rw [upS_j e]; exact h2 t ht (by omega)
theorem c_po10 {ρ σ : St} (hL : LL ρ < 9) {f : Nat → Int} {l : List Nat} {q : Nat} (hq12 : q < 12 * spN (LL ρ)) (hO : OrdL ρ f l q) (hP : hPt ρ ((q : Nat) : Int)) (hS : OS ρ f l σ) {Q : Int → St → Prop} (hq : ∀ l1 σ1, OrdL ρ f l1 (q + 1) → OS ρ f l1 σ1 → Q 0 σ1) : ∀ (d fr to tn : Nat) (n : Nat), to - fr ≤ d → d < n → fr ≤ to → to ≤ l.length → to - fr + tn ≤ 432 → (∀ t (ht : t < l.length), t < fr → f l[t] ≤ f q) → (∀ t (ht : t < l.length), to ≤ t → f q < f l[t]) → wp_X1_putInOrder_l10 Q n (q : Int) (fr : Int) (to : Int) (tn : Int) σ := by
  have h3 := sp_3 _ hL
  have hll := hO.lt
  have fin : ∀ fr : Nat, fr ≤ l.length → (∀ t (ht : t < l.length), t < fr → f l[t] ≤ f q) → (∀ t (ht : t < l.length), fr ≤ t → f q < f l[t]) → wp_X1_putInOrder_b68 Q (q : Int) (fr : Int) σ := by
    intro fr h0 h1 h2
    unfold wp_X1_putInOrder_b68
    intro v ev
    rw [ev, hS.2.2.2.2.1]
    exact c_po74 (σ0 := σ) (by omega) h0 (fun σ1 h => hq _ σ1 (hO.put hL hq12 hP h0 h1 h2) h) (l.length - fr) l.length σ bigN (by omega) (by omega) (by unfold bigN; omega) hS.1 hS.2.1 hS.2.2.1 hS.2.2.2.1 hS.2.2.2.2.1 (fun t ht _ => hS.2.2.2.2.2 t ht) (fun t ht w => by omega)
  intro d
  induction d with
  | zero =>
    intro fr to tn n hd hn hft htl htn h1 h2
    obtain ⟨n, rfl⟩ := suc_n hn
    have e : fr = to := by omega
    subst e
    unfold wp_X1_putInOrder_l10
    exact ⟨fun _ => fin fr htl h1 h2, fun _ => ⟨fun _ => fin fr htl h1 h2, fun w => absurd (by omega) w⟩⟩
  | succ d ih =>
    intro fr to tn n hd hn hft htl htn h1 h2
    obtain ⟨n, rfl⟩ := suc_n hn
    unfold wp_X1_putInOrder_l10
    refine ⟨fun w => ?_, fun w => ⟨fun w2 => ?_, fun w2 v ev => ?_⟩⟩
    · have e : fr = to := by omega
      subst e; exact fin fr htl h1 h2
    · have e : fr = to := by omega
      subst e; exact fin fr htl h1 h2
    · rw [w32_of (by omega) (by omega), b_div_eq (by omega) (by omega) (by decide) (by decide), show ((fr : Int) + to) / 2 = (((fr + to) / 2 : Nat) : Int) by omega] at ev
      have hh : fr ≤ (fr + to) / 2 ∧ (fr + to) / 2 < to := by omega
      have hb : (fr + to) / 2 < l.length := by omega
      have m := ((hO.2.1 l[(fr + to) / 2]).1 (List.getElem_mem hb)).1
      rw [ev, Int.toNat_natCast, hS.2.2.2.2.2 _ hb, Int.toNat_natCast, Int.toNat_natCast, hS.2.2.2.1]
      have srt : ∀ t u (hu : u < l.length) (htu : t < u), f (l[t]'(Nat.lt_trans htu hu)) ≤ f l[u] := by
        intro t u hu htu
        have ht := Nat.lt_trans htu hu
        have m1 := ((hO.2.1 l[t]).1 (List.getElem_mem ht)).1
        have m2 := ((hO.2.1 l[u]).1 (List.getElem_mem hu)).1
        have := (ky_lt hL (by omega) (by omega)).1 (hO.2.2 t u hu htu)
        omega
      refine ⟨by omega, by omega, by omega, fun w3 => ?_, fun w3 v3 ev3 => ?_⟩
      · unfold wp_X1_putInOrder_b62
        intro v5 ev5
        rw [ev5, w32_of (by omega) (by omega), show (tn : Int) + 1 = ((tn + 1 : Nat) : Int) by omega]
        refine ih fr ((fr + to) / 2) (tn + 1) n (by omega) (by omega) (by omega) (by omega) (by omega) h1 (fun t ht htt => ?_)
        by_cases e : t = (fr + to) / 2
        · subst e; omega
        · have := srt ((fr + to) / 2) t ht (by omega)
          omega
      · unfold wp_X1_putInOrder_b62
        intro v5 ev5
        rw [ev5, ev3, w32_of (x := (((fr + to) / 2 : Nat) : Int) + 1) (by omega) (by omega), w32_of (by omega) (by omega), show (tn : Int) + 1 = ((tn + 1 : Nat) : Int) by omega, show (((fr + to) / 2 : Nat) : Int) + 1 = (((fr + to) / 2 + 1 : Nat) : Int) by omega]
        refine ih ((fr + to) / 2 + 1) to (tn + 1) n (by omega) (by omega) (by omega) (by omega) (by omega) (fun t ht htt => ?_) h2
        by_cases e : t = (fr + to) / 2
        · subst e; omega
        · have := srt t ((fr + to) / 2) hb (by omega)
          omega
theorem c_putInOrder {ρ σ : St} (hL : LL ρ < 9) {f : Nat → Int} {l : List Nat} {q : Nat} (hq12 : q < 12 * spN (LL ρ)) (hO : OrdL ρ f l q) (hP : hPt ρ ((q : Nat) : Int)) (hS : OS ρ f l σ) {Q : Int → St → Prop} (hq : ∀ l1 σ1, OrdL ρ f l1 (q + 1) → OS ρ f l1 σ1 → Q 0 σ1) : wp_X1_putInOrder (q : Int) σ Q := by
  have h3 := sp_3 _ hL
  have hll := hO.lt
  unfold wp_X1_putInOrder
  intro v ev
  rw [ev, hS.2.2.2.2.1]
  exact c_po10 hL hq12 hO hP hS hq l.length 0 l.length 0 bigN (by omega) (by unfold bigN; omega) (by omega) (by omega) (by omega) (fun t ht w => by omega) (fun t ht w => by omega)
theorem c_io23 {ρ : St} (hg : Wg ρ) (hL : LL ρ < 9) {f : Nat → Int} (hf : DR ρ ρ jA f (spN (LL ρ))) {x : Int} {Q : Int → St → Prop} (hq : ∀ l1 σ1, OrdL ρ f l1 (12 * spN (LL ρ)) → OS ρ f l1 σ1 → wp_X1_itemInOrder_b53 Q x σ1) : ∀ (d q : Nat) (l : List Nat) (σ : St) (n : Nat), q + d = 12 * spN (LL ρ) → d < n → OrdL ρ f l q → OS ρ f l σ → wp_X1_itemInOrder_l23 Q n x (q : Int) σ := by
  have h3 := sp_3 _ hL
  intro d
  induction d with
  | zero =>
    intro q l σ n hd hn hO hS
    obtain ⟨n, rfl⟩ := suc_n hn
    unfold wp_X1_itemInOrder_l23 wp_X0_itemCount
    rw [hS.1.1.2.1.2.1, w32_of (x := (spN (LL ρ) : Int) * 12) (by omega) (by omega)]
    refine ⟨fun _ => hq l σ ?_ hS, fun w => absurd (by omega) w⟩
    rw [show 12 * spN (LL ρ) = q by omega]; exact hO
  | succ d ih =>
    intro q l σ n hd hn hO hS
    obtain ⟨n, rfl⟩ := suc_n hn
    have hw : Lw ρ σ := by unfold Lw; rw [hS.2.2.2.1]; exact hf
    unfold wp_X1_itemInOrder_l23 wp_X0_itemCount
    rw [hS.1.1.2.1.2.1, w32_of (x := (spN (LL ρ) : Int) * 12) (by omega) (by omega)]
    refine ⟨fun w => absurd w (by omega), fun _ => c_hasI hg hL hw (by omega) (fun hn => ⟨fun _ => ?_, fun w => absurd rfl w⟩) (fun hy => ⟨fun w => absurd w (by decide), fun _ => c_putInOrder hL (by omega) hO hy hS (fun l1 σ1 hO1 hS1 => ?_)⟩)⟩
    · unfold wp_X1_itemInOrder_b47
      intro v ev
      rw [ev, w32_of (by omega) (by omega), show (q : Int) + 1 = ((q + 1 : Nat) : Int) by omega]
      exact ih (q + 1) l σ n (by omega) (by omega) (hO.skip hn) hS
    · unfold wp_X1_itemInOrder_b47
      intro v ev
      rw [ev, w32_of (by omega) (by omega), show (q : Int) + 1 = ((q + 1 : Nat) : Int) by omega]
      exact ih (q + 1) l1 σ1 n (by omega) (by omega) hO1 hS1
/-- what is kept of the order -/
def OrK (ρ σ : St) : Prop := ∃ f l, DR ρ ρ jA f (spN (LL ρ)) ∧ OrdL ρ f l (12 * spN (LL ρ)) ∧ σ 36 6 = (l.length : Nat) ∧ ArL (σ 40) l
theorem DR.uniq {ρ : St} {f f' : Nat → Int} (h : DR ρ ρ jA f (spN (LL ρ))) (h' : DR ρ ρ jA f' (spN (LL ρ))) {q : Nat} (hq : q < 12 * spN (LL ρ)) : f q = f' q := by
  have a := h (q / 12) (q % 12) (by omega) (Nat.mod_lt _ (by decide))
  have b := h' (q / 12) (q % 12) (by omega) (Nat.mod_lt _ (by decide))
  rw [show 12 * (q / 12) + q % 12 = q by omega] at a b
  rcases a with ⟨e, n⟩ | ⟨a0, a1, t, m⟩ <;> rcases b with ⟨e', n'⟩ | ⟨b0, b1, t', m'⟩
  · omega
  · exact absurd t' (n _)
  · exact absurd t (n' _)
  · have := m _ t'; have := m' _ t; omega
theorem OrdL.ext {ρ : St} (hL : LL ρ < 9) {f f' : Nat → Int} {l : List Nat} {n : Nat} (hn : n ≤ 12 * spN (LL ρ)) (h : OrdL ρ f l n) (he : ∀ q, q < 12 * spN (LL ρ) → f q = f' q) : OrdL ρ f' l n := by
  refine ⟨h.1, h.2.1, fun t u hu htu => ?_⟩
  have ht := Nat.lt_trans htu hu
  have m1 := ((h.2.1 l[t]).1 (List.getElem_mem ht)).1
  have m2 := ((h.2.1 l[u]).1 (List.getElem_mem hu)).1
  have := h.2.2 t u hu htu
  unfold kyF at *
  rw [← he l[t] (by omega), ← he l[u] (by omega)]
  exact this
theorem c_itemInOrder {ρ σ : St} (hW : WW ρ) (hk : KL ρ σ) (ho : σ 36 9 = 0 ∨ (σ 36 9 = 1 ∧ OrK ρ σ)) {k : Nat} {Q : Int → St → Prop} (hq : ∀ σ1 l, Bt ρ σ1 → σ1 36 7 = 1 → Lw ρ σ1 → σ1 36 9 = 1 → OrK ρ σ1 → OrdL ρ (σ1 37) l (12 * spN (LL ρ)) → Q (if h : k < l.length then ((l[k] : Nat) : Int) else -1) σ1) : wp_X1_itemInOrder (k : Int) σ Q := by
  have hg := hW.2.2.1
  have hL : LL ρ < 9 := by have := hW.2.2.2.2.2.1; unfold LL; omega
  have h3 := sp_3 _ hL
  have fin : ∀ l σ1, Bt ρ σ1 → σ1 36 7 = 1 → Lw ρ σ1 → σ1 36 9 = 1 → OrdL ρ (σ1 37) l (12 * spN (LL ρ)) → σ1 36 6 = (l.length : Nat) → ArL (σ1 40) l → wp_X1_itemInOrder_b53 Q (k : Int) σ1 := by
    intro l σ1 b1 b2 b3 b4 b5 b6 b7
    have hy := hq σ1 l b1 b2 b3 b4 ⟨σ1 37, l, b3, b5, b6, b7⟩ b5
    have hll := b5.lt
    unfold wp_X1_itemInOrder_b53 wp_X1_itemInOrder_b65
    rw [b6, Int.toNat_natCast]
    refine ⟨fun w => absurd w (by omega), fun _ => ⟨fun w => ⟨by omega, ?_⟩, fun w => ?_⟩⟩
    · have hk2 : k < l.length := by omega
      rw [dif_pos hk2] at hy
      rw [b7 k hk2]; exact hy
    · rw [dif_neg (by omega)] at hy; exact hy
  unfold wp_X1_itemInOrder
  refine mf_X1_prepare (σ0 := σ) (Q := fun _ σ1 => Bt ρ σ1 ∧ σ1 36 7 = 1 ∧ Lw ρ σ1) (fun _ σ2 h f => ?_) Fr.rf (c_prepare hW hk.1 hk.2.1 hk.2.2.1 hk.2.2.2 (fun σ1 a b c => ⟨a, b, c⟩))
  obtain ⟨b1, b2, b3⟩ := h
  have e9 : σ2 36 9 = σ 36 9 := f.at rfl
  have e6 : σ2 36 6 = σ 36 6 := f.at rfl
  have e40 : σ2 40 = σ 40 := funext (fun j => f.at rfl)
  refine ⟨fun w => ?_, fun w σ3 e3 σ4 e4 => ?_⟩
  · rcases ho with z | ⟨z, f', l, c1, c2, c3, c4⟩
    · exact absurd (by rw [e9]; exact z) w
    · exact fin l σ2 b1 b2 b3 (by rw [e9]; exact z) (c2.ext hL (Nat.le_refl _) (fun q hq => DR.uniq c1 b3 hq)) (by rw [e6]; exact c3) (by rw [e40]; exact c4)
  · refine c_io23 hg hL b3 (fun l1 σ1 hO hS => ?_) (12 * spN (LL ρ)) 0 [] σ4 bigN (by omega) (by unfold bigN; omega) ⟨rfl, fun q => ⟨fun h => (by cases h), fun h => (by omega)⟩, fun t u hu => (by cases hu)⟩ ⟨by rw [e4, e3]; exact b1, by rw [e4, e3]; exact b2, by rw [e4, e3]; rfl, by rw [e4, e3]; rfl, by rw [e4, upS_s]; rfl, fun t ht => by cases ht⟩
    have e37 := hS.2.2.2.1
    refine fin l1 σ1 hS.1 hS.2.1 (by unfold Lw; rw [e37]; exact b3) hS.2.2.1 (by rw [e37]; exact hO) hS.2.2.2.2.1 hS.2.2.2.2.2
