/-! the cases of an item: rule, middle, first part, second part -/
def LL (ρ : St) : Nat := (ρ 0 8).toNat
def pv (ρ : St) (p : Int) (i j : Nat) : Int := if 100 ≤ p then (if j = i + 1 ∧ ρ 11 i = p - 100 then -1 else -2) else ((spA (LL ρ) i j * 12 : Nat) : Int) + p
def cOne (r : Nat) (m f s : Int) : List (Int × Int × Int × Int) := if f = -2 ∨ s = -2 then [] else [((r : Int), m, f, s)]
def cB (ρ : St) (r i j : Nat) : Nat → List (Int × Int × Int × Int)
  | 0 => []
  | d + 1 => cB ρ r i j d ++ cOne r ((i + 1 + d : Nat) : Int) (pv ρ (ρ 4 r) i (i + 1 + d)) (pv ρ (ρ 5 r) (i + 1 + d) j)
def cC (ρ : St) (i j r : Nat) : List (Int × Int × Int × Int) := if ρ 5 r = -1 then cOne r (-1) (pv ρ (ρ 4 r) i j) (-1) else cB ρ r i j (j - i - 1)
def cS (ρ : St) (s : Nat) (l : List Nat) : List (Int × Int × Int × Int) := l.flatMap (cC ρ (spB (LL ρ) s) (spF (LL ρ) s))
def cI (ρ : St) (q : Nat) : List (Int × Int × Int × Int) := cS ρ (q / 12) (liA ρ (q % 12) (ρ 0 4).toNat)
def PL (ρ : St) : Nat → List (Int × Int × Int × Int)
  | 0 => []
  | q + 1 => PL ρ q ++ cI ρ q
theorem cS_app {ρ : St} {s : Nat} {l k : List Nat} : cS ρ s (l ++ k) = cS ρ s l ++ cS ρ s k := by unfold cS; rw [List.flatMap_append]
theorem liL_s {ρ : St} {b : Nat} : liL ρ (b + 1) = liL ρ b ++ liA ρ b (ρ 0 4).toNat := rfl
theorem PL_add {ρ : St} {s : Nat} : ∀ b, b ≤ 12 → PL ρ (12 * s + b) = PL ρ (12 * s) ++ cS ρ s (liL ρ b)
  | 0, _ => by simp [liL, cS]
  | b + 1, hb => by
    show PL ρ (12 * s + b) ++ cI ρ (12 * s + b) = _
    rw [PL_add b (by omega)]
    unfold cI
    rw [liL_s, cS_app, show (12 * s + b) / 12 = s by omega, show (12 * s + b) % 12 = b by omega, List.append_assoc]
theorem liL_pre {ρ : St} {b : Nat} : ∀ d, ∃ l, liL ρ (b + d) = liL ρ b ++ l
  | 0 => ⟨[], by simp⟩
  | d + 1 => by
    obtain ⟨l, hl⟩ := liL_pre (ρ := ρ) (b := b) d
    refine ⟨l ++ liA ρ (b + d) (ρ 0 4).toNat, ?_⟩
    rw [show b + (d + 1) = (b + d) + 1 from rfl, liL_s, hl, List.append_assoc]
theorem liL_mono {ρ : St} {b c : Nat} (h : b ≤ c) : (liL ρ b).length ≤ (liL ρ c).length := by
  obtain ⟨l, hl⟩ := liL_pre (ρ := ρ) (b := b) (c - b)
  rw [show b + (c - b) = c by omega] at hl
  rw [hl, List.length_append]; omega
theorem liL_take {ρ : St} {b : Nat} (h : b ≤ 12) {x : Nat} (hx : x = (liL ρ b).length) : (liL ρ 12).take x = liL ρ b := by
  obtain ⟨l, hl⟩ := liL_pre (ρ := ρ) (b := b) (12 - b)
  rw [show b + (12 - b) = 12 by omega] at hl
  rw [hl, hx, List.take_left']; rfl
theorem liL_at {ρ : St} {x : Nat} : ∀ b, (hx : x < (liL ρ b).length) → ∃ h, h < b ∧ ρ 3 (liL ρ b)[x] = (h : Int) ∧ ρ 8 (liL ρ b)[x] = 0 ∧ (liL ρ h).length ≤ x ∧ x < (liL ρ (h + 1)).length ∧ (liL ρ b)[x] < (ρ 0 4).toNat
  | 0, hx => absurd hx (by simp [liL])
  | b + 1, hx => by
    by_cases h : x < (liL ρ b).length
    · obtain ⟨k, k1, k2, k3, k4, k5, k6⟩ := liL_at b h
      have e : (liL ρ (b + 1))[x] = (liL ρ b)[x] := (List.getElem_of_eq liL_s hx).trans (List.getElem_append_left h)
      exact ⟨k, by omega, by rw [e]; exact k2, by rw [e]; exact k3, k4, k5, by rw [e]; exact k6⟩
    · have hm : (liL ρ (b + 1))[x] ∈ liA ρ b (ρ 0 4).toNat := by
        have e : (liL ρ (b + 1))[x] = (liA ρ b (ρ 0 4).toNat)[x - (liL ρ b).length]'(by
            have : (liL ρ (b + 1)).length = (liL ρ b).length + (liA ρ b (ρ 0 4).toNat).length := by
              show (liL ρ b ++ liA ρ b (ρ 0 4).toNat).length = _
              rw [List.length_append]
            omega) := (List.getElem_of_eq liL_s hx).trans (List.getElem_append_right (by omega))
        rw [e]; exact List.getElem_mem _
      rw [mem_liA] at hm
      obtain ⟨h1, h2⟩ := hm
      unfold inA at h2
      rw [Bool.and_eq_true, decide_eq_true_iff, decide_eq_true_iff] at h2
      exact ⟨b, by omega, h2.1, h2.2, by omega, hx, h1⟩
/-! how many there can be -/
def wtR (ρ : St) (i j r : Nat) : Nat := if ρ 5 r = -1 then 1 else j - i - 1
theorem cOne_len {r : Nat} {m f s : Int} : (cOne r m f s).length ≤ 1 := by unfold cOne; split <;> simp
theorem cB_len {ρ : St} {r i j : Nat} : ∀ d, (cB ρ r i j d).length ≤ d
  | 0 => Nat.le_refl 0
  | d + 1 => by
    have := cB_len (ρ := ρ) (r := r) (i := i) (j := j) d
    unfold cB
    rw [List.length_append]
    have := cOne_len (r := r) (m := ((i + 1 + d : Nat) : Int)) (f := pv ρ (ρ 4 r) i (i + 1 + d)) (s := pv ρ (ρ 5 r) (i + 1 + d) j)
    omega
theorem cC_len {ρ : St} {r i j : Nat} : (cC ρ i j r).length ≤ wtR ρ i j r := by
  unfold cC wtR
  split
  · exact cOne_len
  · exact cB_len _
def sumL (f : Nat → Nat) : List Nat → Nat
  | [] => 0
  | x :: l => f x + sumL f l
theorem sumL_app {f : Nat → Nat} {k : List Nat} : ∀ l, sumL f (l ++ k) = sumL f l + sumL f k
  | [] => by simp [sumL]
  | x :: l => by
    show f x + sumL f (l ++ k) = f x + sumL f l + sumL f k
    rw [sumL_app l]; omega
theorem sumL_add {f g : Nat → Nat} : ∀ l, sumL (fun x => f x + g x) l = sumL f l + sumL g l
  | [] => rfl
  | x :: l => by
    show f x + g x + sumL _ l = f x + sumL f l + (g x + sumL g l)
    rw [sumL_add l]; omega
theorem sumL_ub {f : Nat → Nat} {b : Nat} (h : ∀ x, f x ≤ b) : ∀ l, sumL f l ≤ b * l.length
  | [] => by simp [sumL]
  | x :: l => by
    have := sumL_ub h l
    have := h x
    show f x + sumL f l ≤ b * (l.length + 1)
    rw [Nat.mul_add]; omega
theorem cS_len {ρ : St} {s : Nat} : ∀ l, (cS ρ s l).length ≤ sumL (wtR ρ (spB (LL ρ) s) (spF (LL ρ) s)) l
  | [] => by simp [cS, sumL]
  | x :: l => by
    have := cS_len (ρ := ρ) (s := s) l
    have := cC_len (ρ := ρ) (r := x) (i := spB (LL ρ) s) (j := spF (LL ρ) s)
    unfold cS at *
    rw [List.flatMap_cons, List.length_append]
    show _ ≤ wtR ρ _ _ x + sumL _ l
    omega
def totS (L : Nat) : Nat → Nat
  | 0 => 0
  | s + 1 => totS L s + (spF L s - spB L s - 1)
theorem totS_b : ((List.range 9).all fun L => (List.range 37).all fun s => !decide (s ≤ spN L) || decide (totS L s ≤ 84)) = true := by decide +kernel
theorem totS_le {L s : Nat} (hL : L < 9) (hs : s ≤ spN L) : totS L s ≤ 84 := by
  have q := all_of (all_of totS_b hL) (k := s) (by have := sp_3 L hL; omega)
  rw [decide_eq_true hs] at q
  simpa using q
def cumR (ρ : St) (s r : Nat) : Nat := if ρ 5 r = -1 then s else totS (LL ρ) s
theorem cumR_s {ρ : St} {s r : Nat} : cumR ρ (s + 1) r = cumR ρ s r + wtR ρ (spB (LL ρ) s) (spF (LL ρ) s) r := by
  unfold cumR wtR
  split
  · rfl
  · rfl
theorem cumR_le {ρ : St} {s r : Nat} (hL : LL ρ < 9) (hs : s ≤ spN (LL ρ)) : cumR ρ s r ≤ 84 := by
  unfold cumR
  split
  · have := sp_3 _ hL; omega
  · exact totS_le hL hs
theorem PL_len {ρ : St} : ∀ s, (PL ρ (12 * s)).length ≤ sumL (cumR ρ s) (liL ρ 12)
  | 0 => by simp [PL]
  | s + 1 => by
    have ih := PL_len (ρ := ρ) s
    rw [show 12 * (s + 1) = 12 * s + 12 by omega, PL_add 12 (by omega), List.length_append]
    have h1 := cS_len (ρ := ρ) (s := s) (liL ρ 12)
    have h2 : sumL (cumR ρ (s + 1)) (liL ρ 12) = sumL (cumR ρ s) (liL ρ 12) + sumL (wtR ρ (spB (LL ρ) s) (spF (LL ρ) s)) (liL ρ 12) := by
      rw [← sumL_add]
      congr 1
      funext r; exact cumR_s
    omega
theorem liL_40 {ρ : St} (hg : Wg ρ) : (liL ρ 12).length ≤ 40 := by
  have := cntB_le (fun k => decide (ρ 3 k < ((12 : Nat) : Int)) && decide (ρ 8 k = 0)) (ρ 0 4).toNat
  have := hg.2.1
  rw [liL_len hg]; omega
/-- there is room for rule x's cases -/
theorem room {ρ : St} (hg : Wg ρ) (hL : LL ρ < 9) {s x : Nat} (hs : s < spN (LL ρ)) (hx : x < (liL ρ 12).length) : (PL ρ (12 * s) ++ cS ρ s ((liL ρ 12).take x)).length + wtR ρ (spB (LL ρ) s) (spF (LL ρ) s) (liL ρ 12)[x] ≤ 3360 := by
  rw [List.length_append]
  have h1 := PL_len (ρ := ρ) s
  have h2 := cS_len (ρ := ρ) (s := s) ((liL ρ 12).take x)
  have h3 : sumL (wtR ρ (spB (LL ρ) s) (spF (LL ρ) s)) (liL ρ 12) = sumL (wtR ρ (spB (LL ρ) s) (spF (LL ρ) s)) ((liL ρ 12).take x) + (wtR ρ (spB (LL ρ) s) (spF (LL ρ) s) (liL ρ 12)[x] + sumL (wtR ρ (spB (LL ρ) s) (spF (LL ρ) s)) ((liL ρ 12).drop (x + 1))) := by
    conv => lhs; rw [← List.take_append_drop x (liL ρ 12), List.drop_eq_getElem_cons hx]
    rw [sumL_app]; rfl
  have h4 : sumL (cumR ρ (s + 1)) (liL ρ 12) = sumL (cumR ρ s) (liL ρ 12) + sumL (wtR ρ (spB (LL ρ) s) (spF (LL ρ) s)) (liL ρ 12) := by
    rw [← sumL_add]
    congr 1
    funext r; exact cumR_s
  have h5 := sumL_ub (f := cumR ρ (s + 1)) (b := 84) (fun r => cumR_le hL (by omega)) (liL ρ 12)
  have h6 := liL_40 hg
  omega
