/-! how many trees: what is finite, and how many then -/
def B0 : Int := 1000000000000001
def sumC (g : Cs → Int) : List Cs → Int
  | [] => 0
  | c :: l => g c + sumC g l
theorem sumC_app {g : Cs → Int} {k : List Cs} : ∀ l, sumC g (l ++ k) = sumC g l + sumC g k
  | [] => by show sumC g k = 0 + sumC g k; omega
  | c :: l => by show g c + sumC g (l ++ k) = g c + sumC g l + sumC g k; rw [sumC_app l]; omega
theorem sumC_congr {g h : Cs → Int} : ∀ l, (∀ c ∈ l, g c = h c) → sumC g l = sumC h l
  | [], _ => rfl
  | c :: l, hh => by
    show g c + sumC g l = h c + sumC h l
    rw [hh c List.mem_cons_self, sumC_congr l (fun d hd => hh d (List.mem_cons_of_mem _ hd))]
theorem sumC_nn {g : Cs → Int} : ∀ l, (∀ c ∈ l, 0 ≤ g c) → 0 ≤ sumC g l
  | [], _ => Int.le_refl _
  | c :: l, hh => by
    have h1 := hh c List.mem_cons_self
    have h2 := sumC_nn l (fun d hd => hh d (List.mem_cons_of_mem _ hd))
    show 0 ≤ g c + sumC g l
    omega
theorem sumC_add {g h : Cs → Int} : ∀ l, sumC (fun c => g c + h c) l = sumC g l + sumC h l
  | [] => rfl
  | c :: l => by show g c + h c + sumC _ l = g c + sumC g l + (h c + sumC h l); rw [sumC_add l]; omega
theorem sumC_take {g : Cs → Int} {l : List Cs} {t : Nat} (ht : t < l.length) : sumC g (l.take (t + 1)) = sumC g (l.take t) + g l[t] := by
  rw [List.take_succ_eq_append_getElem ht, sumC_app]
  show _ + (g l[t] + 0) = _
  omega
def wpx (w : Nat → Int) (x : Int) : Int := if x < 0 then 1 else w x.toNat
def wpr (w : Nat → Int) (c : Cs) : Int := min B0 (wpx w c.2.2.1 * wpx w c.2.2.2)
noncomputable def wS (ρ : St) (w : Nat → Int) (l : List Cs) : Int := sumC (fun c => ix (fullC ρ c) * wpr w c) l
noncomputable def wq (ρ : St) : Nat → Nat → Int
  | 0 => fun _ => 0
  | k + 1 => fun q => min B0 (wS ρ (wq ρ k) (cI ρ q))
def FQ (ρ : St) : Nat → Nat → Prop
  | 0, _ => False
  | k + 1, q => ∀ c ∈ cI ρ q, fullC ρ c → (0 ≤ c.2.2.1 → FQ ρ k c.2.2.1.toNat) ∧ (0 ≤ c.2.2.2 → FQ ρ k c.2.2.2.toNat)
theorem FQ.up {ρ : St} : ∀ (k : Nat) {q : Nat}, FQ ρ k q → FQ ρ (k + 1) q
  | 0, _, h => h.elim
  | k + 1, q, h => fun c hc hf => ⟨fun z => FQ.up k ((h c hc hf).1 z), fun z => FQ.up k ((h c hc hf).2 z)⟩
theorem FQ.to {ρ : St} {k n q : Nat} (h : FQ ρ k q) (hn : k ≤ n) : FQ ρ n q := by
  obtain ⟨d, rfl⟩ := Nat.le.dest hn
  induction d with
  | zero => exact h
  | succ d ih => exact FQ.up _ (ih (by omega))
theorem wpx_eq {w w' : Nat → Int} {x : Int} (h : 0 ≤ x → w x.toNat = w' x.toNat) : wpx w x = wpx w' x := by
  unfold wpx
  by_cases h0 : x < 0
  · rw [if_pos h0, if_pos h0]
  · rw [if_neg h0, if_neg h0]; exact h (by omega)
theorem wS_congr {ρ : St} {w w' : Nat → Int} {l : List Cs} (h : ∀ c ∈ l, fullC ρ c → (0 ≤ c.2.2.1 → w c.2.2.1.toNat = w' c.2.2.1.toNat) ∧ (0 ≤ c.2.2.2 → w c.2.2.2.toNat = w' c.2.2.2.toNat)) : wS ρ w l = wS ρ w' l := by
  refine sumC_congr l (fun c hc => ?_)
  by_cases hf : fullC ρ c
  · obtain ⟨h1, h2⟩ := h c hc hf
    show ix _ * min B0 _ = ix _ * min B0 _
    rw [wpx_eq h1, wpx_eq h2]
  · rw [ix_n hf]; omega
theorem wq_st {ρ : St} : ∀ (k : Nat) {q : Nat}, FQ ρ k q → wq ρ (k + 1) q = wq ρ k q
  | 0, _, h => h.elim
  | k + 1, q, h => by
    show min B0 (wS ρ (wq ρ (k + 1)) (cI ρ q)) = min B0 (wS ρ (wq ρ k) (cI ρ q))
    rw [wS_congr (fun c hc hf => ⟨fun z => wq_st k ((h c hc hf).1 z), fun z => wq_st k ((h c hc hf).2 z)⟩)]
theorem wq_to {ρ : St} {k n q : Nat} (h : FQ ρ k q) (hn : k ≤ n) : wq ρ n q = wq ρ k q := by
  obtain ⟨d, rfl⟩ := Nat.le.dest hn
  induction d with
  | zero => rfl
  | succ d ih => exact (wq_st (k + d) (h.to (Nat.le_add_right k d))).trans (ih (Nat.le_add_right k d))
def wOK (w : Nat → Int) : Prop := ∀ x, 0 ≤ w x ∧ w x ≤ B0
theorem wpx_r {w : Nat → Int} (h : wOK w) (x : Int) : 0 ≤ wpx w x ∧ wpx w x ≤ B0 := by
  unfold wpx
  by_cases h0 : x < 0
  · rw [if_pos h0]; unfold B0; omega
  · rw [if_neg h0]; exact h _
theorem wpr_r {w : Nat → Int} (h : wOK w) (c : Cs) : 0 ≤ wpr w c ∧ wpr w c ≤ B0 := by
  have h1 := wpx_r h c.2.2.1
  have h2 := wpx_r h c.2.2.2
  have : 0 ≤ wpx w c.2.2.1 * wpx w c.2.2.2 := Int.mul_nonneg h1.1 h2.1
  unfold wpr
  have : (0 : Int) ≤ B0 := by unfold B0; omega
  omega
theorem wS_nn {ρ : St} {w : Nat → Int} (h : wOK w) (l : List Cs) : 0 ≤ wS ρ w l := by
  refine sumC_nn l (fun c _ => ?_)
  exact Int.mul_nonneg (ix_r _).1 (wpr_r h c).1
theorem wq_ok {ρ : St} : ∀ k, wOK (wq ρ k)
  | 0 => fun x => by show (0 : Int) ≤ 0 ∧ (0 : Int) ≤ B0; unfold B0; omega
  | k + 1 => fun x => by
    have := wS_nn (ρ := ρ) (wq_ok (ρ := ρ) k) (cI ρ x)
    show 0 ≤ min B0 _ ∧ min B0 _ ≤ B0
    have : (0 : Int) ≤ B0 := by unfold B0; omega
    omega
def FN (ρ : St) (q : Nat) : Prop := ∃ k, FQ ρ k q
def Rt (ρ : St) (q : Nat) (v : Int) : Prop := (v = -5 ∧ ¬ FN ρ q) ∨ (∃ k, FQ ρ k q ∧ v = wq ρ k q)
theorem Rt.fn {ρ : St} {q : Nat} {v : Int} (h : Rt ρ q v) : v ≠ -5 ↔ FN ρ q := by
  rcases h with ⟨a, b⟩ | ⟨k, a, b⟩
  · exact ⟨fun z => absurd a z, fun z => absurd z b⟩
  · refine ⟨fun _ => ⟨k, a⟩, fun _ => ?_⟩
    have := (wq_ok (ρ := ρ) k q).1
    omega
theorem Rt.val {ρ : St} {q k : Nat} {v : Int} (h : Rt ρ q v) (hk : FQ ρ k q) : v = wq ρ k q := by
  rcases h with ⟨a, b⟩ | ⟨n, a, b⟩
  · exact absurd ⟨k, hk⟩ b
  · rw [b]
    rcases Nat.le_total k n with z | z
    · exact wq_to hk z
    · exact (wq_to a z).symm
theorem Rt.uniq {ρ : St} {q : Nat} {v w : Int} (h : Rt ρ q v) (h2 : Rt ρ q w) : v = w := by
  rcases h2 with ⟨a, b⟩ | ⟨n, a, b⟩
  · rcases h with ⟨c, d⟩ | ⟨m, c, d⟩
    · omega
    · exact absurd ⟨m, c⟩ b
  · rw [b]; exact h.val a
theorem Rt.r {ρ : St} {q : Nat} {v : Int} (h : Rt ρ q v) : v = -5 ∨ (0 ≤ v ∧ v ≤ B0) := by
  rcases h with ⟨a, b⟩ | ⟨k, a, b⟩
  · exact Or.inl a
  · rw [b]; exact Or.inr (wq_ok k q)
/-- all full cases of a list have finite parts -/
def finC (ρ : St) (c : Cs) : Prop := (0 ≤ c.2.2.1 → FN ρ c.2.2.1.toNat) ∧ (0 ≤ c.2.2.2 → FN ρ c.2.2.2.toNat)
theorem fin_max {ρ : St} : ∀ l : List Cs, (∀ c ∈ l, fullC ρ c → finC ρ c) → ∃ K, ∀ c ∈ l, fullC ρ c → (0 ≤ c.2.2.1 → FQ ρ K c.2.2.1.toNat) ∧ (0 ≤ c.2.2.2 → FQ ρ K c.2.2.2.toNat)
  | [], _ => ⟨0, fun c hc => by cases hc⟩
  | c :: l, h => by
    obtain ⟨K, hK⟩ := fin_max l (fun d hd => h d (List.mem_cons_of_mem _ hd))
    have one : ∀ x : Int, ∃ k, (0 ≤ x → FN ρ x.toNat) → 0 ≤ x → FQ ρ k x.toNat := by
      intro x
      by_cases z : (0 ≤ x → FN ρ x.toNat) ∧ 0 ≤ x
      · obtain ⟨k, hk⟩ := z.1 z.2
        exact ⟨k, fun _ _ => hk⟩
      · exact ⟨0, fun a b => absurd ⟨a, b⟩ z⟩
    obtain ⟨k1, h1⟩ := one c.2.2.1
    obtain ⟨k2, h2⟩ := one c.2.2.2
    refine ⟨K + k1 + k2, fun d hd hf => ?_⟩
    rcases List.mem_cons.1 hd with e | e
    · subst e
      obtain ⟨g1, g2⟩ := h d List.mem_cons_self hf
      exact ⟨fun z => (h1 g1 z).to (by omega), fun z => (h2 g2 z).to (by omega)⟩
    · exact ⟨fun z => ((hK d e hf).1 z).to (by omega), fun z => ((hK d e hf).2 z).to (by omega)⟩
theorem FN_iff {ρ : St} {q : Nat} : FN ρ q ↔ ∀ c ∈ cI ρ q, fullC ρ c → finC ρ c := by
  constructor
  · rintro ⟨k, hk⟩ c hc hf
    cases k with
    | zero => exact hk.elim
    | succ k => exact ⟨fun z => ⟨k, (hk c hc hf).1 z⟩, fun z => ⟨k, (hk c hc hf).2 z⟩⟩
  · intro h
    obtain ⟨K, hK⟩ := fin_max _ h
    exact ⟨K + 1, hK⟩
theorem Rt.of {ρ : St} {q : Nat} {w : Nat → Int} (h : ∀ c ∈ cI ρ q, fullC ρ c → finC ρ c) (hw : ∀ c ∈ cI ρ q, fullC ρ c → (0 ≤ c.2.2.1 → Rt ρ c.2.2.1.toNat (w c.2.2.1.toNat)) ∧ (0 ≤ c.2.2.2 → Rt ρ c.2.2.2.toNat (w c.2.2.2.toNat))) : Rt ρ q (min B0 (wS ρ w (cI ρ q))) := by
  obtain ⟨K, hK⟩ := fin_max _ h
  refine Or.inr ⟨K + 1, hK, ?_⟩
  show _ = min B0 (wS ρ (wq ρ K) (cI ρ q))
  rw [wS_congr (fun c hc hf => ⟨fun z => ((hw c hc hf).1 z).val ((hK c hc hf).1 z), fun z => ((hw c hc hf).2 z).val ((hK c hc hf).2 z)⟩)]
/-! edges within a span, and what goes round -/
def goC (c : Cs) : Prop := c.2.1 = -1 ∧ 0 ≤ c.2.2.1
def Ed (ρ : St) (s a b : Nat) : Prop := ∃ r : Nat, (r : Int) < ρ 0 4 ∧ ρ 8 r = 0 ∧ ρ 3 r = (a : Int) ∧ ρ 5 r = -1 ∧ ρ 4 r = (b : Int) ∧ hPt ρ ((12 * s + b : Nat) : Int)
theorem Ed_case {ρ : St} (hL : LL ρ < 9) {s a b : Nat} (hs : s < spN (LL ρ)) (ha : a < 12) (hb : b < 12) : Ed ρ s a b ↔ ∃ c ∈ cI ρ (12 * s + a), fullC ρ c ∧ goC c ∧ c.2.2.1 = ((12 * s + b : Nat) : Int) := by
  have q := sp_s hL hs
  have pe : ∀ p : Int, p < 100 → pv ρ p (spB (LL ρ) s) (spF (LL ρ) s) = ((spA (LL ρ) (spB (LL ρ) s) (spF (LL ρ) s) * 12 : Nat) : Int) + p := fun p hp => pv_lab hp
  rw [q.2.2] at pe
  constructor
  · rintro ⟨r, h1, h2, h3, h4, h5, h6⟩
    have e := pe (ρ 4 r) (by omega)
    refine ⟨((r : Int), -1, pv ρ (ρ 4 r) (spB (LL ρ) s) (spF (LL ρ) s), -1), (mem_cI ha).2 ⟨r, by omega, inA_iff.2 ⟨h3, h2⟩, mem_cC.2 (Or.inl ⟨h4, by omega, rfl⟩)⟩, ⟨?_, Or.inl (by show (-1 : Int) < 0; decide)⟩, ⟨rfl, ?_⟩, ?_⟩
    · show hPt ρ (pv ρ (ρ 4 r) (spB (LL ρ) s) (spF (LL ρ) s))
      rw [e, h5, show ((s * 12 : Nat) : Int) + (b : Int) = ((12 * s + b : Nat) : Int) by omega]; exact h6
    · show 0 ≤ pv ρ (ρ 4 r) (spB (LL ρ) s) (spF (LL ρ) s)
      omega
    · show pv ρ (ρ 4 r) (spB (LL ρ) s) (spF (LL ρ) s) = _
      omega
  · rintro ⟨c, hc, hf, hg, he⟩
    obtain ⟨r, h1, h2, h3, h4, h⟩ := cI_info ha hc
    rcases h with ⟨h5, h6, h7, h8, h9⟩ | ⟨h5, m, h6, h7, h8, h9, h10, -⟩
    · have hp : ρ 4 r < 100 := by
        refine Classical.byContradiction (fun z => ?_)
        have : pv ρ (ρ 4 r) (spB (LL ρ) s) (spF (LL ρ) s) < 0 := by
          by_cases hcc : spF (LL ρ) s = spB (LL ρ) s + 1 ∧ ρ 11 (spB (LL ρ) s) = ρ 4 r - 100
          · rw [pv_yes (by omega) hcc]; decide
          · rw [pv_no (by omega) hcc]; decide
        omega
      have e := pe (ρ 4 r) hp
      refine ⟨r, h1, h2, h3, h5, by omega, ?_⟩
      rw [← he]; exact hf.1
    · have := hg.1; omega
theorem stuck_nf {ρ : St} (hL : LL ρ < 9) {s : Nat} (hs : s < spN (LL ρ)) {O : Nat → Prop} (hO : ∀ a, a < 12 → O a → ∃ b, b < 12 ∧ O b ∧ Ed ρ s a b) : ∀ k a, a < 12 → O a → ¬ FQ ρ k (12 * s + a)
  | 0, _, _, _ => fun h => h
  | k + 1, a, ha, hoa => fun h => by
    obtain ⟨b, hb, hob, he⟩ := hO a ha hoa
    obtain ⟨c, hc, hf, hg, e⟩ := (Ed_case hL hs ha hb).1 he
    have := (h c hc hf).1 hg.2
    rw [e, Int.toNat_natCast] at this
    exact stuck_nf hL hs hO k b hb hob this
/-! paths: by way of labels below v -/
def PT (E : Nat → Nat → Prop) : Nat → Nat → Nat → Prop
  | 0, a, b => E a b
  | v + 1, a, b => PT E v a b ∨ (PT E v a v ∧ PT E v v b)
theorem PT.up {E : Nat → Nat → Prop} {v a b : Nat} (h : PT E v a b) : PT E (v + 1) a b := Or.inl h
theorem PT.of {E : Nat → Nat → Prop} {a b : Nat} (h : E a b) : ∀ v, PT E v a b
  | 0 => h
  | v + 1 => (PT.of h v).up
theorem PT.tr {E : Nat → Nat → Prop} : ∀ (v : Nat) {a m b : Nat}, m < v → PT E v a m → PT E v m b → PT E v a b
  | 0, _, _, _, h, _, _ => by omega
  | v + 1, a, m, b, h, h1, h2 => by
    by_cases e : m = v
    · subst e
      have g1 : PT E m a m := by rcases h1 with z | z; exact z; exact z.1
      have g2 : PT E m m b := by rcases h2 with z | z; exact z; exact z.2
      exact Or.inr ⟨g1, g2⟩
    · have hm : m < v := by omega
      rcases h1 with z1 | ⟨z1, z2⟩ <;> rcases h2 with y1 | ⟨y1, y2⟩
      · exact Or.inl (PT.tr v hm z1 y1)
      · exact Or.inr ⟨PT.tr v hm z1 y1, y2⟩
      · exact Or.inr ⟨z1, PT.tr v hm z2 y1⟩
      · exact Or.inr ⟨z1, y2⟩
theorem PT.fq {ρ : St} (hL : LL ρ < 9) {s : Nat} (hs : s < spN (LL ρ)) : ∀ (v : Nat) {a b k : Nat}, v ≤ 12 → a < 12 → b < 12 → PT (Ed ρ s) v a b → FQ ρ (k + 1) (12 * s + a) → FQ ρ k (12 * s + b)
  | 0, a, b, k, _, ha, hb, h, hf => by
    obtain ⟨c, hc, hfu, hg, e⟩ := (Ed_case hL hs ha hb).1 h
    have := (hf c hc hfu).1 hg.2
    rw [e, Int.toNat_natCast] at this
    exact this
  | v + 1, a, b, k, hv, ha, hb, h, hf => by
    rcases h with z | ⟨z1, z2⟩
    · exact PT.fq hL hs v (by omega) ha hb z hf
    · have := PT.fq hL hs v (by omega) ha (show v < 12 by omega) z1 hf
      exact PT.fq hL hs v (by omega) (show v < 12 by omega) hb z2 (FQ.up _ this)
theorem ring_nf {ρ : St} (hL : LL ρ < 9) {s a : Nat} (hs : s < spN (LL ρ)) (ha : a < 12) (h : PT (Ed ρ s) 12 a a) : ∀ k, ¬ FQ ρ k (12 * s + a)
  | 0 => fun z => z
  | k + 1 => fun z => ring_nf hL hs ha h k (PT.fq hL hs 12 (by omega) ha ha h z)
theorem cntB_none {f : Nat → Bool} : ∀ {n : Nat}, cntB f n ≤ 0 → ∀ k, k < n → f k = false
  | 0, _, k, hk => by omega
  | n + 1, h, k, hk => by
    unfold cntB at h
    by_cases e : k = n
    · subst e
      cases z : f k with
      | false => rfl
      | true => rw [z, if_pos rfl] at h; omega
    · exact cntB_none (n := n) (by omega) k (by omega)
theorem cntB_11 {f : Nat → Bool} {a : Nat} (ha : a < 12) (h : f a = false) : cntB f 12 ≤ 11 := by
  have := cntB_lt (f := f) (g := fun _ => true) 12 (fun _ _ _ => rfl) ⟨a, ha, rfl, h⟩
  have e : cntB (fun _ => true) 12 = 12 := by decide
  omega
theorem goC_lab {ρ : St} (hg : Wg ρ) (hL : LL ρ < 9) {s a : Nat} (hs : s < spN (LL ρ)) (ha : a < 12) {c : Cs} (hc : c ∈ cI ρ (12 * s + a)) (h : goC c) : ∃ b, b < 12 ∧ c.2.2.1 = ((12 * s + b : Nat) : Int) := by
  have q := sp_s hL hs
  obtain ⟨r, h1, h2, h3, h4, hh⟩ := cI_info ha hc
  have hp := (hg.2.2 r h1).2.1
  unfold isPart at hp
  rcases hh with ⟨h5, h6, h7, h8, h9⟩ | ⟨h5, m, h6, h7, h8, h9, h10, -⟩
  · by_cases hl : 100 ≤ ρ 4 r
    · exfalso
      have hx := h.2
      rw [h8] at hx
      by_cases hcc : spF (LL ρ) s = spB (LL ρ) s + 1 ∧ ρ 11 (spB (LL ρ) s) = ρ 4 r - 100
      · rw [pv_yes hl hcc] at hx; exact absurd hx (by decide)
      · rw [pv_no hl hcc] at hx; exact absurd hx (by decide)
    · refine ⟨(ρ 4 r).toNat, by omega, ?_⟩
      rw [h8, pv_lab (by omega), q.2.2]; omega
  · have := h.1; omega
/-- labels from which nothing goes round are finite -/
theorem unm_fin {ρ : St} (hW : Wg ρ) (hL : LL ρ < 9) {s : Nat} (hs : s < spN (LL ρ)) {U : Nat → Prop} {K : Nat} (hb : ∀ a, a < 12 → U a → ∀ c ∈ cI ρ (12 * s + a), fullC ρ c → ¬ goC c → (0 ≤ c.2.2.1 → FQ ρ K c.2.2.1.toNat) ∧ (0 ≤ c.2.2.2 → FQ ρ K c.2.2.2.toNat)) (hu : ∀ a b, a < 12 → b < 12 → U a → Ed ρ s a b → U b) (hr : ∀ a, a < 12 → U a → ¬ PT (Ed ρ s) 12 a a) : ∀ a, a < 12 → U a → FQ ρ (K + 12) (12 * s + a) := by
  let R : Nat → Nat → Bool := fun a b => @decide (PT (Ed ρ s) 12 a b) (Classical.propDecidable _)
  have rd : ∀ a b, R a b = true ↔ PT (Ed ρ s) 12 a b := fun a b => @decide_eq_true_iff _ (Classical.propDecidable _)
  have key : ∀ n a, a < 12 → U a → cntB (R a) 12 ≤ n → FQ ρ (K + n + 1) (12 * s + a) := by
    intro n
    induction n with
    | zero =>
      intro a ha hua hn c hc hf
      have ng : ¬ goC c := by
        intro hg
        obtain ⟨r, h1, h2, h3, h4, h⟩ := cI_info ha hc
        have lt := (cntB_none hn)
        have hx : 0 ≤ c.2.2.1 := hg.2
        obtain ⟨b, hb12, eb⟩ := goC_lab hW hL hs ha hc hg
        have := lt b hb12
        rw [(rd a b).2 (PT.of ((Ed_case hL hs ha hb12).2 ⟨c, hc, hf, hg, eb⟩) 12)] at this
        cases this
      exact hb a ha hua c hc hf ng
    | succ n ih =>
      intro a ha hua hn c hc hf
      by_cases hg : goC c
      · obtain ⟨b, hb12, eb⟩ := goC_lab hW hL hs ha hc hg
        have he := (Ed_case hL hs ha hb12).2 ⟨c, hc, hf, hg, eb⟩
        have lt : cntB (R b) 12 < cntB (R a) 12 := cntB_lt 12 (fun x hx hxr => (rd a x).2 (PT.tr 12 hb12 (PT.of he 12) ((rd b x).1 hxr))) ⟨b, hb12, (rd a b).2 (PT.of he 12), by
          cases e : R b b with
          | false => rfl
          | true => exact absurd ((rd b b).1 e) (hr b hb12 (hu a b ha hb12 hua he))⟩
        have := ih b hb12 (hu a b ha hb12 hua he) (by omega)
        refine ⟨fun _ => ?_, fun z => ?_⟩
        · rw [eb, Int.toNat_natCast]; exact this
        · obtain ⟨r, h1, h2, h3, h4, h⟩ := cI_info ha hc
          rcases h with ⟨-, -, -, -, h9⟩ | ⟨-, m, -, -, -, -, h10, -⟩
          · omega
          · have := hg.1; omega
      · have := hb a ha hua c hc hf hg
        exact ⟨fun z => (this.1 z).to (by omega), fun z => (this.2 z).to (by omega)⟩
  intro a ha hua
  have h11 : cntB (R a) 12 ≤ 11 := cntB_11 ha (by
    cases e : R a a with
    | false => rfl
    | true => exact absurd ((rd a a).1 e) (hr a ha hua))
  exact key 11 a ha hua h11
