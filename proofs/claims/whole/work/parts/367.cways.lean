/-! how many trees: the class's -/
noncomputable def bS (ρ : St) (w : Nat → Int) (l : List Cs) : Int := sumC (fun c => ix (fullC ρ c ∧ ¬ goC c) * wpr w c) l
noncomputable def uS (ρ : St) (w : Nat → Int) (l : List Cs) : Int := sumC (fun c => ix (fullC ρ c ∧ goC c) * wpr w c) l
theorem wS_split {ρ : St} {w : Nat → Int} {l : List Cs} : wS ρ w l = bS ρ w l + uS ρ w l := by
  unfold wS bS uS
  rw [← sumC_add]
  refine sumC_congr l (fun c _ => ?_)
  by_cases hf : fullC ρ c
  · by_cases hg : goC c
    · rw [ix_y hf, ix_n (fun z => z.2 hg), ix_y ⟨hf, hg⟩]; omega
    · rw [ix_y hf, ix_y ⟨hf, hg⟩, ix_n (fun z => hg z.2)]; omega
  · rw [ix_n hf, ix_n (fun z => hf z.1), ix_n (fun z => hf z.1)]; omega
/-- values of parts: -5 or a number -/
def eW (w : Nat → Int) : Prop := ∀ x, eR (w x)
def badC (w : Nat → Int) (c : Cs) : Prop := wpx w c.2.2.1 = -5 ∨ wpx w c.2.2.2 = -5
theorem wpx_e {w : Nat → Int} (h : eW w) (x : Int) : eR (wpx w x) := by
  unfold wpx
  by_cases h0 : x < 0
  · rw [if_pos h0]; exact Or.inr (by unfold sR B0; omega)
  · rw [if_neg h0]; exact h _
theorem wpr_s {w : Nat → Int} (h : eW w) {c : Cs} (hb : ¬ badC w c) : sR (wpr w c) := by
  have h1 := (wpx_e h c.2.2.1).resolve_left (fun z => hb (Or.inl z))
  have h2 := (wpx_e h c.2.2.2).resolve_left (fun z => hb (Or.inr z))
  exact sat_r (Int.mul_nonneg h1.1 h2.1)
/-- what countCases has found of a list -/
def ccV (ρ : St) (w : Nat → Int) (l : List Cs) (v : Int) : Prop := (v = -5 ∧ ∃ c ∈ l, fullC ρ c ∧ ¬ goC c ∧ badC w c) ∨ ((∀ c ∈ l, fullC ρ c → ¬ goC c → ¬ badC w c) ∧ 0 ≤ bS ρ w l ∧ v = min B0 (bS ρ w l))
theorem ccV.r {ρ : St} {w : Nat → Int} {l : List Cs} {v : Int} (h : ccV ρ w l v) : eR v := by
  rcases h with ⟨a, -⟩ | ⟨-, b, c⟩
  · exact Or.inl a
  · rw [c]; exact Or.inr (sat_r b)
theorem ccV.skip {ρ : St} {w : Nat → Int} {l : List Cs} {v : Int} {c : Cs} (h : ccV ρ w l v) (hc : ¬ (fullC ρ c ∧ ¬ goC c)) : ccV ρ w (l ++ [c]) v := by
  have e : bS ρ w (l ++ [c]) = bS ρ w l := by
    unfold bS
    rw [sumC_app]
    show _ + (ix (fullC ρ c ∧ ¬ goC c) * wpr w c + 0) = _
    rw [ix_n hc]; omega
  rcases h with ⟨a, d, hd, b⟩ | ⟨a, b, d⟩
  · exact Or.inl ⟨a, d, List.mem_append_left _ hd, b⟩
  · refine Or.inr ⟨fun d hd => ?_, by rw [e]; exact b, by rw [e]; exact d⟩
    rcases List.mem_append.1 hd with z | z
    · exact a d z
    · rw [List.mem_singleton] at z
      subst z
      exact fun h1 h2 => absurd ⟨h1, h2⟩ hc
theorem ccV.put {ρ : St} {w : Nat → Int} (hw : eW w) {l : List Cs} {v : Int} {c : Cs} (h : ccV ρ w l v) (hc : fullC ρ c ∧ ¬ goC c) : ccV ρ w (l ++ [c]) (if v = -5 ∨ (if wpx w c.2.2.1 = -5 ∨ wpx w c.2.2.2 = -5 then (-5 : Int) else min B0 (wpx w c.2.2.1 * wpx w c.2.2.2)) = -5 then -5 else min B0 (v + (if wpx w c.2.2.1 = -5 ∨ wpx w c.2.2.2 = -5 then (-5 : Int) else min B0 (wpx w c.2.2.1 * wpx w c.2.2.2)))) := by
  have e : bS ρ w (l ++ [c]) = bS ρ w l + wpr w c := by
    unfold bS
    rw [sumC_app]
    show _ + (ix (fullC ρ c ∧ ¬ goC c) * wpr w c + 0) = _
    rw [ix_y hc]; omega
  by_cases hb : badC w c
  · have hb2 : wpx w c.2.2.1 = -5 ∨ wpx w c.2.2.2 = -5 := hb
    rw [if_pos hb2, if_pos (Or.inr rfl)]
    exact Or.inl ⟨rfl, c, List.mem_append_right _ (List.mem_singleton.2 rfl), hc.1, hc.2, hb⟩
  · have hb2 : ¬ (wpx w c.2.2.1 = -5 ∨ wpx w c.2.2.2 = -5) := hb
    have hs := wpr_s hw hb
    rw [if_neg hb2]
    have ne : ¬ (min B0 (wpx w c.2.2.1 * wpx w c.2.2.2) = -5) := by
      have : sR (min B0 (wpx w c.2.2.1 * wpx w c.2.2.2)) := hs
      unfold sR at this; omega
    rcases h with ⟨a, d, hd, b⟩ | ⟨a, b, d⟩
    · rw [if_pos (Or.inl a)]
      exact Or.inl ⟨rfl, d, List.mem_append_left _ hd, b⟩
    · have nv : ¬ (v = -5) := by rw [d]; have := sat_r b; unfold sR at this; omega
      rw [if_neg (fun z => by rcases z with z | z; exact nv z; exact ne z)]
      refine Or.inr ⟨fun x hx => ?_, by rw [e]; have := hs.1; omega, ?_⟩
      · rcases List.mem_append.1 hx with z | z
        · exact a x z
        · rw [List.mem_singleton] at z
          subst z
          exact fun _ _ => hb
      · rw [e, d]
        exact sat_add b hs.1
theorem c_countCases {ρ σ : St} (hg : Wg ρ) (hL : LL ρ < 9) (hB : Bt ρ σ) (hw : Lw ρ σ) {s a : Nat} (hs : s < spN (LL ρ)) (ha : a < 12) {w : Nat → Int} (hew : eW w) (h42 : ∀ c ∈ cI ρ (12 * s + a), fullC ρ c → ¬ goC c → (0 ≤ c.2.2.1 → σ 42 c.2.2.1.toNat = w c.2.2.1.toNat) ∧ (0 ≤ c.2.2.2 → σ 42 c.2.2.2.toNat = w c.2.2.2.toNat)) {Q : Int → St → Prop} (h : ∀ v, ccV ρ w (cI ρ (12 * s + a)) v → Q v σ) : wp_X2_countCases ((12 * s + a : Nat) : Int) σ Q := by
  have h3360 := PL_3360 hg hL
  have h3 := sp_3 _ hL
  generalize hq0 : 12 * s + a = q at *
  have hq : q < 12 * spN (LL ρ) := by omega
  have hlen : (cI ρ q).length < bigN := by
    by_cases hz : (cI ρ q).length = 0
    · rw [hz]; unfold bigN; omega
    · have := (hB.seg (t := (cI ρ q).length - 1) hq (by omega)).1
      unfold bigN; omega
  have lp : ∀ (d t : Nat) (v : Int) (n : Nat), t + d = (cI ρ q).length → d < n → ccV ρ w ((cI ρ q).take t) v → wp_X2_countCases_l12 Q n (q : Int) v (((PL ρ q).length + t : Nat) : Int) σ := by
    intro d
    induction d with
    | zero =>
      intro t v n hd hn hv
      obtain ⟨n, rfl⟩ := suc_n hn
      unfold wp_X2_countCases_l12
      refine c_caseEnd hL hB hq ⟨fun _ => h v ?_, fun w => absurd (by omega) w⟩
      rw [show t = (cI ρ q).length by omega, List.take_length] at hv; exact hv
    | succ d ih =>
      intro t v n hd hn hv
      obtain ⟨n, rfl⟩ := suc_n hn
      have ht : t < (cI ρ q).length := by omega
      obtain ⟨s0, s1, s2, s3, s4⟩ := hB.seg hq ht
      have ok := cI_ok hg hL hq (List.getElem_mem ht)
      have e1 := List.take_succ_eq_append_getElem ht
      have mem := List.getElem_mem ht
      have nx : ∀ v', ccV ρ w ((cI ρ q).take t ++ [(cI ρ q)[t]]) v' → wp_X2_countCases_b129 Q (wp_X2_countCases_l12 Q n) (q : Int) v' (((PL ρ q).length + t : Nat) : Int) σ := by
        intro v' hv'
        unfold wp_X2_countCases_b129
        intro y ey
        rw [ey, w32_of (by omega) (by omega), show (((PL ρ q).length + t : Nat) : Int) + 1 = (((PL ρ q).length + (t + 1) : Nat) : Int) by omega]
        exact ih (t + 1) v' n (by omega) (by omega) (by rw [e1]; exact hv')
      generalize hc : (cI ρ q)[t] = c at *
      unfold wp_X2_countCases_l12
      refine c_caseEnd hL hB hq ⟨fun w => absurd w (by omega), fun _ => c_goesOn (by omega) ?_⟩
      rw [s2, s3]
      by_cases hgo : goC c
      · rw [if_pos (show c.2.1 = -1 ∧ 0 ≤ c.2.2.1 from hgo)]
        exact ⟨fun _ => nx v (hv.skip (fun z => z.2 hgo)), fun z => absurd (by decide) z⟩
      · rw [if_neg (show ¬ (c.2.1 = -1 ∧ 0 ≤ c.2.2.1) from hgo)]
        refine ⟨fun z => absurd rfl z, fun _ => c_isFull hg hL hw (c := c) (by omega) s3 s4 ok.2 (fun hf => ⟨fun _ => nx v (hv.skip (fun z => hf z.1)), fun z => absurd rfl z⟩) (fun hf => ⟨fun z => absurd z (by decide), fun _ => ?_⟩)⟩
        have h2 := h42 c mem hf hgo
        have last : ∀ x5 s0, x5 = wpx w c.2.2.1 → s0 = wpx w c.2.2.2 → wp_X2_countCases_b115 Q (wp_X2_countCases_l12 Q n) (q : Int) v (((PL ρ q).length + t : Nat) : Int) x5 s0 σ := by
          intro x5 y0 e5 e0
          unfold wp_X2_countCases_b115
          rw [e5, e0]
          have er : eR (if wpx w c.2.2.1 = -5 ∨ wpx w c.2.2.2 = -5 then (-5 : Int) else min B0 (wpx w c.2.2.1 * wpx w c.2.2.2)) := by
            by_cases hb : badC w c
            · rw [if_pos (show wpx w c.2.2.1 = -5 ∨ wpx w c.2.2.2 = -5 from hb)]; exact Or.inl rfl
            · rw [if_neg (show ¬ (wpx w c.2.2.1 = -5 ∨ wpx w c.2.2.2 = -5) from hb)]; exact Or.inr (wpr_s hew hb)
          exact c_endlessProduct (wpx_e hew _) (wpx_e hew _) (c_endlessSum hv.r er (nx _ (hv.put hew ⟨hf, hgo⟩)))
        have snd : ∀ x5, x5 = wpx w c.2.2.1 → wp_X2_countCases_b81 Q (wp_X2_countCases_l12 Q n) (q : Int) v (((PL ρ q).length + t : Nat) : Int) x5 σ := by
          intro x5 e5
          unfold wp_X2_countCases_b81
          rw [Int.toNat_natCast, s4]
          refine ⟨by omega, fun z => ⟨by omega, by have := ok.2.2; omega, last x5 _ e5 ?_⟩, fun z => last x5 1 e5 ?_⟩
          · rw [h2.2 z]; unfold wpx; rw [if_neg (by omega)]
          · unfold wpx; rw [if_pos (by omega)]
        rw [Int.toNat_natCast, s3]
        refine ⟨by omega, fun z => ⟨by omega, by have := ok.2.1; omega, snd _ ?_⟩, fun z => snd 1 ?_⟩
        · rw [h2.1 z]; unfold wpx; rw [if_neg (by omega)]
        · unfold wpx; rw [if_pos (by omega)]
  unfold wp_X2_countCases
  exact c_caseStart hL hB hq (lp _ 0 0 bigN (Nat.zero_add _) hlen (Or.inr ⟨fun c hc => (by cases hc), Int.le_refl _, (by show (0 : Int) = min B0 0; unfold B0; decide)⟩))
/-! unary rules of a label -/
noncomputable def uT (ρ : St) (w : Nat → Int) (s a : Nat) (r : Nat) : Int := if ρ 3 r = (a : Int) then ix (hPt ρ ((12 * s + (ρ 4 r).toNat : Nat) : Int)) * w (12 * s + (ρ 4 r).toNat) else 0
noncomputable def sumU (g : Nat → Int) : List Nat → Int
  | [] => 0
  | r :: l => g r + sumU g l
theorem sumU_app {g : Nat → Int} {k : List Nat} : ∀ l, sumU g (l ++ k) = sumU g l + sumU g k
  | [] => by show sumU g k = 0 + sumU g k; omega
  | r :: l => by show g r + sumU g (l ++ k) = g r + sumU g l + sumU g k; rw [sumU_app l]; omega
theorem sumU_take {g : Nat → Int} {l : List Nat} {t : Nat} (ht : t < l.length) : sumU g (l.take (t + 1)) = sumU g (l.take t) + g l[t] := by
  rw [List.take_succ_eq_append_getElem ht, sumU_app]
  show _ + (g l[t] + 0) = _
  omega
theorem uS_cC {ρ : St} (hg : Wg ρ) (hL : LL ρ < 9) {w : Nat → Int} (hw : ∀ b, b < 12 → ∀ s, hPt ρ ((12 * s + b : Nat) : Int) → w (12 * s + b) ≤ B0) {s a n : Nat} (hs : s < spN (LL ρ)) (hn : (n : Int) < ρ 0 4) (hin : inA ρ a n = true) : uS ρ w (cC ρ (spB (LL ρ) s) (spF (LL ρ) s) n) = if unR ρ n then uT ρ w s a n else 0 := by
  have q := sp_s hL hs
  have hp := (hg.2.2 n hn).2.1
  unfold isPart at hp
  unfold uS
  by_cases hu : unR ρ n = true
  · rw [if_pos hu]
    unfold unR at hu
    simp only [Bool.and_eq_true, decide_eq_true_iff] at hu
    unfold cC
    rw [if_pos hu.1]
    have e : pv ρ (ρ 4 n) (spB (LL ρ) s) (spF (LL ρ) s) = ((12 * s + (ρ 4 n).toNat : Nat) : Int) := by
      rw [pv_lab (by omega), q.2.2]; omega
    unfold cOne
    rw [if_neg (fun z => by rcases z with z | z; omega; exact absurd z (by decide))]
    show ix _ * wpr w _ + 0 = _
    rw [Int.add_zero, e]
    unfold uT
    rw [if_pos (inA_iff.1 hin).1]
    by_cases hT : hPt ρ ((12 * s + (ρ 4 n).toNat : Nat) : Int)
    · rw [ix_y hT, ix_y ⟨⟨hT, Or.inl (by show (-1 : Int) < 0; decide)⟩, rfl, by show (0 : Int) ≤ ((12 * s + (ρ 4 n).toNat : Nat) : Int); omega⟩]
      congr 1
      unfold wpr wpx
      show min B0 ((if ((12 * s + (ρ 4 n).toNat : Nat) : Int) < 0 then 1 else w (((12 * s + (ρ 4 n).toNat : Nat) : Int)).toNat) * (if (-1 : Int) < 0 then 1 else w (-1 : Int).toNat)) = _
      rw [if_neg (by omega), if_pos (by decide), Int.mul_one, Int.toNat_natCast]
      have := hw (ρ 4 n).toNat (by omega) s hT
      omega
    · rw [ix_n hT, ix_n (fun z => hT z.1.1)]; omega
  · rw [if_neg hu]
    unfold unR at hu
    simp only [Bool.and_eq_true, decide_eq_true_iff] at hu
    unfold cC
    have z0 : ∀ l : List Cs, (∀ c ∈ l, ¬ goC c) → sumC (fun c => ix (fullC ρ c ∧ goC c) * wpr w c) l = 0 := by
      intro l hl
      rw [sumC_congr (h := fun _ => 0) l (fun c hc => by rw [ix_n (fun z => hl c hc z.2)]; omega)]
      clear hl
      induction l with
      | nil => rfl
      | cons c l ih => show (0 : Int) + sumC (fun _ => 0) l = 0; rw [ih]; rfl
    by_cases h5 : ρ 5 n = -1
    · rw [if_pos h5]
      refine z0 _ (fun c hc hgo => ?_)
      obtain ⟨-, -, rfl⟩ := mem_cOne.1 hc
      have hx : 0 ≤ pv ρ (ρ 4 n) (spB (LL ρ) s) (spF (LL ρ) s) := hgo.2
      have hl : 100 ≤ ρ 4 n := by
        have : ¬ ρ 4 n < 12 := fun z => hu ⟨h5, z⟩
        omega
      by_cases hcc : spF (LL ρ) s = spB (LL ρ) s + 1 ∧ ρ 11 (spB (LL ρ) s) = ρ 4 n - 100
      · rw [pv_yes hl hcc] at hx; exact absurd hx (by decide)
      · rw [pv_no hl hcc] at hx; exact absurd hx (by decide)
    · rw [if_neg h5]
      refine z0 _ (fun c hc hgo => ?_)
      obtain ⟨m, h1, h2, -, -, rfl⟩ := (mem_cB _).1 hc
      have : ((m : Nat) : Int) = -1 := hgo.1
      omega
theorem uS_A {ρ : St} (hg : Wg ρ) (hL : LL ρ < 9) {w : Nat → Int} (hw : ∀ b, b < 12 → ∀ s, hPt ρ ((12 * s + b : Nat) : Int) → w (12 * s + b) ≤ B0) {s a : Nat} (hs : s < spN (LL ρ)) : ∀ n : Nat, (n : Int) ≤ ρ 0 4 → uS ρ w (cS ρ s (liA ρ a n)) = sumU (uT ρ w s a) (uyA ρ a n)
  | 0, _ => rfl
  | n + 1, hn => by
    have ih := uS_A hg hL hw hs (a := a) n (by push_cast at hn; omega)
    rw [cS_step]
    show uS ρ w (_ ++ _) = sumU _ (uyA ρ a n ++ (if inA ρ a n && unR ρ n then [n] else []))
    have app : ∀ l k : List Cs, uS ρ w (l ++ k) = uS ρ w l + uS ρ w k := fun l k => sumC_app l
    rw [app, sumU_app, ih]
    congr 1
    by_cases hin : inA ρ a n = true
    · rw [if_pos hin, uS_cC hg hL hw hs (by push_cast at hn; omega) hin]
      by_cases hu : unR ρ n = true
      · rw [if_pos hu, if_pos (by rw [Bool.and_eq_true]; exact ⟨hin, hu⟩)]
        show _ = uT ρ w s a n + 0
        omega
      · rw [if_neg hu, if_neg (by rw [Bool.and_eq_true]; exact fun z => hu z.2)]; rfl
    · rw [if_neg hin, if_neg (by rw [Bool.and_eq_true]; exact fun z => hin z.1)]; rfl
theorem sumU_0 {g : Nat → Int} : ∀ l, (∀ r ∈ l, g r = 0) → sumU g l = 0
  | [], _ => rfl
  | r :: l, h => by
    show g r + sumU g l = 0
    rw [h r List.mem_cons_self, sumU_0 l (fun d hd => h d (List.mem_cons_of_mem _ hd))]; rfl
theorem sumU_L {ρ : St} {w : Nat → Int} {s a : Nat} : ∀ b, sumU (uT ρ w s a) (uyL ρ b) = if a < b then sumU (uT ρ w s a) (uyA ρ a (ρ 0 4).toNat) else 0
  | 0 => rfl
  | b + 1 => by
    show sumU _ (uyL ρ b ++ uyA ρ b (ρ 0 4).toNat) = _
    rw [sumU_app, sumU_L b]
    by_cases e : a = b
    · subst e
      rw [if_neg (by omega), if_pos (by omega)]; omega
    · have z : sumU (uT ρ w s a) (uyA ρ b (ρ 0 4).toNat) = 0 := by
        refine sumU_0 _ (fun r hr => ?_)
        have := (mem_uyA _).1 hr
        rw [Bool.and_eq_true] at this
        have h3 := (inA_iff.1 this.2.1).1
        unfold uT
        rw [if_neg (by omega)]
      rw [z, Int.add_zero]
      by_cases h : a < b
      · rw [if_pos h, if_pos (by omega)]
      · rw [if_neg h, if_neg (by omega)]
theorem uS_L {ρ : St} (hg : Wg ρ) (hL : LL ρ < 9) {w : Nat → Int} (hw : ∀ b, b < 12 → ∀ s, hPt ρ ((12 * s + b : Nat) : Int) → w (12 * s + b) ≤ B0) {s a : Nat} (hs : s < spN (LL ρ)) (ha : a < 12) : uS ρ w (cI ρ (12 * s + a)) = sumU (uT ρ w s a) (uyL ρ 12) := by
  rw [sumU_L, if_pos ha]
  unfold cI
  rw [show (12 * s + a) / 12 = s by omega, show (12 * s + a) % 12 = a by omega]
  exact uS_A hg hL hw hs _ (by have := hg.1; omega)
