/-! reading, both sides side by side: good (no fault yet, the same token) or bad (the same fault) -/
def GJ (ρ σ τ : St) (f e : Nat) (kd : Int) : Prop := TkS ρ f e kd ∧ CKx ρ σ f e kd ∧ RK ρ τ f e kd ∧ (kd = 2 → NRl (σ 3 8) (τ 0 23)) ∧ σ 3 2 = 0 ∧ τ 0 24 = 0 ∧ σ 3 3 = -1 ∧ τ 0 25 = -1
def BCg (ρ σ : St) : Prop := σ 3 2 ≠ 0 ∧ ∃ f e kd, TkS ρ f e kd ∧ CKx ρ σ f e kd
def BJ (ρ σ τ : St) : Prop := BCg ρ σ ∧ τ 0 24 = σ 3 2 ∧ τ 0 25 = σ 3 3
def JSg (ρ σ τ : St) : Prop := (∃ f e kd, GJ ρ σ τ f e kd) ∨ BJ ρ σ τ
/-- what reading a token leaves alone -/
def FXg (σ σ1 : St) : Prop := (∀ k, k ≠ 3 → σ1 k = σ k) ∧ σ 3 7 ≤ σ1 3 7 ∧ (σ 3 2 ≠ 0 → σ1 3 2 ≠ 0)
def FYg (τ τ1 : St) : Prop := (∀ k, k ≠ 0 → τ1 k = τ k) ∧ ∀ j, (j < 20 ∨ 25 < j) → τ1 0 j = τ 0 j
/-- the class goes on, bad as it was -/
def SBg (ρ σ σ1 : St) : Prop := BCg ρ σ1 ∧ σ1 3 2 = σ 3 2 ∧ σ1 3 3 = σ 3 3 ∧ FXg σ σ1
theorem FXg.rf {σ : St} : FXg σ σ := ⟨fun _ _ => rfl, Int.le_refl _, fun h => h⟩
theorem FXg.tr {σ σ1 σ2 : St} (h : FXg σ σ1) (h2 : FXg σ1 σ2) : FXg σ σ2 := ⟨fun k hk => (h2.1 k hk).trans (h.1 k hk), Int.le_trans h.2.1 h2.2.1, fun q => h2.2.2 (h.2.2 q)⟩
theorem FYg.rf {τ : St} : FYg τ τ := ⟨fun _ _ => rfl, fun _ _ => rfl⟩
theorem FYg.tr {τ τ1 τ2 : St} (h : FYg τ τ1) (h2 : FYg τ1 τ2) : FYg τ τ2 := ⟨fun k hk => (h2.1 k hk).trans (h.1 k hk), fun j hj => (h2.2 j hj).trans (h.2 j hj)⟩
theorem SBg.rf {ρ σ : St} (h : BCg ρ σ) : SBg ρ σ σ := ⟨h, rfl, rfl, FXg.rf⟩
theorem SBg.tr {ρ σ σ1 σ2 : St} (h : SBg ρ σ σ1) (h2 : SBg ρ σ1 σ2) : SBg ρ σ σ2 := ⟨h2.1, h2.2.1.trans h.2.1, h2.2.2.1.trans h.2.2.1, h.2.2.2.tr h2.2.2.2⟩
theorem BJ.go {ρ σ τ σ1 : St} (h : BJ ρ σ τ) (h2 : SBg ρ σ σ1) : BJ ρ σ1 τ := ⟨h2.1, by rw [h2.2.1]; exact h.2.1, by rw [h2.2.2.1]; exact h.2.2⟩
theorem BJ.ne {ρ σ τ : St} (h : BJ ρ σ τ) : τ 0 24 ≠ 0 := by rw [h.2.1]; exact h.1.1
theorem cb_adv {ρ σ : St} (hT : Wt ρ) (h : BCg ρ σ) : ∃ σ1 : St, (∀ Q : Int → St → Prop, Q 0 σ1 → wp_X6_advance σ Q) ∧ SBg ρ σ σ1 := by
  obtain ⟨h0, f, e, kd, ht, k4, k5, k6, k7, kt⟩ := h
  obtain ⟨f1, e1, kd1, hA⟩ := advT_ex (ρ := ρ) (b := e) ht.2.1
  obtain ⟨σ1, a1, a2, a3, a4⟩ := g_adv hT hA k4 k7 kt
  refine ⟨σ1, a1, ⟨?_, f1, e1, kd1, hA.tk.1, a2⟩, a4 3 2 (by decide), a4 3 3 (by decide), fun k hk => funext fun j => a4 k j (fun q => hk q.1), ?_, fun q => by rw [a4 3 2 (by decide)]; exact q⟩
  · rw [a4 3 2 (by decide)]; exact h0
  · rw [k7, a2.2.2.2.1]
    have := hA.tk.2
    have := hA.tk.1.1
    omega
theorem cb_fail {ρ σ : St} (h : BCg ρ σ) {x : Int} : ∀ Q : Int → St → Prop, Q 0 σ → wp_X6_fail x σ Q := by
  intro Q hq
  unfold wp_X6_fail
  exact ⟨fun _ => hq, fun q => absurd h.1 q⟩
theorem rb_errs {τ : St} (h : τ 0 24 ≠ 0) {x : Int} : ∀ Q : Int → St → Prop, Q 0 τ → wp_X12_errs x τ Q := by
  intro Q hq
  unfold wp_X12_errs
  exact h_goodB h ⟨fun q => absurd rfl q, fun _ => hq⟩
theorem j_adv {ρ σ τ : St} (hT : Wt ρ) {f e : Nat} {kd : Int} (h : GJ ρ σ τ f e kd) : ∃ σ1 τ1 : St, (∀ Q : Int → St → Prop, Q 0 σ1 → wp_X6_advance σ Q) ∧ (∀ Q : Int → St → Prop, Q 0 τ1 → wp_X12_advance τ Q) ∧ (∃ f1 e1 kd1, GJ ρ σ1 τ1 f1 e1 kd1 ∧ e ≤ f1) ∧ FXg σ σ1 ∧ FYg τ τ1 := by
  obtain ⟨ht, ⟨k4, k5, k6, k7, kt⟩, hk, hn, g1, g2, g3, g4⟩ := h
  obtain ⟨f1, e1, kd1, hA⟩ := advT_ex (ρ := ρ) (b := e) ht.2.1
  obtain ⟨σ1, a1, a2, a3, a4⟩ := g_adv hT hA k4 k7 kt
  obtain ⟨τ1, b1, b2, b3, b4⟩ := h_adv hT hA hk.1 hk.2.2.1 hk.2.2.2.1
  refine ⟨σ1, τ1, a1, b1, ⟨f1, e1, kd1, ⟨hA.tk.1, a2, b2, fun q => ?_, ?_, ?_, ?_, ?_⟩, hA.tk.2⟩, ⟨fun k hk => funext fun j => a4 k j (fun q => hk q.1), ?_, fun q => by rw [a4 3 2 (by decide)]; exact q⟩, fun k hk => funext fun j => b4 k j (fun q => hk q.1), fun j hj => b4 0 j (by omega)⟩
  · rw [a3 q, b3 q]
    refine nvG_NRl _ _ _ _ (fun k h1 h2 => ?_) (Or.inl ⟨rfl, by decide, by decide⟩)
    rcases hA.2 with ⟨w, -⟩ | ⟨w, -⟩ | ⟨-, -, -, -, w⟩ | ⟨w, -⟩
    · omega
    · omega
    · exact w.2.2.1 k h1 (by have := w.1; omega)
    · omega
  · rw [a4 3 2 (by decide)]; exact g1
  · rw [b4 0 24 (by decide)]; exact g2
  · rw [a4 3 3 (by decide)]; exact g3
  · rw [b4 0 25 (by decide)]; exact g4
  · rw [k7, a2.2.2.2.1]
    have := hA.tk.2
    have := hA.tk.1.1
    omega
theorem j_fail {ρ σ τ : St} {f e : Nat} {kd : Int} (h : GJ ρ σ τ f e kd) {x : Int} (hx : x ≠ 0) : ∃ σ1 τ1 : St, (∀ Q : Int → St → Prop, Q 0 σ1 → wp_X6_fail x σ Q) ∧ (∀ Q : Int → St → Prop, Q 0 τ1 → wp_X12_errs x τ Q) ∧ BJ ρ σ1 τ1 ∧ FXg σ σ1 ∧ FYg τ τ1 := by
  obtain ⟨ht, ⟨k4, k5, k6, k7, kt⟩, hk, hn, g1, g2, g3, g4⟩ := h
  refine ⟨upS (upS σ 3 2 x) 3 3 (upS σ 3 2 x 3 6), upS (upS τ 0 24 x) 0 25 (upS τ 0 24 x 0 21), fun Q hq => ?_, fun Q hq => ?_, ⟨⟨?_, f, e, kd, ht, ?_, ?_, ?_, ?_, kt⟩, ?_, ?_⟩, ⟨fun k hk => ?_, ?_, fun _ => by rw [upS_j (by decide), upS_s]; exact hx⟩, fun k hk => ?_, fun j hj => ?_⟩
  · unfold wp_X6_fail
    exact ⟨fun q => absurd g1 q, fun _ σ1 e1 σ2 e2 => by rw [e2, e1]; exact hq⟩
  · unfold wp_X12_errs
    exact h_goodG g2 ⟨fun _ σ3 e3 σ4 e4 => by rw [e4, e3]; exact hq, fun q => absurd (by decide) q⟩
  · rw [upS_j (by decide), upS_s]; exact hx
  · rw [upS_j (by decide), upS_j (by decide)]; exact k4
  · rw [upS_j (by decide), upS_j (by decide)]; exact k5
  · rw [upS_j (by decide), upS_j (by decide)]; exact k6
  · rw [upS_j (by decide), upS_j (by decide)]; exact k7
  · rw [upS_j (by decide), upS_s, upS_j (by decide), upS_s]
  · rw [upS_s, upS_s, upS_j (by decide), upS_j (by decide), hk.2.1, k6]
  · rw [upS_k hk, upS_k hk]
  · rw [upS_j (by decide), upS_j (by decide)]; exact Int.le_refl _
  · rw [upS_k hk, upS_k hk]
  · rw [upS_j (by omega), upS_j (by omega)]
theorem j_word_s4 {ρ σ τ : St} (hT : Wt ρ) (h : JSg ρ σ τ) : ∃ σ1 τ1 : St, (∀ Q : Int → St → Prop, Q 0 σ1 → wp_X6_passWord_s4 σ Q) ∧ (∀ Q : Int → St → Prop, Q 0 τ1 → wp_X12_takesWord_s9 τ Q) ∧ JSg ρ σ1 τ1 ∧ FXg σ σ1 ∧ FYg τ τ1 := by
  rcases h with ⟨f, e, kd, h⟩ | h
  · obtain ⟨r, a1, a2, a3, -⟩ := j_is_s4 hT h.1 h.2.1 h.2.2.1 h.2.2.2.2.2.1
    by_cases hr : r = 0
    · obtain ⟨σ1, τ1, b1, b2, b3, b4, b5⟩ := j_fail h (x := 1) (by decide)
      obtain ⟨σ2, d1, d2⟩ := cb_adv hT b3.1
      refine ⟨σ2, τ1, fun Q hq => ?_, fun Q hq => ?_, Or.inr (b3.go d2), b4.tr d2.2.2.2, b5⟩
      · unfold wp_X6_passWord_s4
        exact a1 _ ⟨fun q => absurd hr q, fun _ => b1 _ (d1 _ hq)⟩
      · unfold wp_X12_takesWord_s9 wp_X12_takesWord_s9_b13
        exact a2 _ ⟨fun q => absurd hr q, fun _ => b2 _ (h_goodB b3.ne ⟨fun _ => hq, fun q => absurd rfl q⟩)⟩
    · obtain ⟨σ1, τ1, b1, b2, ⟨f1, e1, kd1, b3, -⟩, b4, b5⟩ := j_adv hT h
      refine ⟨σ1, τ1, fun Q hq => ?_, fun Q hq => ?_, Or.inl ⟨f1, e1, kd1, b3⟩, b4, b5⟩
      · unfold wp_X6_passWord_s4
        exact a1 _ ⟨fun _ => b1 _ hq, fun q => absurd hr q⟩
      · unfold wp_X12_takesWord_s9 wp_X12_takesWord_s9_b13
        exact a2 _ ⟨fun _ => h_goodG h.2.2.2.2.2.1 ⟨fun q => absurd q (by decide), fun _ => b2 _ hq⟩, fun q => absurd hr q⟩
  · obtain ⟨h0, f, e, kd, ht, hk⟩ := h.1
    obtain ⟨r, a1, a2, a3⟩ := g_is_s4 hT ht hk
    obtain ⟨σ2, d1, d2⟩ := cb_adv hT h.1
    refine ⟨σ2, τ, fun Q hq => ?_, fun Q hq => ?_, Or.inr (h.go d2), d2.2.2.2, FYg.rf⟩
    · unfold wp_X6_passWord_s4
      exact a1 _ ⟨fun _ => d1 _ hq, fun _ => cb_fail h.1 _ (d1 _ hq)⟩
    · unfold wp_X12_takesWord_s9 wp_X12_takesWord_s9_b13
      exact h_isB_s9 h.ne _ ⟨fun q => absurd rfl q, fun _ => rb_errs h.ne _ (h_goodB h.ne ⟨fun _ => hq, fun q => absurd rfl q⟩)⟩
theorem j_word_s5 {ρ σ τ : St} (hT : Wt ρ) (h : JSg ρ σ τ) : ∃ σ1 τ1 : St, (∀ Q : Int → St → Prop, Q 0 σ1 → wp_X6_passWord_s5 σ Q) ∧ (∀ Q : Int → St → Prop, Q 0 τ1 → wp_X12_takesWord_s10 τ Q) ∧ JSg ρ σ1 τ1 ∧ FXg σ σ1 ∧ FYg τ τ1 := by
  rcases h with ⟨f, e, kd, h⟩ | h
  · obtain ⟨r, a1, a2, a3, -⟩ := j_is_s5 hT h.1 h.2.1 h.2.2.1 h.2.2.2.2.2.1
    by_cases hr : r = 0
    · obtain ⟨σ1, τ1, b1, b2, b3, b4, b5⟩ := j_fail h (x := 1) (by decide)
      obtain ⟨σ2, d1, d2⟩ := cb_adv hT b3.1
      refine ⟨σ2, τ1, fun Q hq => ?_, fun Q hq => ?_, Or.inr (b3.go d2), b4.tr d2.2.2.2, b5⟩
      · unfold wp_X6_passWord_s5
        exact a1 _ ⟨fun q => absurd hr q, fun _ => b1 _ (d1 _ hq)⟩
      · unfold wp_X12_takesWord_s10 wp_X12_takesWord_s10_b13
        exact a2 _ ⟨fun q => absurd hr q, fun _ => b2 _ (h_goodB b3.ne ⟨fun _ => hq, fun q => absurd rfl q⟩)⟩
    · obtain ⟨σ1, τ1, b1, b2, ⟨f1, e1, kd1, b3, -⟩, b4, b5⟩ := j_adv hT h
      refine ⟨σ1, τ1, fun Q hq => ?_, fun Q hq => ?_, Or.inl ⟨f1, e1, kd1, b3⟩, b4, b5⟩
      · unfold wp_X6_passWord_s5
        exact a1 _ ⟨fun _ => b1 _ hq, fun q => absurd hr q⟩
      · unfold wp_X12_takesWord_s10 wp_X12_takesWord_s10_b13
        exact a2 _ ⟨fun _ => h_goodG h.2.2.2.2.2.1 ⟨fun q => absurd q (by decide), fun _ => b2 _ hq⟩, fun q => absurd hr q⟩
  · obtain ⟨h0, f, e, kd, ht, hk⟩ := h.1
    obtain ⟨r, a1, a2, a3⟩ := g_is_s5 hT ht hk
    obtain ⟨σ2, d1, d2⟩ := cb_adv hT h.1
    refine ⟨σ2, τ, fun Q hq => ?_, fun Q hq => ?_, Or.inr (h.go d2), d2.2.2.2, FYg.rf⟩
    · unfold wp_X6_passWord_s5
      exact a1 _ ⟨fun _ => d1 _ hq, fun _ => cb_fail h.1 _ (d1 _ hq)⟩
    · unfold wp_X12_takesWord_s10 wp_X12_takesWord_s10_b13
      exact h_isB_s10 h.ne _ ⟨fun q => absurd rfl q, fun _ => rb_errs h.ne _ (h_goodB h.ne ⟨fun _ => hq, fun q => absurd rfl q⟩)⟩
theorem j_word_s6 {ρ σ τ : St} (hT : Wt ρ) (h : JSg ρ σ τ) : ∃ σ1 τ1 : St, (∀ Q : Int → St → Prop, Q 0 σ1 → wp_X6_passWord_s6 σ Q) ∧ (∀ Q : Int → St → Prop, Q 0 τ1 → wp_X12_takesWord_s11 τ Q) ∧ JSg ρ σ1 τ1 ∧ FXg σ σ1 ∧ FYg τ τ1 := by
  rcases h with ⟨f, e, kd, h⟩ | h
  · obtain ⟨r, a1, a2, a3, -⟩ := j_is_s6 hT h.1 h.2.1 h.2.2.1 h.2.2.2.2.2.1
    by_cases hr : r = 0
    · obtain ⟨σ1, τ1, b1, b2, b3, b4, b5⟩ := j_fail h (x := 1) (by decide)
      obtain ⟨σ2, d1, d2⟩ := cb_adv hT b3.1
      refine ⟨σ2, τ1, fun Q hq => ?_, fun Q hq => ?_, Or.inr (b3.go d2), b4.tr d2.2.2.2, b5⟩
      · unfold wp_X6_passWord_s6
        exact a1 _ ⟨fun q => absurd hr q, fun _ => b1 _ (d1 _ hq)⟩
      · unfold wp_X12_takesWord_s11 wp_X12_takesWord_s11_b13
        exact a2 _ ⟨fun q => absurd hr q, fun _ => b2 _ (h_goodB b3.ne ⟨fun _ => hq, fun q => absurd rfl q⟩)⟩
    · obtain ⟨σ1, τ1, b1, b2, ⟨f1, e1, kd1, b3, -⟩, b4, b5⟩ := j_adv hT h
      refine ⟨σ1, τ1, fun Q hq => ?_, fun Q hq => ?_, Or.inl ⟨f1, e1, kd1, b3⟩, b4, b5⟩
      · unfold wp_X6_passWord_s6
        exact a1 _ ⟨fun _ => b1 _ hq, fun q => absurd hr q⟩
      · unfold wp_X12_takesWord_s11 wp_X12_takesWord_s11_b13
        exact a2 _ ⟨fun _ => h_goodG h.2.2.2.2.2.1 ⟨fun q => absurd q (by decide), fun _ => b2 _ hq⟩, fun q => absurd hr q⟩
  · obtain ⟨h0, f, e, kd, ht, hk⟩ := h.1
    obtain ⟨r, a1, a2, a3⟩ := g_is_s6 hT ht hk
    obtain ⟨σ2, d1, d2⟩ := cb_adv hT h.1
    refine ⟨σ2, τ, fun Q hq => ?_, fun Q hq => ?_, Or.inr (h.go d2), d2.2.2.2, FYg.rf⟩
    · unfold wp_X6_passWord_s6
      exact a1 _ ⟨fun _ => d1 _ hq, fun _ => cb_fail h.1 _ (d1 _ hq)⟩
    · unfold wp_X12_takesWord_s11 wp_X12_takesWord_s11_b13
      exact h_isB_s11 h.ne _ ⟨fun q => absurd rfl q, fun _ => rb_errs h.ne _ (h_goodB h.ne ⟨fun _ => hq, fun q => absurd rfl q⟩)⟩
theorem j_word_s7 {ρ σ τ : St} (hT : Wt ρ) (h : JSg ρ σ τ) : ∃ σ1 τ1 : St, (∀ Q : Int → St → Prop, Q 0 σ1 → wp_X6_passWord_s7 σ Q) ∧ (∀ Q : Int → St → Prop, Q 0 τ1 → wp_X12_takesWord_s12 τ Q) ∧ JSg ρ σ1 τ1 ∧ FXg σ σ1 ∧ FYg τ τ1 := by
  rcases h with ⟨f, e, kd, h⟩ | h
  · obtain ⟨r, a1, a2, a3, -⟩ := j_is_s7 hT h.1 h.2.1 h.2.2.1 h.2.2.2.2.2.1
    by_cases hr : r = 0
    · obtain ⟨σ1, τ1, b1, b2, b3, b4, b5⟩ := j_fail h (x := 1) (by decide)
      obtain ⟨σ2, d1, d2⟩ := cb_adv hT b3.1
      refine ⟨σ2, τ1, fun Q hq => ?_, fun Q hq => ?_, Or.inr (b3.go d2), b4.tr d2.2.2.2, b5⟩
      · unfold wp_X6_passWord_s7
        exact a1 _ ⟨fun q => absurd hr q, fun _ => b1 _ (d1 _ hq)⟩
      · unfold wp_X12_takesWord_s12 wp_X12_takesWord_s12_b13
        exact a2 _ ⟨fun q => absurd hr q, fun _ => b2 _ (h_goodB b3.ne ⟨fun _ => hq, fun q => absurd rfl q⟩)⟩
    · obtain ⟨σ1, τ1, b1, b2, ⟨f1, e1, kd1, b3, -⟩, b4, b5⟩ := j_adv hT h
      refine ⟨σ1, τ1, fun Q hq => ?_, fun Q hq => ?_, Or.inl ⟨f1, e1, kd1, b3⟩, b4, b5⟩
      · unfold wp_X6_passWord_s7
        exact a1 _ ⟨fun _ => b1 _ hq, fun q => absurd hr q⟩
      · unfold wp_X12_takesWord_s12 wp_X12_takesWord_s12_b13
        exact a2 _ ⟨fun _ => h_goodG h.2.2.2.2.2.1 ⟨fun q => absurd q (by decide), fun _ => b2 _ hq⟩, fun q => absurd hr q⟩
  · obtain ⟨h0, f, e, kd, ht, hk⟩ := h.1
    obtain ⟨r, a1, a2, a3⟩ := g_is_s7 hT ht hk
    obtain ⟨σ2, d1, d2⟩ := cb_adv hT h.1
    refine ⟨σ2, τ, fun Q hq => ?_, fun Q hq => ?_, Or.inr (h.go d2), d2.2.2.2, FYg.rf⟩
    · unfold wp_X6_passWord_s7
      exact a1 _ ⟨fun _ => d1 _ hq, fun _ => cb_fail h.1 _ (d1 _ hq)⟩
    · unfold wp_X12_takesWord_s12 wp_X12_takesWord_s12_b13
      exact h_isB_s12 h.ne _ ⟨fun q => absurd rfl q, fun _ => rb_errs h.ne _ (h_goodB h.ne ⟨fun _ => hq, fun q => absurd rfl q⟩)⟩
theorem j_sign {ρ σ τ : St} (hT : Wt ρ) {c : Int} (hc : c = 61 ∨ c = 59) (h : JSg ρ σ τ) : ∃ σ1 τ1 : St, (∀ Q : Int → St → Prop, Q 0 σ1 → wp_X6_passSign c σ Q) ∧ (∀ Q : Int → St → Prop, Q 0 τ1 → wp_X12_takesSign c τ Q) ∧ ((∃ f1 e1 kd1, GJ ρ σ1 τ1 f1 e1 kd1 ∧ (∃ f e kd, GJ ρ σ τ f e kd) ∧ σ 3 7 ≤ (f1 : Int)) ∨ BJ ρ σ1 τ1) ∧ FXg σ σ1 ∧ FYg τ τ1 := by
  rcases h with ⟨f, e, kd, h⟩ | h
  · have hh := h
    obtain ⟨ht, ⟨k4, k5, k6, k7, kt⟩, hk, hn, g1, g2, g3, g4⟩ := h
    have h1000 := hT.2.1
    obtain ⟨k19, k21, k20, krt, t0, t1, t2, t3⟩ := hk
    by_cases hy : kd = 3 ∧ ρ 1 f = c
    · obtain ⟨rfl, hy⟩ := hy
      obtain ⟨σ1, τ1, b1, b2, ⟨f1, e1, kd1, b3, b6⟩, b4, b5⟩ := j_adv hT hh
      have he : e = f + 1 := by
        rcases ht.2.2 with ⟨q, -⟩ | ⟨q, -⟩ | ⟨q, -⟩ | ⟨-, q⟩
        · omega
        · omega
        · omega
        · exact q
      have hle := ht.2.1
      refine ⟨σ1, τ1, fun Q hq => ?_, fun Q hq => ?_, Or.inl ⟨f1, e1, kd1, b3, ⟨f, e, 3, hh⟩, by omega⟩, b4, b5⟩
      · unfold wp_X6_passSign
        rw [k5, k6, Int.toNat_natCast, kt f (by omega)]
        exact ⟨fun q => absurd rfl q, fun _ => ⟨by omega, fun _ => b1 _ hq, fun q => absurd hy q⟩⟩
      · obtain ⟨u1, u2, u3⟩ := t3 rfl
        obtain ⟨v1, v2⟩ := u2 (by omega) (by omega)
        unfold wp_X12_takesSign wp_X12_takesSign_b21
        rw [v1, v2]
        exact ⟨fun q => absurd rfl q, fun _ => ⟨fun _ => h_goodG g2 ⟨fun q => absurd q (by decide), fun _ => b2 _ hq⟩, fun q => absurd hy q⟩⟩
    · obtain ⟨σ1, τ1, b1, b2, b3, b4, b5⟩ := j_fail hh (x := 1) (by decide)
      obtain ⟨σ2, d1, d2⟩ := cb_adv hT b3.1
      refine ⟨σ2, τ1, fun Q hq => ?_, fun Q hq => ?_, Or.inr (b3.go d2), b4.tr d2.2.2.2, b5⟩
      · unfold wp_X6_passSign wp_X6_passSign_b21
        refine ⟨fun _ => b1 _ (d1 _ hq), fun q => ?_⟩
        rw [k5] at q
        have h3 : kd = 3 := by omega
        have hlt : (f : Int) < ρ 0 0 := by
          have hle := ht.2.1
          rcases ht.2.2 with ⟨q, -⟩ | ⟨q, -⟩ | ⟨q, -⟩ | ⟨-, q⟩ <;> omega
        rw [k6, Int.toNat_natCast, kt f hlt]
        exact ⟨by omega, fun q2 => absurd ⟨h3, q2⟩ hy, fun _ => b1 _ (d1 _ hq)⟩
      · unfold wp_X12_takesSign wp_X12_takesSign_b16 wp_X12_takesSign_b21
        have fin : wp_X12_errs 1 τ (fun r1 σ2 => wp_X12_good σ2 (fun r3 σ4 => ((r3 = 0) → Q 0 σ4) ∧ (¬ (r3 = 0) → wp_X12_advance σ4 (fun r5 σ6 => Q 0 σ6)))) := b2 _ (h_goodB b3.ne ⟨fun _ => hq, fun q => absurd rfl q⟩)
        refine ⟨fun _ => fin, fun q => ⟨fun q2 => absurd ?_ hy, fun _ => fin⟩⟩
        have q : τ 0 22 = 4 := by omega
        rcases ht.2.2 with ⟨w, -⟩ | ⟨w, -⟩ | ⟨w, -⟩ | ⟨w, -⟩
        · have := t0 w; omega
        · have := t1 w; omega
        · have := t2 w; omega
        · obtain ⟨u1, u2, u3⟩ := t3 w
          by_cases v1 : 65 ≤ ρ 1 f ∧ ρ 1 f ≤ 76
          · have := u1 v1; omega
          · by_cases v2 : ρ 1 f = 61 ∨ ρ 1 f = 59
            · have := u2 v1 v2; exact ⟨w, by omega⟩
            · have := u3 v1 v2; omega
  · obtain ⟨h0, f, e, kd, ht, k4, k5, k6, k7, kt⟩ := h.1
    have h1000 := hT.2.1
    obtain ⟨σ2, d1, d2⟩ := cb_adv hT h.1
    refine ⟨σ2, τ, fun Q hq => ?_, fun Q hq => ?_, Or.inr (h.go d2), d2.2.2.2, FYg.rf⟩
    · unfold wp_X6_passSign wp_X6_passSign_b21
      refine ⟨fun _ => cb_fail h.1 _ (d1 _ hq), fun q => ?_⟩
      rw [k5] at q
      have hlt : (f : Int) < ρ 0 0 := by
        have hle := ht.2.1
        rcases ht.2.2 with ⟨q, -⟩ | ⟨q, -⟩ | ⟨q, -⟩ | ⟨-, q⟩ <;> omega
      rw [k6]
      exact ⟨by omega, fun _ => d1 _ hq, fun _ => cb_fail h.1 _ (d1 _ hq)⟩
    · unfold wp_X12_takesSign wp_X12_takesSign_b16 wp_X12_takesSign_b21
      have fin2 : wp_X12_good τ (fun r3 σ4 => ((r3 = 0) → Q 0 σ4) ∧ (¬ (r3 = 0) → wp_X12_advance σ4 (fun r5 σ6 => Q 0 σ6))) := h_goodB h.ne ⟨fun _ => hq, fun q => absurd rfl q⟩
      exact ⟨fun _ => rb_errs h.ne _ fin2, fun _ => ⟨fun _ => fin2, fun _ => rb_errs h.ne _ fin2⟩⟩
theorem cb_num {ρ σ : St} (hT : Wt ρ) (h : BCg ρ σ) (lo hi : Int) : ∃ σ1 : St, (∀ Q : Int → St → Prop, Q 0 σ1 → wp_X6_readNumber lo hi σ Q) ∧ SBg ρ σ σ1 := by
  obtain ⟨σ2, d1, d2⟩ := cb_adv hT h
  refine ⟨σ2, fun Q hq => ?_, d2⟩
  have b37 : wp_X6_readNumber_b37 Q σ := by
    unfold wp_X6_readNumber_b37 wp_X6_readNumber_b52
    exact ⟨fun _ => d1 _ hq, fun q => absurd h.1 q⟩
  unfold wp_X6_readNumber wp_X6_readNumber_b32
  exact ⟨fun _ => ⟨fun _ => cb_fail h _ b37, fun _ => ⟨fun _ => b37, fun _ => cb_fail h _ b37⟩⟩, fun _ => cb_fail h _ b37⟩
theorem rb_takes {τ : St} (h : τ 0 24 ≠ 0) (lo hi : Int) : ∀ Q : Int → St → Prop, Q lo τ → wp_X12_takes lo hi τ Q := by
  intro Q hq
  have b47 : wp_X12_takes_b47 Q lo τ := by
    unfold wp_X12_takes_b47
    exact h_goodB h ⟨fun q => absurd rfl q, fun _ => hq⟩
  have b20 : wp_X12_takes_b20 Q lo hi τ := by
    unfold wp_X12_takes_b20
    exact h_goodB h ⟨fun _ => b47, fun q => absurd rfl q⟩
  unfold wp_X12_takes
  exact h_goodB h ⟨fun _ => b20, fun q => absurd rfl q⟩
theorem RK.tok {ρ τ : St} {f e : Nat} {kd : Int} (ht : TkS ρ f e kd) (hk : RK ρ τ f e kd) : (τ 0 22 = 2 ↔ kd = 2) ∧ (τ 0 22 = 1 ↔ kd = 1) ∧ (τ 0 22 = 0 ↔ kd = 0) ∧ (τ 0 22 = 3 ↔ kd = 3 ∧ 65 ≤ ρ 1 f ∧ ρ 1 f ≤ 76) := by
  obtain ⟨k19, k21, k20, krt, t0, t1, t2, t3⟩ := hk
  rcases ht.2.2 with ⟨w, -⟩ | ⟨w, -⟩ | ⟨w, -⟩ | ⟨w, -⟩
  · have := t0 w; omega
  · have := t1 w; omega
  · have := t2 w; omega
  · obtain ⟨u1, u2, u3⟩ := t3 w
    by_cases v1 : 65 ≤ ρ 1 f ∧ ρ 1 f ≤ 76
    · have := u1 v1; omega
    · by_cases v2 : ρ 1 f = 61 ∨ ρ 1 f = 59
      · have := u2 v1 v2; omega
      · have := u3 v1 v2; omega
theorem j_num {ρ σ τ : St} (hT : Wt ρ) {lo hi : Int} (hl : 0 ≤ lo ∧ hi ≤ 99) (h : JSg ρ σ τ) : ∃ (v w : Int) (σ1 τ1 : St), (∀ Q : Int → St → Prop, Q v σ1 → wp_X6_readNumber lo hi σ Q) ∧ (∀ Q : Int → St → Prop, Q w τ1 → wp_X12_takes lo hi τ Q) ∧ (((∃ f e kd, GJ ρ σ1 τ1 f e kd) ∧ v = w ∧ lo ≤ v ∧ v ≤ hi) ∨ (BJ ρ σ1 τ1 ∧ v = 0 ∧ w = lo)) ∧ FXg σ σ1 ∧ FYg τ τ1 := by
  rcases h with ⟨f, e, kd, h⟩ | h
  · have hh := h
    obtain ⟨ht, ⟨k4, k5, k6, k7, kt⟩, hk, hn, g1, g2, g3, g4⟩ := h
    obtain ⟨tk2, -⟩ := hk.tok ht
    have bad : ∀ x : Int, x ≠ 0 → (∃ σ1 τ1 : St, (∀ Q : Int → St → Prop, Q 0 σ1 → wp_X6_fail x σ (fun r3 σ4 => wp_X6_readNumber_b37 Q σ4)) ∧ (∀ Q : Int → St → Prop, Q lo τ1 → wp_X12_errs x τ (fun r9 σ10 => wp_X12_takes_b47 Q lo σ10)) ∧ (∀ Q : Int → St → Prop, Q lo τ1 → wp_X12_errs x τ (fun r9 σ10 => wp_X12_takes_b20 Q lo hi σ10)) ∧ BJ ρ σ1 τ1 ∧ FXg σ σ1 ∧ FYg τ τ1) := by
      intro x hx
      obtain ⟨σ1, τ1, b1, b2, b3, b4, b5⟩ := j_fail hh hx
      obtain ⟨σ2, d1, d2⟩ := cb_adv hT b3.1
      have b47 : ∀ Q : Int → St → Prop, Q lo τ1 → wp_X12_takes_b47 Q lo τ1 := fun Q hq => by
        unfold wp_X12_takes_b47
        exact h_goodB b3.ne ⟨fun q => absurd rfl q, fun _ => hq⟩
      refine ⟨σ2, τ1, fun Q hq => b1 _ ?_, fun Q hq => b2 _ (b47 Q hq), fun Q hq => b2 _ ?_, b3.go d2, b4.tr d2.2.2.2, b5⟩
      · unfold wp_X6_readNumber_b37 wp_X6_readNumber_b52
        exact ⟨fun _ => d1 _ hq, fun q => absurd b3.1.1 q⟩
      · unfold wp_X12_takes_b20
        exact h_goodB b3.ne ⟨fun _ => b47 Q hq, fun q => absurd rfl q⟩
    by_cases hk2 : kd = 2
    · have hnr := hn hk2
      have hkk : τ 0 22 = 2 := tk2.2 hk2
      by_cases hin : lo ≤ σ 3 8 ∧ σ 3 8 ≤ hi
      · have e8 : τ 0 23 = σ 3 8 := by unfold NRl at hnr; omega
        obtain ⟨σ1, τ1, b1, b2, ⟨f1, e1, kd1, b3, b6⟩, b4, b5⟩ := j_adv hT hh
        refine ⟨σ 3 8, σ 3 8, σ1, τ1, fun Q hq => ?_, fun Q hq => ?_, Or.inl ⟨⟨f1, e1, kd1, b3⟩, rfl, hin⟩, b4, b5⟩
        · unfold wp_X6_readNumber wp_X6_readNumber_b37 wp_X6_readNumber_b52
          exact ⟨fun _ => ⟨fun q => absurd q (by omega), fun _ => ⟨fun _ => ⟨fun q => absurd g1 q, fun _ => b1 _ hq⟩, fun q => absurd hin.2 q⟩⟩, fun q => absurd (by omega) q⟩
        · unfold wp_X12_takes wp_X12_takes_b20 wp_X12_takes_b47
          refine h_goodG g2 ⟨fun q => absurd q (by decide), fun _ => ⟨fun _ => h_goodG g2 ⟨fun q => absurd q (by decide), fun _ => r_in ?_⟩, fun q => absurd hkk q⟩⟩
          rw [if_pos (by omega)]
          refine ⟨fun _ => h_goodG g2 ⟨fun _ v13 e13 => b2 _ ?_, fun q => absurd (by decide) q⟩, fun q => absurd (by decide) q⟩
          rw [e13, e8]; exact hq
      · obtain ⟨σ1, τ1, b1, b2, b2', b3, b4, b5⟩ := bad 2 (by decide)
        refine ⟨0, lo, σ1, τ1, fun Q hq => ?_, fun Q hq => ?_, Or.inr ⟨b3, rfl, rfl⟩, b4, b5⟩
        · unfold wp_X6_readNumber wp_X6_readNumber_b32
          exact ⟨fun _ => ⟨fun _ => b1 Q hq, fun _ => ⟨fun q => absurd ⟨by omega, q⟩ hin, fun _ => b1 Q hq⟩⟩, fun q => absurd (by omega) q⟩
        · unfold wp_X12_takes wp_X12_takes_b20
          refine h_goodG g2 ⟨fun q => absurd q (by decide), fun _ => ⟨fun _ => h_goodG g2 ⟨fun q => absurd q (by decide), fun _ => r_in ?_⟩, fun q => absurd hkk q⟩⟩
          rw [if_neg (by unfold NRl at hnr; omega)]
          exact ⟨fun q => absurd rfl q, fun _ => b2 Q hq⟩
    · obtain ⟨σ1, τ1, b1, b2, b2', b3, b4, b5⟩ := bad 1 (by decide)
      refine ⟨0, lo, σ1, τ1, fun Q hq => ?_, fun Q hq => ?_, Or.inr ⟨b3, rfl, rfl⟩, b4, b5⟩
      · unfold wp_X6_readNumber
        exact ⟨fun q => absurd (by omega) hk2, fun _ => b1 Q hq⟩
      · unfold wp_X12_takes
        exact h_goodG g2 ⟨fun q => absurd q (by decide), fun _ => ⟨fun q => absurd (tk2.1 q) hk2, fun _ => b2' Q hq⟩⟩
  · obtain ⟨σ1, a1, a2⟩ := cb_num hT h.1 lo hi
    exact ⟨0, lo, σ1, τ, a1, rb_takes h.ne lo hi, Or.inr ⟨h.go a2, rfl, rfl⟩, a2.2.2.2, FYg.rf⟩
theorem g_label {ρ σ : St} (hT : Wt ρ) {f e : Nat} {kd : Int} (ht : TkS ρ f e kd) (hk : CKx ρ σ f e kd) : ∃ r : Int, (∀ Q : Int → St → Prop, Q r σ → wp_X6_isLabel σ Q) ∧ (r = 0 ∨ r = 1) ∧ (r ≠ 0 ↔ kd = 3 ∧ 65 ≤ ρ 1 f ∧ ρ 1 f ≤ 76) := by
  obtain ⟨k4, k5, k6, k7, kt⟩ := hk
  have h1000 := hT.2.1
  by_cases h3 : kd = 3
  · have hlt : (f : Int) < ρ 0 0 := by
      have hle := ht.2.1
      rcases ht.2.2 with ⟨q, -⟩ | ⟨q, -⟩ | ⟨q, -⟩ | ⟨-, q⟩ <;> omega
    have e1 : σ 1 ((f : Int)).toNat = ρ 1 f := by rw [Int.toNat_natCast]; exact kt f hlt
    by_cases hl : 65 ≤ ρ 1 f ∧ ρ 1 f ≤ 76
    · refine ⟨1, fun Q h => ?_, Or.inr rfl, fun _ => ⟨h3, hl⟩, fun _ => by decide⟩
      unfold wp_X6_isLabel
      rw [k5, k6, e1]
      exact ⟨fun q => absurd h3 q, fun _ => ⟨by omega, fun q => absurd q (by omega), fun _ => ⟨by omega, fun q => absurd q (by omega), fun _ => h⟩⟩⟩
    · refine ⟨0, fun Q h => ?_, Or.inl rfl, fun q => absurd rfl q, fun q => absurd q.2 hl⟩
      unfold wp_X6_isLabel wp_X6_isLabel_b40
      rw [k5, k6, e1]
      exact ⟨fun _ => h, fun _ => ⟨by omega, fun _ => h, fun _ => ⟨by omega, fun _ => h, fun q => absurd ⟨by omega, by omega⟩ hl⟩⟩⟩
  · refine ⟨0, fun Q h => ?_, Or.inl rfl, fun q => absurd rfl q, fun q => absurd q.1 h3⟩
    unfold wp_X6_isLabel wp_X6_isLabel_b40
    rw [k5]
    exact ⟨fun _ => h, fun q => absurd (by omega) h3⟩
theorem g_letter {ρ σ : St} (hT : Wt ρ) {f e : Nat} {kd : Int} (ht : TkS ρ f e kd) (hk : CKx ρ σ f e kd) : ∃ r : Int, (∀ Q : Int → St → Prop, Q r σ → wp_X6_isLetter σ Q) ∧ (r = 0 ∨ r = 1) ∧ (r ≠ 0 ↔ kd = 1 ∧ e = f + 1) := by
  obtain ⟨k4, k5, k6, k7, kt⟩ := hk
  have h1000 := hT.2.1
  have hle := ht.2.1
  have hfe := ht.1
  by_cases h1 : kd = 1 ∧ e = f + 1
  · refine ⟨1, fun Q h => ?_, Or.inr rfl, fun _ => h1, fun _ => by decide⟩
    unfold wp_X6_isLetter
    rw [k5, k6, k7, w32_of (by omega) (by omega)]
    exact ⟨fun q => absurd h1.1 q, fun _ => ⟨fun q => absurd (by omega) q, fun _ => h⟩⟩
  · refine ⟨0, fun Q h => ?_, Or.inl rfl, fun q => absurd rfl q, fun q => absurd q h1⟩
    unfold wp_X6_isLetter wp_X6_isLetter_b25
    rw [k5, k6, k7, w32_of (by omega) (by omega)]
    exact ⟨fun _ => h, fun q => ⟨fun _ => h, fun q2 => absurd ⟨by omega, by omega⟩ h1⟩⟩
theorem h_part {ρ τ : St} (hT : Wt ρ) {f e : Nat} {kd : Int} (ht : TkS ρ f e kd) (hk : RK ρ τ f e kd) (hg : τ 0 24 = 0) : ∃ r : Int, (∀ Q : Int → St → Prop, Q r τ → wp_X12_isPart τ Q) ∧ (r = 0 ∨ r = 1) ∧ (r ≠ 0 ↔ (kd = 3 ∧ 65 ≤ ρ 1 f ∧ ρ 1 f ≤ 76) ∨ (kd = 1 ∧ e = f + 1)) := by
  obtain ⟨tk2, tk1, tk0, tk3⟩ := hk.tok ht
  obtain ⟨k19, k21, k20, krt, -⟩ := hk
  have h1000 := hT.2.1
  have hle := ht.2.1
  have hfe := ht.1
  by_cases hy : (kd = 3 ∧ 65 ≤ ρ 1 f ∧ ρ 1 f ≤ 76) ∨ (kd = 1 ∧ e = f + 1)
  · refine ⟨1, fun Q h => ?_, Or.inr rfl, fun _ => hy, fun _ => by decide⟩
    unfold wp_X12_isPart wp_X12_isPart_b36
    refine h_goodG hg ⟨fun q => absurd q (by decide), fun _ => ⟨fun _ => h, fun q => ?_⟩⟩
    rw [k20, k21, w32_of (by omega) (by omega)]
    rcases hy with hy | hy
    · exact absurd (tk3.2 hy) q
    · exact ⟨fun q2 => absurd (tk1.2 hy.1) q2, fun _ => ⟨fun q3 => absurd (by omega) q3, fun _ => h⟩⟩
  · refine ⟨0, fun Q h => ?_, Or.inl rfl, fun q => absurd rfl q, fun q => absurd q hy⟩
    unfold wp_X12_isPart wp_X12_isPart_b36 wp_X12_isPart_b40
    refine h_goodG hg ⟨fun _ => h, fun _ => ⟨fun q => absurd (Or.inl (tk3.1 q)) hy, fun q => ?_⟩⟩
    rw [k20, k21, w32_of (by omega) (by omega)]
    exact ⟨fun _ => h, fun q2 => ⟨fun _ => h, fun q3 => absurd (Or.inr ⟨tk1.1 (by omega), by omega⟩) hy⟩⟩
theorem h_partB {τ : St} (hg : τ 0 24 ≠ 0) : ∀ Q : Int → St → Prop, Q 0 τ → wp_X12_isPart τ Q := by
  intro Q h
  unfold wp_X12_isPart wp_X12_isPart_b40
  exact h_goodB hg ⟨fun _ => h, fun q => absurd rfl q⟩
theorem rb_part {τ : St} (hg : τ 0 24 ≠ 0) : ∀ Q : Int → St → Prop, Q (-1) τ → wp_X12_readPart τ Q := by
  intro Q h
  unfold wp_X12_readPart wp_X12_readPart_b12
  exact h_partB hg _ ⟨fun q => absurd rfl q, fun _ => rb_errs hg _ (h_goodB hg ⟨fun q => absurd rfl q, fun _ => h⟩)⟩
theorem cb_part {ρ σ : St} (hT : Wt ρ) (h : BCg ρ σ) (x : Int) : ∃ (v : Int) (σ1 : St), (∀ Q : Int → St → Prop, Q v σ1 → wp_X6_readPart x σ Q) ∧ SBg ρ σ σ1 := by
  obtain ⟨h0, f, e, kd, ht, hk⟩ := id h
  obtain ⟨r1, a1, a2, a3⟩ := g_label hT ht hk
  obtain ⟨r2, b1, b2, b3⟩ := g_letter hT ht hk
  obtain ⟨σ1, d1, d2⟩ := cb_adv hT h
  obtain ⟨k4, k5, k6, k7, kt⟩ := hk
  have h1000 := hT.2.1
  have hle := ht.2.1
  have hfe := ht.1
  unfold wp_X6_readPart wp_X6_readPart_b55 wp_X6_readPart_b60
  by_cases hr1 : r1 = 0
  · by_cases hr2 : r2 = 0
    · exact ⟨0, σ1, fun Q hq => a1 _ ⟨fun _ => b1 _ ⟨fun _ => cb_fail h _ (d1 _ hq), fun q => absurd hr2 q⟩, fun q => absurd hr1 q⟩, d2⟩
    · by_cases hx : x = 0
      · have := b3.1 hr2
        exact ⟨_, σ1, fun Q hq => a1 _ ⟨fun _ => b1 _ ⟨fun q => absurd q hr2, fun _ => ⟨fun q => absurd hx q, fun _ => ⟨by rw [k6]; omega, fun v5 e5 => d1 _ (by rw [e5]; exact hq)⟩⟩⟩, fun q => absurd hr1 q⟩, d2⟩
      · exact ⟨0, σ1, fun Q hq => a1 _ ⟨fun _ => b1 _ ⟨fun q => absurd q hr2, fun _ => ⟨fun _ => cb_fail h _ (d1 _ hq), fun q => absurd hx q⟩⟩, fun q => absurd hr1 q⟩, d2⟩
  · have hk3 := (a3.1 hr1).1
    have hlt : (f : Int) < ρ 0 0 := by
      rcases ht.2.2 with ⟨q, -⟩ | ⟨q, -⟩ | ⟨q, -⟩ | ⟨-, q⟩ <;> omega
    exact ⟨_, σ1, fun Q hq => a1 _ ⟨fun q => absurd q hr1, fun _ => ⟨by rw [k6]; omega, fun v6 e6 => d1 _ (by rw [e6]; exact hq)⟩⟩, d2⟩
theorem j_part {ρ σ τ : St} (hT : Wt ρ) (h : JSg ρ σ τ) : ∃ (v w : Int) (σ1 τ1 : St), (∀ Q : Int → St → Prop, Q v σ1 → wp_X6_readPart 0 σ Q) ∧ (∀ Q : Int → St → Prop, Q w τ1 → wp_X12_readPart τ Q) ∧ (((∃ f e kd, GJ ρ σ1 τ1 f e kd) ∧ v = w ∧ isPart v) ∨ BJ ρ σ1 τ1) ∧ FXg σ σ1 ∧ FYg τ τ1 := by
  rcases h with ⟨f, e, kd, h⟩ | h
  · have hh := h
    obtain ⟨ht, hc, hk, hn, g1, g2, g3, g4⟩ := h
    obtain ⟨r1, a1, a2, a3⟩ := g_label hT ht hc
    obtain ⟨r2, b1, b2, b3⟩ := g_letter hT ht hc
    obtain ⟨r3, c1, c2, c3⟩ := h_part hT ht hk g2
    obtain ⟨tk2, tk1, tk0, tk3⟩ := hk.tok ht
    obtain ⟨k4, k5, k6, k7, kt⟩ := hc
    have h1000 := hT.2.1
    have hle := ht.2.1
    have hfe := ht.1
    obtain ⟨k19, k21, k20, krt, t0, t1, t2, t3⟩ := hk
    by_cases hr1 : r1 = 0
    · by_cases hr2 : r2 = 0
      · have hr3 : r3 = 0 := Classical.byContradiction fun q => by
          rcases c3.1 q with w | w
          · exact (a3.2 w) hr1
          · exact (b3.2 w) hr2
        obtain ⟨σ1, τ1, u1, u2, u3, u4, u5⟩ := j_fail hh (x := 1) (by decide)
        obtain ⟨σ2, d1, d2⟩ := cb_adv hT u3.1
        refine ⟨0, -1, σ2, τ1, fun Q hq => ?_, fun Q hq => ?_, Or.inr (u3.go d2), u4.tr d2.2.2.2, u5⟩
        · unfold wp_X6_readPart wp_X6_readPart_b55 wp_X6_readPart_b60
          exact a1 _ ⟨fun _ => b1 _ ⟨fun _ => u1 _ (d1 _ hq), fun q => absurd hr2 q⟩, fun q => absurd hr1 q⟩
        · unfold wp_X12_readPart wp_X12_readPart_b12
          exact c1 _ ⟨fun q => absurd hr3 q, fun _ => u2 _ (h_goodB u3.ne ⟨fun q => absurd rfl q, fun _ => hq⟩)⟩
      · have hw := b3.1 hr2
        have hr3 : r3 ≠ 0 := c3.2 (Or.inr hw)
        have hlt : (f : Int) < ρ 0 0 := by omega
        have hsm := ht.sm hw.1 f (Nat.le_refl _) (by omega)
        have hsm' := hsm
        unfold isSm at hsm'
        obtain ⟨σ1, τ1, u1, u2, ⟨f1, e1, kd1, u3, -⟩, u4, u5⟩ := j_adv hT hh
        refine ⟨3 + ρ 1 f, 3 + ρ 1 f, σ1, τ1, fun Q hq => ?_, fun Q hq => ?_, Or.inl ⟨⟨f1, e1, kd1, u3⟩, rfl, Or.inr (by omega)⟩, u4, u5⟩
        · unfold wp_X6_readPart wp_X6_readPart_b55 wp_X6_readPart_b60
          refine a1 _ ⟨fun _ => b1 _ ⟨fun q => absurd q hr2, fun _ => ⟨fun q => absurd rfl q, fun _ => ⟨by rw [k6]; omega, fun v5 e5 => u1 _ ?_⟩⟩⟩, fun q => absurd hr1 q⟩
          rw [k6, Int.toNat_natCast, kt f hlt, w32_of (x := 100 + ρ 1 f) (by omega) (by omega), w32_of (by omega) (by omega), show 100 + ρ 1 f - 97 = 3 + ρ 1 f by omega] at e5
          rw [e5]; exact hq
        · unfold wp_X12_readPart wp_X12_readPart_b12 wp_X12_readPart_b51
          refine c1 _ ⟨fun _ => h_goodG g2 ⟨fun _ => ⟨fun _ => ⟨by rw [k21]; omega, u2 _ ?_⟩, fun q => ?_⟩, fun q => absurd (by decide) q⟩, fun q => absurd hr3 q⟩
          · rw [k21, Int.toNat_natCast, krt f hlt, sby_sm hsm, w32_of (x := 100 + ρ 1 f) (by omega) (by omega), w32_of (by omega) (by omega), show 100 + ρ 1 f - 97 = 3 + ρ 1 f by omega]
            exact hq
          · exact absurd (fun w => by have := (tk3.1 w).1; omega) q
    · have hw := a3.1 hr1
      have hr3 : r3 ≠ 0 := c3.2 (Or.inl hw)
      have hlt : (f : Int) < ρ 0 0 := by
        rcases ht.2.2 with ⟨q, -⟩ | ⟨q, -⟩ | ⟨q, -⟩ | ⟨-, q⟩ <;> omega
      obtain ⟨σ1, τ1, u1, u2, ⟨f1, e1, kd1, u3, -⟩, u4, u5⟩ := j_adv hT hh
      have ev := (t3 hw.1).1 hw.2
      refine ⟨ρ 1 f - 65, ρ 1 f - 65, σ1, τ1, fun Q hq => ?_, fun Q hq => ?_, Or.inl ⟨⟨f1, e1, kd1, u3⟩, rfl, Or.inl (by omega)⟩, u4, u5⟩
      · unfold wp_X6_readPart wp_X6_readPart_b60
        refine a1 _ ⟨fun q => absurd q hr1, fun _ => ⟨by rw [k6]; omega, fun v6 e6 => u1 _ ?_⟩⟩
        rw [k6, Int.toNat_natCast, kt f hlt, w32_of (by omega) (by omega)] at e6
        rw [e6]; exact hq
      · unfold wp_X12_readPart wp_X12_readPart_b12 wp_X12_readPart_b51
        refine c1 _ ⟨fun _ => h_goodG g2 ⟨fun _ => ⟨fun q => absurd ev.1 q, fun _ => u2 _ ?_⟩, fun q => absurd (by decide) q⟩, fun q => absurd hr3 q⟩
        rw [ev.2]; exact hq
  · obtain ⟨v, σ1, a1, a2⟩ := cb_part hT h.1 0
    exact ⟨v, -1, σ1, τ, a1, rb_part h.ne, Or.inr (h.go a2), a2.2.2.2, FYg.rf⟩
