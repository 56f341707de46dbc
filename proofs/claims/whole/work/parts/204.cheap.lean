section
variable {p : Program} {l : Launch} {e : Env} {s : State} {m : MethodId} {args : Array Value} {below : List Frame} {meth : Method} {c : Code} {A0 : Nat → Prop} {D : va_G} {cA : Nat → ClassId} {ad : Nat → Nat} {Z : (Nat → Nat) × (Nat → Nat)} {Q : Int → St → Prop} {mc ms : Nat}
set_option maxHeartbeats 4000000 in
set_option maxRecDepth 100000 in
theorem t1_X8_upTo_b56 (E : Ev p s m args meth c cX8_upTo 7 RX8 A0 D cA ad (NC true) Z) (hr : meth.sig.returnType = (some .long)) {K30 : Int → Int → Int → Int → St → Prop} (hK30 : ∀ (x1 : Int) (x2 : Int) (x3 : Int) (x4 : Int) (σ : St), C32 x1 → C32 x2 → C32 x3 → C32 x4 → CanS (shC true) (NC true) σ → K30 x1 x2 x3 x4 σ → G p l e (rmL 6 mc ms) s m args below meth c 7 A0 D cA ad (shC true) (NC true) mc ms (MQ below (QLc D cA ad (shC true) (NC true) Q A0) args s mc ms A0) σ 30 [some (.ref (ad 76)), some (vI x1), some (vI x2), some (vI x3), some (vI x4), none, none] []) (x1 : Int) (x2 : Int) (x3 : Int) (x4 : Int) (σ : St) (c1 : C32 x1) (c2 : C32 x2) (c3 : C32 x3) (c4 : C32 x4) (hσ : CanS (shC true) (NC true) σ) (h : wp_X8_upTo_b56 Q K30 x1 x2 x3 x4 σ) : G p l e (rmL 6 mc ms) s m args below meth c 7 A0 D cA ad (shC true) (NC true) mc ms (MQ below (QLc D cA ad (shC true) (NC true) Q A0) args s mc ms A0) σ 56 [some (.ref (ad 76)), some (vI x1), some (vI x2), some (vI x3), some (vI x4), none, none] [] := by
  unfold wp_X8_upTo_b56 at h
  refine g_iinc_4 E rfl (by decide) dX8_upTo_56 (fun v11 ev11 => ?_)
  replace h := h v11 ev11
  have cv11 : C32 v11 := by rw [ev11]; exact c32_w _
  refine g_goto E djX8_upTo_59 ?_
  exact (hK30 x1 x2 x3 v11 σ c1 c2 c3 cv11 hσ h).weak (w_k (w_k (w_k (w_k (w_k (w_d (w_d w_n)))))))
set_option maxHeartbeats 4000000 in
set_option maxRecDepth 100000 in
theorem t1_X8_upTo_l68 (E : Ev p s m args meth c cX8_upTo 7 RX8 A0 D cA ad (NC true) Z) (hr : meth.sig.returnType = (some .long)) : ∀ (n : Nat) (x1 : Int) (x2 : Int) (x4 : Int) (x6 : Int) (σ : St), C32 x1 → C32 x2 → C64 x4 → C32 x6 → CanS (shC true) (NC true) σ → wp_X8_upTo_l68 Q n x1 x2 x4 x6 σ → G p l e (rmL 6 mc ms) s m args below meth c 7 A0 D cA ad (shC true) (NC true) mc ms (MQ below (QLc D cA ad (shC true) (NC true) Q A0) args s mc ms A0) σ 68 [some (.ref (ad 76)), some (vI x1), some (vI x2), none, some (vL x4), none, some (vI x6)] [] := by
  intro n
  induction n with
  | zero => intro _ _ _ _ _ _ _ _ _ _ h; exact h.elim
  | succ n ih =>
    intro x1 x2 x4 x6 σ c1 c2 c4 c6 hσ h
    unfold wp_X8_upTo_l68 at h
    refine g_iload_6 E dX8_upTo_68 ?_
    refine g_iload_2 E dX8_upTo_70 ?_
    refine g_icmp_gt E c6 c2 djX8_upTo_71 (fun hc => ?_) (fun hc => ?_)
    · replace h := h.1 hc
      refine g_lload_4 E dX8_upTo_108 ?_
      exact g_lret E hr c4 h hσ dX8_upTo_110
    · replace h := h.2 hc
      refine g_iload_6 E dX8_upTo_74 ?_
      refine g_sipush E (by decide) dX8_upTo_76 ?_
      refine g_icmp_ge E c6 cl_301 djX8_upTo_79 (fun hc => ?_) (fun hc => ?_)
      · replace h := h.1 hc
        refine g_lload_4 E dX8_upTo_108 ?_
        exact g_lret E hr c4 h hσ dX8_upTo_110
      · replace h := h.2 hc
        refine g_lload_4 E dX8_upTo_82 ?_
        refine g_aload_0 E dX8_upTo_84 ?_
        refine g_getR E fl_RX8_48 (kC_76 true) sC_76t rfl dX8_upTo_85 ?_
        refine g_iload_1 E dX8_upTo_88 ?_
        refine g_sipush E (by decide) dX8_upTo_89 ?_
        refine g_imul E dX8_upTo_92 ?_
        refine g_iload_6 E dX8_upTo_93 ?_
        refine g_iadd E dX8_upTo_95 ?_
        refine g_lald E (kC_83 true) (sC_83 true) (by decide) h.1 dX8_upTo_96 ?_
        replace h := h.2
        refine g_callsL E my_X8_add ms_X8_add ml_RX8_62 (rm_ok (by decide) (by decide)) ⟨Nat.le_refl _, Nat.le_refl _⟩ (m_X8_add E.2.2.1 c4 (aC_83 hσ _) hσ h) rfl rfl (Nat.le_of_ble_eq_true rfl) dX8_upTo_97 (fun r8 σ9 cr8 hσ9 h => ?_)
        refine g_lstore_4 E rfl (by decide) dX8_upTo_100 ?_
        refine g_iinc_6 E rfl (by decide) dX8_upTo_102 (fun v10 ev10 => ?_)
        replace h := h v10 ev10
        have cv10 : C32 v10 := by rw [ev10]; exact c32_w _
        refine g_goto E djX8_upTo_105 ?_
        exact (ih x1 x2 r8 v10 σ9 c1 c2 cr8 cv10 hσ9 h).weak (w_k (w_k (w_k (w_d (w_k (w_d (w_k w_n)))))))
set_option maxHeartbeats 4000000 in
set_option maxRecDepth 100000 in
theorem t1_X8_upTo_l30 (E : Ev p s m args meth c cX8_upTo 7 RX8 A0 D cA ad (NC true) Z) (hr : meth.sig.returnType = (some .long)) : ∀ (n : Nat) (x1 : Int) (x2 : Int) (x3 : Int) (x4 : Int) (σ : St), C32 x1 → C32 x2 → C32 x3 → C32 x4 → CanS (shC true) (NC true) σ → wp_X8_upTo_l30 Q n x1 x2 x3 x4 σ → G p l e (rmL 6 mc ms) s m args below meth c 7 A0 D cA ad (shC true) (NC true) mc ms (MQ below (QLc D cA ad (shC true) (NC true) Q A0) args s mc ms A0) σ 30 [some (.ref (ad 76)), some (vI x1), some (vI x2), some (vI x3), some (vI x4), none, none] [] := by
  intro n
  induction n with
  | zero => intro _ _ _ _ _ _ _ _ _ _ h; exact h.elim
  | succ n ih =>
    intro x1 x2 x3 x4 σ c1 c2 c3 c4 hσ h
    unfold wp_X8_upTo_l30 at h
    refine g_iload_4 E dX8_upTo_30 ?_
    refine g_iload_3 E dX8_upTo_32 ?_
    refine g_icmp_gt E c4 c3 djX8_upTo_33 (fun hc => ?_) (fun hc => ?_)
    · replace h := h.1 hc
      refine g_lconst (n := 0) E (by decide) dX8_upTo_62 ?_
      refine g_lstore_4 E rfl (by decide) dX8_upTo_63 ?_
      refine g_iconst E dX8_upTo_65 ?_
      refine g_istore_6 E rfl (by decide) dX8_upTo_66 ?_
      exact (t1_X8_upTo_l68 E hr bigN x1 x2 0 1 σ c1 c2 cL_0 cl_1 hσ h).weak (w_k (w_k (w_k (w_d (w_k (w_d (w_k w_n)))))))
    · replace h := h.2 hc
      refine g_aload_0 E dX8_upTo_36 ?_
      refine g_getR E fl_RX8_15 (kC_76 true) sC_76t rfl dX8_upTo_37 ?_
      refine g_iload_4 E dX8_upTo_40 ?_
      refine g_iload_3 E dX8_upTo_42 ?_
      refine g_callvI E my_X0_isInside mi_X0_isInside msel_X0_isInside ml_RX8_52 (rm_ok (by decide) (by decide)) ⟨Nat.le_refl _, Nat.le_refl _⟩ (kC_24 true) (sC_24 true) rfl (m_X0_isInside E.2.2.1 c4 c3 hσ h) rfl rfl (Nat.le_of_ble_eq_true rfl) dX8_upTo_43 (fun r4 σ5 cr4 hσ5 h => ?_)
      refine g_if_eq E cr4 djX8_upTo_46 (fun hc => ?_) (fun hc => ?_)
      · replace h := h.1 hc
        exact (t1_X8_upTo_b56 E hr ih x1 x2 x3 x4 σ5 c1 c2 c3 c4 hσ5 h).weak (w_k (w_k (w_k (w_k (w_k (w_d (w_d w_n)))))))
      · replace h := h.2 hc
        refine g_aload_0 E dX8_upTo_49 ?_
        refine g_iload_4 E dX8_upTo_50 ?_
        refine g_iload_2 E dX8_upTo_52 ?_
        refine g_callvV E my_X8_countSpan mi_X8_countSpan msel_X8_countSpan ml_RX8_58 (rm_ok (by decide) (by decide)) ⟨Nat.le_refl _, Nat.le_refl _⟩ (kC_76 true) sC_76t rfl (m_X8_countSpan E.2.2.1 c4 c2 hσ5 h) rfl rfl (Nat.le_of_ble_eq_true rfl) dX8_upTo_53 (fun σ7 r6 hσ7 h => ?_)
        exact (t1_X8_upTo_b56 E hr ih x1 x2 x3 x4 σ7 c1 c2 c3 c4 hσ7 h).weak (w_k (w_k (w_k (w_k (w_k (w_d (w_d w_n)))))))
set_option maxHeartbeats 4000000 in
set_option maxRecDepth 100000 in
theorem t1_X8_upTo_b22 (E : Ev p s m args meth c cX8_upTo 7 RX8 A0 D cA ad (NC true) Z) (hr : meth.sig.returnType = (some .long)) (x1 : Int) (x2 : Int) (σ : St) (c1 : C32 x1) (c2 : C32 x2) (hσ : CanS (shC true) (NC true) σ) (h : wp_X8_upTo_b22 Q x1 x2 σ) : G p l e (rmL 6 mc ms) s m args below meth c 7 A0 D cA ad (shC true) (NC true) mc ms (MQ below (QLc D cA ad (shC true) (NC true) Q A0) args s mc ms A0) σ 22 [some (.ref (ad 76)), some (vI x1), some (vI x2), none, none, none, none] [] := by
  unfold wp_X8_upTo_b22 at h
  refine g_iload_1 E dX8_upTo_22 ?_
  refine g_bipush E (by decide) dX8_upTo_23 ?_
  refine g_idiv E cl_12 (by decide) dX8_upTo_25 ?_
  refine g_nmI (fun v3 ev3 => ?_)
  replace h := h v3 ev3
  have cv3 : C32 v3 := by rw [ev3]; exact (c32_t _)
  refine g_istore_3 E rfl (by decide) dX8_upTo_26 ?_
  refine g_iconst E dX8_upTo_27 ?_
  refine g_istore_4 E rfl (by decide) dX8_upTo_28 ?_
  exact (t1_X8_upTo_l30 E hr bigN x1 x2 v3 0 σ c1 c2 cv3 cl_0 hσ h).weak (w_k (w_k (w_k (w_k (w_k (w_d (w_d w_n)))))))
end
theorem wk_RX8_51 : Jvm.Cond.constant RX8 51 (Int32.ofInt 130032) ∈ gtbl := tg (tb_6 (List.mem_of_getElem? (i := 175) rfl)) rfl
theorem W.monoQ {p : Program} {l : Launch} {e : Env} {R : Room} {s : State} {m : MethodId} {args : Array Value} {below : List Frame} {meth : Method} {c : Code} {H : Heap} {locs : List Loc} {cells slots : Nat} {Q Q' : State → Prop} {g : JFrame} (h : ∀ t, Q t → Q' t) (k : W p l e R s m args below meth c H locs cells slots Q g) : W p l e R s m args below meth c H locs cells slots Q' g := fun T hT X => by
  obtain ⟨t, a, b⟩ := k T hT X
  exact ⟨t, a, h t b⟩
def wp0_upTo (x1 x2 : Int) (σ : St) (Q : Int → St → Prop) : Prop := wp_X1_prepare σ (fun _ σ2 => (∀ j, σ2 83 j = 0) ∧ wp_X8_upTo_b22 Q x1 x2 σ2)
def wp0_cheap (x1 x2 x3 x4 : Int) (σ : St) (Q Q0 : Int → St → Prop) : Prop :=
  wp_X11_itemOf x1 x2 x3 σ (fun r1 σ2 => ((r1 < 0) → Q0 (-2) σ2) ∧ (¬ (r1 < 0) → ((x4 < 0) → Q0 (-2) σ2) ∧ (¬ (x4 < 0) → ((x4 ≤ 300) → wp0_upTo r1 x4 σ2 (fun r3 σ4 => wp_X11_tellNumber r3 σ4 (fun r5 σ6 => Q r5 σ6))) ∧ (¬ (x4 ≤ 300) → Q0 (-2) σ2))))
abbrev UA : Type := Int × St × Bool × (Nat → Nat)
def postA (ad : Nat → Nat) (sz : Nat) (Q Q0 : Int → St → Prop) : Int64 → UA → Prop := fun r u => r = Int64.ofInt u.1 ∧ C64 u.1 ∧ CanS (shC u.2.2.1) (NC u.2.2.1) u.2.1 ∧ (u.2.2.1 = true → Q u.1 u.2.1) ∧ (u.2.2.1 = false → Q0 u.1 u.2.1) ∧ (∀ i, i < 83 → u.2.2.2 i = ad i) ∧ (u.2.2.1 = true → sz ≤ u.2.2.2 83)
def bA (D : va_G) (cA : Nat → ClassId) : UA → State → Prop := fun u t => va_P D classes (wl (shC u.2.2.1) (NC u.2.2.1) u.2.2.2 cA u.2.1) t.heap
def KtA (Z : (Nat → Nat) × (Nat → Nat)) (l : Launch) (D : va_G) (cA : Nat → ClassId) (ad : Nat → Nat) (y : MethodName) (code : ByteArray) (nL : Nat) (L : Nat) (av : List Value) (σ : St) (Q Q0 : Int → St → Prop) : Prop :=
  ∀ sz, Met l y (Cond.code y code nL (some .long) :: gtbl) (rmL L 1 130032) (va_Pc av (preW Z D cA ad (shC false) (NC false) sz σ)) (va_Ql (postA ad sz Q Q0) (bA D cA) (AA (NC false) ad sz)) 1 130032 (AA (NC false) ad sz)
def adU (ad : Nat → Nat) (q : Nat) : Nat → Nat := fun k => if k = 83 then q else ad k
theorem fvs_ad {ad ad' : Nat → Nat} {c : Nat → Int} : ∀ (fs : List (Nat × Nat)) (i : Nat), (∀ q ∈ fs, q.1 = 2 → ad' q.2 = ad q.2) → fvs ad' c fs i = fvs ad c fs i := by
  intro fs
  induction fs with
  | nil => intro i _; rfl
  | cons a r ih =>
    intro i h
    simp only [fvs]
    rw [ih (i + 1) (fun q hq => h q (List.mem_cons_of_mem _ hq))]
    by_cases h2 : a.1 = 2
    · rw [h a List.mem_cons_self h2]
    · simp only [if_neg h2]
theorem tb_refs : ∀ k, k < 83 → ∀ q ∈ (shC false k).2.2, q.1 = 2 → q.2 < 83 := by decide +kernel
theorem sh_ft0 : ∀ k, k < 84 → (k = 76 ∨ shC true k = shC false k) := by decide +kernel
theorem sh_ft (k : Nat) (h : k < 84) (h2 : k ≠ 76) : shC true k = shC false k := (sh_ft0 k h).resolve_left h2
theorem can_ft {σ : St} (h : CanS (shC false) (NC false) σ) (h83 : ∀ j, σ 83 j = 0) : CanS (shC true) (NC true) σ := by
  intro k hk
  have hk84 : k < 84 := hk
  by_cases h1 : k = 83
  · subst h1
    show canK (shC true 83) _
    rw [sC_83 true]
    unfold canK
    rw [if_pos rfl]
    intro j
    rw [h83]; unfold C64; omega
  · have hk83 : k < 83 := by omega
    by_cases h2 : k = 76
    · subst h2
      rw [sC_76t]
      have := h 76 (by decide)
      rw [sC_76f] at this
      unfold canK at *
      rw [if_neg (show ¬ (4 : Nat) = 1 by decide), if_pos rfl] at *
      intro f z
      refine ⟨fun e => ?_, fun e => ?_⟩
      · exfalso
        match f, e with
        | 0, e => cases e
        | 1, e => cases e
        | 2, e => cases e
        | 3, e => cases e
        | 4, e => cases e
        | 5, e => cases e
        | 6, e => cases e
        | f + 7, e => simp at e
      · exfalso
        match f, e with
        | 0, e => cases e
        | 1, e => cases e
        | 2, e => cases e
        | 3, e => cases e
        | 4, e => cases e
        | 5, e => cases e
        | 6, e => cases e
        | f + 7, e => simp at e
    · rw [sh_ft k hk84 h2]
      exact h k hk83
section CH
variable {Z : (Nat → Nat) × (Nat → Nat)} {l : Launch} {D : va_G} {cA : Nat → ClassId} {ad : Nat → Nat}
set_option maxHeartbeats 4000000 in
theorem a_upTo {x1 x2 : Int} {σ : St} {Q Q0 : Int → St → Prop} (hA : AdOk (NC false) ad) (c1 : C32 x1) (c2 : C32 x2) (hσ : CanS (shC false) (NC false) σ) (h : wp0_upTo x1 x2 σ Q) : KtA Z l D cA ad yX8_upTo cX8_upTo 7 6 [.ref (ad 76), vI x1, vI x2] σ Q Q0 := by
  intro sz
  refine Met.ofWF (cc := cX8_upTo) (maxL := 7) (ret := some .long) my_X8_upTo.2.2.2.2 rfl ?_
  intro p e s m args below meth c s₁ B hml hv
  obtain ⟨rfl, hsz, hP, hK, hZ⟩ := hv
  subst hsz
  have hts := atoms_spec (ws := Cond.code yX8_upTo cX8_upTo 7 (some .long) :: gtbl) B.pre
  have hown : s.vm.findClass RX8 = some m.cls := findClass_of_methodNamed B.named
  have hl0 := lv_entry [.ref (ad 76), vI x1, vI x2] (n := 7) (Nat.le_of_ble_eq_true rfl)
  rw [lg_entry_eq]
  have E : Ev p s m ([.ref (ad 76), vI x1, vI x2] : List Value).toArray meth c cX8_upTo 7 RX8 (AA (NC false) ad s.heap.size) D cA ad (NC false) Z := ⟨⟨B.exec, B.bytes, hml, hown, fun w hw => hts w (List.mem_cons_of_mem _ hw)⟩, hK, hA, fun i hi => Or.inl ⟨i, hi, rfl⟩, fun q hq => Or.inr hq, B.notSynchronized, hZ⟩
  have hr := B.returns
  suffices hG : G p l e (rmL 6 1 130032) s m ([.ref (ad 76), vI x1, vI x2] : List Value).toArray below meth c 7 (AA (NC false) ad s.heap.size) D cA ad (shC false) (NC false) 0 0 (MQ below (va_Ql (postA ad s.heap.size Q Q0) (bA D cA) (AA (NC false) ad s.heap.size)) ([.ref (ad 76), vI x1, vI x2] : List Value).toArray s 1 130032 (AA (NC false) ad s.heap.size)) σ 0 [some (.ref (ad 76)), some (vI x1), some (vI x2), none, none, none, none] [] from hG s.heap [] _ hP va_S.rf hl0
  unfold wp0_upTo at h
  refine g_aload_0 E dX8_upTo_0 ?_
  refine g_getR (z := 36) E fl_RX8_19 (kC_76 false) (sC_76 false) rfl dX8_upTo_1 ?_
  refine g_callvV E my_X1_prepare mi_X1_prepare msel_X1_prepare ml_RX8_43 (rm_ok (by decide) (by decide)) ⟨Nat.zero_le _, Nat.zero_le _⟩ (kC_36 false) (sC_36 false) rfl (m_X1_prepare E.2.2.1 hσ h) rfl rfl (Nat.le_of_ble_eq_true rfl) dX8_upTo_4 (fun σ2 r1 hσ2 h => ?_)
  obtain ⟨h83, h⟩ := h
  refine g_aload_0 E dX8_upTo_7 ?_
  refine g_getN E fl_RX8_48 (kC_76 false) sC_76f rfl dX8_upTo_8 ?_
  refine g_ifnonnullN E djX8_upTo_11 ?_
  refine g_aload_0 E dX8_upTo_14 ?_
  refine g_ldc (n := 130032) E wk_RX8_51 dX8_upTo_15 ?_
  -- the new row, and its field
  obtain ⟨⟨hx, hb, hml, hown, hts⟩, hK, hA, hAa, hAq, hlk, hZx⟩ := id E
  intro H locs ls hP hS hL
  have hD : va_D (AA (NC false) ad s.heap.size) (wl (shC false) (NC false) ad cA σ2) := wl_D hA hAa
  refine va_newaK (atype := .long) hx hb (hts _ (tg (tb_2 (List.mem_of_getElem? (i := 109) rfl)) rfl)) rfl dX8_upTo_17.1 rfl (by decide) (N := 130032) (by decide) (Nat.le_of_ble_eq_true rfl) (Nat.le_of_ble_eq_true rfl) (Nat.le_of_ble_eq_true rfl) rfl fun H1 cA' e1 z1 o1 hAr hNm => ?_
  have hcA : cA' = cA 1 := Option.some.inj (hNm.symm.trans (hK.2 1 _ rfl).2)
  subst hcA
  generalize hq : H.size = q at *
  have hqA : AA (NC false) ad s.heap.size q := Or.inr (by rw [← hq]; exact hS.1)
  have hS1 : va_S (AA (NC false) ad s.heap.size) s.heap H1 locs := ⟨Nat.le_trans hS.1 (by omega), fun x h1 h2 => (o1 x (Nat.lt_of_lt_of_le h1 (by have := hS.1; omega))).trans (hS.2.1 x h1 h2), hS.2.2⟩
  have hlts : ∀ k, k < 83 → ad k < q := fun k hk => by have := (hP k _ (wl_get (N := NC false) hk)).lt; rw [hq] at this; exact this
  have hlen : (wl (shC false) (NC false) ad cA σ2).length = 83 := by simp [wl, NC]
  have hP1 : va_P D classes (wl (shC false) (NC false) ad cA σ2 ++ [(q, .inl (cA 1, 130032, .inr (.inl (fun _ => 0))))]) H1 := by
    refine (hP.kept (fun k x hxx => o1 x.1 (by obtain ⟨l1, rfl⟩ := wl_lt hxx; exact hlts k l1))).app (fun k x hxx => ?_)
    have hzz : k < 1 := (List.getElem?_eq_some_iff.mp hxx).1
    rw [show k = 0 by omega] at hxx
    cases hxx
    show H1[q]? = some (vp_cell _ _)
    rw [e1]
    rfl
  have hD1 : va_D (AA (NC false) ad s.heap.size) (wl (shC false) (NC false) ad cA σ2 ++ [(q, .inl (cA 1, 130032, .inr (.inl (fun _ => 0))))]) := hD.push hP hq.symm hqA
  refine W.eq (g2 := F0 m 19 ls [.ref q, .ref (ad 76)]) rfl ?_
  refine va_put (v := .ref q) (ty := .array .long) hx hb hts cls_8.2.1 tyX8 cls_8.2.2.1 cls_8.2.2.2 hown hK hP1 hD1 hS1 76 (by rw [List.getElem?_append_left (by rw [hlen]; decide)]; exact wl_o (kC_76 false) sC_76f) cls_8.1 6 (by decide) (ref := RX8) (hts _ fl_RX8_48.2.2.2) (fun x h => h) rfl rfl rfl rfl (by rw [fvs_len]; decide) dX8_upTo_19.1 (fun H2 locs2 hP2 _ hS2 => ?_)
  have hadU : ∀ i, i < 83 → adU ad q i = ad i := fun i hi => if_neg (by omega)
  have hAd' : AdOk (NC true) (adU ad q) := by
    intro i j hi hj hij
    have hi : i < 84 := hi
    have hj : j < 84 := hj
    by_cases h1 : i = 83
    · by_cases h2 : j = 83
      · omega
      · rw [h1, hadU j (by omega)] at hij
        have := hlts j (by omega)
        have e9 : adU ad q 83 = q := rfl
        omega
    · by_cases h2 : j = 83
      · rw [h2, hadU i (by omega)] at hij
        have := hlts i (by omega)
        have e9 : adU ad q 83 = q := rfl
        omega
      · rw [hadU i (by omega), hadU j (by omega)] at hij
        exact hA i j (by show i < 83; omega) (by show j < 83; omega) hij
  have E' : Ev p s m ([.ref (ad 76), vI x1, vI x2] : List Value).toArray meth c cX8_upTo 7 RX8 (AA (NC false) ad s.heap.size) D cA (adU ad q) (NC true) Z := by
    refine ⟨⟨hx, hb, hml, hown, hts⟩, hK, hAd', fun i hi => ?_, hAq, hlk, hZx⟩
    have hi : i < 84 := hi
    by_cases h1 : i = 83
    · rw [h1]; exact hqA
    · rw [hadU i (by omega)]; exact hAa i (by show i < 83; omega)
  have hP3 : va_P D classes (wl (shC true) (NC true) (adU ad q) cA σ2) H2 := by
    intro k x hxx
    obtain ⟨l1, rfl⟩ := wl_lt hxx
    have l1 : k < 84 := l1
    by_cases h1 : k = 83
    · subst h1
      have hg := hP2 83 (q, .inl (cA 1, 130032, .inr (.inl (fun _ => 0)))) (by rw [List.getElem?_set_ne (by decide), List.getElem?_append_right (by rw [hlen]; decide), hlen]; rfl)
      show va_at D classes (adU ad q 83, mkE (adU ad q) cA (shC true 83) (σ2 83)) H2
      have e0 : mkE (adU ad q) cA (shC true 83) (σ2 83) = .inl (cA 1, 130032, .inr (.inl (fun _ => 0))) := by
        unfold mkE
        rw [sC_83 true]
        have : (fun j => Int64.ofInt (σ2 83 j)) = (fun _ => (0 : Int64)) := by funext j; rw [h83]; rfl
        simp only [this]
        rfl
      rw [e0]
      exact hg
    · have hk : k < 83 := by omega
      show va_at D classes (adU ad q k, mkE (adU ad q) cA (shC true k) (σ2 k)) H2
      rw [hadU k hk]
      by_cases h2 : k = 76
      · subst h2
        have hg := hP2 76 (ad 76, .inr (8, (fvs ad (σ2 76) _ 0).set 6 (.ref q))) (List.getElem?_set_self (by rw [List.length_append, hlen]; show 76 < 84; decide))
        have e0 : mkE (adU ad q) cA (shC true 76) (σ2 76) = .inr (8, (fvs ad (σ2 76) [(2, 14), (2, 24), (2, 36), (2, 77), (2, 78), (2, 79), (3, 0)] 0).set 6 (.ref q)) := by unfold mkE; rw [sC_76t]; rfl
        rw [e0]
        exact hg
      · have hg := hP2 k (ad k, mkE ad cA (shC false k) (σ2 k)) (by rw [List.getElem?_set_ne (fun e => h2 e.symm), List.getElem?_append_left (by rw [hlen]; exact hk), wl_get (by exact hk)])
        have e0 : mkE (adU ad q) cA (shC true k) (σ2 k) = mkE ad cA (shC false k) (σ2 k) := by
          unfold mkE
          rw [sh_ft k l1 h2, fvs_ad _ 0 (fun q2 hq2 h22 => hadU _ (tb_refs k hk q2 hq2 h22))]
        rw [e0]
        exact hg
  have key := t1_X8_upTo_b22 (mc := 1) (ms := 130032) (p := p) (l := l) (e := e) (below := below) (Q := Q) E' hr x1 x2 σ2 c1 c2 (can_ft hσ2 h83) h H2 locs2 ls hP3 hS2 (by
    have := hL.weak (a := [some (.ref (ad 76)), some (vI x1), some (vI x2), none, none, none, none]) (w_k (w_k (w_k (w_d (w_d (w_d (w_d w_n)))))))
    rw [show adU ad q 76 = ad 76 from rfl]
    exact this)
  refine W.monoQ (fun t ht => ?_) key
  obtain ⟨o, g1, g2, ⟨⟨r, u, g3, g4, g5⟩, g6⟩, g7⟩ := ht
  exact ⟨o, g1, g2, ⟨⟨r, (u.1, u.2, true, adU ad q), g3, ⟨g4.1, g4.2.1, g4.2.2.2, fun _ => g4.2.2.1, fun z => (by cases z), hadU, fun _ => (by show s.heap.size ≤ q; rw [← hq]; exact hS.1)⟩, g5⟩, g6⟩, g7⟩
end CH
