theorem dX12_used_0 : Dc cX12_used 0 (.aload_n 0) 1 1 := ⟨by decide +kernel, rfl⟩
theorem dX12_used_1 : Dc cX12_used 1 (.iload_n 1) 1 2 := ⟨by decide +kernel, rfl⟩
theorem dX12_used_2 : Dc cX12_used 2 (.iload_n 2) 1 3 := ⟨by decide +kernel, rfl⟩
theorem dX12_used_3 : Dc cX12_used 3 (.iload_n 3) 1 4 := ⟨by decide +kernel, rfl⟩
theorem dX12_used_4 : Dc cX12_used 4 (.invokevirtual 318) 3 7 := ⟨by decide +kernel, rfl⟩
theorem djX12_used_7 : Dj cX12_used 7 (.ifCond .eq 14) 3 10 14 21 := ⟨by decide +kernel, rfl, by decide⟩
theorem dX12_used_10 : Dc cX12_used 10 (.iload 4) 2 12 := ⟨by decide +kernel, rfl⟩
theorem dX12_used_12 : Dc cX12_used 12 (.i2l) 1 13 := ⟨by decide +kernel, rfl⟩
theorem dX12_used_13 : Dc cX12_used 13 (.lconst 0) 1 14 := ⟨by decide +kernel, rfl⟩
theorem dX12_used_14 : Dc cX12_used 14 (.lconst 1) 1 15 := ⟨by decide +kernel, rfl⟩
theorem dX12_used_15 : Dc cX12_used 15 (.invokestatic 148) 3 18 := ⟨by decide +kernel, rfl⟩
theorem djX12_used_18 : Dj cX12_used 18 (.ifCond .ne 7) 3 21 7 25 := ⟨by decide +kernel, rfl, by decide⟩
theorem dX12_used_21 : Dc cX12_used 21 (.ldc2_w 362) 3 24 := ⟨by decide +kernel, rfl⟩
theorem dX12_used_24 : Dc cX12_used 24 (.lreturn) 1 25 := ⟨by decide +kernel, rfl⟩
theorem dX12_used_25 : Dc cX12_used 25 (.aload_n 0) 1 26 := ⟨by decide +kernel, rfl⟩
theorem dX12_used_26 : Dc cX12_used 26 (.invokevirtual 321) 3 29 := ⟨by decide +kernel, rfl⟩
theorem dX12_used_29 : Dc cX12_used 29 (.aload_n 0) 1 30 := ⟨by decide +kernel, rfl⟩
theorem dX12_used_30 : Dc cX12_used 30 (.iload_n 1) 1 31 := ⟨by decide +kernel, rfl⟩
theorem dX12_used_31 : Dc cX12_used 31 (.iload_n 2) 1 32 := ⟨by decide +kernel, rfl⟩
theorem dX12_used_32 : Dc cX12_used 32 (.iload_n 3) 1 33 := ⟨by decide +kernel, rfl⟩
theorem dX12_used_33 : Dc cX12_used 33 (.invokevirtual 324) 3 36 := ⟨by decide +kernel, rfl⟩
theorem djX12_used_36 : Dj cX12_used 36 (.ifCond .ne 5) 3 39 5 41 := ⟨by decide +kernel, rfl, by decide⟩
theorem dX12_used_39 : Dc cX12_used 39 (.lconst 0) 1 40 := ⟨by decide +kernel, rfl⟩
theorem dX12_used_40 : Dc cX12_used 40 (.lreturn) 1 41 := ⟨by decide +kernel, rfl⟩
theorem dX12_used_41 : Dc cX12_used 41 (.aload_n 0) 1 42 := ⟨by decide +kernel, rfl⟩
theorem dX12_used_42 : Dc cX12_used 42 (.lconst 0) 1 43 := ⟨by decide +kernel, rfl⟩
theorem dX12_used_43 : Dc cX12_used 43 (.putfield 386) 3 46 := ⟨by decide +kernel, rfl⟩
theorem dX12_used_46 : Dc cX12_used 46 (.iconst 0) 1 47 := ⟨by decide +kernel, rfl⟩
theorem dX12_used_47 : Dc cX12_used 47 (.istore 5) 2 49 := ⟨by decide +kernel, rfl⟩
theorem dX12_used_49 : Dc cX12_used 49 (.iload 5) 2 51 := ⟨by decide +kernel, rfl⟩
theorem dX12_used_51 : Dc cX12_used 51 (.sipush 768) 3 54 := ⟨by decide +kernel, rfl⟩
theorem djX12_used_54 : Dj cX12_used 54 (.if_icmp .ge 17) 3 57 17 71 := ⟨by decide +kernel, rfl, by decide⟩
theorem dX12_used_57 : Dc cX12_used 57 (.aload_n 0) 1 58 := ⟨by decide +kernel, rfl⟩
theorem dX12_used_58 : Dc cX12_used 58 (.getfield 80) 3 61 := ⟨by decide +kernel, rfl⟩
theorem dX12_used_61 : Dc cX12_used 61 (.iload 5) 2 63 := ⟨by decide +kernel, rfl⟩
theorem dX12_used_63 : Dc cX12_used 63 (.iconst 0) 1 64 := ⟨by decide +kernel, rfl⟩
theorem dX12_used_64 : Dc cX12_used 64 (.bastore) 1 65 := ⟨by decide +kernel, rfl⟩
theorem dX12_used_65 : Dc cX12_used 65 (.iinc 5 1) 3 68 := ⟨by decide +kernel, rfl⟩
theorem djX12_used_68 : Dj cX12_used 68 (.goto (-19)) 3 71 (-19) 49 := ⟨by decide +kernel, rfl, by decide⟩
theorem dX12_used_71 : Dc cX12_used 71 (.iload 4) 2 73 := ⟨by decide +kernel, rfl⟩
theorem djX12_used_73 : Dj cX12_used 73 (.ifCond .ne 15) 3 76 15 88 := ⟨by decide +kernel, rfl, by decide⟩
theorem dX12_used_76 : Dc cX12_used 76 (.aload_n 0) 1 77 := ⟨by decide +kernel, rfl⟩
theorem dX12_used_77 : Dc cX12_used 77 (.iload_n 1) 1 78 := ⟨by decide +kernel, rfl⟩
theorem dX12_used_78 : Dc cX12_used 78 (.iload_n 2) 1 79 := ⟨by decide +kernel, rfl⟩
theorem dX12_used_79 : Dc cX12_used 79 (.iload_n 3) 1 80 := ⟨by decide +kernel, rfl⟩
theorem dX12_used_80 : Dc cX12_used 80 (.invokevirtual 383) 3 83 := ⟨by decide +kernel, rfl⟩
theorem dX12_used_83 : Dc cX12_used 83 (.aload_n 0) 1 84 := ⟨by decide +kernel, rfl⟩
theorem dX12_used_84 : Dc cX12_used 84 (.getfield 386) 3 87 := ⟨by decide +kernel, rfl⟩
theorem dX12_used_87 : Dc cX12_used 87 (.lreturn) 1 88 := ⟨by decide +kernel, rfl⟩
theorem dX12_used_88 : Dc cX12_used 88 (.lconst 0) 1 89 := ⟨by decide +kernel, rfl⟩
theorem dX12_used_89 : Dc cX12_used 89 (.lstore 5) 2 91 := ⟨by decide +kernel, rfl⟩
theorem dX12_used_91 : Dc cX12_used 91 (.iconst 0) 1 92 := ⟨by decide +kernel, rfl⟩
theorem dX12_used_92 : Dc cX12_used 92 (.istore 7) 2 94 := ⟨by decide +kernel, rfl⟩
theorem dX12_used_94 : Dc cX12_used 94 (.iload 7) 2 96 := ⟨by decide +kernel, rfl⟩
theorem dX12_used_96 : Dc cX12_used 96 (.aload_n 0) 1 97 := ⟨by decide +kernel, rfl⟩
theorem dX12_used_97 : Dc cX12_used 97 (.getfield 252) 3 100 := ⟨by decide +kernel, rfl⟩
theorem djX12_used_100 : Dj cX12_used 100 (.if_icmp .ge 41) 3 103 41 141 := ⟨by decide +kernel, rfl, by decide⟩
theorem dX12_used_103 : Dc cX12_used 103 (.aload_n 0) 1 104 := ⟨by decide +kernel, rfl⟩
theorem dX12_used_104 : Dc cX12_used 104 (.aload_n 0) 1 105 := ⟨by decide +kernel, rfl⟩
theorem dX12_used_105 : Dc cX12_used 105 (.getfield 255) 3 108 := ⟨by decide +kernel, rfl⟩
theorem dX12_used_108 : Dc cX12_used 108 (.lconst 1) 1 109 := ⟨by decide +kernel, rfl⟩
theorem dX12_used_109 : Dc cX12_used 109 (.iload 7) 2 111 := ⟨by decide +kernel, rfl⟩
theorem dX12_used_111 : Dc cX12_used 111 (.lshl) 1 112 := ⟨by decide +kernel, rfl⟩
theorem dX12_used_112 : Dc cX12_used 112 (.lor) 1 113 := ⟨by decide +kernel, rfl⟩
theorem dX12_used_113 : Dc cX12_used 113 (.invokevirtual 312) 3 116 := ⟨by decide +kernel, rfl⟩
theorem dX12_used_116 : Dc cX12_used 116 (.aload_n 0) 1 117 := ⟨by decide +kernel, rfl⟩
theorem dX12_used_117 : Dc cX12_used 117 (.iload_n 1) 1 118 := ⟨by decide +kernel, rfl⟩
theorem dX12_used_118 : Dc cX12_used 118 (.iload_n 2) 1 119 := ⟨by decide +kernel, rfl⟩
theorem dX12_used_119 : Dc cX12_used 119 (.iload_n 3) 1 120 := ⟨by decide +kernel, rfl⟩
theorem dX12_used_120 : Dc cX12_used 120 (.invokevirtual 324) 3 123 := ⟨by decide +kernel, rfl⟩
theorem djX12_used_123 : Dj cX12_used 123 (.ifCond .ne 12) 3 126 12 135 := ⟨by decide +kernel, rfl, by decide⟩
theorem dX12_used_126 : Dc cX12_used 126 (.lload 5) 2 128 := ⟨by decide +kernel, rfl⟩
theorem dX12_used_128 : Dc cX12_used 128 (.lconst 1) 1 129 := ⟨by decide +kernel, rfl⟩
theorem dX12_used_129 : Dc cX12_used 129 (.iload 7) 2 131 := ⟨by decide +kernel, rfl⟩
theorem dX12_used_131 : Dc cX12_used 131 (.lshl) 1 132 := ⟨by decide +kernel, rfl⟩
theorem dX12_used_132 : Dc cX12_used 132 (.lor) 1 133 := ⟨by decide +kernel, rfl⟩
theorem dX12_used_133 : Dc cX12_used 133 (.lstore 5) 2 135 := ⟨by decide +kernel, rfl⟩
theorem dX12_used_135 : Dc cX12_used 135 (.iinc 7 1) 3 138 := ⟨by decide +kernel, rfl⟩
theorem djX12_used_138 : Dj cX12_used 138 (.goto (-44)) 3 141 (-44) 94 := ⟨by decide +kernel, rfl, by decide⟩
theorem dX12_used_141 : Dc cX12_used 141 (.lload 5) 2 143 := ⟨by decide +kernel, rfl⟩
theorem dX12_used_143 : Dc cX12_used 143 (.lreturn) 1 144 := ⟨by decide +kernel, rfl⟩
section
variable {p : Program} {l : Launch} {e : Env} {s : State} {m : MethodId} {args : Array Value} {below : List Frame} {meth : Method} {c : Code} {A0 : Nat → Prop} {D : va_G} {cA : Nat → ClassId} {ad : Nat → Nat} {Z : (Nat → Nat) × (Nat → Nat)} {Q : Int → St → Prop}
set_option maxHeartbeats 4000000 in
set_option maxRecDepth 100000 in
theorem t_X12_used_b135 (E : Ev p s m args meth c cX12_used 8 RX12 A0 D cA ad NR Z) (hr : meth.sig.returnType = (some .long)) {K94 : Int → Int → Int → Int → Int → St → Prop} (hK94 : ∀ (x1 : Int) (x2 : Int) (x3 : Int) (x5 : Int) (x7 : Int) (σ : St), C32 x1 → C32 x2 → C32 x3 → C64 x5 → C32 x7 → CanS shR NR σ → K94 x1 x2 x3 x5 x7 σ → G p l e (rmL 884 0 0) s m args below meth c 8 A0 D cA ad shR NR 0 0 (MQ below (QLc D cA ad shR NR Q A0) args s 0 0 A0) σ 94 [some (.ref (ad 0)), some (vI x1), some (vI x2), some (vI x3), none, some (vL x5), none, some (vI x7)] []) (x1 : Int) (x2 : Int) (x3 : Int) (x5 : Int) (x7 : Int) (σ : St) (c1 : C32 x1) (c2 : C32 x2) (c3 : C32 x3) (c5 : C64 x5) (c7 : C32 x7) (hσ : CanS shR NR σ) (h : wp_X12_used_b135 Q K94 x1 x2 x3 x5 x7 σ) : G p l e (rmL 884 0 0) s m args below meth c 8 A0 D cA ad shR NR 0 0 (MQ below (QLc D cA ad shR NR Q A0) args s 0 0 A0) σ 135 [some (.ref (ad 0)), some (vI x1), some (vI x2), some (vI x3), none, some (vL x5), none, some (vI x7)] [] := by
  unfold wp_X12_used_b135 at h
  refine g_iinc_7 E rfl (by decide) dX12_used_135 (fun v19 ev19 => ?_)
  replace h := h v19 ev19
  have cv19 : C32 v19 := by rw [ev19]; exact c32_w _
  refine g_goto E djX12_used_138 ?_
  exact (hK94 x1 x2 x3 x5 v19 σ c1 c2 c3 c5 cv19 hσ h).weak (w_k (w_k (w_k (w_k (w_d (w_k (w_d (w_k w_n))))))))
set_option maxHeartbeats 4000000 in
set_option maxRecDepth 100000 in
theorem t_X12_used_l94 (E : Ev p s m args meth c cX12_used 8 RX12 A0 D cA ad NR Z) (hr : meth.sig.returnType = (some .long)) : ∀ (n : Nat) (x1 : Int) (x2 : Int) (x3 : Int) (x5 : Int) (x7 : Int) (σ : St), C32 x1 → C32 x2 → C32 x3 → C64 x5 → C32 x7 → CanS shR NR σ → wp_X12_used_l94 Q n x1 x2 x3 x5 x7 σ → G p l e (rmL 884 0 0) s m args below meth c 8 A0 D cA ad shR NR 0 0 (MQ below (QLc D cA ad shR NR Q A0) args s 0 0 A0) σ 94 [some (.ref (ad 0)), some (vI x1), some (vI x2), some (vI x3), none, some (vL x5), none, some (vI x7)] [] := by
  intro n
  induction n with
  | zero => intro _ _ _ _ _ _ _ _ _ _ _ _ h; exact h.elim
  | succ n ih =>
    intro x1 x2 x3 x5 x7 σ c1 c2 c3 c5 c7 hσ h
    unfold wp_X12_used_l94 at h
    refine g_iload_7 E dX12_used_94 ?_
    refine g_aload_0 E dX12_used_96 ?_
    refine g_getI E fl_RX12_252 kR_0 sR_0 rfl dX12_used_97 ?_
    refine g_icmp_ge E c7 (fR_0_1 hσ) djX12_used_100 (fun hc => ?_) (fun hc => ?_)
    · replace h := h.1 hc
      refine g_lload_5 E dX12_used_141 ?_
      exact g_lret E hr c5 h hσ dX12_used_143
    · replace h := h.2 hc
      refine g_aload_0 E dX12_used_103 ?_
      refine g_aload_0 E dX12_used_104 ?_
      refine g_getL E fl_RX12_255 kR_0 sR_0 rfl dX12_used_105 ?_
      refine g_lconst (n := 1) E (by decide) dX12_used_108 ?_
      refine g_iload_7 E dX12_used_109 ?_
      refine g_lshl E dX12_used_111 ?_
      refine g_lor E dX12_used_112 ?_
      refine g_callvV E my_X12_laysLeast mi_X12_laysLeast msel_X12_laysLeast ml_RX12_312 (rm_ok (by decide) (by decide)) ⟨Nat.zero_le _, Nat.zero_le _⟩ kR_0 sR_0 rfl (m_X12_laysLeast E.2.2.1 (c64_t _) hσ h) rfl rfl (Nat.le_of_ble_eq_true rfl) dX12_used_113 (fun σ15 r14 hσ15 h => ?_)
      refine g_aload_0 E dX12_used_116 ?_
      refine g_iload_1 E dX12_used_117 ?_
      refine g_iload_2 E dX12_used_118 ?_
      refine g_iload_3 E dX12_used_119 ?_
      refine g_callvI E my_X12_has mi_X12_has msel_X12_has ml_RX12_324 (rm_ok (by decide) (by decide)) ⟨Nat.zero_le _, Nat.zero_le _⟩ kR_0 sR_0 rfl (m_X12_has E.2.2.1 c1 c2 c3 hσ15 h) rfl rfl (Nat.le_of_ble_eq_true rfl) dX12_used_120 (fun r16 σ17 cr16 hσ17 h => ?_)
      refine g_if_ne E cr16 djX12_used_123 (fun hc => ?_) (fun hc => ?_)
      · replace h := h.1 hc
        exact (t_X12_used_b135 E hr ih x1 x2 x3 x5 x7 σ17 c1 c2 c3 c5 c7 hσ17 h).weak (w_k (w_k (w_k (w_k (w_d (w_k (w_d (w_k w_n))))))))
      · replace h := h.2 hc
        refine g_lload_5 E dX12_used_126 ?_
        refine g_lconst (n := 1) E (by decide) dX12_used_128 ?_
        refine g_iload_7 E dX12_used_129 ?_
        refine g_lshl E dX12_used_131 ?_
        refine g_lor E dX12_used_132 ?_
        refine g_nmL (fun v18 ev18 => ?_)
        replace h := h v18 ev18
        have cv18 : C64 v18 := by rw [ev18]; exact (c64_t _)
        refine g_lstore_5 E rfl (by decide) dX12_used_133 ?_
        exact (t_X12_used_b135 E hr ih x1 x2 x3 v18 x7 σ17 c1 c2 c3 cv18 c7 hσ17 h).weak (w_k (w_k (w_k (w_k (w_d (w_k (w_d (w_k w_n))))))))
set_option maxHeartbeats 4000000 in
set_option maxRecDepth 100000 in
theorem t_X12_used_l49 (E : Ev p s m args meth c cX12_used 8 RX12 A0 D cA ad NR Z) (hr : meth.sig.returnType = (some .long)) : ∀ (n : Nat) (x1 : Int) (x2 : Int) (x3 : Int) (x4 : Int) (x5 : Int) (σ : St), C32 x1 → C32 x2 → C32 x3 → C32 x4 → C32 x5 → CanS shR NR σ → wp_X12_used_l49 Q n x1 x2 x3 x4 x5 σ → G p l e (rmL 884 0 0) s m args below meth c 8 A0 D cA ad shR NR 0 0 (MQ below (QLc D cA ad shR NR Q A0) args s 0 0 A0) σ 49 [some (.ref (ad 0)), some (vI x1), some (vI x2), some (vI x3), some (vI x4), some (vI x5), none, none] [] := by
  intro n
  induction n with
  | zero => intro _ _ _ _ _ _ _ _ _ _ _ _ h; exact h.elim
  | succ n ih =>
    intro x1 x2 x3 x4 x5 σ c1 c2 c3 c4 c5 hσ h
    unfold wp_X12_used_l49 at h
    refine g_iload_5 E dX12_used_49 ?_
    refine g_sipush E (by decide) dX12_used_51 ?_
    refine g_icmp_ge E c5 cl_768 djX12_used_54 (fun hc => ?_) (fun hc => ?_)
    · replace h := h.1 hc
      refine g_iload_4 E dX12_used_71 ?_
      refine g_if_ne E c4 djX12_used_73 (fun hc => ?_) (fun hc => ?_)
      · replace h := h.1 hc
        refine g_lconst (n := 0) E (by decide) dX12_used_88 ?_
        refine g_lstore_5 E rfl (by decide) dX12_used_89 ?_
        refine g_iconst E dX12_used_91 ?_
        refine g_istore_7 E rfl (by decide) dX12_used_92 ?_
        exact (t_X12_used_l94 E hr bigN x1 x2 x3 0 0 σ c1 c2 c3 cL_0 cl_0 hσ h).weak (w_k (w_k (w_k (w_k (w_d (w_k (w_d (w_k w_n))))))))
      · replace h := h.2 hc
        refine g_aload_0 E dX12_used_76 ?_
        refine g_iload_1 E dX12_used_77 ?_
        refine g_iload_2 E dX12_used_78 ?_
        refine g_iload_3 E dX12_used_79 ?_
        refine g_callvV E my_X12_meets mi_X12_meets msel_X12_meets ml_RX12_383 (rm_ok (by decide) (by decide)) ⟨Nat.zero_le _, Nat.zero_le _⟩ kR_0 sR_0 rfl (m_X12_meets 440 E.2.2.1 c1 c2 c3 hσ h) rfl rfl (Nat.le_of_ble_eq_true rfl) dX12_used_80 (fun σ11 r10 hσ11 h => ?_)
        refine g_aload_0 E dX12_used_83 ?_
        refine g_getL E fl_RX12_386 kR_0 sR_0 rfl dX12_used_84 ?_
        exact g_lret E hr (fR_0_36 hσ11) h hσ11 dX12_used_87
    · replace h := h.2 hc
      refine g_aload_0 E dX12_used_57 ?_
      refine g_getR E fl_RX12_80 kR_0 sR_0 rfl dX12_used_58 ?_
      refine g_iload_5 E dX12_used_61 ?_
      refine g_iconst E dX12_used_63 ?_
      refine g_zast E kR_21 sR_21 (by decide) h.1 dX12_used_64 (g_nmS (fun σ12 eσ12 => ?_))
      replace h := h.2 σ12 eσ12
      have hσ12 : CanS shR NR σ12 := by rw [eσ12]; exact wR_21 hσ (c32_t _)
      refine g_iinc_5 E rfl (by decide) dX12_used_65 (fun v13 ev13 => ?_)
      replace h := h v13 ev13
      have cv13 : C32 v13 := by rw [ev13]; exact c32_w _
      refine g_goto E djX12_used_68 ?_
      exact (ih x1 x2 x3 x4 v13 σ12 c1 c2 c3 c4 cv13 hσ12 h).weak (w_k (w_k (w_k (w_k (w_k (w_k (w_d (w_d w_n))))))))
set_option maxHeartbeats 4000000 in
set_option maxRecDepth 100000 in
theorem t_X12_used (E : Ev p s m args meth c cX12_used 8 RX12 A0 D cA ad NR Z) (hr : meth.sig.returnType = (some .long)) (x1 : Int) (x2 : Int) (x3 : Int) (x4 : Int) (σ : St) (c1 : C32 x1) (c2 : C32 x2) (c3 : C32 x3) (c4 : C32 x4) (hσ : CanS shR NR σ) (h : wp_X12_used x1 x2 x3 x4 σ Q) : G p l e (rmL 884 0 0) s m args below meth c 8 A0 D cA ad shR NR 0 0 (MQ below (QLc D cA ad shR NR Q A0) args s 0 0 A0) σ 0 [some (.ref (ad 0)), some (vI x1), some (vI x2), some (vI x3), some (vI x4), none, none, none] [] := by
  unfold wp_X12_used at h
  refine g_aload_0 E dX12_used_0 ?_
  refine g_iload_1 E dX12_used_1 ?_
  refine g_iload_2 E dX12_used_2 ?_
  refine g_iload_3 E dX12_used_3 ?_
  refine g_callvI E my_X12_isItem mi_X12_isItem msel_X12_isItem ml_RX12_318 (rm_ok (by decide) (by decide)) ⟨Nat.zero_le _, Nat.zero_le _⟩ kR_0 sR_0 rfl (m_X12_isItem E.2.2.1 c1 c2 c3 hσ h) rfl rfl (Nat.le_of_ble_eq_true rfl) dX12_used_4 (fun r1 σ2 cr1 hσ2 h => ?_)
  refine g_if_eq E cr1 djX12_used_7 (fun hc => ?_) (fun hc => ?_)
  · replace h := h.1 hc
    refine g_ldc2 (n := (-2)) E wc_RX12_362 dX12_used_21 ?_
    exact g_lret E hr cL_m2 h hσ2 dX12_used_24
  · replace h := h.2 hc
    refine g_iload_4 E dX12_used_10 ?_
    refine g_i2l E c4 dX12_used_12 ?_
    refine g_lconst (n := 0) E (by decide) dX12_used_13 ?_
    refine g_lconst (n := 1) E (by decide) dX12_used_14 ?_
    refine g_callsI E my_X12_in ms_X12_in ml_RX12_148 (rm_ok (by decide) (by decide)) ⟨Nat.zero_le _, Nat.zero_le _⟩ (m_X12_in E.2.2.1 (c32_of_c64 c4) cL_0 cL_1 hσ2 h) rfl rfl (Nat.le_of_ble_eq_true rfl) dX12_used_15 (fun r3 σ4 cr3 hσ4 h => ?_)
    refine g_if_ne E cr3 djX12_used_18 (fun hc => ?_) (fun hc => ?_)
    · replace h := h.1 hc
      refine g_aload_0 E dX12_used_25 ?_
      refine g_callvV E my_X12_looks mi_X12_looks msel_X12_looks ml_RX12_321 (rm_ok (by decide) (by decide)) ⟨Nat.zero_le _, Nat.zero_le _⟩ kR_0 sR_0 rfl (m_X12_looks E.2.2.1 hσ4 h) rfl rfl (Nat.le_of_ble_eq_true rfl) dX12_used_26 (fun σ6 r5 hσ6 h => ?_)
      refine g_aload_0 E dX12_used_29 ?_
      refine g_iload_1 E dX12_used_30 ?_
      refine g_iload_2 E dX12_used_31 ?_
      refine g_iload_3 E dX12_used_32 ?_
      refine g_callvI E my_X12_has mi_X12_has msel_X12_has ml_RX12_324 (rm_ok (by decide) (by decide)) ⟨Nat.zero_le _, Nat.zero_le _⟩ kR_0 sR_0 rfl (m_X12_has E.2.2.1 c1 c2 c3 hσ6 h) rfl rfl (Nat.le_of_ble_eq_true rfl) dX12_used_33 (fun r7 σ8 cr7 hσ8 h => ?_)
      refine g_if_ne E cr7 djX12_used_36 (fun hc => ?_) (fun hc => ?_)
      · replace h := h.1 hc
        refine g_aload_0 E dX12_used_41 ?_
        refine g_lconst (n := 0) E (by decide) dX12_used_42 ?_
        refine g_putL E fl_RX12_386 rfl rfl kR_0 sR_0 rfl dX12_used_43 (g_nmS (fun σ9 eσ9 => ?_))
        replace h := h σ9 eσ9
        have hσ9 : CanS shR NR σ9 := by rw [eσ9]; exact uR_0_36 hσ8 cL_0
        refine g_iconst E dX12_used_46 ?_
        refine g_istore_5 E rfl (by decide) dX12_used_47 ?_
        exact (t_X12_used_l49 E hr bigN x1 x2 x3 x4 0 σ9 c1 c2 c3 c4 cl_0 hσ9 h).weak (w_k (w_k (w_k (w_k (w_k (w_k (w_d (w_d w_n))))))))
      · replace h := h.2 hc
        refine g_lconst (n := 0) E (by decide) dX12_used_39 ?_
        exact g_lret E hr cL_0 h hσ8 dX12_used_40
    · replace h := h.2 hc
      refine g_ldc2 (n := (-2)) E wc_RX12_362 dX12_used_21 ?_
      exact g_lret E hr cL_m2 h hσ4 dX12_used_24
end
theorem m_X12_used {Z : (Nat → Nat) × (Nat → Nat)} {l : Launch} {D : va_G} {cA : Nat → ClassId} {ad : Nat → Nat} {x1 x2 x3 x4 : Int} {σ : St} {Q : Int → St → Prop} (hA : AdOk NR ad) (c1 : C32 x1) (c2 : C32 x2) (c3 : C32 x3) (c4 : C32 x4) (hσ : CanS shR NR σ) (h : wp_X12_used x1 x2 x3 x4 σ Q) : KtL Z l D cA ad shR NR yX12_used cX12_used 8 (some .long) 884 [.ref (ad 0), vI x1, vI x2, vI x3, vI x4] σ Q :=
  KtL.of my_X12_used hA [some (.ref (ad 0)), some (vI x1), some (vI x2), some (vI x3), some (vI x4), none, none, none] (Nat.le_of_ble_eq_true rfl) rfl (fun p e s m args below meth c A0 E hr => t_X12_used E hr x1 x2 x3 x4 σ c1 c2 c3 c4 hσ h)
theorem dX12_span_0 : Dc cX12_span 0 (.iload_n 0) 1 1 := ⟨by decide +kernel, rfl⟩
theorem dX12_span_1 : Dc cX12_span 1 (.bipush 8) 2 3 := ⟨by decide +kernel, rfl⟩
theorem dX12_span_3 : Dc cX12_span 3 (.imul) 1 4 := ⟨by decide +kernel, rfl⟩
theorem dX12_span_4 : Dc cX12_span 4 (.iload_n 1) 1 5 := ⟨by decide +kernel, rfl⟩
theorem dX12_span_5 : Dc cX12_span 5 (.iadd) 1 6 := ⟨by decide +kernel, rfl⟩
theorem dX12_span_6 : Dc cX12_span 6 (.iconst 1) 1 7 := ⟨by decide +kernel, rfl⟩
theorem dX12_span_7 : Dc cX12_span 7 (.isub) 1 8 := ⟨by decide +kernel, rfl⟩
theorem dX12_span_8 : Dc cX12_span 8 (.ireturn) 1 9 := ⟨by decide +kernel, rfl⟩
section
variable {p : Program} {l : Launch} {e : Env} {s : State} {m : MethodId} {args : Array Value} {below : List Frame} {meth : Method} {c : Code} {A0 : Nat → Prop} {D : va_G} {cA : Nat → ClassId} {ad : Nat → Nat} {Z : (Nat → Nat) × (Nat → Nat)} {Q : Int → St → Prop}
set_option maxHeartbeats 4000000 in
set_option maxRecDepth 100000 in
theorem t_X12_span (E : Ev p s m args meth c cX12_span 2 RX12 A0 D cA ad NR Z) (hr : meth.sig.returnType = (some .int)) (x0 : Int) (x1 : Int) (σ : St) (c0 : C32 x0) (c1 : C32 x1) (hσ : CanS shR NR σ) (h : wp_X12_span x0 x1 σ Q) : G p l e (rmL 1 0 0) s m args below meth c 2 A0 D cA ad shR NR 0 0 (MQ below (QIc D cA ad shR NR Q A0) args s 0 0 A0) σ 0 [some (vI x0), some (vI x1)] [] := by
  unfold wp_X12_span at h
  refine g_iload_0 E dX12_span_0 ?_
  refine g_bipush E (by decide) dX12_span_1 ?_
  refine g_imul E dX12_span_3 ?_
  refine g_iload_1 E dX12_span_4 ?_
  refine g_iadd E dX12_span_5 ?_
  refine g_iconst E dX12_span_6 ?_
  refine g_isub E dX12_span_7 ?_
  exact g_iret E hr (c32_w _) h hσ dX12_span_8
end
theorem m_X12_span {Z : (Nat → Nat) × (Nat → Nat)} {l : Launch} {D : va_G} {cA : Nat → ClassId} {ad : Nat → Nat} {x0 x1 : Int} {σ : St} {Q : Int → St → Prop} (hA : AdOk NR ad) (c0 : C32 x0) (c1 : C32 x1) (hσ : CanS shR NR σ) (h : wp_X12_span x0 x1 σ Q) : KtI Z l D cA ad shR NR yX12_span cX12_span 2 (some .int) 1 [vI x0, vI x1] σ Q :=
  KtI.of my_X12_span hA [some (vI x0), some (vI x1)] (Nat.le_of_ble_eq_true rfl) rfl (fun p e s m args below meth c A0 E hr => t_X12_span E hr x0 x1 σ c0 c1 hσ h)
theorem dX12_rowOf_0 : Dc cX12_rowOf 0 (.iconst 0) 1 1 := ⟨by decide +kernel, rfl⟩
theorem dX12_rowOf_1 : Dc cX12_rowOf 1 (.istore_n 2) 1 2 := ⟨by decide +kernel, rfl⟩
theorem dX12_rowOf_2 : Dc cX12_rowOf 2 (.aload_n 0) 1 3 := ⟨by decide +kernel, rfl⟩
theorem dX12_rowOf_3 : Dc cX12_rowOf 3 (.getfield 92) 3 6 := ⟨by decide +kernel, rfl⟩
theorem dX12_rowOf_6 : Dc cX12_rowOf 6 (.iload_n 2) 1 7 := ⟨by decide +kernel, rfl⟩
theorem dX12_rowOf_7 : Dc cX12_rowOf 7 (.iaload) 1 8 := ⟨by decide +kernel, rfl⟩
theorem dX12_rowOf_8 : Dc cX12_rowOf 8 (.iload_n 1) 1 9 := ⟨by decide +kernel, rfl⟩
theorem djX12_rowOf_9 : Dj cX12_rowOf 9 (.if_icmp .eq 9) 3 12 9 18 := ⟨by decide +kernel, rfl, by decide⟩
theorem dX12_rowOf_12 : Dc cX12_rowOf 12 (.iinc 2 1) 3 15 := ⟨by decide +kernel, rfl⟩
theorem djX12_rowOf_15 : Dj cX12_rowOf 15 (.goto (-13)) 3 18 (-13) 2 := ⟨by decide +kernel, rfl, by decide⟩
theorem dX12_rowOf_18 : Dc cX12_rowOf 18 (.iload_n 2) 1 19 := ⟨by decide +kernel, rfl⟩
theorem dX12_rowOf_19 : Dc cX12_rowOf 19 (.ireturn) 1 20 := ⟨by decide +kernel, rfl⟩
section
variable {p : Program} {l : Launch} {e : Env} {s : State} {m : MethodId} {args : Array Value} {below : List Frame} {meth : Method} {c : Code} {A0 : Nat → Prop} {D : va_G} {cA : Nat → ClassId} {ad : Nat → Nat} {Z : (Nat → Nat) × (Nat → Nat)} {Q : Int → St → Prop}
set_option maxHeartbeats 4000000 in
set_option maxRecDepth 100000 in
theorem t_X12_rowOf_l2 (E : Ev p s m args meth c cX12_rowOf 3 RX12 A0 D cA ad NR Z) (hr : meth.sig.returnType = (some .int)) : ∀ (n : Nat) (x1 : Int) (x2 : Int) (σ : St), C32 x1 → C32 x2 → CanS shR NR σ → wp_X12_rowOf_l2 Q n x1 x2 σ → G p l e (rmL 1 0 0) s m args below meth c 3 A0 D cA ad shR NR 0 0 (MQ below (QIc D cA ad shR NR Q A0) args s 0 0 A0) σ 2 [some (.ref (ad 0)), some (vI x1), some (vI x2)] [] := by
  intro n
  induction n with
  | zero => intro _ _ _ _ _ _ h; exact h.elim
  | succ n ih =>
    intro x1 x2 σ c1 c2 hσ h
    unfold wp_X12_rowOf_l2 at h
    refine g_aload_0 E dX12_rowOf_2 ?_
    refine g_getR E fl_RX12_92 kR_0 sR_0 rfl dX12_rowOf_3 ?_
    refine g_iload_2 E dX12_rowOf_6 ?_
    refine g_iald E kR_25 sR_25 (by decide) h.1 dX12_rowOf_7 ?_
    replace h := h.2
    refine g_iload_1 E dX12_rowOf_8 ?_
    refine g_icmp_eq E (aR_25 hσ _) c1 djX12_rowOf_9 (fun hc => ?_) (fun hc => ?_)
    · replace h := h.1 hc
      refine g_iload_2 E dX12_rowOf_18 ?_
      exact g_iret E hr c2 h hσ dX12_rowOf_19
    · replace h := h.2 hc
      refine g_iinc_2 E rfl (by decide) dX12_rowOf_12 (fun v1 ev1 => ?_)
      replace h := h v1 ev1
      have cv1 : C32 v1 := by rw [ev1]; exact c32_w _
      refine g_goto E djX12_rowOf_15 ?_
      exact (ih x1 v1 σ c1 cv1 hσ h).weak (w_k (w_k (w_k w_n)))
set_option maxHeartbeats 4000000 in
set_option maxRecDepth 100000 in
theorem t_X12_rowOf (E : Ev p s m args meth c cX12_rowOf 3 RX12 A0 D cA ad NR Z) (hr : meth.sig.returnType = (some .int)) (x1 : Int) (σ : St) (c1 : C32 x1) (hσ : CanS shR NR σ) (h : wp_X12_rowOf x1 σ Q) : G p l e (rmL 1 0 0) s m args below meth c 3 A0 D cA ad shR NR 0 0 (MQ below (QIc D cA ad shR NR Q A0) args s 0 0 A0) σ 0 [some (.ref (ad 0)), some (vI x1), none] [] := by
  unfold wp_X12_rowOf at h
  refine g_iconst E dX12_rowOf_0 ?_
  refine g_istore_2 E rfl (by decide) dX12_rowOf_1 ?_
  exact (t_X12_rowOf_l2 E hr bigN x1 0 σ c1 cl_0 hσ h).weak (w_k (w_k (w_k w_n)))
end
theorem m_X12_rowOf {Z : (Nat → Nat) × (Nat → Nat)} {l : Launch} {D : va_G} {cA : Nat → ClassId} {ad : Nat → Nat} {x1 : Int} {σ : St} {Q : Int → St → Prop} (hA : AdOk NR ad) (c1 : C32 x1) (hσ : CanS shR NR σ) (h : wp_X12_rowOf x1 σ Q) : KtI Z l D cA ad shR NR yX12_rowOf cX12_rowOf 3 (some .int) 1 [.ref (ad 0), vI x1] σ Q :=
  KtI.of my_X12_rowOf hA [some (.ref (ad 0)), some (vI x1), none] (Nat.le_of_ble_eq_true rfl) rfl (fun p e s m args below meth c A0 E hr => t_X12_rowOf E hr x1 σ c1 hσ h)
theorem dX12_failsPart_0 : Dc cX12_failsPart 0 (.iload_n 1) 1 1 := ⟨by decide +kernel, rfl⟩
theorem dX12_failsPart_1 : Dc cX12_failsPart 1 (.bipush 100) 2 3 := ⟨by decide +kernel, rfl⟩
theorem djX12_failsPart_3 : Dj cX12_failsPart 3 (.if_icmp .ge 20) 3 6 20 23 := ⟨by decide +kernel, rfl, by decide⟩
theorem dX12_failsPart_6 : Dc cX12_failsPart 6 (.aload_n 0) 1 7 := ⟨by decide +kernel, rfl⟩
theorem dX12_failsPart_7 : Dc cX12_failsPart 7 (.getfield 86) 3 10 := ⟨by decide +kernel, rfl⟩
theorem dX12_failsPart_10 : Dc cX12_failsPart 10 (.iload_n 2) 1 11 := ⟨by decide +kernel, rfl⟩
theorem dX12_failsPart_11 : Dc cX12_failsPart 11 (.iload_n 3) 1 12 := ⟨by decide +kernel, rfl⟩
theorem dX12_failsPart_12 : Dc cX12_failsPart 12 (.invokestatic 394) 3 15 := ⟨by decide +kernel, rfl⟩
theorem dX12_failsPart_15 : Dc cX12_failsPart 15 (.baload) 1 16 := ⟨by decide +kernel, rfl⟩
theorem djX12_failsPart_16 : Dj cX12_failsPart 16 (.ifCond .eq 7) 3 19 7 23 := ⟨by decide +kernel, rfl, by decide⟩
theorem dX12_failsPart_19 : Dc cX12_failsPart 19 (.iconst 1) 1 20 := ⟨by decide +kernel, rfl⟩
theorem djX12_failsPart_20 : Dj cX12_failsPart 20 (.goto 4) 3 23 4 24 := ⟨by decide +kernel, rfl, by decide⟩
theorem dX12_failsPart_23 : Dc cX12_failsPart 23 (.iconst 0) 1 24 := ⟨by decide +kernel, rfl⟩
theorem dX12_failsPart_24 : Dc cX12_failsPart 24 (.ireturn) 1 25 := ⟨by decide +kernel, rfl⟩
section
variable {p : Program} {l : Launch} {e : Env} {s : State} {m : MethodId} {args : Array Value} {below : List Frame} {meth : Method} {c : Code} {A0 : Nat → Prop} {D : va_G} {cA : Nat → ClassId} {ad : Nat → Nat} {Z : (Nat → Nat) × (Nat → Nat)} {Q : Int → St → Prop}
set_option maxHeartbeats 4000000 in
set_option maxRecDepth 100000 in
theorem t_X12_failsPart_b23 (E : Ev p s m args meth c cX12_failsPart 4 RX12 A0 D cA ad NR Z) (hr : meth.sig.returnType = (some .boolean)) (σ : St) (hσ : CanS shR NR σ) (h : wp_X12_failsPart_b23 Q  σ) : G p l e (rmL 2 0 0) s m args below meth c 4 A0 D cA ad shR NR 0 0 (MQ below (QIc D cA ad shR NR Q A0) args s 0 0 A0) σ 23 [none, none, none, none] [] := by
  unfold wp_X12_failsPart_b23 at h
  refine g_iconst E dX12_failsPart_23 ?_
  exact g_zret E hr (Or.inl rfl) h hσ dX12_failsPart_24
set_option maxHeartbeats 4000000 in
set_option maxRecDepth 100000 in
theorem t_X12_failsPart (E : Ev p s m args meth c cX12_failsPart 4 RX12 A0 D cA ad NR Z) (hr : meth.sig.returnType = (some .boolean)) (x1 : Int) (x2 : Int) (x3 : Int) (σ : St) (c1 : C32 x1) (c2 : C32 x2) (c3 : C32 x3) (hσ : CanS shR NR σ) (h : wp_X12_failsPart x1 x2 x3 σ Q) : G p l e (rmL 2 0 0) s m args below meth c 4 A0 D cA ad shR NR 0 0 (MQ below (QIc D cA ad shR NR Q A0) args s 0 0 A0) σ 0 [some (.ref (ad 0)), some (vI x1), some (vI x2), some (vI x3)] [] := by
  unfold wp_X12_failsPart at h
  refine g_iload_1 E dX12_failsPart_0 ?_
  refine g_bipush E (by decide) dX12_failsPart_1 ?_
  refine g_icmp_ge E c1 cl_100 djX12_failsPart_3 (fun hc => ?_) (fun hc => ?_)
  · replace h := h.1 hc
    exact (t_X12_failsPart_b23 E hr σ hσ h).weak (w_d (w_d (w_d (w_d w_n))))
  · replace h := h.2 hc
    refine g_aload_0 E dX12_failsPart_6 ?_
    refine g_getR E fl_RX12_86 kR_0 sR_0 rfl dX12_failsPart_7 ?_
    refine g_iload_2 E dX12_failsPart_10 ?_
    refine g_iload_3 E dX12_failsPart_11 ?_
    refine g_callsI E my_X12_span ms_X12_span ml_RX12_394 (rm_ok (by decide) (by decide)) ⟨Nat.zero_le _, Nat.zero_le _⟩ (m_X12_span E.2.2.1 c2 c3 hσ h) rfl rfl (Nat.le_of_ble_eq_true rfl) dX12_failsPart_12 (fun r1 σ2 cr1 hσ2 h => ?_)
    refine g_zald E kR_23 sR_23 (by decide) h.1 dX12_failsPart_15 ?_
    replace h := h.2
    refine g_if_eq E (aR_23 hσ2 _) djX12_failsPart_16 (fun hc => ?_) (fun hc => ?_)
    · replace h := h.1 hc
      exact (t_X12_failsPart_b23 E hr σ2 hσ2 h).weak (w_d (w_d (w_d (w_d w_n))))
    · replace h := h.2 hc
      refine g_iconst E dX12_failsPart_19 ?_
      refine g_goto E djX12_failsPart_20 ?_
      exact g_zret E hr (Or.inr rfl) h hσ2 dX12_failsPart_24
end
theorem m_X12_failsPart {Z : (Nat → Nat) × (Nat → Nat)} {l : Launch} {D : va_G} {cA : Nat → ClassId} {ad : Nat → Nat} {x1 x2 x3 : Int} {σ : St} {Q : Int → St → Prop} (hA : AdOk NR ad) (c1 : C32 x1) (c2 : C32 x2) (c3 : C32 x3) (hσ : CanS shR NR σ) (h : wp_X12_failsPart x1 x2 x3 σ Q) : KtI Z l D cA ad shR NR yX12_failsPart cX12_failsPart 4 (some .boolean) 2 [.ref (ad 0), vI x1, vI x2, vI x3] σ Q :=
  KtI.of my_X12_failsPart hA [some (.ref (ad 0)), some (vI x1), some (vI x2), some (vI x3)] (Nat.le_of_ble_eq_true rfl) rfl (fun p e s m args below meth c A0 E hr => t_X12_failsPart E hr x1 x2 x3 σ c1 c2 c3 hσ h)
theorem dX12_sumPart_0 : Dc cX12_sumPart 0 (.iload_n 1) 1 1 := ⟨by decide +kernel, rfl⟩
theorem dX12_sumPart_1 : Dc cX12_sumPart 1 (.bipush 100) 2 3 := ⟨by decide +kernel, rfl⟩
theorem djX12_sumPart_3 : Dj cX12_sumPart 3 (.if_icmp .lt 7) 3 6 7 10 := ⟨by decide +kernel, rfl, by decide⟩
theorem dX12_sumPart_6 : Dc cX12_sumPart 6 (.lconst 1) 1 7 := ⟨by decide +kernel, rfl⟩
theorem djX12_sumPart_7 : Dj cX12_sumPart 7 (.goto 14) 3 10 14 21 := ⟨by decide +kernel, rfl, by decide⟩
theorem dX12_sumPart_10 : Dc cX12_sumPart 10 (.aload_n 0) 1 11 := ⟨by decide +kernel, rfl⟩
theorem dX12_sumPart_11 : Dc cX12_sumPart 11 (.getfield 83) 3 14 := ⟨by decide +kernel, rfl⟩
theorem dX12_sumPart_14 : Dc cX12_sumPart 14 (.iload_n 1) 1 15 := ⟨by decide +kernel, rfl⟩
theorem dX12_sumPart_15 : Dc cX12_sumPart 15 (.iload_n 2) 1 16 := ⟨by decide +kernel, rfl⟩
theorem dX12_sumPart_16 : Dc cX12_sumPart 16 (.iload_n 3) 1 17 := ⟨by decide +kernel, rfl⟩
theorem dX12_sumPart_17 : Dc cX12_sumPart 17 (.invokestatic 282) 3 20 := ⟨by decide +kernel, rfl⟩
theorem dX12_sumPart_20 : Dc cX12_sumPart 20 (.laload) 1 21 := ⟨by decide +kernel, rfl⟩
theorem dX12_sumPart_21 : Dc cX12_sumPart 21 (.lreturn) 1 22 := ⟨by decide +kernel, rfl⟩
section
variable {p : Program} {l : Launch} {e : Env} {s : State} {m : MethodId} {args : Array Value} {below : List Frame} {meth : Method} {c : Code} {A0 : Nat → Prop} {D : va_G} {cA : Nat → ClassId} {ad : Nat → Nat} {Z : (Nat → Nat) × (Nat → Nat)} {Q : Int → St → Prop}
set_option maxHeartbeats 4000000 in
set_option maxRecDepth 100000 in
theorem t_X12_sumPart (E : Ev p s m args meth c cX12_sumPart 4 RX12 A0 D cA ad NR Z) (hr : meth.sig.returnType = (some .long)) (x1 : Int) (x2 : Int) (x3 : Int) (σ : St) (c1 : C32 x1) (c2 : C32 x2) (c3 : C32 x3) (hσ : CanS shR NR σ) (h : wp_X12_sumPart x1 x2 x3 σ Q) : G p l e (rmL 2 0 0) s m args below meth c 4 A0 D cA ad shR NR 0 0 (MQ below (QLc D cA ad shR NR Q A0) args s 0 0 A0) σ 0 [some (.ref (ad 0)), some (vI x1), some (vI x2), some (vI x3)] [] := by
  unfold wp_X12_sumPart at h
  refine g_iload_1 E dX12_sumPart_0 ?_
  refine g_bipush E (by decide) dX12_sumPart_1 ?_
  refine g_icmp_lt E c1 cl_100 djX12_sumPart_3 (fun hc => ?_) (fun hc => ?_)
  · replace h := h.1 hc
    refine g_aload_0 E dX12_sumPart_10 ?_
    refine g_getR E fl_RX12_83 kR_0 sR_0 rfl dX12_sumPart_11 ?_
    refine g_iload_1 E dX12_sumPart_14 ?_
    refine g_iload_2 E dX12_sumPart_15 ?_
    refine g_iload_3 E dX12_sumPart_16 ?_
    refine g_callsI E my_X12_item ms_X12_item ml_RX12_282 (rm_ok (by decide) (by decide)) ⟨Nat.zero_le _, Nat.zero_le _⟩ (m_X12_item E.2.2.1 c1 c2 c3 hσ h) rfl rfl (Nat.le_of_ble_eq_true rfl) dX12_sumPart_17 (fun r1 σ2 cr1 hσ2 h => ?_)
    refine g_lald E kR_22 sR_22 (by decide) h.1 dX12_sumPart_20 ?_
    replace h := h.2
    exact g_lret E hr (aR_22 hσ2 _) h hσ2 dX12_sumPart_21
  · replace h := h.2 hc
    refine g_lconst (n := 1) E (by decide) dX12_sumPart_6 ?_
    refine g_goto E djX12_sumPart_7 ?_
    exact g_lret E hr cL_1 h hσ dX12_sumPart_21
end
theorem m_X12_sumPart {Z : (Nat → Nat) × (Nat → Nat)} {l : Launch} {D : va_G} {cA : Nat → ClassId} {ad : Nat → Nat} {x1 x2 x3 : Int} {σ : St} {Q : Int → St → Prop} (hA : AdOk NR ad) (c1 : C32 x1) (c2 : C32 x2) (c3 : C32 x3) (hσ : CanS shR NR σ) (h : wp_X12_sumPart x1 x2 x3 σ Q) : KtL Z l D cA ad shR NR yX12_sumPart cX12_sumPart 4 (some .long) 2 [.ref (ad 0), vI x1, vI x2, vI x3] σ Q :=
  KtL.of my_X12_sumPart hA [some (.ref (ad 0)), some (vI x1), some (vI x2), some (vI x3)] (Nat.le_of_ble_eq_true rfl) rfl (fun p e s m args below meth c A0 E hr => t_X12_sumPart E hr x1 x2 x3 σ c1 c2 c3 hσ h)
theorem dX12_brings_0 : Dc cX12_brings 0 (.bipush 13) 2 2 := ⟨by decide +kernel, rfl⟩
theorem dX12_brings_2 : Dc cX12_brings 2 (.aload_n 0) 1 3 := ⟨by decide +kernel, rfl⟩
theorem dX12_brings_3 : Dc cX12_brings 3 (.aload_n 0) 1 4 := ⟨by decide +kernel, rfl⟩
theorem dX12_brings_4 : Dc cX12_brings 4 (.getfield 13) 3 7 := ⟨by decide +kernel, rfl⟩
theorem dX12_brings_7 : Dc cX12_brings 7 (.iload_n 1) 1 8 := ⟨by decide +kernel, rfl⟩
theorem dX12_brings_8 : Dc cX12_brings 8 (.iaload) 1 9 := ⟨by decide +kernel, rfl⟩
theorem dX12_brings_9 : Dc cX12_brings 9 (.invokevirtual 397) 3 12 := ⟨by decide +kernel, rfl⟩
theorem dX12_brings_12 : Dc cX12_brings 12 (.imul) 1 13 := ⟨by decide +kernel, rfl⟩
theorem dX12_brings_13 : Dc cX12_brings 13 (.istore 4) 2 15 := ⟨by decide +kernel, rfl⟩
theorem dX12_brings_15 : Dc cX12_brings 15 (.aload_n 0) 1 16 := ⟨by decide +kernel, rfl⟩
theorem dX12_brings_16 : Dc cX12_brings 16 (.getfield 20) 3 19 := ⟨by decide +kernel, rfl⟩
theorem dX12_brings_19 : Dc cX12_brings 19 (.iload_n 1) 1 20 := ⟨by decide +kernel, rfl⟩
theorem dX12_brings_20 : Dc cX12_brings 20 (.iaload) 1 21 := ⟨by decide +kernel, rfl⟩
theorem dX12_brings_21 : Dc cX12_brings 21 (.iconst (-1)) 1 22 := ⟨by decide +kernel, rfl⟩
theorem djX12_brings_22 : Dj cX12_brings 22 (.if_icmp .ne 95) 3 25 95 117 := ⟨by decide +kernel, rfl, by decide⟩
theorem dX12_brings_25 : Dc cX12_brings 25 (.aload_n 0) 1 26 := ⟨by decide +kernel, rfl⟩
theorem dX12_brings_26 : Dc cX12_brings 26 (.aload_n 0) 1 27 := ⟨by decide +kernel, rfl⟩
theorem dX12_brings_27 : Dc cX12_brings 27 (.getfield 17) 3 30 := ⟨by decide +kernel, rfl⟩
theorem dX12_brings_30 : Dc cX12_brings 30 (.iload_n 1) 1 31 := ⟨by decide +kernel, rfl⟩
theorem dX12_brings_31 : Dc cX12_brings 31 (.iaload) 1 32 := ⟨by decide +kernel, rfl⟩
theorem dX12_brings_32 : Dc cX12_brings 32 (.iload_n 2) 1 33 := ⟨by decide +kernel, rfl⟩
theorem dX12_brings_33 : Dc cX12_brings 33 (.iload_n 3) 1 34 := ⟨by decide +kernel, rfl⟩
theorem dX12_brings_34 : Dc cX12_brings 34 (.invokevirtual 287) 3 37 := ⟨by decide +kernel, rfl⟩
theorem djX12_brings_37 : Dj cX12_brings 37 (.ifCond .ne 5) 3 40 5 42 := ⟨by decide +kernel, rfl, by decide⟩
theorem dX12_brings_40 : Dc cX12_brings 40 (.iconst 1) 1 41 := ⟨by decide +kernel, rfl⟩
theorem dX12_brings_41 : Dc cX12_brings 41 (.ireturn) 1 42 := ⟨by decide +kernel, rfl⟩
theorem dX12_brings_42 : Dc cX12_brings 42 (.aload_n 0) 1 43 := ⟨by decide +kernel, rfl⟩
theorem dX12_brings_43 : Dc cX12_brings 43 (.getfield 17) 3 46 := ⟨by decide +kernel, rfl⟩
theorem dX12_brings_46 : Dc cX12_brings 46 (.iload_n 1) 1 47 := ⟨by decide +kernel, rfl⟩
theorem dX12_brings_47 : Dc cX12_brings 47 (.iaload) 1 48 := ⟨by decide +kernel, rfl⟩
theorem dX12_brings_48 : Dc cX12_brings 48 (.bipush 100) 2 50 := ⟨by decide +kernel, rfl⟩
theorem djX12_brings_50 : Dj cX12_brings 50 (.if_icmp .lt 8) 3 53 8 58 := ⟨by decide +kernel, rfl, by decide⟩
theorem dX12_brings_53 : Dc cX12_brings 53 (.bipush 12) 2 55 := ⟨by decide +kernel, rfl⟩
theorem djX12_brings_55 : Dj cX12_brings 55 (.goto 13) 3 58 13 68 := ⟨by decide +kernel, rfl, by decide⟩
theorem dX12_brings_58 : Dc cX12_brings 58 (.aload_n 0) 1 59 := ⟨by decide +kernel, rfl⟩
theorem dX12_brings_59 : Dc cX12_brings 59 (.aload_n 0) 1 60 := ⟨by decide +kernel, rfl⟩
theorem dX12_brings_60 : Dc cX12_brings 60 (.getfield 17) 3 63 := ⟨by decide +kernel, rfl⟩
theorem dX12_brings_63 : Dc cX12_brings 63 (.iload_n 1) 1 64 := ⟨by decide +kernel, rfl⟩
theorem dX12_brings_64 : Dc cX12_brings 64 (.iaload) 1 65 := ⟨by decide +kernel, rfl⟩
theorem dX12_brings_65 : Dc cX12_brings 65 (.invokevirtual 397) 3 68 := ⟨by decide +kernel, rfl⟩
theorem dX12_brings_68 : Dc cX12_brings 68 (.istore 5) 2 70 := ⟨by decide +kernel, rfl⟩
theorem dX12_brings_70 : Dc cX12_brings 70 (.aload_n 0) 1 71 := ⟨by decide +kernel, rfl⟩
theorem dX12_brings_71 : Dc cX12_brings 71 (.getfield 89) 3 74 := ⟨by decide +kernel, rfl⟩
theorem dX12_brings_74 : Dc cX12_brings 74 (.iload 4) 2 76 := ⟨by decide +kernel, rfl⟩
theorem dX12_brings_76 : Dc cX12_brings 76 (.iload 5) 2 78 := ⟨by decide +kernel, rfl⟩
theorem dX12_brings_78 : Dc cX12_brings 78 (.iadd) 1 79 := ⟨by decide +kernel, rfl⟩
theorem dX12_brings_79 : Dc cX12_brings 79 (.dup2) 1 80 := ⟨by decide +kernel, rfl⟩
theorem dX12_brings_80 : Dc cX12_brings 80 (.laload) 1 81 := ⟨by decide +kernel, rfl⟩
theorem dX12_brings_81 : Dc cX12_brings 81 (.aload_n 0) 1 82 := ⟨by decide +kernel, rfl⟩
theorem dX12_brings_82 : Dc cX12_brings 82 (.getfield 17) 3 85 := ⟨by decide +kernel, rfl⟩
theorem dX12_brings_85 : Dc cX12_brings 85 (.iload_n 1) 1 86 := ⟨by decide +kernel, rfl⟩
theorem dX12_brings_86 : Dc cX12_brings 86 (.iaload) 1 87 := ⟨by decide +kernel, rfl⟩
theorem dX12_brings_87 : Dc cX12_brings 87 (.bipush 100) 2 89 := ⟨by decide +kernel, rfl⟩
theorem djX12_brings_89 : Dj cX12_brings 89 (.if_icmp .lt 13) 3 92 13 102 := ⟨by decide +kernel, rfl, by decide⟩
theorem dX12_brings_92 : Dc cX12_brings 92 (.aload_n 0) 1 93 := ⟨by decide +kernel, rfl⟩
theorem dX12_brings_93 : Dc cX12_brings 93 (.getfield 23) 3 96 := ⟨by decide +kernel, rfl⟩
theorem dX12_brings_96 : Dc cX12_brings 96 (.iload_n 1) 1 97 := ⟨by decide +kernel, rfl⟩
theorem dX12_brings_97 : Dc cX12_brings 97 (.iaload) 1 98 := ⟨by decide +kernel, rfl⟩
theorem dX12_brings_98 : Dc cX12_brings 98 (.i2l) 1 99 := ⟨by decide +kernel, rfl⟩
theorem djX12_brings_99 : Dj cX12_brings 99 (.goto 14) 3 102 14 113 := ⟨by decide +kernel, rfl, by decide⟩
theorem dX12_brings_102 : Dc cX12_brings 102 (.sipush 9973) 3 105 := ⟨by decide +kernel, rfl⟩
theorem dX12_brings_105 : Dc cX12_brings 105 (.aload_n 0) 1 106 := ⟨by decide +kernel, rfl⟩
theorem dX12_brings_106 : Dc cX12_brings 106 (.getfield 23) 3 109 := ⟨by decide +kernel, rfl⟩
theorem dX12_brings_109 : Dc cX12_brings 109 (.iload_n 1) 1 110 := ⟨by decide +kernel, rfl⟩
theorem dX12_brings_110 : Dc cX12_brings 110 (.iaload) 1 111 := ⟨by decide +kernel, rfl⟩
theorem dX12_brings_111 : Dc cX12_brings 111 (.isub) 1 112 := ⟨by decide +kernel, rfl⟩
theorem dX12_brings_112 : Dc cX12_brings 112 (.i2l) 1 113 := ⟨by decide +kernel, rfl⟩
theorem dX12_brings_113 : Dc cX12_brings 113 (.ladd) 1 114 := ⟨by decide +kernel, rfl⟩
theorem dX12_brings_114 : Dc cX12_brings 114 (.lastore) 1 115 := ⟨by decide +kernel, rfl⟩
theorem dX12_brings_115 : Dc cX12_brings 115 (.iconst 1) 1 116 := ⟨by decide +kernel, rfl⟩
theorem dX12_brings_116 : Dc cX12_brings 116 (.ireturn) 1 117 := ⟨by decide +kernel, rfl⟩
theorem dX12_brings_117 : Dc cX12_brings 117 (.iconst 1) 1 118 := ⟨by decide +kernel, rfl⟩
theorem dX12_brings_118 : Dc cX12_brings 118 (.istore 5) 2 120 := ⟨by decide +kernel, rfl⟩
theorem dX12_brings_120 : Dc cX12_brings 120 (.iload_n 2) 1 121 := ⟨by decide +kernel, rfl⟩
theorem dX12_brings_121 : Dc cX12_brings 121 (.iconst 1) 1 122 := ⟨by decide +kernel, rfl⟩
theorem dX12_brings_122 : Dc cX12_brings 122 (.iadd) 1 123 := ⟨by decide +kernel, rfl⟩
theorem dX12_brings_123 : Dc cX12_brings 123 (.istore 6) 2 125 := ⟨by decide +kernel, rfl⟩
theorem dX12_brings_125 : Dc cX12_brings 125 (.iload 6) 2 127 := ⟨by decide +kernel, rfl⟩
theorem dX12_brings_127 : Dc cX12_brings 127 (.iload_n 3) 1 128 := ⟨by decide +kernel, rfl⟩
theorem djX12_brings_128 : Dj cX12_brings 128 (.if_icmp .ge 144) 3 131 144 272 := ⟨by decide +kernel, rfl, by decide⟩
theorem dX12_brings_131 : Dc cX12_brings 131 (.aload_n 0) 1 132 := ⟨by decide +kernel, rfl⟩
theorem dX12_brings_132 : Dc cX12_brings 132 (.aload_n 0) 1 133 := ⟨by decide +kernel, rfl⟩
theorem dX12_brings_133 : Dc cX12_brings 133 (.getfield 17) 3 136 := ⟨by decide +kernel, rfl⟩
theorem dX12_brings_136 : Dc cX12_brings 136 (.iload_n 1) 1 137 := ⟨by decide +kernel, rfl⟩
theorem dX12_brings_137 : Dc cX12_brings 137 (.iaload) 1 138 := ⟨by decide +kernel, rfl⟩
theorem dX12_brings_138 : Dc cX12_brings 138 (.iload_n 2) 1 139 := ⟨by decide +kernel, rfl⟩
theorem dX12_brings_139 : Dc cX12_brings 139 (.iload 6) 2 141 := ⟨by decide +kernel, rfl⟩
theorem dX12_brings_141 : Dc cX12_brings 141 (.invokevirtual 287) 3 144 := ⟨by decide +kernel, rfl⟩
theorem djX12_brings_144 : Dj cX12_brings 144 (.ifCond .eq 122) 3 147 122 266 := ⟨by decide +kernel, rfl, by decide⟩
theorem dX12_brings_147 : Dc cX12_brings 147 (.aload_n 0) 1 148 := ⟨by decide +kernel, rfl⟩
theorem dX12_brings_148 : Dc cX12_brings 148 (.aload_n 0) 1 149 := ⟨by decide +kernel, rfl⟩
theorem dX12_brings_149 : Dc cX12_brings 149 (.getfield 20) 3 152 := ⟨by decide +kernel, rfl⟩
theorem dX12_brings_152 : Dc cX12_brings 152 (.iload_n 1) 1 153 := ⟨by decide +kernel, rfl⟩
theorem dX12_brings_153 : Dc cX12_brings 153 (.iaload) 1 154 := ⟨by decide +kernel, rfl⟩
theorem dX12_brings_154 : Dc cX12_brings 154 (.iload 6) 2 156 := ⟨by decide +kernel, rfl⟩
theorem dX12_brings_156 : Dc cX12_brings 156 (.iload_n 3) 1 157 := ⟨by decide +kernel, rfl⟩
theorem dX12_brings_157 : Dc cX12_brings 157 (.invokevirtual 287) 3 160 := ⟨by decide +kernel, rfl⟩
theorem djX12_brings_160 : Dj cX12_brings 160 (.ifCond .ne 6) 3 163 6 166 := ⟨by decide +kernel, rfl, by decide⟩
theorem djX12_brings_163 : Dj cX12_brings 163 (.goto 103) 3 166 103 266 := ⟨by decide +kernel, rfl, by decide⟩
theorem dX12_brings_166 : Dc cX12_brings 166 (.iload 5) 2 168 := ⟨by decide +kernel, rfl⟩
theorem djX12_brings_168 : Dj cX12_brings 168 (.ifCond .eq 39) 3 171 39 207 := ⟨by decide +kernel, rfl, by decide⟩
theorem dX12_brings_171 : Dc cX12_brings 171 (.aload_n 0) 1 172 := ⟨by decide +kernel, rfl⟩
theorem dX12_brings_172 : Dc cX12_brings 172 (.aload_n 0) 1 173 := ⟨by decide +kernel, rfl⟩
theorem dX12_brings_173 : Dc cX12_brings 173 (.getfield 17) 3 176 := ⟨by decide +kernel, rfl⟩
theorem dX12_brings_176 : Dc cX12_brings 176 (.iload_n 1) 1 177 := ⟨by decide +kernel, rfl⟩
theorem dX12_brings_177 : Dc cX12_brings 177 (.iaload) 1 178 := ⟨by decide +kernel, rfl⟩
theorem dX12_brings_178 : Dc cX12_brings 178 (.iload_n 2) 1 179 := ⟨by decide +kernel, rfl⟩
theorem dX12_brings_179 : Dc cX12_brings 179 (.iload 6) 2 181 := ⟨by decide +kernel, rfl⟩
theorem dX12_brings_181 : Dc cX12_brings 181 (.invokevirtual 400) 3 184 := ⟨by decide +kernel, rfl⟩
theorem djX12_brings_184 : Dj cX12_brings 184 (.ifCond .ne 23) 3 187 23 207 := ⟨by decide +kernel, rfl, by decide⟩
theorem dX12_brings_187 : Dc cX12_brings 187 (.aload_n 0) 1 188 := ⟨by decide +kernel, rfl⟩
theorem dX12_brings_188 : Dc cX12_brings 188 (.aload_n 0) 1 189 := ⟨by decide +kernel, rfl⟩
theorem dX12_brings_189 : Dc cX12_brings 189 (.getfield 20) 3 192 := ⟨by decide +kernel, rfl⟩
theorem dX12_brings_192 : Dc cX12_brings 192 (.iload_n 1) 1 193 := ⟨by decide +kernel, rfl⟩
theorem dX12_brings_193 : Dc cX12_brings 193 (.iaload) 1 194 := ⟨by decide +kernel, rfl⟩
theorem dX12_brings_194 : Dc cX12_brings 194 (.iload 6) 2 196 := ⟨by decide +kernel, rfl⟩
theorem dX12_brings_196 : Dc cX12_brings 196 (.iload_n 3) 1 197 := ⟨by decide +kernel, rfl⟩
theorem dX12_brings_197 : Dc cX12_brings 197 (.invokevirtual 400) 3 200 := ⟨by decide +kernel, rfl⟩
theorem djX12_brings_200 : Dj cX12_brings 200 (.ifCond .ne 7) 3 203 7 207 := ⟨by decide +kernel, rfl, by decide⟩
theorem dX12_brings_203 : Dc cX12_brings 203 (.iconst 1) 1 204 := ⟨by decide +kernel, rfl⟩
theorem djX12_brings_204 : Dj cX12_brings 204 (.goto 4) 3 207 4 208 := ⟨by decide +kernel, rfl, by decide⟩
theorem dX12_brings_207 : Dc cX12_brings 207 (.iconst 0) 1 208 := ⟨by decide +kernel, rfl⟩
theorem dX12_brings_208 : Dc cX12_brings 208 (.istore 5) 2 210 := ⟨by decide +kernel, rfl⟩
theorem dX12_brings_210 : Dc cX12_brings 210 (.aload_n 0) 1 211 := ⟨by decide +kernel, rfl⟩
theorem dX12_brings_211 : Dc cX12_brings 211 (.getfield 89) 3 214 := ⟨by decide +kernel, rfl⟩
theorem dX12_brings_214 : Dc cX12_brings 214 (.iload 4) 2 216 := ⟨by decide +kernel, rfl⟩
theorem dX12_brings_216 : Dc cX12_brings 216 (.bipush 12) 2 218 := ⟨by decide +kernel, rfl⟩
theorem dX12_brings_218 : Dc cX12_brings 218 (.iadd) 1 219 := ⟨by decide +kernel, rfl⟩
theorem dX12_brings_219 : Dc cX12_brings 219 (.dup2) 1 220 := ⟨by decide +kernel, rfl⟩
theorem dX12_brings_220 : Dc cX12_brings 220 (.laload) 1 221 := ⟨by decide +kernel, rfl⟩
theorem dX12_brings_221 : Dc cX12_brings 221 (.aload_n 0) 1 222 := ⟨by decide +kernel, rfl⟩
theorem dX12_brings_222 : Dc cX12_brings 222 (.getfield 23) 3 225 := ⟨by decide +kernel, rfl⟩
theorem dX12_brings_225 : Dc cX12_brings 225 (.iload_n 1) 1 226 := ⟨by decide +kernel, rfl⟩
theorem dX12_brings_226 : Dc cX12_brings 226 (.iaload) 1 227 := ⟨by decide +kernel, rfl⟩
theorem dX12_brings_227 : Dc cX12_brings 227 (.i2l) 1 228 := ⟨by decide +kernel, rfl⟩
theorem dX12_brings_228 : Dc cX12_brings 228 (.aload_n 0) 1 229 := ⟨by decide +kernel, rfl⟩
theorem dX12_brings_229 : Dc cX12_brings 229 (.aload_n 0) 1 230 := ⟨by decide +kernel, rfl⟩
theorem dX12_brings_230 : Dc cX12_brings 230 (.getfield 17) 3 233 := ⟨by decide +kernel, rfl⟩
theorem dX12_brings_233 : Dc cX12_brings 233 (.iload_n 1) 1 234 := ⟨by decide +kernel, rfl⟩
theorem dX12_brings_234 : Dc cX12_brings 234 (.iaload) 1 235 := ⟨by decide +kernel, rfl⟩
theorem dX12_brings_235 : Dc cX12_brings 235 (.iload_n 2) 1 236 := ⟨by decide +kernel, rfl⟩
theorem dX12_brings_236 : Dc cX12_brings 236 (.iload 6) 2 238 := ⟨by decide +kernel, rfl⟩
theorem dX12_brings_238 : Dc cX12_brings 238 (.invokevirtual 403) 3 241 := ⟨by decide +kernel, rfl⟩
theorem dX12_brings_241 : Dc cX12_brings 241 (.lmul) 1 242 := ⟨by decide +kernel, rfl⟩
theorem dX12_brings_242 : Dc cX12_brings 242 (.ldc2_w 392) 3 245 := ⟨by decide +kernel, rfl⟩
theorem dX12_brings_245 : Dc cX12_brings 245 (.lrem) 1 246 := ⟨by decide +kernel, rfl⟩
theorem dX12_brings_246 : Dc cX12_brings 246 (.aload_n 0) 1 247 := ⟨by decide +kernel, rfl⟩
theorem dX12_brings_247 : Dc cX12_brings 247 (.aload_n 0) 1 248 := ⟨by decide +kernel, rfl⟩
theorem dX12_brings_248 : Dc cX12_brings 248 (.getfield 20) 3 251 := ⟨by decide +kernel, rfl⟩
theorem dX12_brings_251 : Dc cX12_brings 251 (.iload_n 1) 1 252 := ⟨by decide +kernel, rfl⟩
theorem dX12_brings_252 : Dc cX12_brings 252 (.iaload) 1 253 := ⟨by decide +kernel, rfl⟩
theorem dX12_brings_253 : Dc cX12_brings 253 (.iload 6) 2 255 := ⟨by decide +kernel, rfl⟩
theorem dX12_brings_255 : Dc cX12_brings 255 (.iload_n 3) 1 256 := ⟨by decide +kernel, rfl⟩
theorem dX12_brings_256 : Dc cX12_brings 256 (.invokevirtual 403) 3 259 := ⟨by decide +kernel, rfl⟩
theorem dX12_brings_259 : Dc cX12_brings 259 (.lmul) 1 260 := ⟨by decide +kernel, rfl⟩
theorem dX12_brings_260 : Dc cX12_brings 260 (.ldc2_w 392) 3 263 := ⟨by decide +kernel, rfl⟩
theorem dX12_brings_263 : Dc cX12_brings 263 (.lrem) 1 264 := ⟨by decide +kernel, rfl⟩
theorem dX12_brings_264 : Dc cX12_brings 264 (.ladd) 1 265 := ⟨by decide +kernel, rfl⟩
theorem dX12_brings_265 : Dc cX12_brings 265 (.lastore) 1 266 := ⟨by decide +kernel, rfl⟩
theorem dX12_brings_266 : Dc cX12_brings 266 (.iinc 6 1) 3 269 := ⟨by decide +kernel, rfl⟩
theorem djX12_brings_269 : Dj cX12_brings 269 (.goto (-144)) 3 272 (-144) 125 := ⟨by decide +kernel, rfl, by decide⟩
theorem dX12_brings_272 : Dc cX12_brings 272 (.iload 5) 2 274 := ⟨by decide +kernel, rfl⟩
theorem dX12_brings_274 : Dc cX12_brings 274 (.ireturn) 1 275 := ⟨by decide +kernel, rfl⟩
section
variable {p : Program} {l : Launch} {e : Env} {s : State} {m : MethodId} {args : Array Value} {below : List Frame} {meth : Method} {c : Code} {A0 : Nat → Prop} {D : va_G} {cA : Nat → ClassId} {ad : Nat → Nat} {Z : (Nat → Nat) × (Nat → Nat)} {Q : Int → St → Prop}
set_option maxHeartbeats 4000000 in
set_option maxRecDepth 100000 in
theorem t_X12_brings_b113 (E : Ev p s m args meth c cX12_brings 7 RX12 A0 D cA ad NR Z) (hr : meth.sig.returnType = (some .boolean)) (s0 : Int) (s1 : Int) (s2 : Int) (σ : St) (cs0 : C64 s0) (cs1 : C64 s1) (cs2 : C32 s2) (hσ : CanS shR NR σ) (h : wp_X12_brings_b113 Q s0 s1 s2 σ) : G p l e (rmL 3 0 0) s m args below meth c 7 A0 D cA ad shR NR 0 0 (MQ below (QIc D cA ad shR NR Q A0) args s 0 0 A0) σ 113 [none, none, none, none, none, none, none] [vL s0, vL s1, vI s2, .ref (ad 24)] := by
  unfold wp_X12_brings_b113 at h
  refine g_ladd E dX12_brings_113 ?_
  refine g_last E kR_24 sR_24 (by decide) h.1 dX12_brings_114 (g_nmS (fun σ23 eσ23 => ?_))
  replace h := h.2 σ23 eσ23
  have hσ23 : CanS shR NR σ23 := by rw [eσ23]; exact wR_24 hσ (c64_w _)
  refine g_iconst E dX12_brings_115 ?_
  exact g_zret E hr (Or.inr rfl) h hσ23 dX12_brings_116
set_option maxHeartbeats 4000000 in
set_option maxRecDepth 100000 in
theorem t_X12_brings_b68 (E : Ev p s m args meth c cX12_brings 7 RX12 A0 D cA ad NR Z) (hr : meth.sig.returnType = (some .boolean)) (x1 : Int) (x4 : Int) (s0 : Int) (σ : St) (c1 : C32 x1) (c4 : C32 x4) (cs0 : C32 s0) (hσ : CanS shR NR σ) (h : wp_X12_brings_b68 Q x1 x4 s0 σ) : G p l e (rmL 3 0 0) s m args below meth c 7 A0 D cA ad shR NR 0 0 (MQ below (QIc D cA ad shR NR Q A0) args s 0 0 A0) σ 68 [some (.ref (ad 0)), some (vI x1), none, none, some (vI x4), none, none] [vI s0] := by
  unfold wp_X12_brings_b68 at h
  refine g_istore_5 E rfl (by decide) dX12_brings_68 ?_
  refine g_aload_0 E dX12_brings_70 ?_
  refine g_getR E fl_RX12_89 kR_0 sR_0 rfl dX12_brings_71 ?_
  refine g_iload_4 E dX12_brings_74 ?_
  refine g_iload_5 E dX12_brings_76 ?_
  refine g_iadd E dX12_brings_78 ?_
  refine g_dup2 E rfl rfl dX12_brings_79 ?_
  refine g_lald E kR_24 sR_24 (by decide) h.1 dX12_brings_80 ?_
  replace h := h.2
  refine g_aload_0 E dX12_brings_81 ?_
  refine g_getR E fl_RX12_17 kR_0 sR_0 rfl dX12_brings_82 ?_
  refine g_iload_1 E dX12_brings_85 ?_
  refine g_iald E kR_2 sR_2 (by decide) h.1 dX12_brings_86 ?_
  replace h := h.2
  refine g_bipush E (by decide) dX12_brings_87 ?_
  refine g_icmp_lt E (aR_2 hσ _) cl_100 djX12_brings_89 (fun hc => ?_) (fun hc => ?_)
  · replace h := h.1 hc
    refine g_sipush E (by decide) dX12_brings_102 ?_
    refine g_aload_0 E dX12_brings_105 ?_
    refine g_getR E fl_RX12_23 kR_0 sR_0 rfl dX12_brings_106 ?_
    refine g_iload_1 E dX12_brings_109 ?_
    refine g_iald E kR_4 sR_4 (by decide) h.1 dX12_brings_110 ?_
    replace h := h.2
    refine g_isub E dX12_brings_111 ?_
    refine g_i2l E (c32_w _) dX12_brings_112 ?_
    exact (t_X12_brings_b113 E hr (w32 (9973 - (σ 4 (x1.toNat)))) (σ 24 ((w32 (x4 + s0)).toNat)) (w32 (x4 + s0)) σ (c32_of_c64 (c32_w _)) (aR_24 hσ _) (c32_w _) hσ h).weak (w_d (w_d (w_d (w_d (w_d (w_d (w_d w_n)))))))
  · replace h := h.2 hc
    refine g_aload_0 E dX12_brings_92 ?_
    refine g_getR E fl_RX12_23 kR_0 sR_0 rfl dX12_brings_93 ?_
    refine g_iload_1 E dX12_brings_96 ?_
    refine g_iald E kR_4 sR_4 (by decide) h.1 dX12_brings_97 ?_
    replace h := h.2
    refine g_i2l E (aR_4 hσ _) dX12_brings_98 ?_
    refine g_goto E djX12_brings_99 ?_
    exact (t_X12_brings_b113 E hr (σ 4 (x1.toNat)) (σ 24 ((w32 (x4 + s0)).toNat)) (w32 (x4 + s0)) σ (c32_of_c64 (aR_4 hσ _)) (aR_24 hσ _) (c32_w _) hσ h).weak (w_d (w_d (w_d (w_d (w_d (w_d (w_d w_n)))))))
set_option maxHeartbeats 4000000 in
set_option maxRecDepth 100000 in
theorem t_X12_brings_b266 (E : Ev p s m args meth c cX12_brings 7 RX12 A0 D cA ad NR Z) (hr : meth.sig.returnType = (some .boolean)) {K125 : Int → Int → Int → Int → Int → Int → St → Prop} (hK125 : ∀ (x1 : Int) (x2 : Int) (x3 : Int) (x4 : Int) (x5 : Int) (x6 : Int) (σ : St), C32 x1 → C32 x2 → C32 x3 → C32 x4 → C32 x5 → C32 x6 → CanS shR NR σ → K125 x1 x2 x3 x4 x5 x6 σ → G p l e (rmL 3 0 0) s m args below meth c 7 A0 D cA ad shR NR 0 0 (MQ below (QIc D cA ad shR NR Q A0) args s 0 0 A0) σ 125 [some (.ref (ad 0)), some (vI x1), some (vI x2), some (vI x3), some (vI x4), some (vI x5), some (vI x6)] []) (x1 : Int) (x2 : Int) (x3 : Int) (x4 : Int) (x5 : Int) (x6 : Int) (σ : St) (c1 : C32 x1) (c2 : C32 x2) (c3 : C32 x3) (c4 : C32 x4) (c5 : C32 x5) (c6 : C32 x6) (hσ : CanS shR NR σ) (h : wp_X12_brings_b266 Q K125 x1 x2 x3 x4 x5 x6 σ) : G p l e (rmL 3 0 0) s m args below meth c 7 A0 D cA ad shR NR 0 0 (MQ below (QIc D cA ad shR NR Q A0) args s 0 0 A0) σ 266 [some (.ref (ad 0)), some (vI x1), some (vI x2), some (vI x3), some (vI x4), some (vI x5), some (vI x6)] [] := by
  unfold wp_X12_brings_b266 at h
  refine g_iinc_6 E rfl (by decide) dX12_brings_266 (fun v17 ev17 => ?_)
  replace h := h v17 ev17
  have cv17 : C32 v17 := by rw [ev17]; exact c32_w _
  refine g_goto E djX12_brings_269 ?_
  exact (hK125 x1 x2 x3 x4 x5 v17 σ c1 c2 c3 c4 c5 cv17 hσ h).weak (w_k (w_k (w_k (w_k (w_k (w_k (w_k w_n)))))))
set_option maxHeartbeats 4000000 in
set_option maxRecDepth 100000 in
theorem t_X12_brings_b208 (E : Ev p s m args meth c cX12_brings 7 RX12 A0 D cA ad NR Z) (hr : meth.sig.returnType = (some .boolean)) {K125 : Int → Int → Int → Int → Int → Int → St → Prop} (hK125 : ∀ (x1 : Int) (x2 : Int) (x3 : Int) (x4 : Int) (x5 : Int) (x6 : Int) (σ : St), C32 x1 → C32 x2 → C32 x3 → C32 x4 → C32 x5 → C32 x6 → CanS shR NR σ → K125 x1 x2 x3 x4 x5 x6 σ → G p l e (rmL 3 0 0) s m args below meth c 7 A0 D cA ad shR NR 0 0 (MQ below (QIc D cA ad shR NR Q A0) args s 0 0 A0) σ 125 [some (.ref (ad 0)), some (vI x1), some (vI x2), some (vI x3), some (vI x4), some (vI x5), some (vI x6)] []) (x1 : Int) (x2 : Int) (x3 : Int) (x4 : Int) (x6 : Int) (s0 : Int) (σ : St) (c1 : C32 x1) (c2 : C32 x2) (c3 : C32 x3) (c4 : C32 x4) (c6 : C32 x6) (cs0 : C32 s0) (hσ : CanS shR NR σ) (h : wp_X12_brings_b208 Q K125 x1 x2 x3 x4 x6 s0 σ) : G p l e (rmL 3 0 0) s m args below meth c 7 A0 D cA ad shR NR 0 0 (MQ below (QIc D cA ad shR NR Q A0) args s 0 0 A0) σ 208 [some (.ref (ad 0)), some (vI x1), some (vI x2), some (vI x3), some (vI x4), none, some (vI x6)] [vI s0] := by
  unfold wp_X12_brings_b208 at h
  refine g_istore_5 E rfl (by decide) dX12_brings_208 ?_
  refine g_aload_0 E dX12_brings_210 ?_
  refine g_getR E fl_RX12_89 kR_0 sR_0 rfl dX12_brings_211 ?_
  refine g_iload_4 E dX12_brings_214 ?_
  refine g_bipush E (by decide) dX12_brings_216 ?_
  refine g_iadd E dX12_brings_218 ?_
  refine g_dup2 E rfl rfl dX12_brings_219 ?_
  refine g_lald E kR_24 sR_24 (by decide) h.1 dX12_brings_220 ?_
  replace h := h.2
  refine g_aload_0 E dX12_brings_221 ?_
  refine g_getR E fl_RX12_23 kR_0 sR_0 rfl dX12_brings_222 ?_
  refine g_iload_1 E dX12_brings_225 ?_
  refine g_iald E kR_4 sR_4 (by decide) h.1 dX12_brings_226 ?_
  replace h := h.2
  refine g_i2l E (aR_4 hσ _) dX12_brings_227 ?_
  refine g_aload_0 E dX12_brings_228 ?_
  refine g_aload_0 E dX12_brings_229 ?_
  refine g_getR E fl_RX12_17 kR_0 sR_0 rfl dX12_brings_230 ?_
  refine g_iload_1 E dX12_brings_233 ?_
  refine g_iald E kR_2 sR_2 (by decide) h.1 dX12_brings_234 ?_
  replace h := h.2
  refine g_iload_2 E dX12_brings_235 ?_
  refine g_iload_6 E dX12_brings_236 ?_
  refine g_callvL E my_X12_sumPart mi_X12_sumPart msel_X12_sumPart ml_RX12_403 (rm_ok (by decide) (by decide)) ⟨Nat.zero_le _, Nat.zero_le _⟩ kR_0 sR_0 rfl (m_X12_sumPart E.2.2.1 (aR_2 hσ _) c2 c6 hσ h) rfl rfl (Nat.le_of_ble_eq_true rfl) dX12_brings_238 (fun r18 σ19 cr18 hσ19 h => ?_)
  refine g_lmul E dX12_brings_241 ?_
  refine g_ldc2 (n := 9973) E wc_RX12_392 dX12_brings_242 ?_
  refine g_lrem E cL_9973 (by decide) dX12_brings_245 ?_
  refine g_aload_0 E dX12_brings_246 ?_
  refine g_aload_0 E dX12_brings_247 ?_
  refine g_getR E fl_RX12_20 kR_0 sR_0 rfl dX12_brings_248 ?_
  refine g_iload_1 E dX12_brings_251 ?_
  refine g_iald E kR_3 sR_3 (by decide) h.1 dX12_brings_252 ?_
  replace h := h.2
  refine g_iload_6 E dX12_brings_253 ?_
  refine g_iload_3 E dX12_brings_255 ?_
  refine g_callvL E my_X12_sumPart mi_X12_sumPart msel_X12_sumPart ml_RX12_403 (rm_ok (by decide) (by decide)) ⟨Nat.zero_le _, Nat.zero_le _⟩ kR_0 sR_0 rfl (m_X12_sumPart E.2.2.1 (aR_3 hσ19 _) c6 c3 hσ19 h) rfl rfl (Nat.le_of_ble_eq_true rfl) dX12_brings_256 (fun r20 σ21 cr20 hσ21 h => ?_)
  refine g_lmul E dX12_brings_259 ?_
  refine g_ldc2 (n := 9973) E wc_RX12_392 dX12_brings_260 ?_
  refine g_lrem E cL_9973 (by decide) dX12_brings_263 ?_
  refine g_ladd E dX12_brings_264 ?_
  refine g_last E kR_24 sR_24 (by decide) h.1 dX12_brings_265 (g_nmS (fun σ22 eσ22 => ?_))
  replace h := h.2 σ22 eσ22
  have hσ22 : CanS shR NR σ22 := by rw [eσ22]; exact wR_24 hσ21 (c64_w _)
  exact (t_X12_brings_b266 E hr hK125 x1 x2 x3 x4 s0 x6 σ22 c1 c2 c3 c4 cs0 c6 hσ22 h).weak (w_k (w_k (w_k (w_k (w_k (w_k (w_k w_n)))))))
set_option maxHeartbeats 4000000 in
set_option maxRecDepth 100000 in
theorem t_X12_brings_b207 (E : Ev p s m args meth c cX12_brings 7 RX12 A0 D cA ad NR Z) (hr : meth.sig.returnType = (some .boolean)) {K125 : Int → Int → Int → Int → Int → Int → St → Prop} (hK125 : ∀ (x1 : Int) (x2 : Int) (x3 : Int) (x4 : Int) (x5 : Int) (x6 : Int) (σ : St), C32 x1 → C32 x2 → C32 x3 → C32 x4 → C32 x5 → C32 x6 → CanS shR NR σ → K125 x1 x2 x3 x4 x5 x6 σ → G p l e (rmL 3 0 0) s m args below meth c 7 A0 D cA ad shR NR 0 0 (MQ below (QIc D cA ad shR NR Q A0) args s 0 0 A0) σ 125 [some (.ref (ad 0)), some (vI x1), some (vI x2), some (vI x3), some (vI x4), some (vI x5), some (vI x6)] []) (x1 : Int) (x2 : Int) (x3 : Int) (x4 : Int) (x6 : Int) (σ : St) (c1 : C32 x1) (c2 : C32 x2) (c3 : C32 x3) (c4 : C32 x4) (c6 : C32 x6) (hσ : CanS shR NR σ) (h : wp_X12_brings_b207 Q K125 x1 x2 x3 x4 x6 σ) : G p l e (rmL 3 0 0) s m args below meth c 7 A0 D cA ad shR NR 0 0 (MQ below (QIc D cA ad shR NR Q A0) args s 0 0 A0) σ 207 [some (.ref (ad 0)), some (vI x1), some (vI x2), some (vI x3), some (vI x4), none, some (vI x6)] [] := by
  unfold wp_X12_brings_b207 at h
  refine g_iconst E dX12_brings_207 ?_
  exact (t_X12_brings_b208 E hr hK125 x1 x2 x3 x4 x6 0 σ c1 c2 c3 c4 c6 cl_0 hσ h).weak (w_k (w_k (w_k (w_k (w_k (w_d (w_k w_n)))))))
set_option maxHeartbeats 4000000 in
set_option maxRecDepth 100000 in
theorem t_X12_brings_l125 (E : Ev p s m args meth c cX12_brings 7 RX12 A0 D cA ad NR Z) (hr : meth.sig.returnType = (some .boolean)) : ∀ (n : Nat) (x1 : Int) (x2 : Int) (x3 : Int) (x4 : Int) (x5 : Int) (x6 : Int) (σ : St), C32 x1 → C32 x2 → C32 x3 → C32 x4 → C32 x5 → C32 x6 → CanS shR NR σ → wp_X12_brings_l125 Q n x1 x2 x3 x4 x5 x6 σ → G p l e (rmL 3 0 0) s m args below meth c 7 A0 D cA ad shR NR 0 0 (MQ below (QIc D cA ad shR NR Q A0) args s 0 0 A0) σ 125 [some (.ref (ad 0)), some (vI x1), some (vI x2), some (vI x3), some (vI x4), some (vI x5), some (vI x6)] [] := by
  intro n
  induction n with
  | zero => intro _ _ _ _ _ _ _ _ _ _ _ _ _ _ h; exact h.elim
  | succ n ih =>
    intro x1 x2 x3 x4 x5 x6 σ c1 c2 c3 c4 c5 c6 hσ h
    unfold wp_X12_brings_l125 at h
    refine g_iload_6 E dX12_brings_125 ?_
    refine g_iload_3 E dX12_brings_127 ?_
    refine g_icmp_ge E c6 c3 djX12_brings_128 (fun hc => ?_) (fun hc => ?_)
    · replace h := h.1 hc
      refine g_iload_5 E dX12_brings_272 ?_
      exact g_zret E hr h.1 h.2 hσ dX12_brings_274
    · replace h := h.2 hc
      refine g_aload_0 E dX12_brings_131 ?_
      refine g_aload_0 E dX12_brings_132 ?_
      refine g_getR E fl_RX12_17 kR_0 sR_0 rfl dX12_brings_133 ?_
      refine g_iload_1 E dX12_brings_136 ?_
      refine g_iald E kR_2 sR_2 (by decide) h.1 dX12_brings_137 ?_
      replace h := h.2
      refine g_iload_2 E dX12_brings_138 ?_
      refine g_iload_6 E dX12_brings_139 ?_
      refine g_callvI E my_X12_fits mi_X12_fits msel_X12_fits ml_RX12_287 (rm_ok (by decide) (by decide)) ⟨Nat.zero_le _, Nat.zero_le _⟩ kR_0 sR_0 rfl (m_X12_fits E.2.2.1 (aR_2 hσ _) c2 c6 hσ h) rfl rfl (Nat.le_of_ble_eq_true rfl) dX12_brings_141 (fun r9 σ10 cr9 hσ10 h => ?_)
      refine g_if_eq E cr9 djX12_brings_144 (fun hc => ?_) (fun hc => ?_)
      · replace h := h.1 hc
        exact (t_X12_brings_b266 E hr ih x1 x2 x3 x4 x5 x6 σ10 c1 c2 c3 c4 c5 c6 hσ10 h).weak (w_k (w_k (w_k (w_k (w_k (w_k (w_k w_n)))))))
      · replace h := h.2 hc
        refine g_aload_0 E dX12_brings_147 ?_
        refine g_aload_0 E dX12_brings_148 ?_
        refine g_getR E fl_RX12_20 kR_0 sR_0 rfl dX12_brings_149 ?_
        refine g_iload_1 E dX12_brings_152 ?_
        refine g_iald E kR_3 sR_3 (by decide) h.1 dX12_brings_153 ?_
        replace h := h.2
        refine g_iload_6 E dX12_brings_154 ?_
        refine g_iload_3 E dX12_brings_156 ?_
        refine g_callvI E my_X12_fits mi_X12_fits msel_X12_fits ml_RX12_287 (rm_ok (by decide) (by decide)) ⟨Nat.zero_le _, Nat.zero_le _⟩ kR_0 sR_0 rfl (m_X12_fits E.2.2.1 (aR_3 hσ10 _) c6 c3 hσ10 h) rfl rfl (Nat.le_of_ble_eq_true rfl) dX12_brings_157 (fun r11 σ12 cr11 hσ12 h => ?_)
        refine g_if_ne E cr11 djX12_brings_160 (fun hc => ?_) (fun hc => ?_)
        · replace h := h.1 hc
          refine g_iload_5 E dX12_brings_166 ?_
          refine g_if_eq E c5 djX12_brings_168 (fun hc => ?_) (fun hc => ?_)
          · replace h := h.1 hc
            exact (t_X12_brings_b207 E hr ih x1 x2 x3 x4 x6 σ12 c1 c2 c3 c4 c6 hσ12 h).weak (w_k (w_k (w_k (w_k (w_k (w_d (w_k w_n)))))))
          · replace h := h.2 hc
            refine g_aload_0 E dX12_brings_171 ?_
            refine g_aload_0 E dX12_brings_172 ?_
            refine g_getR E fl_RX12_17 kR_0 sR_0 rfl dX12_brings_173 ?_
            refine g_iload_1 E dX12_brings_176 ?_
            refine g_iald E kR_2 sR_2 (by decide) h.1 dX12_brings_177 ?_
            replace h := h.2
            refine g_iload_2 E dX12_brings_178 ?_
            refine g_iload_6 E dX12_brings_179 ?_
            refine g_callvI E my_X12_failsPart mi_X12_failsPart msel_X12_failsPart ml_RX12_400 (rm_ok (by decide) (by decide)) ⟨Nat.zero_le _, Nat.zero_le _⟩ kR_0 sR_0 rfl (m_X12_failsPart E.2.2.1 (aR_2 hσ12 _) c2 c6 hσ12 h) rfl rfl (Nat.le_of_ble_eq_true rfl) dX12_brings_181 (fun r13 σ14 cr13 hσ14 h => ?_)
            refine g_if_ne E cr13 djX12_brings_184 (fun hc => ?_) (fun hc => ?_)
            · replace h := h.1 hc
              exact (t_X12_brings_b207 E hr ih x1 x2 x3 x4 x6 σ14 c1 c2 c3 c4 c6 hσ14 h).weak (w_k (w_k (w_k (w_k (w_k (w_d (w_k w_n)))))))
            · replace h := h.2 hc
              refine g_aload_0 E dX12_brings_187 ?_
              refine g_aload_0 E dX12_brings_188 ?_
              refine g_getR E fl_RX12_20 kR_0 sR_0 rfl dX12_brings_189 ?_
              refine g_iload_1 E dX12_brings_192 ?_
              refine g_iald E kR_3 sR_3 (by decide) h.1 dX12_brings_193 ?_
              replace h := h.2
              refine g_iload_6 E dX12_brings_194 ?_
              refine g_iload_3 E dX12_brings_196 ?_
              refine g_callvI E my_X12_failsPart mi_X12_failsPart msel_X12_failsPart ml_RX12_400 (rm_ok (by decide) (by decide)) ⟨Nat.zero_le _, Nat.zero_le _⟩ kR_0 sR_0 rfl (m_X12_failsPart E.2.2.1 (aR_3 hσ14 _) c6 c3 hσ14 h) rfl rfl (Nat.le_of_ble_eq_true rfl) dX12_brings_197 (fun r15 σ16 cr15 hσ16 h => ?_)
              refine g_if_ne E cr15 djX12_brings_200 (fun hc => ?_) (fun hc => ?_)
              · replace h := h.1 hc
                exact (t_X12_brings_b207 E hr ih x1 x2 x3 x4 x6 σ16 c1 c2 c3 c4 c6 hσ16 h).weak (w_k (w_k (w_k (w_k (w_k (w_d (w_k w_n)))))))
              · replace h := h.2 hc
                refine g_iconst E dX12_brings_203 ?_
                refine g_goto E djX12_brings_204 ?_
                exact (t_X12_brings_b208 E hr ih x1 x2 x3 x4 x6 1 σ16 c1 c2 c3 c4 c6 cl_1 hσ16 h).weak (w_k (w_k (w_k (w_k (w_k (w_d (w_k w_n)))))))
        · replace h := h.2 hc
          refine g_goto E djX12_brings_163 ?_
          exact (t_X12_brings_b266 E hr ih x1 x2 x3 x4 x5 x6 σ12 c1 c2 c3 c4 c5 c6 hσ12 h).weak (w_k (w_k (w_k (w_k (w_k (w_k (w_k w_n)))))))
set_option maxHeartbeats 4000000 in
set_option maxRecDepth 100000 in
theorem t_X12_brings (E : Ev p s m args meth c cX12_brings 7 RX12 A0 D cA ad NR Z) (hr : meth.sig.returnType = (some .boolean)) (x1 : Int) (x2 : Int) (x3 : Int) (σ : St) (c1 : C32 x1) (c2 : C32 x2) (c3 : C32 x3) (hσ : CanS shR NR σ) (h : wp_X12_brings x1 x2 x3 σ Q) : G p l e (rmL 3 0 0) s m args below meth c 7 A0 D cA ad shR NR 0 0 (MQ below (QIc D cA ad shR NR Q A0) args s 0 0 A0) σ 0 [some (.ref (ad 0)), some (vI x1), some (vI x2), some (vI x3), none, none, none] [] := by
  unfold wp_X12_brings at h
  refine g_bipush E (by decide) dX12_brings_0 ?_
  refine g_aload_0 E dX12_brings_2 ?_
  refine g_aload_0 E dX12_brings_3 ?_
  refine g_getR E fl_RX12_13 kR_0 sR_0 rfl dX12_brings_4 ?_
  refine g_iload_1 E dX12_brings_7 ?_
  refine g_iald E kR_1 sR_1 (by decide) h.1 dX12_brings_8 ?_
  replace h := h.2
  refine g_callvI E my_X12_rowOf mi_X12_rowOf msel_X12_rowOf ml_RX12_397 (rm_ok (by decide) (by decide)) ⟨Nat.zero_le _, Nat.zero_le _⟩ kR_0 sR_0 rfl (m_X12_rowOf E.2.2.1 (aR_1 hσ _) hσ h) rfl rfl (Nat.le_of_ble_eq_true rfl) dX12_brings_9 (fun r1 σ2 cr1 hσ2 h => ?_)
  refine g_imul E dX12_brings_12 ?_
  refine g_nmI (fun v3 ev3 => ?_)
  replace h := h v3 ev3
  have cv3 : C32 v3 := by rw [ev3]; exact (c32_w _)
  refine g_istore_4 E rfl (by decide) dX12_brings_13 ?_
  refine g_aload_0 E dX12_brings_15 ?_
  refine g_getR E fl_RX12_20 kR_0 sR_0 rfl dX12_brings_16 ?_
  refine g_iload_1 E dX12_brings_19 ?_
  refine g_iald E kR_3 sR_3 (by decide) h.1 dX12_brings_20 ?_
  replace h := h.2
  refine g_iconst E dX12_brings_21 ?_
  refine g_icmp_ne E (aR_3 hσ2 _) cl_m1 djX12_brings_22 (fun hc => ?_) (fun hc => ?_)
  · replace h := h.1 hc
    refine g_iconst E dX12_brings_117 ?_
    refine g_istore_5 E rfl (by decide) dX12_brings_118 ?_
    refine g_iload_2 E dX12_brings_120 ?_
    refine g_iconst E dX12_brings_121 ?_
    refine g_iadd E dX12_brings_122 ?_
    refine g_nmI (fun v4 ev4 => ?_)
    replace h := h v4 ev4
    have cv4 : C32 v4 := by rw [ev4]; exact (c32_w _)
    refine g_istore_6 E rfl (by decide) dX12_brings_123 ?_
    exact (t_X12_brings_l125 E hr bigN x1 x2 x3 v3 1 v4 σ2 c1 c2 c3 cv3 cl_1 cv4 hσ2 h).weak (w_k (w_k (w_k (w_k (w_k (w_k (w_k w_n)))))))
  · replace h := h.2 hc
    refine g_aload_0 E dX12_brings_25 ?_
    refine g_aload_0 E dX12_brings_26 ?_
    refine g_getR E fl_RX12_17 kR_0 sR_0 rfl dX12_brings_27 ?_
    refine g_iload_1 E dX12_brings_30 ?_
    refine g_iald E kR_2 sR_2 (by decide) h.1 dX12_brings_31 ?_
    replace h := h.2
    refine g_iload_2 E dX12_brings_32 ?_
    refine g_iload_3 E dX12_brings_33 ?_
    refine g_callvI E my_X12_fits mi_X12_fits msel_X12_fits ml_RX12_287 (rm_ok (by decide) (by decide)) ⟨Nat.zero_le _, Nat.zero_le _⟩ kR_0 sR_0 rfl (m_X12_fits E.2.2.1 (aR_2 hσ2 _) c2 c3 hσ2 h) rfl rfl (Nat.le_of_ble_eq_true rfl) dX12_brings_34 (fun r5 σ6 cr5 hσ6 h => ?_)
    refine g_if_ne E cr5 djX12_brings_37 (fun hc => ?_) (fun hc => ?_)
    · replace h := h.1 hc
      refine g_aload_0 E dX12_brings_42 ?_
      refine g_getR E fl_RX12_17 kR_0 sR_0 rfl dX12_brings_43 ?_
      refine g_iload_1 E dX12_brings_46 ?_
      refine g_iald E kR_2 sR_2 (by decide) h.1 dX12_brings_47 ?_
      replace h := h.2
      refine g_bipush E (by decide) dX12_brings_48 ?_
      refine g_icmp_lt E (aR_2 hσ6 _) cl_100 djX12_brings_50 (fun hc => ?_) (fun hc => ?_)
      · replace h := h.1 hc
        refine g_aload_0 E dX12_brings_58 ?_
        refine g_aload_0 E dX12_brings_59 ?_
        refine g_getR E fl_RX12_17 kR_0 sR_0 rfl dX12_brings_60 ?_
        refine g_iload_1 E dX12_brings_63 ?_
        refine g_iald E kR_2 sR_2 (by decide) h.1 dX12_brings_64 ?_
        replace h := h.2
        refine g_callvI E my_X12_rowOf mi_X12_rowOf msel_X12_rowOf ml_RX12_397 (rm_ok (by decide) (by decide)) ⟨Nat.zero_le _, Nat.zero_le _⟩ kR_0 sR_0 rfl (m_X12_rowOf E.2.2.1 (aR_2 hσ6 _) hσ6 h) rfl rfl (Nat.le_of_ble_eq_true rfl) dX12_brings_65 (fun r7 σ8 cr7 hσ8 h => ?_)
        exact (t_X12_brings_b68 E hr x1 v3 r7 σ8 c1 cv3 cr7 hσ8 h).weak (w_k (w_k (w_d (w_d (w_k (w_d (w_d w_n)))))))
      · replace h := h.2 hc
        refine g_bipush E (by decide) dX12_brings_53 ?_
        refine g_goto E djX12_brings_55 ?_
        exact (t_X12_brings_b68 E hr x1 v3 12 σ6 c1 cv3 cl_12 hσ6 h).weak (w_k (w_k (w_d (w_d (w_k (w_d (w_d w_n)))))))
    · replace h := h.2 hc
      refine g_iconst E dX12_brings_40 ?_
      exact g_zret E hr (Or.inr rfl) h hσ6 dX12_brings_41
end
theorem m_X12_brings {Z : (Nat → Nat) × (Nat → Nat)} {l : Launch} {D : va_G} {cA : Nat → ClassId} {ad : Nat → Nat} {x1 x2 x3 : Int} {σ : St} {Q : Int → St → Prop} (hA : AdOk NR ad) (c1 : C32 x1) (c2 : C32 x2) (c3 : C32 x3) (hσ : CanS shR NR σ) (h : wp_X12_brings x1 x2 x3 σ Q) : KtI Z l D cA ad shR NR yX12_brings cX12_brings 7 (some .boolean) 3 [.ref (ad 0), vI x1, vI x2, vI x3] σ Q :=
  KtI.of my_X12_brings hA [some (.ref (ad 0)), some (vI x1), some (vI x2), some (vI x3), none, none, none] (Nat.le_of_ble_eq_true rfl) rfl (fun p e s m args below meth c A0 E hr => t_X12_brings E hr x1 x2 x3 σ c1 c2 c3 hσ h)
theorem dX12_power_0 : Dc cX12_power 0 (.lconst 1) 1 1 := ⟨by decide +kernel, rfl⟩
theorem dX12_power_1 : Dc cX12_power 1 (.lstore_n 3) 1 2 := ⟨by decide +kernel, rfl⟩
theorem dX12_power_2 : Dc cX12_power 2 (.iconst 0) 1 3 := ⟨by decide +kernel, rfl⟩
theorem dX12_power_3 : Dc cX12_power 3 (.istore 5) 2 5 := ⟨by decide +kernel, rfl⟩
theorem dX12_power_5 : Dc cX12_power 5 (.iload 5) 2 7 := ⟨by decide +kernel, rfl⟩
theorem dX12_power_7 : Dc cX12_power 7 (.iload_n 2) 1 8 := ⟨by decide +kernel, rfl⟩
theorem djX12_power_8 : Dj cX12_power 8 (.if_icmp .ge 17) 3 11 17 25 := ⟨by decide +kernel, rfl, by decide⟩
theorem dX12_power_11 : Dc cX12_power 11 (.lload_n 3) 1 12 := ⟨by decide +kernel, rfl⟩
theorem dX12_power_12 : Dc cX12_power 12 (.lload_n 0) 1 13 := ⟨by decide +kernel, rfl⟩
theorem dX12_power_13 : Dc cX12_power 13 (.lmul) 1 14 := ⟨by decide +kernel, rfl⟩
theorem dX12_power_14 : Dc cX12_power 14 (.ldc2_w 392) 3 17 := ⟨by decide +kernel, rfl⟩
theorem dX12_power_17 : Dc cX12_power 17 (.lrem) 1 18 := ⟨by decide +kernel, rfl⟩
theorem dX12_power_18 : Dc cX12_power 18 (.lstore_n 3) 1 19 := ⟨by decide +kernel, rfl⟩
theorem dX12_power_19 : Dc cX12_power 19 (.iinc 5 1) 3 22 := ⟨by decide +kernel, rfl⟩
theorem djX12_power_22 : Dj cX12_power 22 (.goto (-17)) 3 25 (-17) 5 := ⟨by decide +kernel, rfl, by decide⟩
theorem dX12_power_25 : Dc cX12_power 25 (.lload_n 3) 1 26 := ⟨by decide +kernel, rfl⟩
theorem dX12_power_26 : Dc cX12_power 26 (.lreturn) 1 27 := ⟨by decide +kernel, rfl⟩
section
variable {p : Program} {l : Launch} {e : Env} {s : State} {m : MethodId} {args : Array Value} {below : List Frame} {meth : Method} {c : Code} {A0 : Nat → Prop} {D : va_G} {cA : Nat → ClassId} {ad : Nat → Nat} {Z : (Nat → Nat) × (Nat → Nat)} {Q : Int → St → Prop}
set_option maxHeartbeats 4000000 in
set_option maxRecDepth 100000 in
theorem t_X12_power_l5 (E : Ev p s m args meth c cX12_power 6 RX12 A0 D cA ad NR Z) (hr : meth.sig.returnType = (some .long)) : ∀ (n : Nat) (x0 : Int) (x2 : Int) (x3 : Int) (x5 : Int) (σ : St), C64 x0 → C32 x2 → C64 x3 → C32 x5 → CanS shR NR σ → wp_X12_power_l5 Q n x0 x2 x3 x5 σ → G p l e (rmL 1 0 0) s m args below meth c 6 A0 D cA ad shR NR 0 0 (MQ below (QLc D cA ad shR NR Q A0) args s 0 0 A0) σ 5 [some (vL x0), none, some (vI x2), some (vL x3), none, some (vI x5)] [] := by
  intro n
  induction n with
  | zero => intro _ _ _ _ _ _ _ _ _ _ h; exact h.elim
  | succ n ih =>
    intro x0 x2 x3 x5 σ c0 c2 c3 c5 hσ h
    unfold wp_X12_power_l5 at h
    refine g_iload_5 E dX12_power_5 ?_
    refine g_iload_2 E dX12_power_7 ?_
    refine g_icmp_ge E c5 c2 djX12_power_8 (fun hc => ?_) (fun hc => ?_)
    · replace h := h.1 hc
      refine g_lload_3 E dX12_power_25 ?_
      exact g_lret E hr c3 h hσ dX12_power_26
    · replace h := h.2 hc
      refine g_lload_3 E dX12_power_11 ?_
      refine g_lload_0 E dX12_power_12 ?_
      refine g_lmul E dX12_power_13 ?_
      refine g_ldc2 (n := 9973) E wc_RX12_392 dX12_power_14 ?_
      refine g_lrem E cL_9973 (by decide) dX12_power_17 ?_
      refine g_nmL (fun v1 ev1 => ?_)
      replace h := h v1 ev1
      have cv1 : C64 v1 := by rw [ev1]; exact (c64_t _)
      refine g_lstore_3 E rfl (by decide) dX12_power_18 ?_
      refine g_iinc_5 E rfl (by decide) dX12_power_19 (fun v2 ev2 => ?_)
      replace h := h v2 ev2
      have cv2 : C32 v2 := by rw [ev2]; exact c32_w _
      refine g_goto E djX12_power_22 ?_
      exact (ih x0 x2 v1 v2 σ c0 c2 cv1 cv2 hσ h).weak (w_k (w_d (w_k (w_k (w_d (w_k w_n))))))
set_option maxHeartbeats 4000000 in
set_option maxRecDepth 100000 in
theorem t_X12_power (E : Ev p s m args meth c cX12_power 6 RX12 A0 D cA ad NR Z) (hr : meth.sig.returnType = (some .long)) (x0 : Int) (x2 : Int) (σ : St) (c0 : C64 x0) (c2 : C32 x2) (hσ : CanS shR NR σ) (h : wp_X12_power x0 x2 σ Q) : G p l e (rmL 1 0 0) s m args below meth c 6 A0 D cA ad shR NR 0 0 (MQ below (QLc D cA ad shR NR Q A0) args s 0 0 A0) σ 0 [some (vL x0), none, some (vI x2), none, none, none] [] := by
  unfold wp_X12_power at h
  refine g_lconst (n := 1) E (by decide) dX12_power_0 ?_
  refine g_lstore_3 E rfl (by decide) dX12_power_1 ?_
  refine g_iconst E dX12_power_2 ?_
  refine g_istore_5 E rfl (by decide) dX12_power_3 ?_
  exact (t_X12_power_l5 E hr bigN x0 x2 1 0 σ c0 c2 cL_1 cl_0 hσ h).weak (w_k (w_d (w_k (w_k (w_d (w_k w_n))))))
end
theorem m_X12_power {Z : (Nat → Nat) × (Nat → Nat)} {l : Launch} {D : va_G} {cA : Nat → ClassId} {ad : Nat → Nat} {x0 x2 : Int} {σ : St} {Q : Int → St → Prop} (hA : AdOk NR ad) (c0 : C64 x0) (c2 : C32 x2) (hσ : CanS shR NR σ) (h : wp_X12_power x0 x2 σ Q) : KtL Z l D cA ad shR NR yX12_power cX12_power 6 (some .long) 1 [vL x0, vI x2] σ Q :=
  KtL.of my_X12_power hA [some (vL x0), none, some (vI x2), none, none, none] (Nat.le_of_ble_eq_true rfl) rfl (fun p e s m args below meth c A0 E hr => t_X12_power E hr x0 x2 σ c0 c2 hσ h)
theorem dX12_clears_0 : Dc cX12_clears 0 (.iload_n 1) 1 1 := ⟨by decide +kernel, rfl⟩
theorem dX12_clears_1 : Dc cX12_clears 1 (.istore_n 2) 1 2 := ⟨by decide +kernel, rfl⟩
theorem dX12_clears_2 : Dc cX12_clears 2 (.iload_n 2) 1 3 := ⟨by decide +kernel, rfl⟩
theorem dX12_clears_3 : Dc cX12_clears 3 (.aload_n 0) 1 4 := ⟨by decide +kernel, rfl⟩
theorem dX12_clears_4 : Dc cX12_clears 4 (.getfield 406) 3 7 := ⟨by decide +kernel, rfl⟩
theorem djX12_clears_7 : Dj cX12_clears 7 (.if_icmp .ge 25) 3 10 25 32 := ⟨by decide +kernel, rfl, by decide⟩
theorem dX12_clears_10 : Dc cX12_clears 10 (.aload_n 0) 1 11 := ⟨by decide +kernel, rfl⟩
theorem dX12_clears_11 : Dc cX12_clears 11 (.getfield 89) 3 14 := ⟨by decide +kernel, rfl⟩
theorem dX12_clears_14 : Dc cX12_clears 14 (.bipush 13) 2 16 := ⟨by decide +kernel, rfl⟩
theorem dX12_clears_16 : Dc cX12_clears 16 (.iload_n 2) 1 17 := ⟨by decide +kernel, rfl⟩
theorem dX12_clears_17 : Dc cX12_clears 17 (.imul) 1 18 := ⟨by decide +kernel, rfl⟩
theorem dX12_clears_18 : Dc cX12_clears 18 (.iload_n 1) 1 19 := ⟨by decide +kernel, rfl⟩
theorem dX12_clears_19 : Dc cX12_clears 19 (.iadd) 1 20 := ⟨by decide +kernel, rfl⟩
theorem dX12_clears_20 : Dc cX12_clears 20 (.laload) 1 21 := ⟨by decide +kernel, rfl⟩
theorem dX12_clears_21 : Dc cX12_clears 21 (.lconst 0) 1 22 := ⟨by decide +kernel, rfl⟩
theorem dX12_clears_22 : Dc cX12_clears 22 (.lcmp) 1 23 := ⟨by decide +kernel, rfl⟩
theorem djX12_clears_23 : Dj cX12_clears 23 (.ifCond .ne 9) 3 26 9 32 := ⟨by decide +kernel, rfl, by decide⟩
theorem dX12_clears_26 : Dc cX12_clears 26 (.iinc 2 1) 3 29 := ⟨by decide +kernel, rfl⟩
theorem djX12_clears_29 : Dj cX12_clears 29 (.goto (-27)) 3 32 (-27) 2 := ⟨by decide +kernel, rfl, by decide⟩
theorem dX12_clears_32 : Dc cX12_clears 32 (.iload_n 2) 1 33 := ⟨by decide +kernel, rfl⟩
theorem dX12_clears_33 : Dc cX12_clears 33 (.aload_n 0) 1 34 := ⟨by decide +kernel, rfl⟩
theorem dX12_clears_34 : Dc cX12_clears 34 (.getfield 406) 3 37 := ⟨by decide +kernel, rfl⟩
theorem djX12_clears_37 : Dj cX12_clears 37 (.if_icmp .ne 5) 3 40 5 42 := ⟨by decide +kernel, rfl, by decide⟩
theorem dX12_clears_40 : Dc cX12_clears 40 (.iconst 0) 1 41 := ⟨by decide +kernel, rfl⟩
theorem dX12_clears_41 : Dc cX12_clears 41 (.ireturn) 1 42 := ⟨by decide +kernel, rfl⟩
theorem dX12_clears_42 : Dc cX12_clears 42 (.iconst 0) 1 43 := ⟨by decide +kernel, rfl⟩
theorem dX12_clears_43 : Dc cX12_clears 43 (.istore_n 3) 1 44 := ⟨by decide +kernel, rfl⟩
theorem dX12_clears_44 : Dc cX12_clears 44 (.iload_n 3) 1 45 := ⟨by decide +kernel, rfl⟩
theorem dX12_clears_45 : Dc cX12_clears 45 (.bipush 12) 2 47 := ⟨by decide +kernel, rfl⟩
theorem djX12_clears_47 : Dj cX12_clears 47 (.if_icmp .gt 57) 3 50 57 104 := ⟨by decide +kernel, rfl, by decide⟩
theorem dX12_clears_50 : Dc cX12_clears 50 (.aload_n 0) 1 51 := ⟨by decide +kernel, rfl⟩
theorem dX12_clears_51 : Dc cX12_clears 51 (.getfield 89) 3 54 := ⟨by decide +kernel, rfl⟩
theorem dX12_clears_54 : Dc cX12_clears 54 (.bipush 13) 2 56 := ⟨by decide +kernel, rfl⟩
theorem dX12_clears_56 : Dc cX12_clears 56 (.iload_n 2) 1 57 := ⟨by decide +kernel, rfl⟩
theorem dX12_clears_57 : Dc cX12_clears 57 (.imul) 1 58 := ⟨by decide +kernel, rfl⟩
theorem dX12_clears_58 : Dc cX12_clears 58 (.iload_n 3) 1 59 := ⟨by decide +kernel, rfl⟩
theorem dX12_clears_59 : Dc cX12_clears 59 (.iadd) 1 60 := ⟨by decide +kernel, rfl⟩
theorem dX12_clears_60 : Dc cX12_clears 60 (.laload) 1 61 := ⟨by decide +kernel, rfl⟩
theorem dX12_clears_61 : Dc cX12_clears 61 (.lstore 4) 2 63 := ⟨by decide +kernel, rfl⟩
theorem dX12_clears_63 : Dc cX12_clears 63 (.aload_n 0) 1 64 := ⟨by decide +kernel, rfl⟩
theorem dX12_clears_64 : Dc cX12_clears 64 (.getfield 89) 3 67 := ⟨by decide +kernel, rfl⟩
theorem dX12_clears_67 : Dc cX12_clears 67 (.bipush 13) 2 69 := ⟨by decide +kernel, rfl⟩
theorem dX12_clears_69 : Dc cX12_clears 69 (.iload_n 2) 1 70 := ⟨by decide +kernel, rfl⟩
theorem dX12_clears_70 : Dc cX12_clears 70 (.imul) 1 71 := ⟨by decide +kernel, rfl⟩
theorem dX12_clears_71 : Dc cX12_clears 71 (.iload_n 3) 1 72 := ⟨by decide +kernel, rfl⟩
theorem dX12_clears_72 : Dc cX12_clears 72 (.iadd) 1 73 := ⟨by decide +kernel, rfl⟩
theorem dX12_clears_73 : Dc cX12_clears 73 (.aload_n 0) 1 74 := ⟨by decide +kernel, rfl⟩
theorem dX12_clears_74 : Dc cX12_clears 74 (.getfield 89) 3 77 := ⟨by decide +kernel, rfl⟩
theorem dX12_clears_77 : Dc cX12_clears 77 (.bipush 13) 2 79 := ⟨by decide +kernel, rfl⟩
theorem dX12_clears_79 : Dc cX12_clears 79 (.iload_n 1) 1 80 := ⟨by decide +kernel, rfl⟩
theorem dX12_clears_80 : Dc cX12_clears 80 (.imul) 1 81 := ⟨by decide +kernel, rfl⟩
theorem dX12_clears_81 : Dc cX12_clears 81 (.iload_n 3) 1 82 := ⟨by decide +kernel, rfl⟩
theorem dX12_clears_82 : Dc cX12_clears 82 (.iadd) 1 83 := ⟨by decide +kernel, rfl⟩
theorem dX12_clears_83 : Dc cX12_clears 83 (.laload) 1 84 := ⟨by decide +kernel, rfl⟩
theorem dX12_clears_84 : Dc cX12_clears 84 (.lastore) 1 85 := ⟨by decide +kernel, rfl⟩
theorem dX12_clears_85 : Dc cX12_clears 85 (.aload_n 0) 1 86 := ⟨by decide +kernel, rfl⟩
theorem dX12_clears_86 : Dc cX12_clears 86 (.getfield 89) 3 89 := ⟨by decide +kernel, rfl⟩
theorem dX12_clears_89 : Dc cX12_clears 89 (.bipush 13) 2 91 := ⟨by decide +kernel, rfl⟩
theorem dX12_clears_91 : Dc cX12_clears 91 (.iload_n 1) 1 92 := ⟨by decide +kernel, rfl⟩
theorem dX12_clears_92 : Dc cX12_clears 92 (.imul) 1 93 := ⟨by decide +kernel, rfl⟩
theorem dX12_clears_93 : Dc cX12_clears 93 (.iload_n 3) 1 94 := ⟨by decide +kernel, rfl⟩
theorem dX12_clears_94 : Dc cX12_clears 94 (.iadd) 1 95 := ⟨by decide +kernel, rfl⟩
theorem dX12_clears_95 : Dc cX12_clears 95 (.lload 4) 2 97 := ⟨by decide +kernel, rfl⟩
theorem dX12_clears_97 : Dc cX12_clears 97 (.lastore) 1 98 := ⟨by decide +kernel, rfl⟩
theorem dX12_clears_98 : Dc cX12_clears 98 (.iinc 3 1) 3 101 := ⟨by decide +kernel, rfl⟩
theorem djX12_clears_101 : Dj cX12_clears 101 (.goto (-57)) 3 104 (-57) 44 := ⟨by decide +kernel, rfl, by decide⟩
theorem dX12_clears_104 : Dc cX12_clears 104 (.aload_n 0) 1 105 := ⟨by decide +kernel, rfl⟩
theorem dX12_clears_105 : Dc cX12_clears 105 (.getfield 89) 3 108 := ⟨by decide +kernel, rfl⟩
theorem dX12_clears_108 : Dc cX12_clears 108 (.bipush 13) 2 110 := ⟨by decide +kernel, rfl⟩
theorem dX12_clears_110 : Dc cX12_clears 110 (.iload_n 1) 1 111 := ⟨by decide +kernel, rfl⟩
theorem dX12_clears_111 : Dc cX12_clears 111 (.imul) 1 112 := ⟨by decide +kernel, rfl⟩
theorem dX12_clears_112 : Dc cX12_clears 112 (.iload_n 1) 1 113 := ⟨by decide +kernel, rfl⟩
theorem dX12_clears_113 : Dc cX12_clears 113 (.iadd) 1 114 := ⟨by decide +kernel, rfl⟩
theorem dX12_clears_114 : Dc cX12_clears 114 (.laload) 1 115 := ⟨by decide +kernel, rfl⟩
theorem dX12_clears_115 : Dc cX12_clears 115 (.sipush 9971) 3 118 := ⟨by decide +kernel, rfl⟩
theorem dX12_clears_118 : Dc cX12_clears 118 (.invokestatic 409) 3 121 := ⟨by decide +kernel, rfl⟩
theorem dX12_clears_121 : Dc cX12_clears 121 (.lstore_n 3) 1 122 := ⟨by decide +kernel, rfl⟩
theorem dX12_clears_122 : Dc cX12_clears 122 (.iconst 0) 1 123 := ⟨by decide +kernel, rfl⟩
theorem dX12_clears_123 : Dc cX12_clears 123 (.istore 5) 2 125 := ⟨by decide +kernel, rfl⟩
theorem dX12_clears_125 : Dc cX12_clears 125 (.iload 5) 2 127 := ⟨by decide +kernel, rfl⟩
theorem dX12_clears_127 : Dc cX12_clears 127 (.bipush 12) 2 129 := ⟨by decide +kernel, rfl⟩
theorem djX12_clears_129 : Dj cX12_clears 129 (.if_icmp .gt 39) 3 132 39 168 := ⟨by decide +kernel, rfl, by decide⟩
theorem dX12_clears_132 : Dc cX12_clears 132 (.aload_n 0) 1 133 := ⟨by decide +kernel, rfl⟩
theorem dX12_clears_133 : Dc cX12_clears 133 (.getfield 89) 3 136 := ⟨by decide +kernel, rfl⟩
theorem dX12_clears_136 : Dc cX12_clears 136 (.bipush 13) 2 138 := ⟨by decide +kernel, rfl⟩
theorem dX12_clears_138 : Dc cX12_clears 138 (.iload_n 1) 1 139 := ⟨by decide +kernel, rfl⟩
theorem dX12_clears_139 : Dc cX12_clears 139 (.imul) 1 140 := ⟨by decide +kernel, rfl⟩
theorem dX12_clears_140 : Dc cX12_clears 140 (.iload 5) 2 142 := ⟨by decide +kernel, rfl⟩
theorem dX12_clears_142 : Dc cX12_clears 142 (.iadd) 1 143 := ⟨by decide +kernel, rfl⟩
theorem dX12_clears_143 : Dc cX12_clears 143 (.aload_n 0) 1 144 := ⟨by decide +kernel, rfl⟩
theorem dX12_clears_144 : Dc cX12_clears 144 (.getfield 89) 3 147 := ⟨by decide +kernel, rfl⟩
theorem dX12_clears_147 : Dc cX12_clears 147 (.bipush 13) 2 149 := ⟨by decide +kernel, rfl⟩
theorem dX12_clears_149 : Dc cX12_clears 149 (.iload_n 1) 1 150 := ⟨by decide +kernel, rfl⟩
theorem dX12_clears_150 : Dc cX12_clears 150 (.imul) 1 151 := ⟨by decide +kernel, rfl⟩
theorem dX12_clears_151 : Dc cX12_clears 151 (.iload 5) 2 153 := ⟨by decide +kernel, rfl⟩
theorem dX12_clears_153 : Dc cX12_clears 153 (.iadd) 1 154 := ⟨by decide +kernel, rfl⟩
theorem dX12_clears_154 : Dc cX12_clears 154 (.laload) 1 155 := ⟨by decide +kernel, rfl⟩
theorem dX12_clears_155 : Dc cX12_clears 155 (.lload_n 3) 1 156 := ⟨by decide +kernel, rfl⟩
theorem dX12_clears_156 : Dc cX12_clears 156 (.lmul) 1 157 := ⟨by decide +kernel, rfl⟩
theorem dX12_clears_157 : Dc cX12_clears 157 (.ldc2_w 392) 3 160 := ⟨by decide +kernel, rfl⟩
theorem dX12_clears_160 : Dc cX12_clears 160 (.lrem) 1 161 := ⟨by decide +kernel, rfl⟩
theorem dX12_clears_161 : Dc cX12_clears 161 (.lastore) 1 162 := ⟨by decide +kernel, rfl⟩
theorem dX12_clears_162 : Dc cX12_clears 162 (.iinc 5 1) 3 165 := ⟨by decide +kernel, rfl⟩
theorem djX12_clears_165 : Dj cX12_clears 165 (.goto (-40)) 3 168 (-40) 125 := ⟨by decide +kernel, rfl, by decide⟩
theorem dX12_clears_168 : Dc cX12_clears 168 (.iconst 0) 1 169 := ⟨by decide +kernel, rfl⟩
theorem dX12_clears_169 : Dc cX12_clears 169 (.istore 5) 2 171 := ⟨by decide +kernel, rfl⟩
theorem dX12_clears_171 : Dc cX12_clears 171 (.iload 5) 2 173 := ⟨by decide +kernel, rfl⟩
theorem dX12_clears_173 : Dc cX12_clears 173 (.aload_n 0) 1 174 := ⟨by decide +kernel, rfl⟩
theorem dX12_clears_174 : Dc cX12_clears 174 (.getfield 406) 3 177 := ⟨by decide +kernel, rfl⟩
theorem djX12_clears_177 : Dj cX12_clears 177 (.if_icmp .ge 105) 3 180 105 282 := ⟨by decide +kernel, rfl, by decide⟩
theorem dX12_clears_180 : Dc cX12_clears 180 (.aload_n 0) 1 181 := ⟨by decide +kernel, rfl⟩
theorem dX12_clears_181 : Dc cX12_clears 181 (.getfield 89) 3 184 := ⟨by decide +kernel, rfl⟩
theorem dX12_clears_184 : Dc cX12_clears 184 (.bipush 13) 2 186 := ⟨by decide +kernel, rfl⟩
theorem dX12_clears_186 : Dc cX12_clears 186 (.iload 5) 2 188 := ⟨by decide +kernel, rfl⟩
theorem dX12_clears_188 : Dc cX12_clears 188 (.imul) 1 189 := ⟨by decide +kernel, rfl⟩
theorem dX12_clears_189 : Dc cX12_clears 189 (.iload_n 1) 1 190 := ⟨by decide +kernel, rfl⟩
theorem dX12_clears_190 : Dc cX12_clears 190 (.iadd) 1 191 := ⟨by decide +kernel, rfl⟩
theorem dX12_clears_191 : Dc cX12_clears 191 (.laload) 1 192 := ⟨by decide +kernel, rfl⟩
theorem dX12_clears_192 : Dc cX12_clears 192 (.lstore 6) 2 194 := ⟨by decide +kernel, rfl⟩
theorem dX12_clears_194 : Dc cX12_clears 194 (.iload 5) 2 196 := ⟨by decide +kernel, rfl⟩
theorem dX12_clears_196 : Dc cX12_clears 196 (.iload_n 1) 1 197 := ⟨by decide +kernel, rfl⟩
theorem djX12_clears_197 : Dj cX12_clears 197 (.if_icmp .eq 79) 3 200 79 276 := ⟨by decide +kernel, rfl, by decide⟩
theorem dX12_clears_200 : Dc cX12_clears 200 (.lload 6) 2 202 := ⟨by decide +kernel, rfl⟩
theorem dX12_clears_202 : Dc cX12_clears 202 (.lconst 0) 1 203 := ⟨by decide +kernel, rfl⟩
theorem dX12_clears_203 : Dc cX12_clears 203 (.lcmp) 1 204 := ⟨by decide +kernel, rfl⟩
theorem djX12_clears_204 : Dj cX12_clears 204 (.ifCond .ne 6) 3 207 6 210 := ⟨by decide +kernel, rfl, by decide⟩
theorem djX12_clears_207 : Dj cX12_clears 207 (.goto 69) 3 210 69 276 := ⟨by decide +kernel, rfl, by decide⟩
theorem dX12_clears_210 : Dc cX12_clears 210 (.iconst 0) 1 211 := ⟨by decide +kernel, rfl⟩
theorem dX12_clears_211 : Dc cX12_clears 211 (.istore 8) 2 213 := ⟨by decide +kernel, rfl⟩
theorem dX12_clears_213 : Dc cX12_clears 213 (.iload 8) 2 215 := ⟨by decide +kernel, rfl⟩
theorem dX12_clears_215 : Dc cX12_clears 215 (.bipush 12) 2 217 := ⟨by decide +kernel, rfl⟩
theorem djX12_clears_217 : Dj cX12_clears 217 (.if_icmp .gt 59) 3 220 59 276 := ⟨by decide +kernel, rfl, by decide⟩
theorem dX12_clears_220 : Dc cX12_clears 220 (.aload_n 0) 1 221 := ⟨by decide +kernel, rfl⟩
theorem dX12_clears_221 : Dc cX12_clears 221 (.getfield 89) 3 224 := ⟨by decide +kernel, rfl⟩
theorem dX12_clears_224 : Dc cX12_clears 224 (.bipush 13) 2 226 := ⟨by decide +kernel, rfl⟩
theorem dX12_clears_226 : Dc cX12_clears 226 (.iload 5) 2 228 := ⟨by decide +kernel, rfl⟩
theorem dX12_clears_228 : Dc cX12_clears 228 (.imul) 1 229 := ⟨by decide +kernel, rfl⟩
theorem dX12_clears_229 : Dc cX12_clears 229 (.iload 8) 2 231 := ⟨by decide +kernel, rfl⟩
theorem dX12_clears_231 : Dc cX12_clears 231 (.iadd) 1 232 := ⟨by decide +kernel, rfl⟩
theorem dX12_clears_232 : Dc cX12_clears 232 (.aload_n 0) 1 233 := ⟨by decide +kernel, rfl⟩
theorem dX12_clears_233 : Dc cX12_clears 233 (.getfield 89) 3 236 := ⟨by decide +kernel, rfl⟩
theorem dX12_clears_236 : Dc cX12_clears 236 (.bipush 13) 2 238 := ⟨by decide +kernel, rfl⟩
theorem dX12_clears_238 : Dc cX12_clears 238 (.iload 5) 2 240 := ⟨by decide +kernel, rfl⟩
theorem dX12_clears_240 : Dc cX12_clears 240 (.imul) 1 241 := ⟨by decide +kernel, rfl⟩
theorem dX12_clears_241 : Dc cX12_clears 241 (.iload 8) 2 243 := ⟨by decide +kernel, rfl⟩
theorem dX12_clears_243 : Dc cX12_clears 243 (.iadd) 1 244 := ⟨by decide +kernel, rfl⟩
theorem dX12_clears_244 : Dc cX12_clears 244 (.laload) 1 245 := ⟨by decide +kernel, rfl⟩
theorem dX12_clears_245 : Dc cX12_clears 245 (.ldc2_w 392) 3 248 := ⟨by decide +kernel, rfl⟩
theorem dX12_clears_248 : Dc cX12_clears 248 (.lload 6) 2 250 := ⟨by decide +kernel, rfl⟩
theorem dX12_clears_250 : Dc cX12_clears 250 (.lsub) 1 251 := ⟨by decide +kernel, rfl⟩
theorem dX12_clears_251 : Dc cX12_clears 251 (.aload_n 0) 1 252 := ⟨by decide +kernel, rfl⟩
theorem dX12_clears_252 : Dc cX12_clears 252 (.getfield 89) 3 255 := ⟨by decide +kernel, rfl⟩
theorem dX12_clears_255 : Dc cX12_clears 255 (.bipush 13) 2 257 := ⟨by decide +kernel, rfl⟩
theorem dX12_clears_257 : Dc cX12_clears 257 (.iload_n 1) 1 258 := ⟨by decide +kernel, rfl⟩
theorem dX12_clears_258 : Dc cX12_clears 258 (.imul) 1 259 := ⟨by decide +kernel, rfl⟩
theorem dX12_clears_259 : Dc cX12_clears 259 (.iload 8) 2 261 := ⟨by decide +kernel, rfl⟩
theorem dX12_clears_261 : Dc cX12_clears 261 (.iadd) 1 262 := ⟨by decide +kernel, rfl⟩
theorem dX12_clears_262 : Dc cX12_clears 262 (.laload) 1 263 := ⟨by decide +kernel, rfl⟩
theorem dX12_clears_263 : Dc cX12_clears 263 (.lmul) 1 264 := ⟨by decide +kernel, rfl⟩
theorem dX12_clears_264 : Dc cX12_clears 264 (.ladd) 1 265 := ⟨by decide +kernel, rfl⟩
theorem dX12_clears_265 : Dc cX12_clears 265 (.ldc2_w 392) 3 268 := ⟨by decide +kernel, rfl⟩
theorem dX12_clears_268 : Dc cX12_clears 268 (.lrem) 1 269 := ⟨by decide +kernel, rfl⟩
theorem dX12_clears_269 : Dc cX12_clears 269 (.lastore) 1 270 := ⟨by decide +kernel, rfl⟩
theorem dX12_clears_270 : Dc cX12_clears 270 (.iinc 8 1) 3 273 := ⟨by decide +kernel, rfl⟩
theorem djX12_clears_273 : Dj cX12_clears 273 (.goto (-60)) 3 276 (-60) 213 := ⟨by decide +kernel, rfl, by decide⟩
theorem dX12_clears_276 : Dc cX12_clears 276 (.iinc 5 1) 3 279 := ⟨by decide +kernel, rfl⟩
theorem djX12_clears_279 : Dj cX12_clears 279 (.goto (-108)) 3 282 (-108) 171 := ⟨by decide +kernel, rfl, by decide⟩
theorem dX12_clears_282 : Dc cX12_clears 282 (.iconst 1) 1 283 := ⟨by decide +kernel, rfl⟩
theorem dX12_clears_283 : Dc cX12_clears 283 (.ireturn) 1 284 := ⟨by decide +kernel, rfl⟩
section
variable {p : Program} {l : Launch} {e : Env} {s : State} {m : MethodId} {args : Array Value} {below : List Frame} {meth : Method} {c : Code} {A0 : Nat → Prop} {D : va_G} {cA : Nat → ClassId} {ad : Nat → Nat} {Z : (Nat → Nat) × (Nat → Nat)} {Q : Int → St → Prop}
set_option maxHeartbeats 4000000 in
set_option maxRecDepth 100000 in
theorem t_X12_clears_b276 (E : Ev p s m args meth c cX12_clears 9 RX12 A0 D cA ad NR Z) (hr : meth.sig.returnType = (some .boolean)) {K171 : Int → Int → St → Prop} (hK171 : ∀ (x1 : Int) (x5 : Int) (σ : St), C32 x1 → C32 x5 → CanS shR NR σ → K171 x1 x5 σ → G p l e (rmL 2 0 0) s m args below meth c 9 A0 D cA ad shR NR 0 0 (MQ below (QIc D cA ad shR NR Q A0) args s 0 0 A0) σ 171 [some (.ref (ad 0)), some (vI x1), none, none, none, some (vI x5), none, none, none] []) (x1 : Int) (x5 : Int) (σ : St) (c1 : C32 x1) (c5 : C32 x5) (hσ : CanS shR NR σ) (h : wp_X12_clears_b276 Q K171 x1 x5 σ) : G p l e (rmL 2 0 0) s m args below meth c 9 A0 D cA ad shR NR 0 0 (MQ below (QIc D cA ad shR NR Q A0) args s 0 0 A0) σ 276 [some (.ref (ad 0)), some (vI x1), none, none, none, some (vI x5), none, none, none] [] := by
  unfold wp_X12_clears_b276 at h
  refine g_iinc_5 E rfl (by decide) dX12_clears_276 (fun v11 ev11 => ?_)
  replace h := h v11 ev11
  have cv11 : C32 v11 := by rw [ev11]; exact c32_w _
  refine g_goto E djX12_clears_279 ?_
  exact (hK171 x1 v11 σ c1 cv11 hσ h).weak (w_k (w_k (w_d (w_d (w_d (w_k (w_d (w_d (w_d w_n)))))))))
set_option maxHeartbeats 4000000 in
set_option maxRecDepth 100000 in
theorem t_X12_clears_l213 (E : Ev p s m args meth c cX12_clears 9 RX12 A0 D cA ad NR Z) (hr : meth.sig.returnType = (some .boolean)) {K171 : Int → Int → St → Prop} (hK171 : ∀ (x1 : Int) (x5 : Int) (σ : St), C32 x1 → C32 x5 → CanS shR NR σ → K171 x1 x5 σ → G p l e (rmL 2 0 0) s m args below meth c 9 A0 D cA ad shR NR 0 0 (MQ below (QIc D cA ad shR NR Q A0) args s 0 0 A0) σ 171 [some (.ref (ad 0)), some (vI x1), none, none, none, some (vI x5), none, none, none] []) : ∀ (n : Nat) (x1 : Int) (x5 : Int) (x6 : Int) (x8 : Int) (σ : St), C32 x1 → C32 x5 → C64 x6 → C32 x8 → CanS shR NR σ → wp_X12_clears_l213 Q K171 n x1 x5 x6 x8 σ → G p l e (rmL 2 0 0) s m args below meth c 9 A0 D cA ad shR NR 0 0 (MQ below (QIc D cA ad shR NR Q A0) args s 0 0 A0) σ 213 [some (.ref (ad 0)), some (vI x1), none, none, none, some (vI x5), some (vL x6), none, some (vI x8)] [] := by
  intro n
  induction n with
  | zero => intro _ _ _ _ _ _ _ _ _ _ h; exact h.elim
  | succ n ih =>
    intro x1 x5 x6 x8 σ c1 c5 c6 c8 hσ h
    unfold wp_X12_clears_l213 at h
    refine g_iload_8 E dX12_clears_213 ?_
    refine g_bipush E (by decide) dX12_clears_215 ?_
    refine g_icmp_gt E c8 cl_12 djX12_clears_217 (fun hc => ?_) (fun hc => ?_)
    · replace h := h.1 hc
      exact (t_X12_clears_b276 E hr hK171 x1 x5 σ c1 c5 hσ h).weak (w_k (w_k (w_d (w_d (w_d (w_k (w_d (w_d (w_d w_n)))))))))
    · replace h := h.2 hc
      refine g_aload_0 E dX12_clears_220 ?_
      refine g_getR E fl_RX12_89 kR_0 sR_0 rfl dX12_clears_221 ?_
      refine g_bipush E (by decide) dX12_clears_224 ?_
      refine g_iload_5 E dX12_clears_226 ?_
      refine g_imul E dX12_clears_228 ?_
      refine g_iload_8 E dX12_clears_229 ?_
      refine g_iadd E dX12_clears_231 ?_
      refine g_aload_0 E dX12_clears_232 ?_
      refine g_getR E fl_RX12_89 kR_0 sR_0 rfl dX12_clears_233 ?_
      refine g_bipush E (by decide) dX12_clears_236 ?_
      refine g_iload_5 E dX12_clears_238 ?_
      refine g_imul E dX12_clears_240 ?_
      refine g_iload_8 E dX12_clears_241 ?_
      refine g_iadd E dX12_clears_243 ?_
      refine g_lald E kR_24 sR_24 (by decide) h.1 dX12_clears_244 ?_
      replace h := h.2
      refine g_ldc2 (n := 9973) E wc_RX12_392 dX12_clears_245 ?_
      refine g_lload_6 E dX12_clears_248 ?_
      refine g_lsub E dX12_clears_250 ?_
      refine g_aload_0 E dX12_clears_251 ?_
      refine g_getR E fl_RX12_89 kR_0 sR_0 rfl dX12_clears_252 ?_
      refine g_bipush E (by decide) dX12_clears_255 ?_
      refine g_iload_1 E dX12_clears_257 ?_
      refine g_imul E dX12_clears_258 ?_
      refine g_iload_8 E dX12_clears_259 ?_
      refine g_iadd E dX12_clears_261 ?_
      refine g_lald E kR_24 sR_24 (by decide) h.1 dX12_clears_262 ?_
      replace h := h.2
      refine g_lmul E dX12_clears_263 ?_
      refine g_ladd E dX12_clears_264 ?_
      refine g_ldc2 (n := 9973) E wc_RX12_392 dX12_clears_265 ?_
      refine g_lrem E cL_9973 (by decide) dX12_clears_268 ?_
      refine g_last E kR_24 sR_24 (by decide) h.1 dX12_clears_269 (g_nmS (fun σ12 eσ12 => ?_))
      replace h := h.2 σ12 eσ12
      have hσ12 : CanS shR NR σ12 := by rw [eσ12]; exact wR_24 hσ (c64_t _)
      refine g_iinc_8 E rfl (by decide) dX12_clears_270 (fun v13 ev13 => ?_)
      replace h := h v13 ev13
      have cv13 : C32 v13 := by rw [ev13]; exact c32_w _
      refine g_goto E djX12_clears_273 ?_
      exact (ih x1 x5 x6 v13 σ12 c1 c5 c6 cv13 hσ12 h).weak (w_k (w_k (w_d (w_d (w_d (w_k (w_k (w_d (w_k w_n)))))))))
set_option maxHeartbeats 4000000 in
set_option maxRecDepth 100000 in
theorem t_X12_clears_l171 (E : Ev p s m args meth c cX12_clears 9 RX12 A0 D cA ad NR Z) (hr : meth.sig.returnType = (some .boolean)) : ∀ (n : Nat) (x1 : Int) (x5 : Int) (σ : St), C32 x1 → C32 x5 → CanS shR NR σ → wp_X12_clears_l171 Q n x1 x5 σ → G p l e (rmL 2 0 0) s m args below meth c 9 A0 D cA ad shR NR 0 0 (MQ below (QIc D cA ad shR NR Q A0) args s 0 0 A0) σ 171 [some (.ref (ad 0)), some (vI x1), none, none, none, some (vI x5), none, none, none] [] := by
  intro n
  induction n with
  | zero => intro _ _ _ _ _ _ h; exact h.elim
  | succ n ih =>
    intro x1 x5 σ c1 c5 hσ h
    unfold wp_X12_clears_l171 at h
    refine g_iload_5 E dX12_clears_171 ?_
    refine g_aload_0 E dX12_clears_173 ?_
    refine g_getI E fl_RX12_406 kR_0 sR_0 rfl dX12_clears_174 ?_
    refine g_icmp_ge E c5 (fR_0_41 hσ) djX12_clears_177 (fun hc => ?_) (fun hc => ?_)
    · replace h := h.1 hc
      refine g_iconst E dX12_clears_282 ?_
      exact g_zret E hr (Or.inr rfl) h hσ dX12_clears_283
    · replace h := h.2 hc
      refine g_aload_0 E dX12_clears_180 ?_
      refine g_getR E fl_RX12_89 kR_0 sR_0 rfl dX12_clears_181 ?_
      refine g_bipush E (by decide) dX12_clears_184 ?_
      refine g_iload_5 E dX12_clears_186 ?_
      refine g_imul E dX12_clears_188 ?_
      refine g_iload_1 E dX12_clears_189 ?_
      refine g_iadd E dX12_clears_190 ?_
      refine g_lald E kR_24 sR_24 (by decide) h.1 dX12_clears_191 ?_
      replace h := h.2
      refine g_nmL (fun v10 ev10 => ?_)
      replace h := h v10 ev10
      have cv10 : C64 v10 := by rw [ev10]; exact (aR_24 hσ _)
      refine g_lstore_6 E rfl (by decide) dX12_clears_192 ?_
      refine g_iload_5 E dX12_clears_194 ?_
      refine g_iload_1 E dX12_clears_196 ?_
      refine g_icmp_eq E c5 c1 djX12_clears_197 (fun hc => ?_) (fun hc => ?_)
      · replace h := h.1 hc
        exact (t_X12_clears_b276 E hr ih x1 x5 σ c1 c5 hσ h).weak (w_k (w_k (w_d (w_d (w_d (w_k (w_d (w_d (w_d w_n)))))))))
      · replace h := h.2 hc
        refine g_lload_6 E dX12_clears_200 ?_
        refine g_lconst (n := 0) E (by decide) dX12_clears_202 ?_
        refine g_lcmp_ne E cv10 cL_0 dX12_clears_203 djX12_clears_204 (fun hc => ?_) (fun hc => ?_)
        · replace h := h.1 hc
          refine g_iconst E dX12_clears_210 ?_
          refine g_istore_8 E rfl (by decide) dX12_clears_211 ?_
          exact (t_X12_clears_l213 E hr ih bigN x1 x5 v10 0 σ c1 c5 cv10 cl_0 hσ h).weak (w_k (w_k (w_d (w_d (w_d (w_k (w_k (w_d (w_k w_n)))))))))
        · replace h := h.2 hc
          refine g_goto E djX12_clears_207 ?_
          exact (t_X12_clears_b276 E hr ih x1 x5 σ c1 c5 hσ h).weak (w_k (w_k (w_d (w_d (w_d (w_k (w_d (w_d (w_d w_n)))))))))
set_option maxHeartbeats 4000000 in
set_option maxRecDepth 100000 in
theorem t_X12_clears_l125 (E : Ev p s m args meth c cX12_clears 9 RX12 A0 D cA ad NR Z) (hr : meth.sig.returnType = (some .boolean)) : ∀ (n : Nat) (x1 : Int) (x3 : Int) (x5 : Int) (σ : St), C32 x1 → C64 x3 → C32 x5 → CanS shR NR σ → wp_X12_clears_l125 Q n x1 x3 x5 σ → G p l e (rmL 2 0 0) s m args below meth c 9 A0 D cA ad shR NR 0 0 (MQ below (QIc D cA ad shR NR Q A0) args s 0 0 A0) σ 125 [some (.ref (ad 0)), some (vI x1), none, some (vL x3), none, some (vI x5), none, none, none] [] := by
  intro n
  induction n with
  | zero => intro _ _ _ _ _ _ _ _ h; exact h.elim
  | succ n ih =>
    intro x1 x3 x5 σ c1 c3 c5 hσ h
    unfold wp_X12_clears_l125 at h
    refine g_iload_5 E dX12_clears_125 ?_
    refine g_bipush E (by decide) dX12_clears_127 ?_
    refine g_icmp_gt E c5 cl_12 djX12_clears_129 (fun hc => ?_) (fun hc => ?_)
    · replace h := h.1 hc
      refine g_iconst E dX12_clears_168 ?_
      refine g_istore_5 E rfl (by decide) dX12_clears_169 ?_
      exact (t_X12_clears_l171 E hr bigN x1 0 σ c1 cl_0 hσ h).weak (w_k (w_k (w_d (w_d (w_d (w_k (w_d (w_d (w_d w_n)))))))))
    · replace h := h.2 hc
      refine g_aload_0 E dX12_clears_132 ?_
      refine g_getR E fl_RX12_89 kR_0 sR_0 rfl dX12_clears_133 ?_
      refine g_bipush E (by decide) dX12_clears_136 ?_
      refine g_iload_1 E dX12_clears_138 ?_
      refine g_imul E dX12_clears_139 ?_
      refine g_iload_5 E dX12_clears_140 ?_
      refine g_iadd E dX12_clears_142 ?_
      refine g_aload_0 E dX12_clears_143 ?_
      refine g_getR E fl_RX12_89 kR_0 sR_0 rfl dX12_clears_144 ?_
      refine g_bipush E (by decide) dX12_clears_147 ?_
      refine g_iload_1 E dX12_clears_149 ?_
      refine g_imul E dX12_clears_150 ?_
      refine g_iload_5 E dX12_clears_151 ?_
      refine g_iadd E dX12_clears_153 ?_
      refine g_lald E kR_24 sR_24 (by decide) h.1 dX12_clears_154 ?_
      replace h := h.2
      refine g_lload_3 E dX12_clears_155 ?_
      refine g_lmul E dX12_clears_156 ?_
      refine g_ldc2 (n := 9973) E wc_RX12_392 dX12_clears_157 ?_
      refine g_lrem E cL_9973 (by decide) dX12_clears_160 ?_
      refine g_last E kR_24 sR_24 (by decide) h.1 dX12_clears_161 (g_nmS (fun σ8 eσ8 => ?_))
      replace h := h.2 σ8 eσ8
      have hσ8 : CanS shR NR σ8 := by rw [eσ8]; exact wR_24 hσ (c64_t _)
      refine g_iinc_5 E rfl (by decide) dX12_clears_162 (fun v9 ev9 => ?_)
      replace h := h v9 ev9
      have cv9 : C32 v9 := by rw [ev9]; exact c32_w _
      refine g_goto E djX12_clears_165 ?_
      exact (ih x1 x3 v9 σ8 c1 c3 cv9 hσ8 h).weak (w_k (w_k (w_d (w_k (w_d (w_k (w_d (w_d (w_d w_n)))))))))
set_option maxHeartbeats 4000000 in
set_option maxRecDepth 100000 in
theorem t_X12_clears_l44 (E : Ev p s m args meth c cX12_clears 9 RX12 A0 D cA ad NR Z) (hr : meth.sig.returnType = (some .boolean)) : ∀ (n : Nat) (x1 : Int) (x2 : Int) (x3 : Int) (σ : St), C32 x1 → C32 x2 → C32 x3 → CanS shR NR σ → wp_X12_clears_l44 Q n x1 x2 x3 σ → G p l e (rmL 2 0 0) s m args below meth c 9 A0 D cA ad shR NR 0 0 (MQ below (QIc D cA ad shR NR Q A0) args s 0 0 A0) σ 44 [some (.ref (ad 0)), some (vI x1), some (vI x2), some (vI x3), none, none, none, none, none] [] := by
  intro n
  induction n with
  | zero => intro _ _ _ _ _ _ _ _ h; exact h.elim
  | succ n ih =>
    intro x1 x2 x3 σ c1 c2 c3 hσ h
    unfold wp_X12_clears_l44 at h
    refine g_iload_3 E dX12_clears_44 ?_
    refine g_bipush E (by decide) dX12_clears_45 ?_
    refine g_icmp_gt E c3 cl_12 djX12_clears_47 (fun hc => ?_) (fun hc => ?_)
    · replace h := h.1 hc
      refine g_aload_0 E dX12_clears_104 ?_
      refine g_getR E fl_RX12_89 kR_0 sR_0 rfl dX12_clears_105 ?_
      refine g_bipush E (by decide) dX12_clears_108 ?_
      refine g_iload_1 E dX12_clears_110 ?_
      refine g_imul E dX12_clears_111 ?_
      refine g_iload_1 E dX12_clears_112 ?_
      refine g_iadd E dX12_clears_113 ?_
      refine g_lald E kR_24 sR_24 (by decide) h.1 dX12_clears_114 ?_
      replace h := h.2
      refine g_sipush E (by decide) dX12_clears_115 ?_
      refine g_callsL E my_X12_power ms_X12_power ml_RX12_409 (rm_ok (by decide) (by decide)) ⟨Nat.zero_le _, Nat.zero_le _⟩ (m_X12_power E.2.2.1 (aR_24 hσ _) cl_9971 hσ h) rfl rfl (Nat.le_of_ble_eq_true rfl) dX12_clears_118 (fun r2 σ3 cr2 hσ3 h => ?_)
      refine g_lstore_3 E rfl (by decide) dX12_clears_121 ?_
      refine g_iconst E dX12_clears_122 ?_
      refine g_istore_5 E rfl (by decide) dX12_clears_123 ?_
      exact (t_X12_clears_l125 E hr bigN x1 r2 0 σ3 c1 cr2 cl_0 hσ3 h).weak (w_k (w_k (w_d (w_k (w_d (w_k (w_d (w_d (w_d w_n)))))))))
    · replace h := h.2 hc
      refine g_aload_0 E dX12_clears_50 ?_
      refine g_getR E fl_RX12_89 kR_0 sR_0 rfl dX12_clears_51 ?_
      refine g_bipush E (by decide) dX12_clears_54 ?_
      refine g_iload_2 E dX12_clears_56 ?_
      refine g_imul E dX12_clears_57 ?_
      refine g_iload_3 E dX12_clears_58 ?_
      refine g_iadd E dX12_clears_59 ?_
      refine g_lald E kR_24 sR_24 (by decide) h.1 dX12_clears_60 ?_
      replace h := h.2
      refine g_nmL (fun v4 ev4 => ?_)
      replace h := h v4 ev4
      have cv4 : C64 v4 := by rw [ev4]; exact (aR_24 hσ _)
      refine g_lstore_4 E rfl (by decide) dX12_clears_61 ?_
      refine g_aload_0 E dX12_clears_63 ?_
      refine g_getR E fl_RX12_89 kR_0 sR_0 rfl dX12_clears_64 ?_
      refine g_bipush E (by decide) dX12_clears_67 ?_
      refine g_iload_2 E dX12_clears_69 ?_
      refine g_imul E dX12_clears_70 ?_
      refine g_iload_3 E dX12_clears_71 ?_
      refine g_iadd E dX12_clears_72 ?_
      refine g_aload_0 E dX12_clears_73 ?_
      refine g_getR E fl_RX12_89 kR_0 sR_0 rfl dX12_clears_74 ?_
      refine g_bipush E (by decide) dX12_clears_77 ?_
      refine g_iload_1 E dX12_clears_79 ?_
      refine g_imul E dX12_clears_80 ?_
      refine g_iload_3 E dX12_clears_81 ?_
      refine g_iadd E dX12_clears_82 ?_
      refine g_lald E kR_24 sR_24 (by decide) h.1 dX12_clears_83 ?_
      replace h := h.2
      refine g_last E kR_24 sR_24 (by decide) h.1 dX12_clears_84 (g_nmS (fun σ5 eσ5 => ?_))
      replace h := h.2 σ5 eσ5
      have hσ5 : CanS shR NR σ5 := by rw [eσ5]; exact wR_24 hσ (aR_24 hσ _)
      refine g_aload_0 E dX12_clears_85 ?_
      refine g_getR E fl_RX12_89 kR_0 sR_0 rfl dX12_clears_86 ?_
      refine g_bipush E (by decide) dX12_clears_89 ?_
      refine g_iload_1 E dX12_clears_91 ?_
      refine g_imul E dX12_clears_92 ?_
      refine g_iload_3 E dX12_clears_93 ?_
      refine g_iadd E dX12_clears_94 ?_
      refine g_lload_4 E dX12_clears_95 ?_
      refine g_last E kR_24 sR_24 (by decide) h.1 dX12_clears_97 (g_nmS (fun σ6 eσ6 => ?_))
      replace h := h.2 σ6 eσ6
      have hσ6 : CanS shR NR σ6 := by rw [eσ6]; exact wR_24 hσ5 cv4
      refine g_iinc_3 E rfl (by decide) dX12_clears_98 (fun v7 ev7 => ?_)
      replace h := h v7 ev7
      have cv7 : C32 v7 := by rw [ev7]; exact c32_w _
      refine g_goto E djX12_clears_101 ?_
      exact (ih x1 x2 v7 σ6 c1 c2 cv7 hσ6 h).weak (w_k (w_k (w_k (w_k (w_d (w_d (w_d (w_d (w_d w_n)))))))))
set_option maxHeartbeats 4000000 in
set_option maxRecDepth 100000 in
theorem t_X12_clears_b32 (E : Ev p s m args meth c cX12_clears 9 RX12 A0 D cA ad NR Z) (hr : meth.sig.returnType = (some .boolean)) (x1 : Int) (x2 : Int) (σ : St) (c1 : C32 x1) (c2 : C32 x2) (hσ : CanS shR NR σ) (h : wp_X12_clears_b32 Q x1 x2 σ) : G p l e (rmL 2 0 0) s m args below meth c 9 A0 D cA ad shR NR 0 0 (MQ below (QIc D cA ad shR NR Q A0) args s 0 0 A0) σ 32 [some (.ref (ad 0)), some (vI x1), some (vI x2), none, none, none, none, none, none] [] := by
  unfold wp_X12_clears_b32 at h
  refine g_iload_2 E dX12_clears_32 ?_
  refine g_aload_0 E dX12_clears_33 ?_
  refine g_getI E fl_RX12_406 kR_0 sR_0 rfl dX12_clears_34 ?_
  refine g_icmp_ne E c2 (fR_0_41 hσ) djX12_clears_37 (fun hc => ?_) (fun hc => ?_)
  · replace h := h.1 hc
    refine g_iconst E dX12_clears_42 ?_
    refine g_istore_3 E rfl (by decide) dX12_clears_43 ?_
    exact (t_X12_clears_l44 E hr bigN x1 x2 0 σ c1 c2 cl_0 hσ h).weak (w_k (w_k (w_k (w_k (w_d (w_d (w_d (w_d (w_d w_n)))))))))
  · replace h := h.2 hc
    refine g_iconst E dX12_clears_40 ?_
    exact g_zret E hr (Or.inl rfl) h hσ dX12_clears_41
set_option maxHeartbeats 4000000 in
set_option maxRecDepth 100000 in
theorem t_X12_clears_l2 (E : Ev p s m args meth c cX12_clears 9 RX12 A0 D cA ad NR Z) (hr : meth.sig.returnType = (some .boolean)) : ∀ (n : Nat) (x1 : Int) (x2 : Int) (σ : St), C32 x1 → C32 x2 → CanS shR NR σ → wp_X12_clears_l2 Q n x1 x2 σ → G p l e (rmL 2 0 0) s m args below meth c 9 A0 D cA ad shR NR 0 0 (MQ below (QIc D cA ad shR NR Q A0) args s 0 0 A0) σ 2 [some (.ref (ad 0)), some (vI x1), some (vI x2), none, none, none, none, none, none] [] := by
  intro n
  induction n with
  | zero => intro _ _ _ _ _ _ h; exact h.elim
  | succ n ih =>
    intro x1 x2 σ c1 c2 hσ h
    unfold wp_X12_clears_l2 at h
    refine g_iload_2 E dX12_clears_2 ?_
    refine g_aload_0 E dX12_clears_3 ?_
    refine g_getI E fl_RX12_406 kR_0 sR_0 rfl dX12_clears_4 ?_
    refine g_icmp_ge E c2 (fR_0_41 hσ) djX12_clears_7 (fun hc => ?_) (fun hc => ?_)
    · replace h := h.1 hc
      exact (t_X12_clears_b32 E hr x1 x2 σ c1 c2 hσ h).weak (w_k (w_k (w_k (w_d (w_d (w_d (w_d (w_d (w_d w_n)))))))))
    · replace h := h.2 hc
      refine g_aload_0 E dX12_clears_10 ?_
      refine g_getR E fl_RX12_89 kR_0 sR_0 rfl dX12_clears_11 ?_
      refine g_bipush E (by decide) dX12_clears_14 ?_
      refine g_iload_2 E dX12_clears_16 ?_
      refine g_imul E dX12_clears_17 ?_
      refine g_iload_1 E dX12_clears_18 ?_
      refine g_iadd E dX12_clears_19 ?_
      refine g_lald E kR_24 sR_24 (by decide) h.1 dX12_clears_20 ?_
      replace h := h.2
      refine g_lconst (n := 0) E (by decide) dX12_clears_21 ?_
      refine g_lcmp_ne E (aR_24 hσ _) cL_0 dX12_clears_22 djX12_clears_23 (fun hc => ?_) (fun hc => ?_)
      · replace h := h.1 hc
        exact (t_X12_clears_b32 E hr x1 x2 σ c1 c2 hσ h).weak (w_k (w_k (w_k (w_d (w_d (w_d (w_d (w_d (w_d w_n)))))))))
      · replace h := h.2 hc
        refine g_iinc_2 E rfl (by decide) dX12_clears_26 (fun v1 ev1 => ?_)
        replace h := h v1 ev1
        have cv1 : C32 v1 := by rw [ev1]; exact c32_w _
        refine g_goto E djX12_clears_29 ?_
        exact (ih x1 v1 σ c1 cv1 hσ h).weak (w_k (w_k (w_k (w_d (w_d (w_d (w_d (w_d (w_d w_n)))))))))
set_option maxHeartbeats 4000000 in
set_option maxRecDepth 100000 in
theorem t_X12_clears (E : Ev p s m args meth c cX12_clears 9 RX12 A0 D cA ad NR Z) (hr : meth.sig.returnType = (some .boolean)) (x1 : Int) (σ : St) (c1 : C32 x1) (hσ : CanS shR NR σ) (h : wp_X12_clears x1 σ Q) : G p l e (rmL 2 0 0) s m args below meth c 9 A0 D cA ad shR NR 0 0 (MQ below (QIc D cA ad shR NR Q A0) args s 0 0 A0) σ 0 [some (.ref (ad 0)), some (vI x1), none, none, none, none, none, none, none] [] := by
  unfold wp_X12_clears at h
  refine g_iload_1 E dX12_clears_0 ?_
  refine g_istore_2 E rfl (by decide) dX12_clears_1 ?_
  exact (t_X12_clears_l2 E hr bigN x1 x1 σ c1 c1 hσ h).weak (w_k (w_k (w_k (w_d (w_d (w_d (w_d (w_d (w_d w_n)))))))))
end
theorem m_X12_clears {Z : (Nat → Nat) × (Nat → Nat)} {l : Launch} {D : va_G} {cA : Nat → ClassId} {ad : Nat → Nat} {x1 : Int} {σ : St} {Q : Int → St → Prop} (hA : AdOk NR ad) (c1 : C32 x1) (hσ : CanS shR NR σ) (h : wp_X12_clears x1 σ Q) : KtI Z l D cA ad shR NR yX12_clears cX12_clears 9 (some .boolean) 2 [.ref (ad 0), vI x1] σ Q :=
  KtI.of my_X12_clears hA [some (.ref (ad 0)), some (vI x1), none, none, none, none, none, none, none] (Nat.le_of_ble_eq_true rfl) rfl (fun p e s m args below meth c A0 E hr => t_X12_clears E hr x1 σ c1 hσ h)
theorem dX12_laysSums_0 : Dc cX12_laysSums 0 (.aload_n 0) 1 1 := ⟨by decide +kernel, rfl⟩
theorem dX12_laysSums_1 : Dc cX12_laysSums 1 (.iconst 0) 1 2 := ⟨by decide +kernel, rfl⟩
theorem dX12_laysSums_2 : Dc cX12_laysSums 2 (.putfield 406) 3 5 := ⟨by decide +kernel, rfl⟩
theorem dX12_laysSums_5 : Dc cX12_laysSums 5 (.iconst 0) 1 6 := ⟨by decide +kernel, rfl⟩
theorem dX12_laysSums_6 : Dc cX12_laysSums 6 (.istore_n 3) 1 7 := ⟨by decide +kernel, rfl⟩
theorem dX12_laysSums_7 : Dc cX12_laysSums 7 (.iload_n 3) 1 8 := ⟨by decide +kernel, rfl⟩
theorem dX12_laysSums_8 : Dc cX12_laysSums 8 (.bipush 12) 2 10 := ⟨by decide +kernel, rfl⟩
theorem djX12_laysSums_10 : Dj cX12_laysSums 10 (.if_icmp .ge 42) 3 13 42 52 := ⟨by decide +kernel, rfl, by decide⟩
theorem dX12_laysSums_13 : Dc cX12_laysSums 13 (.aload_n 0) 1 14 := ⟨by decide +kernel, rfl⟩
theorem dX12_laysSums_14 : Dc cX12_laysSums 14 (.iload_n 3) 1 15 := ⟨by decide +kernel, rfl⟩
theorem dX12_laysSums_15 : Dc cX12_laysSums 15 (.iload_n 1) 1 16 := ⟨by decide +kernel, rfl⟩
theorem dX12_laysSums_16 : Dc cX12_laysSums 16 (.iload_n 2) 1 17 := ⟨by decide +kernel, rfl⟩
theorem dX12_laysSums_17 : Dc cX12_laysSums 17 (.invokevirtual 324) 3 20 := ⟨by decide +kernel, rfl⟩
theorem djX12_laysSums_20 : Dj cX12_laysSums 20 (.ifCond .ne 6) 3 23 6 26 := ⟨by decide +kernel, rfl, by decide⟩
theorem djX12_laysSums_23 : Dj cX12_laysSums 23 (.goto 23) 3 26 23 46 := ⟨by decide +kernel, rfl, by decide⟩
theorem dX12_laysSums_26 : Dc cX12_laysSums 26 (.aload_n 0) 1 27 := ⟨by decide +kernel, rfl⟩
theorem dX12_laysSums_27 : Dc cX12_laysSums 27 (.getfield 92) 3 30 := ⟨by decide +kernel, rfl⟩
theorem dX12_laysSums_30 : Dc cX12_laysSums 30 (.aload_n 0) 1 31 := ⟨by decide +kernel, rfl⟩
theorem dX12_laysSums_31 : Dc cX12_laysSums 31 (.getfield 406) 3 34 := ⟨by decide +kernel, rfl⟩
theorem dX12_laysSums_34 : Dc cX12_laysSums 34 (.iload_n 3) 1 35 := ⟨by decide +kernel, rfl⟩
theorem dX12_laysSums_35 : Dc cX12_laysSums 35 (.iastore) 1 36 := ⟨by decide +kernel, rfl⟩
theorem dX12_laysSums_36 : Dc cX12_laysSums 36 (.aload_n 0) 1 37 := ⟨by decide +kernel, rfl⟩
theorem dX12_laysSums_37 : Dc cX12_laysSums 37 (.dup) 1 38 := ⟨by decide +kernel, rfl⟩
theorem dX12_laysSums_38 : Dc cX12_laysSums 38 (.getfield 406) 3 41 := ⟨by decide +kernel, rfl⟩
theorem dX12_laysSums_41 : Dc cX12_laysSums 41 (.iconst 1) 1 42 := ⟨by decide +kernel, rfl⟩
theorem dX12_laysSums_42 : Dc cX12_laysSums 42 (.iadd) 1 43 := ⟨by decide +kernel, rfl⟩
theorem dX12_laysSums_43 : Dc cX12_laysSums 43 (.putfield 406) 3 46 := ⟨by decide +kernel, rfl⟩
theorem dX12_laysSums_46 : Dc cX12_laysSums 46 (.iinc 3 1) 3 49 := ⟨by decide +kernel, rfl⟩
theorem djX12_laysSums_49 : Dj cX12_laysSums 49 (.goto (-42)) 3 52 (-42) 7 := ⟨by decide +kernel, rfl, by decide⟩
theorem dX12_laysSums_52 : Dc cX12_laysSums 52 (.iconst 0) 1 53 := ⟨by decide +kernel, rfl⟩
theorem dX12_laysSums_53 : Dc cX12_laysSums 53 (.istore_n 3) 1 54 := ⟨by decide +kernel, rfl⟩
theorem dX12_laysSums_54 : Dc cX12_laysSums 54 (.iload_n 3) 1 55 := ⟨by decide +kernel, rfl⟩
theorem dX12_laysSums_55 : Dc cX12_laysSums 55 (.sipush 156) 3 58 := ⟨by decide +kernel, rfl⟩
theorem djX12_laysSums_58 : Dj cX12_laysSums 58 (.if_icmp .ge 16) 3 61 16 74 := ⟨by decide +kernel, rfl, by decide⟩
theorem dX12_laysSums_61 : Dc cX12_laysSums 61 (.aload_n 0) 1 62 := ⟨by decide +kernel, rfl⟩
theorem dX12_laysSums_62 : Dc cX12_laysSums 62 (.getfield 89) 3 65 := ⟨by decide +kernel, rfl⟩
theorem dX12_laysSums_65 : Dc cX12_laysSums 65 (.iload_n 3) 1 66 := ⟨by decide +kernel, rfl⟩
theorem dX12_laysSums_66 : Dc cX12_laysSums 66 (.lconst 0) 1 67 := ⟨by decide +kernel, rfl⟩
theorem dX12_laysSums_67 : Dc cX12_laysSums 67 (.lastore) 1 68 := ⟨by decide +kernel, rfl⟩
theorem dX12_laysSums_68 : Dc cX12_laysSums 68 (.iinc 3 1) 3 71 := ⟨by decide +kernel, rfl⟩
theorem djX12_laysSums_71 : Dj cX12_laysSums 71 (.goto (-17)) 3 74 (-17) 54 := ⟨by decide +kernel, rfl, by decide⟩
theorem dX12_laysSums_74 : Dc cX12_laysSums 74 (.iconst 0) 1 75 := ⟨by decide +kernel, rfl⟩
theorem dX12_laysSums_75 : Dc cX12_laysSums 75 (.istore_n 3) 1 76 := ⟨by decide +kernel, rfl⟩
theorem dX12_laysSums_76 : Dc cX12_laysSums 76 (.iload_n 3) 1 77 := ⟨by decide +kernel, rfl⟩
theorem dX12_laysSums_77 : Dc cX12_laysSums 77 (.aload_n 0) 1 78 := ⟨by decide +kernel, rfl⟩
theorem dX12_laysSums_78 : Dc cX12_laysSums 78 (.getfield 406) 3 81 := ⟨by decide +kernel, rfl⟩
theorem djX12_laysSums_81 : Dj cX12_laysSums 81 (.if_icmp .ge 19) 3 84 19 100 := ⟨by decide +kernel, rfl, by decide⟩
theorem dX12_laysSums_84 : Dc cX12_laysSums 84 (.aload_n 0) 1 85 := ⟨by decide +kernel, rfl⟩
theorem dX12_laysSums_85 : Dc cX12_laysSums 85 (.getfield 89) 3 88 := ⟨by decide +kernel, rfl⟩
theorem dX12_laysSums_88 : Dc cX12_laysSums 88 (.bipush 14) 2 90 := ⟨by decide +kernel, rfl⟩
theorem dX12_laysSums_90 : Dc cX12_laysSums 90 (.iload_n 3) 1 91 := ⟨by decide +kernel, rfl⟩
theorem dX12_laysSums_91 : Dc cX12_laysSums 91 (.imul) 1 92 := ⟨by decide +kernel, rfl⟩
theorem dX12_laysSums_92 : Dc cX12_laysSums 92 (.lconst 1) 1 93 := ⟨by decide +kernel, rfl⟩
theorem dX12_laysSums_93 : Dc cX12_laysSums 93 (.lastore) 1 94 := ⟨by decide +kernel, rfl⟩
theorem dX12_laysSums_94 : Dc cX12_laysSums 94 (.iinc 3 1) 3 97 := ⟨by decide +kernel, rfl⟩
theorem djX12_laysSums_97 : Dj cX12_laysSums 97 (.goto (-21)) 3 100 (-21) 76 := ⟨by decide +kernel, rfl, by decide⟩
theorem dX12_laysSums_100 : Dc cX12_laysSums 100 (.iconst 1) 1 101 := ⟨by decide +kernel, rfl⟩
theorem dX12_laysSums_101 : Dc cX12_laysSums 101 (.istore_n 3) 1 102 := ⟨by decide +kernel, rfl⟩
theorem dX12_laysSums_102 : Dc cX12_laysSums 102 (.iconst 0) 1 103 := ⟨by decide +kernel, rfl⟩
theorem dX12_laysSums_103 : Dc cX12_laysSums 103 (.istore 4) 2 105 := ⟨by decide +kernel, rfl⟩
theorem dX12_laysSums_105 : Dc cX12_laysSums 105 (.iload 4) 2 107 := ⟨by decide +kernel, rfl⟩
theorem dX12_laysSums_107 : Dc cX12_laysSums 107 (.aload_n 0) 1 108 := ⟨by decide +kernel, rfl⟩
theorem dX12_laysSums_108 : Dc cX12_laysSums 108 (.getfield 252) 3 111 := ⟨by decide +kernel, rfl⟩
theorem djX12_laysSums_111 : Dj cX12_laysSums 111 (.if_icmp .ge 55) 3 114 55 166 := ⟨by decide +kernel, rfl, by decide⟩
theorem dX12_laysSums_114 : Dc cX12_laysSums 114 (.aload_n 0) 1 115 := ⟨by decide +kernel, rfl⟩
theorem dX12_laysSums_115 : Dc cX12_laysSums 115 (.iload 4) 2 117 := ⟨by decide +kernel, rfl⟩
theorem dX12_laysSums_117 : Dc cX12_laysSums 117 (.invokevirtual 298) 3 120 := ⟨by decide +kernel, rfl⟩
theorem djX12_laysSums_120 : Dj cX12_laysSums 120 (.ifCond .eq 40) 3 123 40 160 := ⟨by decide +kernel, rfl, by decide⟩
theorem dX12_laysSums_123 : Dc cX12_laysSums 123 (.aload_n 0) 1 124 := ⟨by decide +kernel, rfl⟩
theorem dX12_laysSums_124 : Dc cX12_laysSums 124 (.aload_n 0) 1 125 := ⟨by decide +kernel, rfl⟩
theorem dX12_laysSums_125 : Dc cX12_laysSums 125 (.getfield 13) 3 128 := ⟨by decide +kernel, rfl⟩
theorem dX12_laysSums_128 : Dc cX12_laysSums 128 (.iload 4) 2 130 := ⟨by decide +kernel, rfl⟩
theorem dX12_laysSums_130 : Dc cX12_laysSums 130 (.iaload) 1 131 := ⟨by decide +kernel, rfl⟩
theorem dX12_laysSums_131 : Dc cX12_laysSums 131 (.iload_n 1) 1 132 := ⟨by decide +kernel, rfl⟩
theorem dX12_laysSums_132 : Dc cX12_laysSums 132 (.iload_n 2) 1 133 := ⟨by decide +kernel, rfl⟩
theorem dX12_laysSums_133 : Dc cX12_laysSums 133 (.invokevirtual 324) 3 136 := ⟨by decide +kernel, rfl⟩
theorem djX12_laysSums_136 : Dj cX12_laysSums 136 (.ifCond .eq 24) 3 139 24 160 := ⟨by decide +kernel, rfl, by decide⟩
theorem dX12_laysSums_139 : Dc cX12_laysSums 139 (.aload_n 0) 1 140 := ⟨by decide +kernel, rfl⟩
theorem dX12_laysSums_140 : Dc cX12_laysSums 140 (.iload 4) 2 142 := ⟨by decide +kernel, rfl⟩
theorem dX12_laysSums_142 : Dc cX12_laysSums 142 (.iload_n 1) 1 143 := ⟨by decide +kernel, rfl⟩
theorem dX12_laysSums_143 : Dc cX12_laysSums 143 (.iload_n 2) 1 144 := ⟨by decide +kernel, rfl⟩
theorem dX12_laysSums_144 : Dc cX12_laysSums 144 (.invokevirtual 413) 3 147 := ⟨by decide +kernel, rfl⟩
theorem djX12_laysSums_147 : Dj cX12_laysSums 147 (.ifCond .eq 11) 3 150 11 158 := ⟨by decide +kernel, rfl, by decide⟩
theorem dX12_laysSums_150 : Dc cX12_laysSums 150 (.iload_n 3) 1 151 := ⟨by decide +kernel, rfl⟩
theorem djX12_laysSums_151 : Dj cX12_laysSums 151 (.ifCond .eq 7) 3 154 7 158 := ⟨by decide +kernel, rfl, by decide⟩
theorem dX12_laysSums_154 : Dc cX12_laysSums 154 (.iconst 1) 1 155 := ⟨by decide +kernel, rfl⟩
theorem djX12_laysSums_155 : Dj cX12_laysSums 155 (.goto 4) 3 158 4 159 := ⟨by decide +kernel, rfl, by decide⟩
theorem dX12_laysSums_158 : Dc cX12_laysSums 158 (.iconst 0) 1 159 := ⟨by decide +kernel, rfl⟩
theorem dX12_laysSums_159 : Dc cX12_laysSums 159 (.istore_n 3) 1 160 := ⟨by decide +kernel, rfl⟩
theorem dX12_laysSums_160 : Dc cX12_laysSums 160 (.iinc 4 1) 3 163 := ⟨by decide +kernel, rfl⟩
theorem djX12_laysSums_163 : Dj cX12_laysSums 163 (.goto (-58)) 3 166 (-58) 105 := ⟨by decide +kernel, rfl, by decide⟩
theorem dX12_laysSums_166 : Dc cX12_laysSums 166 (.iconst 0) 1 167 := ⟨by decide +kernel, rfl⟩
theorem dX12_laysSums_167 : Dc cX12_laysSums 167 (.istore 4) 2 169 := ⟨by decide +kernel, rfl⟩
theorem dX12_laysSums_169 : Dc cX12_laysSums 169 (.iload 4) 2 171 := ⟨by decide +kernel, rfl⟩
theorem dX12_laysSums_171 : Dc cX12_laysSums 171 (.sipush 156) 3 174 := ⟨by decide +kernel, rfl⟩
theorem djX12_laysSums_174 : Dj cX12_laysSums 174 (.if_icmp .ge 22) 3 177 22 196 := ⟨by decide +kernel, rfl, by decide⟩
theorem dX12_laysSums_177 : Dc cX12_laysSums 177 (.aload_n 0) 1 178 := ⟨by decide +kernel, rfl⟩
theorem dX12_laysSums_178 : Dc cX12_laysSums 178 (.getfield 89) 3 181 := ⟨by decide +kernel, rfl⟩
theorem dX12_laysSums_181 : Dc cX12_laysSums 181 (.iload 4) 2 183 := ⟨by decide +kernel, rfl⟩
theorem dX12_laysSums_183 : Dc cX12_laysSums 183 (.dup2) 1 184 := ⟨by decide +kernel, rfl⟩
theorem dX12_laysSums_184 : Dc cX12_laysSums 184 (.laload) 1 185 := ⟨by decide +kernel, rfl⟩
theorem dX12_laysSums_185 : Dc cX12_laysSums 185 (.ldc2_w 392) 3 188 := ⟨by decide +kernel, rfl⟩
theorem dX12_laysSums_188 : Dc cX12_laysSums 188 (.lrem) 1 189 := ⟨by decide +kernel, rfl⟩
theorem dX12_laysSums_189 : Dc cX12_laysSums 189 (.lastore) 1 190 := ⟨by decide +kernel, rfl⟩
theorem dX12_laysSums_190 : Dc cX12_laysSums 190 (.iinc 4 1) 3 193 := ⟨by decide +kernel, rfl⟩
theorem djX12_laysSums_193 : Dj cX12_laysSums 193 (.goto (-24)) 3 196 (-24) 169 := ⟨by decide +kernel, rfl, by decide⟩
theorem dX12_laysSums_196 : Dc cX12_laysSums 196 (.iconst 0) 1 197 := ⟨by decide +kernel, rfl⟩
theorem dX12_laysSums_197 : Dc cX12_laysSums 197 (.istore 4) 2 199 := ⟨by decide +kernel, rfl⟩
theorem dX12_laysSums_199 : Dc cX12_laysSums 199 (.iload 4) 2 201 := ⟨by decide +kernel, rfl⟩
theorem dX12_laysSums_201 : Dc cX12_laysSums 201 (.aload_n 0) 1 202 := ⟨by decide +kernel, rfl⟩
theorem dX12_laysSums_202 : Dc cX12_laysSums 202 (.getfield 406) 3 205 := ⟨by decide +kernel, rfl⟩
theorem djX12_laysSums_205 : Dj cX12_laysSums 205 (.if_icmp .ge 20) 3 208 20 225 := ⟨by decide +kernel, rfl, by decide⟩
theorem dX12_laysSums_208 : Dc cX12_laysSums 208 (.iload_n 3) 1 209 := ⟨by decide +kernel, rfl⟩
theorem djX12_laysSums_209 : Dj cX12_laysSums 209 (.ifCond .eq 16) 3 212 16 225 := ⟨by decide +kernel, rfl, by decide⟩
theorem dX12_laysSums_212 : Dc cX12_laysSums 212 (.aload_n 0) 1 213 := ⟨by decide +kernel, rfl⟩
theorem dX12_laysSums_213 : Dc cX12_laysSums 213 (.iload 4) 2 215 := ⟨by decide +kernel, rfl⟩
theorem dX12_laysSums_215 : Dc cX12_laysSums 215 (.invokevirtual 416) 3 218 := ⟨by decide +kernel, rfl⟩
theorem dX12_laysSums_218 : Dc cX12_laysSums 218 (.istore_n 3) 1 219 := ⟨by decide +kernel, rfl⟩
theorem dX12_laysSums_219 : Dc cX12_laysSums 219 (.iinc 4 1) 3 222 := ⟨by decide +kernel, rfl⟩
theorem djX12_laysSums_222 : Dj cX12_laysSums 222 (.goto (-23)) 3 225 (-23) 199 := ⟨by decide +kernel, rfl, by decide⟩
theorem dX12_laysSums_225 : Dc cX12_laysSums 225 (.aload_n 0) 1 226 := ⟨by decide +kernel, rfl⟩
theorem dX12_laysSums_226 : Dc cX12_laysSums 226 (.getfield 86) 3 229 := ⟨by decide +kernel, rfl⟩
theorem dX12_laysSums_229 : Dc cX12_laysSums 229 (.iload_n 1) 1 230 := ⟨by decide +kernel, rfl⟩
theorem dX12_laysSums_230 : Dc cX12_laysSums 230 (.iload_n 2) 1 231 := ⟨by decide +kernel, rfl⟩
theorem dX12_laysSums_231 : Dc cX12_laysSums 231 (.invokestatic 394) 3 234 := ⟨by decide +kernel, rfl⟩
theorem dX12_laysSums_234 : Dc cX12_laysSums 234 (.iload_n 3) 1 235 := ⟨by decide +kernel, rfl⟩
theorem djX12_laysSums_235 : Dj cX12_laysSums 235 (.ifCond .ne 7) 3 238 7 242 := ⟨by decide +kernel, rfl, by decide⟩
theorem dX12_laysSums_238 : Dc cX12_laysSums 238 (.iconst 1) 1 239 := ⟨by decide +kernel, rfl⟩
theorem djX12_laysSums_239 : Dj cX12_laysSums 239 (.goto 4) 3 242 4 243 := ⟨by decide +kernel, rfl, by decide⟩
theorem dX12_laysSums_242 : Dc cX12_laysSums 242 (.iconst 0) 1 243 := ⟨by decide +kernel, rfl⟩
theorem dX12_laysSums_243 : Dc cX12_laysSums 243 (.bastore) 1 244 := ⟨by decide +kernel, rfl⟩
theorem dX12_laysSums_244 : Dc cX12_laysSums 244 (.iconst 0) 1 245 := ⟨by decide +kernel, rfl⟩
theorem dX12_laysSums_245 : Dc cX12_laysSums 245 (.istore 4) 2 247 := ⟨by decide +kernel, rfl⟩
theorem dX12_laysSums_247 : Dc cX12_laysSums 247 (.iload 4) 2 249 := ⟨by decide +kernel, rfl⟩
theorem dX12_laysSums_249 : Dc cX12_laysSums 249 (.aload_n 0) 1 250 := ⟨by decide +kernel, rfl⟩
theorem dX12_laysSums_250 : Dc cX12_laysSums 250 (.getfield 406) 3 253 := ⟨by decide +kernel, rfl⟩
theorem djX12_laysSums_253 : Dj cX12_laysSums 253 (.if_icmp .ge 39) 3 256 39 292 := ⟨by decide +kernel, rfl, by decide⟩
theorem dX12_laysSums_256 : Dc cX12_laysSums 256 (.aload_n 0) 1 257 := ⟨by decide +kernel, rfl⟩
theorem dX12_laysSums_257 : Dc cX12_laysSums 257 (.getfield 83) 3 260 := ⟨by decide +kernel, rfl⟩
theorem dX12_laysSums_260 : Dc cX12_laysSums 260 (.aload_n 0) 1 261 := ⟨by decide +kernel, rfl⟩
theorem dX12_laysSums_261 : Dc cX12_laysSums 261 (.getfield 92) 3 264 := ⟨by decide +kernel, rfl⟩
theorem dX12_laysSums_264 : Dc cX12_laysSums 264 (.iload 4) 2 266 := ⟨by decide +kernel, rfl⟩
theorem dX12_laysSums_266 : Dc cX12_laysSums 266 (.iaload) 1 267 := ⟨by decide +kernel, rfl⟩
theorem dX12_laysSums_267 : Dc cX12_laysSums 267 (.iload_n 1) 1 268 := ⟨by decide +kernel, rfl⟩
theorem dX12_laysSums_268 : Dc cX12_laysSums 268 (.iload_n 2) 1 269 := ⟨by decide +kernel, rfl⟩
theorem dX12_laysSums_269 : Dc cX12_laysSums 269 (.invokestatic 282) 3 272 := ⟨by decide +kernel, rfl⟩
theorem dX12_laysSums_272 : Dc cX12_laysSums 272 (.aload_n 0) 1 273 := ⟨by decide +kernel, rfl⟩
theorem dX12_laysSums_273 : Dc cX12_laysSums 273 (.getfield 89) 3 276 := ⟨by decide +kernel, rfl⟩
theorem dX12_laysSums_276 : Dc cX12_laysSums 276 (.bipush 13) 2 278 := ⟨by decide +kernel, rfl⟩
theorem dX12_laysSums_278 : Dc cX12_laysSums 278 (.iload 4) 2 280 := ⟨by decide +kernel, rfl⟩
theorem dX12_laysSums_280 : Dc cX12_laysSums 280 (.imul) 1 281 := ⟨by decide +kernel, rfl⟩
theorem dX12_laysSums_281 : Dc cX12_laysSums 281 (.bipush 12) 2 283 := ⟨by decide +kernel, rfl⟩
theorem dX12_laysSums_283 : Dc cX12_laysSums 283 (.iadd) 1 284 := ⟨by decide +kernel, rfl⟩
theorem dX12_laysSums_284 : Dc cX12_laysSums 284 (.laload) 1 285 := ⟨by decide +kernel, rfl⟩
theorem dX12_laysSums_285 : Dc cX12_laysSums 285 (.lastore) 1 286 := ⟨by decide +kernel, rfl⟩
theorem dX12_laysSums_286 : Dc cX12_laysSums 286 (.iinc 4 1) 3 289 := ⟨by decide +kernel, rfl⟩
theorem djX12_laysSums_289 : Dj cX12_laysSums 289 (.goto (-42)) 3 292 (-42) 247 := ⟨by decide +kernel, rfl, by decide⟩
theorem dX12_laysSums_292 : Dc cX12_laysSums 292 (.return_) 1 293 := ⟨by decide +kernel, rfl⟩
section
variable {p : Program} {l : Launch} {e : Env} {s : State} {m : MethodId} {args : Array Value} {below : List Frame} {meth : Method} {c : Code} {A0 : Nat → Prop} {D : va_G} {cA : Nat → ClassId} {ad : Nat → Nat} {Z : (Nat → Nat) × (Nat → Nat)} {Q : Int → St → Prop}
set_option maxHeartbeats 4000000 in
set_option maxRecDepth 100000 in
theorem t_X12_laysSums_b46 (E : Ev p s m args meth c cX12_laysSums 5 RX12 A0 D cA ad NR Z) (hr : meth.sig.returnType = none) {K7 : Int → Int → Int → St → Prop} (hK7 : ∀ (x1 : Int) (x2 : Int) (x3 : Int) (σ : St), C32 x1 → C32 x2 → C32 x3 → CanS shR NR σ → K7 x1 x2 x3 σ → G p l e (rmL 4 0 0) s m args below meth c 5 A0 D cA ad shR NR 0 0 (MQ below (QVc D cA ad shR NR Q A0) args s 0 0 A0) σ 7 [some (.ref (ad 0)), some (vI x1), some (vI x2), some (vI x3), none] []) (x1 : Int) (x2 : Int) (x3 : Int) (σ : St) (c1 : C32 x1) (c2 : C32 x2) (c3 : C32 x3) (hσ : CanS shR NR σ) (h : wp_X12_laysSums_b46 Q K7 x1 x2 x3 σ) : G p l e (rmL 4 0 0) s m args below meth c 5 A0 D cA ad shR NR 0 0 (MQ below (QVc D cA ad shR NR Q A0) args s 0 0 A0) σ 46 [some (.ref (ad 0)), some (vI x1), some (vI x2), some (vI x3), none] [] := by
  unfold wp_X12_laysSums_b46 at h
  refine g_iinc_3 E rfl (by decide) dX12_laysSums_46 (fun v8 ev8 => ?_)
  replace h := h v8 ev8
  have cv8 : C32 v8 := by rw [ev8]; exact c32_w _
  refine g_goto E djX12_laysSums_49 ?_
  exact (hK7 x1 x2 v8 σ c1 c2 cv8 hσ h).weak (w_k (w_k (w_k (w_k (w_d w_n)))))
set_option maxHeartbeats 4000000 in
set_option maxRecDepth 100000 in
theorem t_X12_laysSums_b160 (E : Ev p s m args meth c cX12_laysSums 5 RX12 A0 D cA ad NR Z) (hr : meth.sig.returnType = none) {K105 : Int → Int → Int → Int → St → Prop} (hK105 : ∀ (x1 : Int) (x2 : Int) (x3 : Int) (x4 : Int) (σ : St), C32 x1 → C32 x2 → C32 x3 → C32 x4 → CanS shR NR σ → K105 x1 x2 x3 x4 σ → G p l e (rmL 4 0 0) s m args below meth c 5 A0 D cA ad shR NR 0 0 (MQ below (QVc D cA ad shR NR Q A0) args s 0 0 A0) σ 105 [some (.ref (ad 0)), some (vI x1), some (vI x2), some (vI x3), some (vI x4)] []) (x1 : Int) (x2 : Int) (x3 : Int) (x4 : Int) (σ : St) (c1 : C32 x1) (c2 : C32 x2) (c3 : C32 x3) (c4 : C32 x4) (hσ : CanS shR NR σ) (h : wp_X12_laysSums_b160 Q K105 x1 x2 x3 x4 σ) : G p l e (rmL 4 0 0) s m args below meth c 5 A0 D cA ad shR NR 0 0 (MQ below (QVc D cA ad shR NR Q A0) args s 0 0 A0) σ 160 [some (.ref (ad 0)), some (vI x1), some (vI x2), some (vI x3), some (vI x4)] [] := by
  unfold wp_X12_laysSums_b160 at h
  refine g_iinc_4 E rfl (by decide) dX12_laysSums_160 (fun v19 ev19 => ?_)
  replace h := h v19 ev19
  have cv19 : C32 v19 := by rw [ev19]; exact c32_w _
  refine g_goto E djX12_laysSums_163 ?_
  exact (hK105 x1 x2 x3 v19 σ c1 c2 c3 cv19 hσ h).weak (w_k (w_k (w_k (w_k (w_k w_n)))))
set_option maxHeartbeats 4000000 in
set_option maxRecDepth 100000 in
theorem t_X12_laysSums_b159 (E : Ev p s m args meth c cX12_laysSums 5 RX12 A0 D cA ad NR Z) (hr : meth.sig.returnType = none) {K105 : Int → Int → Int → Int → St → Prop} (hK105 : ∀ (x1 : Int) (x2 : Int) (x3 : Int) (x4 : Int) (σ : St), C32 x1 → C32 x2 → C32 x3 → C32 x4 → CanS shR NR σ → K105 x1 x2 x3 x4 σ → G p l e (rmL 4 0 0) s m args below meth c 5 A0 D cA ad shR NR 0 0 (MQ below (QVc D cA ad shR NR Q A0) args s 0 0 A0) σ 105 [some (.ref (ad 0)), some (vI x1), some (vI x2), some (vI x3), some (vI x4)] []) (x1 : Int) (x2 : Int) (x4 : Int) (s0 : Int) (σ : St) (c1 : C32 x1) (c2 : C32 x2) (c4 : C32 x4) (cs0 : C32 s0) (hσ : CanS shR NR σ) (h : wp_X12_laysSums_b159 Q K105 x1 x2 x4 s0 σ) : G p l e (rmL 4 0 0) s m args below meth c 5 A0 D cA ad shR NR 0 0 (MQ below (QVc D cA ad shR NR Q A0) args s 0 0 A0) σ 159 [some (.ref (ad 0)), some (vI x1), some (vI x2), none, some (vI x4)] [vI s0] := by
  unfold wp_X12_laysSums_b159 at h
  refine g_istore_3 E rfl (by decide) dX12_laysSums_159 ?_
  exact (t_X12_laysSums_b160 E hr hK105 x1 x2 s0 x4 σ c1 c2 cs0 c4 hσ h).weak (w_k (w_k (w_k (w_k (w_k w_n)))))
set_option maxHeartbeats 4000000 in
set_option maxRecDepth 100000 in
theorem t_X12_laysSums_b158 (E : Ev p s m args meth c cX12_laysSums 5 RX12 A0 D cA ad NR Z) (hr : meth.sig.returnType = none) {K105 : Int → Int → Int → Int → St → Prop} (hK105 : ∀ (x1 : Int) (x2 : Int) (x3 : Int) (x4 : Int) (σ : St), C32 x1 → C32 x2 → C32 x3 → C32 x4 → CanS shR NR σ → K105 x1 x2 x3 x4 σ → G p l e (rmL 4 0 0) s m args below meth c 5 A0 D cA ad shR NR 0 0 (MQ below (QVc D cA ad shR NR Q A0) args s 0 0 A0) σ 105 [some (.ref (ad 0)), some (vI x1), some (vI x2), some (vI x3), some (vI x4)] []) (x1 : Int) (x2 : Int) (x4 : Int) (σ : St) (c1 : C32 x1) (c2 : C32 x2) (c4 : C32 x4) (hσ : CanS shR NR σ) (h : wp_X12_laysSums_b158 Q K105 x1 x2 x4 σ) : G p l e (rmL 4 0 0) s m args below meth c 5 A0 D cA ad shR NR 0 0 (MQ below (QVc D cA ad shR NR Q A0) args s 0 0 A0) σ 158 [some (.ref (ad 0)), some (vI x1), some (vI x2), none, some (vI x4)] [] := by
  unfold wp_X12_laysSums_b158 at h
  refine g_iconst E dX12_laysSums_158 ?_
  exact (t_X12_laysSums_b159 E hr hK105 x1 x2 x4 0 σ c1 c2 c4 cl_0 hσ h).weak (w_k (w_k (w_k (w_d (w_k w_n)))))
set_option maxHeartbeats 4000000 in
set_option maxRecDepth 100000 in
theorem t_X12_laysSums_l247 (E : Ev p s m args meth c cX12_laysSums 5 RX12 A0 D cA ad NR Z) (hr : meth.sig.returnType = none) : ∀ (n : Nat) (x1 : Int) (x2 : Int) (x4 : Int) (σ : St), C32 x1 → C32 x2 → C32 x4 → CanS shR NR σ → wp_X12_laysSums_l247 Q n x1 x2 x4 σ → G p l e (rmL 4 0 0) s m args below meth c 5 A0 D cA ad shR NR 0 0 (MQ below (QVc D cA ad shR NR Q A0) args s 0 0 A0) σ 247 [some (.ref (ad 0)), some (vI x1), some (vI x2), none, some (vI x4)] [] := by
  intro n
  induction n with
  | zero => intro _ _ _ _ _ _ _ _ h; exact h.elim
  | succ n ih =>
    intro x1 x2 x4 σ c1 c2 c4 hσ h
    unfold wp_X12_laysSums_l247 at h
    refine g_iload_4 E dX12_laysSums_247 ?_
    refine g_aload_0 E dX12_laysSums_249 ?_
    refine g_getI E fl_RX12_406 kR_0 sR_0 rfl dX12_laysSums_250 ?_
    refine g_icmp_ge E c4 (fR_0_41 hσ) djX12_laysSums_253 (fun hc => ?_) (fun hc => ?_)
    · replace h := h.1 hc
      exact g_vret E hr h hσ dX12_laysSums_292
    · replace h := h.2 hc
      refine g_aload_0 E dX12_laysSums_256 ?_
      refine g_getR E fl_RX12_83 kR_0 sR_0 rfl dX12_laysSums_257 ?_
      refine g_aload_0 E dX12_laysSums_260 ?_
      refine g_getR E fl_RX12_92 kR_0 sR_0 rfl dX12_laysSums_261 ?_
      refine g_iload_4 E dX12_laysSums_264 ?_
      refine g_iald E kR_25 sR_25 (by decide) h.1 dX12_laysSums_266 ?_
      replace h := h.2
      refine g_iload_1 E dX12_laysSums_267 ?_
      refine g_iload_2 E dX12_laysSums_268 ?_
      refine g_callsI E my_X12_item ms_X12_item ml_RX12_282 (rm_ok (by decide) (by decide)) ⟨Nat.zero_le _, Nat.zero_le _⟩ (m_X12_item E.2.2.1 (aR_25 hσ _) c1 c2 hσ h) rfl rfl (Nat.le_of_ble_eq_true rfl) dX12_laysSums_269 (fun r26 σ27 cr26 hσ27 h => ?_)
      refine g_aload_0 E dX12_laysSums_272 ?_
      refine g_getR E fl_RX12_89 kR_0 sR_0 rfl dX12_laysSums_273 ?_
      refine g_bipush E (by decide) dX12_laysSums_276 ?_
      refine g_iload_4 E dX12_laysSums_278 ?_
      refine g_imul E dX12_laysSums_280 ?_
      refine g_bipush E (by decide) dX12_laysSums_281 ?_
      refine g_iadd E dX12_laysSums_283 ?_
      refine g_lald E kR_24 sR_24 (by decide) h.1 dX12_laysSums_284 ?_
      replace h := h.2
      refine g_last E kR_22 sR_22 (by decide) h.1 dX12_laysSums_285 (g_nmS (fun σ28 eσ28 => ?_))
      replace h := h.2 σ28 eσ28
      have hσ28 : CanS shR NR σ28 := by rw [eσ28]; exact wR_22 hσ27 (aR_24 hσ27 _)
      refine g_iinc_4 E rfl (by decide) dX12_laysSums_286 (fun v29 ev29 => ?_)
      replace h := h v29 ev29
      have cv29 : C32 v29 := by rw [ev29]; exact c32_w _
      refine g_goto E djX12_laysSums_289 ?_
      exact (ih x1 x2 v29 σ28 c1 c2 cv29 hσ28 h).weak (w_k (w_k (w_k (w_d (w_k w_n)))))
set_option maxHeartbeats 4000000 in
set_option maxRecDepth 100000 in
theorem t_X12_laysSums_b243 (E : Ev p s m args meth c cX12_laysSums 5 RX12 A0 D cA ad NR Z) (hr : meth.sig.returnType = none) (x1 : Int) (x2 : Int) (s0 : Int) (s1 : Int) (σ : St) (c1 : C32 x1) (c2 : C32 x2) (cs0 : C32 s0) (cs1 : C32 s1) (hσ : CanS shR NR σ) (h : wp_X12_laysSums_b243 Q x1 x2 s0 s1 σ) : G p l e (rmL 4 0 0) s m args below meth c 5 A0 D cA ad shR NR 0 0 (MQ below (QVc D cA ad shR NR Q A0) args s 0 0 A0) σ 243 [some (.ref (ad 0)), some (vI x1), some (vI x2), none, none] [vI s0, vI s1, .ref (ad 23)] := by
  unfold wp_X12_laysSums_b243 at h
  refine g_zast E kR_23 sR_23 (by decide) h.1 dX12_laysSums_243 (g_nmS (fun σ25 eσ25 => ?_))
  replace h := h.2 σ25 eσ25
  have hσ25 : CanS shR NR σ25 := by rw [eσ25]; exact wR_23 hσ (c32_t _)
  refine g_iconst E dX12_laysSums_244 ?_
  refine g_istore_4 E rfl (by decide) dX12_laysSums_245 ?_
  exact (t_X12_laysSums_l247 E hr bigN x1 x2 0 σ25 c1 c2 cl_0 hσ25 h).weak (w_k (w_k (w_k (w_d (w_k w_n)))))
set_option maxHeartbeats 4000000 in
set_option maxRecDepth 100000 in
theorem t_X12_laysSums_b225 (E : Ev p s m args meth c cX12_laysSums 5 RX12 A0 D cA ad NR Z) (hr : meth.sig.returnType = none) (x1 : Int) (x2 : Int) (x3 : Int) (σ : St) (c1 : C32 x1) (c2 : C32 x2) (c3 : C32 x3) (hσ : CanS shR NR σ) (h : wp_X12_laysSums_b225 Q x1 x2 x3 σ) : G p l e (rmL 4 0 0) s m args below meth c 5 A0 D cA ad shR NR 0 0 (MQ below (QVc D cA ad shR NR Q A0) args s 0 0 A0) σ 225 [some (.ref (ad 0)), some (vI x1), some (vI x2), some (vI x3), none] [] := by
  unfold wp_X12_laysSums_b225 at h
  refine g_aload_0 E dX12_laysSums_225 ?_
  refine g_getR E fl_RX12_86 kR_0 sR_0 rfl dX12_laysSums_226 ?_
  refine g_iload_1 E dX12_laysSums_229 ?_
  refine g_iload_2 E dX12_laysSums_230 ?_
  refine g_callsI E my_X12_span ms_X12_span ml_RX12_394 (rm_ok (by decide) (by decide)) ⟨Nat.zero_le _, Nat.zero_le _⟩ (m_X12_span E.2.2.1 c1 c2 hσ h) rfl rfl (Nat.le_of_ble_eq_true rfl) dX12_laysSums_231 (fun r23 σ24 cr23 hσ24 h => ?_)
  refine g_iload_3 E dX12_laysSums_234 ?_
  refine g_if_ne E c3 djX12_laysSums_235 (fun hc => ?_) (fun hc => ?_)
  · replace h := h.1 hc
    refine g_iconst E dX12_laysSums_242 ?_
    exact (t_X12_laysSums_b243 E hr x1 x2 0 r23 σ24 c1 c2 cl_0 cr23 hσ24 h).weak (w_k (w_k (w_k (w_d (w_d w_n)))))
  · replace h := h.2 hc
    refine g_iconst E dX12_laysSums_238 ?_
    refine g_goto E djX12_laysSums_239 ?_
    exact (t_X12_laysSums_b243 E hr x1 x2 1 r23 σ24 c1 c2 cl_1 cr23 hσ24 h).weak (w_k (w_k (w_k (w_d (w_d w_n)))))
set_option maxHeartbeats 4000000 in
set_option maxRecDepth 100000 in
theorem t_X12_laysSums_l199 (E : Ev p s m args meth c cX12_laysSums 5 RX12 A0 D cA ad NR Z) (hr : meth.sig.returnType = none) : ∀ (n : Nat) (x1 : Int) (x2 : Int) (x3 : Int) (x4 : Int) (σ : St), C32 x1 → C32 x2 → C32 x3 → C32 x4 → CanS shR NR σ → wp_X12_laysSums_l199 Q n x1 x2 x3 x4 σ → G p l e (rmL 4 0 0) s m args below meth c 5 A0 D cA ad shR NR 0 0 (MQ below (QVc D cA ad shR NR Q A0) args s 0 0 A0) σ 199 [some (.ref (ad 0)), some (vI x1), some (vI x2), some (vI x3), some (vI x4)] [] := by
  intro n
  induction n with
  | zero => intro _ _ _ _ _ _ _ _ _ _ h; exact h.elim
  | succ n ih =>
    intro x1 x2 x3 x4 σ c1 c2 c3 c4 hσ h
    unfold wp_X12_laysSums_l199 at h
    refine g_iload_4 E dX12_laysSums_199 ?_
    refine g_aload_0 E dX12_laysSums_201 ?_
    refine g_getI E fl_RX12_406 kR_0 sR_0 rfl dX12_laysSums_202 ?_
    refine g_icmp_ge E c4 (fR_0_41 hσ) djX12_laysSums_205 (fun hc => ?_) (fun hc => ?_)
    · replace h := h.1 hc
      exact (t_X12_laysSums_b225 E hr x1 x2 x3 σ c1 c2 c3 hσ h).weak (w_k (w_k (w_k (w_k (w_d w_n)))))
    · replace h := h.2 hc
      refine g_iload_3 E dX12_laysSums_208 ?_
      refine g_if_eq E c3 djX12_laysSums_209 (fun hc => ?_) (fun hc => ?_)
      · replace h := h.1 hc
        exact (t_X12_laysSums_b225 E hr x1 x2 x3 σ c1 c2 c3 hσ h).weak (w_k (w_k (w_k (w_k (w_d w_n)))))
      · replace h := h.2 hc
        refine g_aload_0 E dX12_laysSums_212 ?_
        refine g_iload_4 E dX12_laysSums_213 ?_
        refine g_callvI E my_X12_clears mi_X12_clears msel_X12_clears ml_RX12_416 (rm_ok (by decide) (by decide)) ⟨Nat.zero_le _, Nat.zero_le _⟩ kR_0 sR_0 rfl (m_X12_clears E.2.2.1 c4 hσ h) rfl rfl (Nat.le_of_ble_eq_true rfl) dX12_laysSums_215 (fun r20 σ21 cr20 hσ21 h => ?_)
        refine g_istore_3 E rfl (by decide) dX12_laysSums_218 ?_
        refine g_iinc_4 E rfl (by decide) dX12_laysSums_219 (fun v22 ev22 => ?_)
        replace h := h v22 ev22
        have cv22 : C32 v22 := by rw [ev22]; exact c32_w _
        refine g_goto E djX12_laysSums_222 ?_
        exact (ih x1 x2 r20 v22 σ21 c1 c2 cr20 cv22 hσ21 h).weak (w_k (w_k (w_k (w_k (w_k w_n)))))
set_option maxHeartbeats 4000000 in
set_option maxRecDepth 100000 in
theorem t_X12_laysSums_l169 (E : Ev p s m args meth c cX12_laysSums 5 RX12 A0 D cA ad NR Z) (hr : meth.sig.returnType = none) : ∀ (n : Nat) (x1 : Int) (x2 : Int) (x3 : Int) (x4 : Int) (σ : St), C32 x1 → C32 x2 → C32 x3 → C32 x4 → CanS shR NR σ → wp_X12_laysSums_l169 Q n x1 x2 x3 x4 σ → G p l e (rmL 4 0 0) s m args below meth c 5 A0 D cA ad shR NR 0 0 (MQ below (QVc D cA ad shR NR Q A0) args s 0 0 A0) σ 169 [some (.ref (ad 0)), some (vI x1), some (vI x2), some (vI x3), some (vI x4)] [] := by
  intro n
  induction n with
  | zero => intro _ _ _ _ _ _ _ _ _ _ h; exact h.elim
  | succ n ih =>
    intro x1 x2 x3 x4 σ c1 c2 c3 c4 hσ h
    unfold wp_X12_laysSums_l169 at h
    refine g_iload_4 E dX12_laysSums_169 ?_
    refine g_sipush E (by decide) dX12_laysSums_171 ?_
    refine g_icmp_ge E c4 cl_156 djX12_laysSums_174 (fun hc => ?_) (fun hc => ?_)
    · replace h := h.1 hc
      refine g_iconst E dX12_laysSums_196 ?_
      refine g_istore_4 E rfl (by decide) dX12_laysSums_197 ?_
      exact (t_X12_laysSums_l199 E hr bigN x1 x2 x3 0 σ c1 c2 c3 cl_0 hσ h).weak (w_k (w_k (w_k (w_k (w_k w_n)))))
    · replace h := h.2 hc
      refine g_aload_0 E dX12_laysSums_177 ?_
      refine g_getR E fl_RX12_89 kR_0 sR_0 rfl dX12_laysSums_178 ?_
      refine g_iload_4 E dX12_laysSums_181 ?_
      refine g_dup2 E rfl rfl dX12_laysSums_183 ?_
      refine g_lald E kR_24 sR_24 (by decide) h.1 dX12_laysSums_184 ?_
      replace h := h.2
      refine g_ldc2 (n := 9973) E wc_RX12_392 dX12_laysSums_185 ?_
      refine g_lrem E cL_9973 (by decide) dX12_laysSums_188 ?_
      refine g_last E kR_24 sR_24 (by decide) h.1 dX12_laysSums_189 (g_nmS (fun σ17 eσ17 => ?_))
      replace h := h.2 σ17 eσ17
      have hσ17 : CanS shR NR σ17 := by rw [eσ17]; exact wR_24 hσ (c64_t _)
      refine g_iinc_4 E rfl (by decide) dX12_laysSums_190 (fun v18 ev18 => ?_)
      replace h := h v18 ev18
      have cv18 : C32 v18 := by rw [ev18]; exact c32_w _
      refine g_goto E djX12_laysSums_193 ?_
      exact (ih x1 x2 x3 v18 σ17 c1 c2 c3 cv18 hσ17 h).weak (w_k (w_k (w_k (w_k (w_k w_n)))))
set_option maxHeartbeats 4000000 in
set_option maxRecDepth 100000 in
theorem t_X12_laysSums_l105 (E : Ev p s m args meth c cX12_laysSums 5 RX12 A0 D cA ad NR Z) (hr : meth.sig.returnType = none) : ∀ (n : Nat) (x1 : Int) (x2 : Int) (x3 : Int) (x4 : Int) (σ : St), C32 x1 → C32 x2 → C32 x3 → C32 x4 → CanS shR NR σ → wp_X12_laysSums_l105 Q n x1 x2 x3 x4 σ → G p l e (rmL 4 0 0) s m args below meth c 5 A0 D cA ad shR NR 0 0 (MQ below (QVc D cA ad shR NR Q A0) args s 0 0 A0) σ 105 [some (.ref (ad 0)), some (vI x1), some (vI x2), some (vI x3), some (vI x4)] [] := by
  intro n
  induction n with
  | zero => intro _ _ _ _ _ _ _ _ _ _ h; exact h.elim
  | succ n ih =>
    intro x1 x2 x3 x4 σ c1 c2 c3 c4 hσ h
    unfold wp_X12_laysSums_l105 at h
    refine g_iload_4 E dX12_laysSums_105 ?_
    refine g_aload_0 E dX12_laysSums_107 ?_
    refine g_getI E fl_RX12_252 kR_0 sR_0 rfl dX12_laysSums_108 ?_
    refine g_icmp_ge E c4 (fR_0_1 hσ) djX12_laysSums_111 (fun hc => ?_) (fun hc => ?_)
    · replace h := h.1 hc
      refine g_iconst E dX12_laysSums_166 ?_
      refine g_istore_4 E rfl (by decide) dX12_laysSums_167 ?_
      exact (t_X12_laysSums_l169 E hr bigN x1 x2 x3 0 σ c1 c2 c3 cl_0 hσ h).weak (w_k (w_k (w_k (w_k (w_k w_n)))))
    · replace h := h.2 hc
      refine g_aload_0 E dX12_laysSums_114 ?_
      refine g_iload_4 E dX12_laysSums_115 ?_
      refine g_callvI E my_X12_isIn mi_X12_isIn msel_X12_isIn ml_RX12_298 (rm_ok (by decide) (by decide)) ⟨Nat.zero_le _, Nat.zero_le _⟩ kR_0 sR_0 rfl (m_X12_isIn E.2.2.1 c4 hσ h) rfl rfl (Nat.le_of_ble_eq_true rfl) dX12_laysSums_117 (fun r11 σ12 cr11 hσ12 h => ?_)
      refine g_if_eq E cr11 djX12_laysSums_120 (fun hc => ?_) (fun hc => ?_)
      · replace h := h.1 hc
        exact (t_X12_laysSums_b160 E hr ih x1 x2 x3 x4 σ12 c1 c2 c3 c4 hσ12 h).weak (w_k (w_k (w_k (w_k (w_k w_n)))))
      · replace h := h.2 hc
        refine g_aload_0 E dX12_laysSums_123 ?_
        refine g_aload_0 E dX12_laysSums_124 ?_
        refine g_getR E fl_RX12_13 kR_0 sR_0 rfl dX12_laysSums_125 ?_
        refine g_iload_4 E dX12_laysSums_128 ?_
        refine g_iald E kR_1 sR_1 (by decide) h.1 dX12_laysSums_130 ?_
        replace h := h.2
        refine g_iload_1 E dX12_laysSums_131 ?_
        refine g_iload_2 E dX12_laysSums_132 ?_
        refine g_callvI E my_X12_has mi_X12_has msel_X12_has ml_RX12_324 (rm_ok (by decide) (by decide)) ⟨Nat.zero_le _, Nat.zero_le _⟩ kR_0 sR_0 rfl (m_X12_has E.2.2.1 (aR_1 hσ12 _) c1 c2 hσ12 h) rfl rfl (Nat.le_of_ble_eq_true rfl) dX12_laysSums_133 (fun r13 σ14 cr13 hσ14 h => ?_)
        refine g_if_eq E cr13 djX12_laysSums_136 (fun hc => ?_) (fun hc => ?_)
        · replace h := h.1 hc
          exact (t_X12_laysSums_b160 E hr ih x1 x2 x3 x4 σ14 c1 c2 c3 c4 hσ14 h).weak (w_k (w_k (w_k (w_k (w_k w_n)))))
        · replace h := h.2 hc
          refine g_aload_0 E dX12_laysSums_139 ?_
          refine g_iload_4 E dX12_laysSums_140 ?_
          refine g_iload_1 E dX12_laysSums_142 ?_
          refine g_iload_2 E dX12_laysSums_143 ?_
          refine g_callvI E my_X12_brings mi_X12_brings msel_X12_brings ml_RX12_413 (rm_ok (by decide) (by decide)) ⟨Nat.zero_le _, Nat.zero_le _⟩ kR_0 sR_0 rfl (m_X12_brings E.2.2.1 c4 c1 c2 hσ14 h) rfl rfl (Nat.le_of_ble_eq_true rfl) dX12_laysSums_144 (fun r15 σ16 cr15 hσ16 h => ?_)
          refine g_if_eq E cr15 djX12_laysSums_147 (fun hc => ?_) (fun hc => ?_)
          · replace h := h.1 hc
            exact (t_X12_laysSums_b158 E hr ih x1 x2 x4 σ16 c1 c2 c4 hσ16 h).weak (w_k (w_k (w_k (w_d (w_k w_n)))))
          · replace h := h.2 hc
            refine g_iload_3 E dX12_laysSums_150 ?_
            refine g_if_eq E c3 djX12_laysSums_151 (fun hc => ?_) (fun hc => ?_)
            · replace h := h.1 hc
              exact (t_X12_laysSums_b158 E hr ih x1 x2 x4 σ16 c1 c2 c4 hσ16 h).weak (w_k (w_k (w_k (w_d (w_k w_n)))))
            · replace h := h.2 hc
              refine g_iconst E dX12_laysSums_154 ?_
              refine g_goto E djX12_laysSums_155 ?_
              exact (t_X12_laysSums_b159 E hr ih x1 x2 x4 1 σ16 c1 c2 c4 cl_1 hσ16 h).weak (w_k (w_k (w_k (w_d (w_k w_n)))))
set_option maxHeartbeats 4000000 in
set_option maxRecDepth 100000 in
theorem t_X12_laysSums_l76 (E : Ev p s m args meth c cX12_laysSums 5 RX12 A0 D cA ad NR Z) (hr : meth.sig.returnType = none) : ∀ (n : Nat) (x1 : Int) (x2 : Int) (x3 : Int) (σ : St), C32 x1 → C32 x2 → C32 x3 → CanS shR NR σ → wp_X12_laysSums_l76 Q n x1 x2 x3 σ → G p l e (rmL 4 0 0) s m args below meth c 5 A0 D cA ad shR NR 0 0 (MQ below (QVc D cA ad shR NR Q A0) args s 0 0 A0) σ 76 [some (.ref (ad 0)), some (vI x1), some (vI x2), some (vI x3), none] [] := by
  intro n
  induction n with
  | zero => intro _ _ _ _ _ _ _ _ h; exact h.elim
  | succ n ih =>
    intro x1 x2 x3 σ c1 c2 c3 hσ h
    unfold wp_X12_laysSums_l76 at h
    refine g_iload_3 E dX12_laysSums_76 ?_
    refine g_aload_0 E dX12_laysSums_77 ?_
    refine g_getI E fl_RX12_406 kR_0 sR_0 rfl dX12_laysSums_78 ?_
    refine g_icmp_ge E c3 (fR_0_41 hσ) djX12_laysSums_81 (fun hc => ?_) (fun hc => ?_)
    · replace h := h.1 hc
      refine g_iconst E dX12_laysSums_100 ?_
      refine g_istore_3 E rfl (by decide) dX12_laysSums_101 ?_
      refine g_iconst E dX12_laysSums_102 ?_
      refine g_istore_4 E rfl (by decide) dX12_laysSums_103 ?_
      exact (t_X12_laysSums_l105 E hr bigN x1 x2 1 0 σ c1 c2 cl_1 cl_0 hσ h).weak (w_k (w_k (w_k (w_k (w_k w_n)))))
    · replace h := h.2 hc
      refine g_aload_0 E dX12_laysSums_84 ?_
      refine g_getR E fl_RX12_89 kR_0 sR_0 rfl dX12_laysSums_85 ?_
      refine g_bipush E (by decide) dX12_laysSums_88 ?_
      refine g_iload_3 E dX12_laysSums_90 ?_
      refine g_imul E dX12_laysSums_91 ?_
      refine g_lconst (n := 1) E (by decide) dX12_laysSums_92 ?_
      refine g_last E kR_24 sR_24 (by decide) h.1 dX12_laysSums_93 (g_nmS (fun σ9 eσ9 => ?_))
      replace h := h.2 σ9 eσ9
      have hσ9 : CanS shR NR σ9 := by rw [eσ9]; exact wR_24 hσ cL_1
      refine g_iinc_3 E rfl (by decide) dX12_laysSums_94 (fun v10 ev10 => ?_)
      replace h := h v10 ev10
      have cv10 : C32 v10 := by rw [ev10]; exact c32_w _
      refine g_goto E djX12_laysSums_97 ?_
      exact (ih x1 x2 v10 σ9 c1 c2 cv10 hσ9 h).weak (w_k (w_k (w_k (w_k (w_d w_n)))))
set_option maxHeartbeats 4000000 in
set_option maxRecDepth 100000 in
theorem t_X12_laysSums_l54 (E : Ev p s m args meth c cX12_laysSums 5 RX12 A0 D cA ad NR Z) (hr : meth.sig.returnType = none) : ∀ (n : Nat) (x1 : Int) (x2 : Int) (x3 : Int) (σ : St), C32 x1 → C32 x2 → C32 x3 → CanS shR NR σ → wp_X12_laysSums_l54 Q n x1 x2 x3 σ → G p l e (rmL 4 0 0) s m args below meth c 5 A0 D cA ad shR NR 0 0 (MQ below (QVc D cA ad shR NR Q A0) args s 0 0 A0) σ 54 [some (.ref (ad 0)), some (vI x1), some (vI x2), some (vI x3), none] [] := by
  intro n
  induction n with
  | zero => intro _ _ _ _ _ _ _ _ h; exact h.elim
  | succ n ih =>
    intro x1 x2 x3 σ c1 c2 c3 hσ h
    unfold wp_X12_laysSums_l54 at h
    refine g_iload_3 E dX12_laysSums_54 ?_
    refine g_sipush E (by decide) dX12_laysSums_55 ?_
    refine g_icmp_ge E c3 cl_156 djX12_laysSums_58 (fun hc => ?_) (fun hc => ?_)
    · replace h := h.1 hc
      refine g_iconst E dX12_laysSums_74 ?_
      refine g_istore_3 E rfl (by decide) dX12_laysSums_75 ?_
      exact (t_X12_laysSums_l76 E hr bigN x1 x2 0 σ c1 c2 cl_0 hσ h).weak (w_k (w_k (w_k (w_k (w_d w_n)))))
    · replace h := h.2 hc
      refine g_aload_0 E dX12_laysSums_61 ?_
      refine g_getR E fl_RX12_89 kR_0 sR_0 rfl dX12_laysSums_62 ?_
      refine g_iload_3 E dX12_laysSums_65 ?_
      refine g_lconst (n := 0) E (by decide) dX12_laysSums_66 ?_
      refine g_last E kR_24 sR_24 (by decide) h.1 dX12_laysSums_67 (g_nmS (fun σ6 eσ6 => ?_))
      replace h := h.2 σ6 eσ6
      have hσ6 : CanS shR NR σ6 := by rw [eσ6]; exact wR_24 hσ cL_0
      refine g_iinc_3 E rfl (by decide) dX12_laysSums_68 (fun v7 ev7 => ?_)
      replace h := h v7 ev7
      have cv7 : C32 v7 := by rw [ev7]; exact c32_w _
      refine g_goto E djX12_laysSums_71 ?_
      exact (ih x1 x2 v7 σ6 c1 c2 cv7 hσ6 h).weak (w_k (w_k (w_k (w_k (w_d w_n)))))
set_option maxHeartbeats 4000000 in
set_option maxRecDepth 100000 in
theorem t_X12_laysSums_l7 (E : Ev p s m args meth c cX12_laysSums 5 RX12 A0 D cA ad NR Z) (hr : meth.sig.returnType = none) : ∀ (n : Nat) (x1 : Int) (x2 : Int) (x3 : Int) (σ : St), C32 x1 → C32 x2 → C32 x3 → CanS shR NR σ → wp_X12_laysSums_l7 Q n x1 x2 x3 σ → G p l e (rmL 4 0 0) s m args below meth c 5 A0 D cA ad shR NR 0 0 (MQ below (QVc D cA ad shR NR Q A0) args s 0 0 A0) σ 7 [some (.ref (ad 0)), some (vI x1), some (vI x2), some (vI x3), none] [] := by
  intro n
  induction n with
  | zero => intro _ _ _ _ _ _ _ _ h; exact h.elim
  | succ n ih =>
    intro x1 x2 x3 σ c1 c2 c3 hσ h
    unfold wp_X12_laysSums_l7 at h
    refine g_iload_3 E dX12_laysSums_7 ?_
    refine g_bipush E (by decide) dX12_laysSums_8 ?_
    refine g_icmp_ge E c3 cl_12 djX12_laysSums_10 (fun hc => ?_) (fun hc => ?_)
    · replace h := h.1 hc
      refine g_iconst E dX12_laysSums_52 ?_
      refine g_istore_3 E rfl (by decide) dX12_laysSums_53 ?_
      exact (t_X12_laysSums_l54 E hr bigN x1 x2 0 σ c1 c2 cl_0 hσ h).weak (w_k (w_k (w_k (w_k (w_d w_n)))))
    · replace h := h.2 hc
      refine g_aload_0 E dX12_laysSums_13 ?_
      refine g_iload_3 E dX12_laysSums_14 ?_
      refine g_iload_1 E dX12_laysSums_15 ?_
      refine g_iload_2 E dX12_laysSums_16 ?_
      refine g_callvI E my_X12_has mi_X12_has msel_X12_has ml_RX12_324 (rm_ok (by decide) (by decide)) ⟨Nat.zero_le _, Nat.zero_le _⟩ kR_0 sR_0 rfl (m_X12_has E.2.2.1 c3 c1 c2 hσ h) rfl rfl (Nat.le_of_ble_eq_true rfl) dX12_laysSums_17 (fun r2 σ3 cr2 hσ3 h => ?_)
      refine g_if_ne E cr2 djX12_laysSums_20 (fun hc => ?_) (fun hc => ?_)
      · replace h := h.1 hc
        refine g_aload_0 E dX12_laysSums_26 ?_
        refine g_getR E fl_RX12_92 kR_0 sR_0 rfl dX12_laysSums_27 ?_
        refine g_aload_0 E dX12_laysSums_30 ?_
        refine g_getI E fl_RX12_406 kR_0 sR_0 rfl dX12_laysSums_31 ?_
        refine g_iload_3 E dX12_laysSums_34 ?_
        refine g_iast E kR_25 sR_25 (by decide) h.1 dX12_laysSums_35 (g_nmS (fun σ4 eσ4 => ?_))
        replace h := h.2 σ4 eσ4
        have hσ4 : CanS shR NR σ4 := by rw [eσ4]; exact wR_25 hσ3 c3
        refine g_aload_0 E dX12_laysSums_36 ?_
        refine g_dup E rfl dX12_laysSums_37 ?_
        refine g_getI E fl_RX12_406 kR_0 sR_0 rfl dX12_laysSums_38 ?_
        refine g_iconst E dX12_laysSums_41 ?_
        refine g_iadd E dX12_laysSums_42 ?_
        refine g_putI E fl_RX12_406 rfl rfl kR_0 sR_0 rfl dX12_laysSums_43 (g_nmS (fun σ5 eσ5 => ?_))
        replace h := h σ5 eσ5
        have hσ5 : CanS shR NR σ5 := by rw [eσ5]; exact uR_0_41 hσ4 (c32_w _)
        exact (t_X12_laysSums_b46 E hr ih x1 x2 x3 σ5 c1 c2 c3 hσ5 h).weak (w_k (w_k (w_k (w_k (w_d w_n)))))
      · replace h := h.2 hc
        refine g_goto E djX12_laysSums_23 ?_
        exact (t_X12_laysSums_b46 E hr ih x1 x2 x3 σ3 c1 c2 c3 hσ3 h).weak (w_k (w_k (w_k (w_k (w_d w_n)))))
set_option maxHeartbeats 4000000 in
set_option maxRecDepth 100000 in
theorem t_X12_laysSums (E : Ev p s m args meth c cX12_laysSums 5 RX12 A0 D cA ad NR Z) (hr : meth.sig.returnType = none) (x1 : Int) (x2 : Int) (σ : St) (c1 : C32 x1) (c2 : C32 x2) (hσ : CanS shR NR σ) (h : wp_X12_laysSums x1 x2 σ Q) : G p l e (rmL 4 0 0) s m args below meth c 5 A0 D cA ad shR NR 0 0 (MQ below (QVc D cA ad shR NR Q A0) args s 0 0 A0) σ 0 [some (.ref (ad 0)), some (vI x1), some (vI x2), none, none] [] := by
  unfold wp_X12_laysSums at h
  refine g_aload_0 E dX12_laysSums_0 ?_
  refine g_iconst E dX12_laysSums_1 ?_
  refine g_putI E fl_RX12_406 rfl rfl kR_0 sR_0 rfl dX12_laysSums_2 (g_nmS (fun σ1 eσ1 => ?_))
  replace h := h σ1 eσ1
  have hσ1 : CanS shR NR σ1 := by rw [eσ1]; exact uR_0_41 hσ cl_0
  refine g_iconst E dX12_laysSums_5 ?_
  refine g_istore_3 E rfl (by decide) dX12_laysSums_6 ?_
  exact (t_X12_laysSums_l7 E hr bigN x1 x2 0 σ1 c1 c2 cl_0 hσ1 h).weak (w_k (w_k (w_k (w_k (w_d w_n)))))
end
theorem m_X12_laysSums {Z : (Nat → Nat) × (Nat → Nat)} {l : Launch} {D : va_G} {cA : Nat → ClassId} {ad : Nat → Nat} {x1 x2 : Int} {σ : St} {Q : Int → St → Prop} (hA : AdOk NR ad) (c1 : C32 x1) (c2 : C32 x2) (hσ : CanS shR NR σ) (h : wp_X12_laysSums x1 x2 σ Q) : KtV Z l D cA ad shR NR yX12_laysSums cX12_laysSums 5 none 4 [.ref (ad 0), vI x1, vI x2] σ Q :=
  KtV.of my_X12_laysSums hA [some (.ref (ad 0)), some (vI x1), some (vI x2), none, none] (Nat.le_of_ble_eq_true rfl) rfl (fun p e s m args below meth c A0 E hr => t_X12_laysSums E hr x1 x2 σ c1 c2 hσ h)
theorem dX12_sum_0 : Dc cX12_sum 0 (.aload_n 0) 1 1 := ⟨by decide +kernel, rfl⟩
theorem dX12_sum_1 : Dc cX12_sum 1 (.iload_n 1) 1 2 := ⟨by decide +kernel, rfl⟩
theorem dX12_sum_2 : Dc cX12_sum 2 (.iload_n 2) 1 3 := ⟨by decide +kernel, rfl⟩
theorem dX12_sum_3 : Dc cX12_sum 3 (.iload_n 3) 1 4 := ⟨by decide +kernel, rfl⟩
theorem dX12_sum_4 : Dc cX12_sum 4 (.invokevirtual 318) 3 7 := ⟨by decide +kernel, rfl⟩
theorem djX12_sum_7 : Dj cX12_sum 7 (.ifCond .ne 6) 3 10 6 13 := ⟨by decide +kernel, rfl, by decide⟩
theorem dX12_sum_10 : Dc cX12_sum 10 (.bipush (-2)) 2 12 := ⟨by decide +kernel, rfl⟩
theorem dX12_sum_12 : Dc cX12_sum 12 (.ireturn) 1 13 := ⟨by decide +kernel, rfl⟩
theorem dX12_sum_13 : Dc cX12_sum 13 (.aload_n 0) 1 14 := ⟨by decide +kernel, rfl⟩
theorem dX12_sum_14 : Dc cX12_sum 14 (.invokevirtual 321) 3 17 := ⟨by decide +kernel, rfl⟩
theorem dX12_sum_17 : Dc cX12_sum 17 (.aload_n 0) 1 18 := ⟨by decide +kernel, rfl⟩
theorem dX12_sum_18 : Dc cX12_sum 18 (.iload_n 1) 1 19 := ⟨by decide +kernel, rfl⟩
theorem dX12_sum_19 : Dc cX12_sum 19 (.iload_n 2) 1 20 := ⟨by decide +kernel, rfl⟩
theorem dX12_sum_20 : Dc cX12_sum 20 (.iload_n 3) 1 21 := ⟨by decide +kernel, rfl⟩
theorem dX12_sum_21 : Dc cX12_sum 21 (.invokevirtual 324) 3 24 := ⟨by decide +kernel, rfl⟩
theorem djX12_sum_24 : Dj cX12_sum 24 (.ifCond .ne 5) 3 27 5 29 := ⟨by decide +kernel, rfl, by decide⟩
theorem dX12_sum_27 : Dc cX12_sum 27 (.iconst 0) 1 28 := ⟨by decide +kernel, rfl⟩
theorem dX12_sum_28 : Dc cX12_sum 28 (.ireturn) 1 29 := ⟨by decide +kernel, rfl⟩
theorem dX12_sum_29 : Dc cX12_sum 29 (.iconst 1) 1 30 := ⟨by decide +kernel, rfl⟩
theorem dX12_sum_30 : Dc cX12_sum 30 (.istore 4) 2 32 := ⟨by decide +kernel, rfl⟩
theorem dX12_sum_32 : Dc cX12_sum 32 (.iload 4) 2 34 := ⟨by decide +kernel, rfl⟩
theorem dX12_sum_34 : Dc cX12_sum 34 (.aload_n 0) 1 35 := ⟨by decide +kernel, rfl⟩
theorem dX12_sum_35 : Dc cX12_sum 35 (.getfield 305) 3 38 := ⟨by decide +kernel, rfl⟩
theorem djX12_sum_38 : Dj cX12_sum 38 (.if_icmp .gt 41) 3 41 41 79 := ⟨by decide +kernel, rfl, by decide⟩
theorem dX12_sum_41 : Dc cX12_sum 41 (.iconst 0) 1 42 := ⟨by decide +kernel, rfl⟩
theorem dX12_sum_42 : Dc cX12_sum 42 (.istore 5) 2 44 := ⟨by decide +kernel, rfl⟩
theorem dX12_sum_44 : Dc cX12_sum 44 (.iload 5) 2 46 := ⟨by decide +kernel, rfl⟩
theorem dX12_sum_46 : Dc cX12_sum 46 (.iload 4) 2 48 := ⟨by decide +kernel, rfl⟩
theorem dX12_sum_48 : Dc cX12_sum 48 (.iadd) 1 49 := ⟨by decide +kernel, rfl⟩
theorem dX12_sum_49 : Dc cX12_sum 49 (.aload_n 0) 1 50 := ⟨by decide +kernel, rfl⟩
theorem dX12_sum_50 : Dc cX12_sum 50 (.getfield 305) 3 53 := ⟨by decide +kernel, rfl⟩
theorem djX12_sum_53 : Dj cX12_sum 53 (.if_icmp .gt 20) 3 56 20 73 := ⟨by decide +kernel, rfl, by decide⟩
theorem dX12_sum_56 : Dc cX12_sum 56 (.aload_n 0) 1 57 := ⟨by decide +kernel, rfl⟩
theorem dX12_sum_57 : Dc cX12_sum 57 (.iload 5) 2 59 := ⟨by decide +kernel, rfl⟩
theorem dX12_sum_59 : Dc cX12_sum 59 (.iload 5) 2 61 := ⟨by decide +kernel, rfl⟩
theorem dX12_sum_61 : Dc cX12_sum 61 (.iload 4) 2 63 := ⟨by decide +kernel, rfl⟩
theorem dX12_sum_63 : Dc cX12_sum 63 (.iadd) 1 64 := ⟨by decide +kernel, rfl⟩
theorem dX12_sum_64 : Dc cX12_sum 64 (.invokevirtual 419) 3 67 := ⟨by decide +kernel, rfl⟩
theorem dX12_sum_67 : Dc cX12_sum 67 (.iinc 5 1) 3 70 := ⟨by decide +kernel, rfl⟩
theorem djX12_sum_70 : Dj cX12_sum 70 (.goto (-26)) 3 73 (-26) 44 := ⟨by decide +kernel, rfl, by decide⟩
theorem dX12_sum_73 : Dc cX12_sum 73 (.iinc 4 1) 3 76 := ⟨by decide +kernel, rfl⟩
theorem djX12_sum_76 : Dj cX12_sum 76 (.goto (-44)) 3 79 (-44) 32 := ⟨by decide +kernel, rfl, by decide⟩
theorem dX12_sum_79 : Dc cX12_sum 79 (.aload_n 0) 1 80 := ⟨by decide +kernel, rfl⟩
theorem dX12_sum_80 : Dc cX12_sum 80 (.getfield 86) 3 83 := ⟨by decide +kernel, rfl⟩
theorem dX12_sum_83 : Dc cX12_sum 83 (.iload_n 2) 1 84 := ⟨by decide +kernel, rfl⟩
theorem dX12_sum_84 : Dc cX12_sum 84 (.iload_n 3) 1 85 := ⟨by decide +kernel, rfl⟩
theorem dX12_sum_85 : Dc cX12_sum 85 (.invokestatic 394) 3 88 := ⟨by decide +kernel, rfl⟩
theorem dX12_sum_88 : Dc cX12_sum 88 (.baload) 1 89 := ⟨by decide +kernel, rfl⟩
theorem djX12_sum_89 : Dj cX12_sum 89 (.ifCond .eq 7) 3 92 7 96 := ⟨by decide +kernel, rfl, by decide⟩
theorem dX12_sum_92 : Dc cX12_sum 92 (.iconst (-1)) 1 93 := ⟨by decide +kernel, rfl⟩
theorem djX12_sum_93 : Dj cX12_sum 93 (.goto 15) 3 96 15 108 := ⟨by decide +kernel, rfl, by decide⟩
theorem dX12_sum_96 : Dc cX12_sum 96 (.aload_n 0) 1 97 := ⟨by decide +kernel, rfl⟩
theorem dX12_sum_97 : Dc cX12_sum 97 (.getfield 83) 3 100 := ⟨by decide +kernel, rfl⟩
theorem dX12_sum_100 : Dc cX12_sum 100 (.iload_n 1) 1 101 := ⟨by decide +kernel, rfl⟩
theorem dX12_sum_101 : Dc cX12_sum 101 (.iload_n 2) 1 102 := ⟨by decide +kernel, rfl⟩
theorem dX12_sum_102 : Dc cX12_sum 102 (.iload_n 3) 1 103 := ⟨by decide +kernel, rfl⟩
theorem dX12_sum_103 : Dc cX12_sum 103 (.invokestatic 282) 3 106 := ⟨by decide +kernel, rfl⟩
theorem dX12_sum_106 : Dc cX12_sum 106 (.laload) 1 107 := ⟨by decide +kernel, rfl⟩
theorem dX12_sum_107 : Dc cX12_sum 107 (.l2i) 1 108 := ⟨by decide +kernel, rfl⟩
theorem dX12_sum_108 : Dc cX12_sum 108 (.ireturn) 1 109 := ⟨by decide +kernel, rfl⟩
section
variable {p : Program} {l : Launch} {e : Env} {s : State} {m : MethodId} {args : Array Value} {below : List Frame} {meth : Method} {c : Code} {A0 : Nat → Prop} {D : va_G} {cA : Nat → ClassId} {ad : Nat → Nat} {Z : (Nat → Nat) × (Nat → Nat)} {Q : Int → St → Prop}
set_option maxHeartbeats 4000000 in
set_option maxRecDepth 100000 in
theorem t_X12_sum_l44 (E : Ev p s m args meth c cX12_sum 6 RX12 A0 D cA ad NR Z) (hr : meth.sig.returnType = (some .int)) {K32 : Int → Int → Int → Int → St → Prop} (hK32 : ∀ (x1 : Int) (x2 : Int) (x3 : Int) (x4 : Int) (σ : St), C32 x1 → C32 x2 → C32 x3 → C32 x4 → CanS shR NR σ → K32 x1 x2 x3 x4 σ → G p l e (rmL 7 0 0) s m args below meth c 6 A0 D cA ad shR NR 0 0 (MQ below (QIc D cA ad shR NR Q A0) args s 0 0 A0) σ 32 [some (.ref (ad 0)), some (vI x1), some (vI x2), some (vI x3), some (vI x4), none] []) : ∀ (n : Nat) (x1 : Int) (x2 : Int) (x3 : Int) (x4 : Int) (x5 : Int) (σ : St), C32 x1 → C32 x2 → C32 x3 → C32 x4 → C32 x5 → CanS shR NR σ → wp_X12_sum_l44 Q K32 n x1 x2 x3 x4 x5 σ → G p l e (rmL 7 0 0) s m args below meth c 6 A0 D cA ad shR NR 0 0 (MQ below (QIc D cA ad shR NR Q A0) args s 0 0 A0) σ 44 [some (.ref (ad 0)), some (vI x1), some (vI x2), some (vI x3), some (vI x4), some (vI x5)] [] := by
  intro n
  induction n with
  | zero => intro _ _ _ _ _ _ _ _ _ _ _ _ h; exact h.elim
  | succ n ih =>
    intro x1 x2 x3 x4 x5 σ c1 c2 c3 c4 c5 hσ h
    unfold wp_X12_sum_l44 at h
    refine g_iload_5 E dX12_sum_44 ?_
    refine g_iload_4 E dX12_sum_46 ?_
    refine g_iadd E dX12_sum_48 ?_
    refine g_aload_0 E dX12_sum_49 ?_
    refine g_getI E fl_RX12_305 kR_0 sR_0 rfl dX12_sum_50 ?_
    refine g_icmp_gt E (c32_w _) (fR_0_27 hσ) djX12_sum_53 (fun hc => ?_) (fun hc => ?_)
    · replace h := h.1 hc
      refine g_iinc_4 E rfl (by decide) dX12_sum_73 (fun v11 ev11 => ?_)
      replace h := h v11 ev11
      have cv11 : C32 v11 := by rw [ev11]; exact c32_w _
      refine g_goto E djX12_sum_76 ?_
      exact (hK32 x1 x2 x3 v11 σ c1 c2 c3 cv11 hσ h).weak (w_k (w_k (w_k (w_k (w_k (w_d w_n))))))
    · replace h := h.2 hc
      refine g_aload_0 E dX12_sum_56 ?_
      refine g_iload_5 E dX12_sum_57 ?_
      refine g_iload_5 E dX12_sum_59 ?_
      refine g_iload_4 E dX12_sum_61 ?_
      refine g_iadd E dX12_sum_63 ?_
      refine g_callvV E my_X12_laysSums mi_X12_laysSums msel_X12_laysSums ml_RX12_419 (rm_ok (by decide) (by decide)) ⟨Nat.zero_le _, Nat.zero_le _⟩ kR_0 sR_0 rfl (m_X12_laysSums E.2.2.1 c5 (c32_w _) hσ h) rfl rfl (Nat.le_of_ble_eq_true rfl) dX12_sum_64 (fun σ13 r12 hσ13 h => ?_)
      refine g_iinc_5 E rfl (by decide) dX12_sum_67 (fun v14 ev14 => ?_)
      replace h := h v14 ev14
      have cv14 : C32 v14 := by rw [ev14]; exact c32_w _
      refine g_goto E djX12_sum_70 ?_
      exact (ih x1 x2 x3 x4 v14 σ13 c1 c2 c3 c4 cv14 hσ13 h).weak (w_k (w_k (w_k (w_k (w_k (w_k w_n))))))
set_option maxHeartbeats 4000000 in
set_option maxRecDepth 100000 in
theorem t_X12_sum_l32 (E : Ev p s m args meth c cX12_sum 6 RX12 A0 D cA ad NR Z) (hr : meth.sig.returnType = (some .int)) : ∀ (n : Nat) (x1 : Int) (x2 : Int) (x3 : Int) (x4 : Int) (σ : St), C32 x1 → C32 x2 → C32 x3 → C32 x4 → CanS shR NR σ → wp_X12_sum_l32 Q n x1 x2 x3 x4 σ → G p l e (rmL 7 0 0) s m args below meth c 6 A0 D cA ad shR NR 0 0 (MQ below (QIc D cA ad shR NR Q A0) args s 0 0 A0) σ 32 [some (.ref (ad 0)), some (vI x1), some (vI x2), some (vI x3), some (vI x4), none] [] := by
  intro n
  induction n with
  | zero => intro _ _ _ _ _ _ _ _ _ _ h; exact h.elim
  | succ n ih =>
    intro x1 x2 x3 x4 σ c1 c2 c3 c4 hσ h
    unfold wp_X12_sum_l32 at h
    refine g_iload_4 E dX12_sum_32 ?_
    refine g_aload_0 E dX12_sum_34 ?_
    refine g_getI E fl_RX12_305 kR_0 sR_0 rfl dX12_sum_35 ?_
    refine g_icmp_gt E c4 (fR_0_27 hσ) djX12_sum_38 (fun hc => ?_) (fun hc => ?_)
    · replace h := h.1 hc
      refine g_aload_0 E dX12_sum_79 ?_
      refine g_getR E fl_RX12_86 kR_0 sR_0 rfl dX12_sum_80 ?_
      refine g_iload_2 E dX12_sum_83 ?_
      refine g_iload_3 E dX12_sum_84 ?_
      refine g_callsI E my_X12_span ms_X12_span ml_RX12_394 (rm_ok (by decide) (by decide)) ⟨Nat.zero_le _, Nat.zero_le _⟩ (m_X12_span E.2.2.1 c2 c3 hσ h) rfl rfl (Nat.le_of_ble_eq_true rfl) dX12_sum_85 (fun r7 σ8 cr7 hσ8 h => ?_)
      refine g_zald E kR_23 sR_23 (by decide) h.1 dX12_sum_88 ?_
      replace h := h.2
      refine g_if_eq E (aR_23 hσ8 _) djX12_sum_89 (fun hc => ?_) (fun hc => ?_)
      · replace h := h.1 hc
        refine g_aload_0 E dX12_sum_96 ?_
        refine g_getR E fl_RX12_83 kR_0 sR_0 rfl dX12_sum_97 ?_
        refine g_iload_1 E dX12_sum_100 ?_
        refine g_iload_2 E dX12_sum_101 ?_
        refine g_iload_3 E dX12_sum_102 ?_
        refine g_callsI E my_X12_item ms_X12_item ml_RX12_282 (rm_ok (by decide) (by decide)) ⟨Nat.zero_le _, Nat.zero_le _⟩ (m_X12_item E.2.2.1 c1 c2 c3 hσ8 h) rfl rfl (Nat.le_of_ble_eq_true rfl) dX12_sum_103 (fun r9 σ10 cr9 hσ10 h => ?_)
        refine g_lald E kR_22 sR_22 (by decide) h.1 dX12_sum_106 ?_
        replace h := h.2
        refine g_l2i E dX12_sum_107 ?_
        exact g_iret E hr (c32_t _) h hσ10 dX12_sum_108
      · replace h := h.2 hc
        refine g_iconst E dX12_sum_92 ?_
        refine g_goto E djX12_sum_93 ?_
        exact g_iret E hr cl_m1 h hσ8 dX12_sum_108
    · replace h := h.2 hc
      refine g_iconst E dX12_sum_41 ?_
      refine g_istore_5 E rfl (by decide) dX12_sum_42 ?_
      exact (t_X12_sum_l44 E hr ih bigN x1 x2 x3 x4 0 σ c1 c2 c3 c4 cl_0 hσ h).weak (w_k (w_k (w_k (w_k (w_k (w_k w_n))))))
set_option maxHeartbeats 4000000 in
set_option maxRecDepth 100000 in
theorem t_X12_sum (E : Ev p s m args meth c cX12_sum 6 RX12 A0 D cA ad NR Z) (hr : meth.sig.returnType = (some .int)) (x1 : Int) (x2 : Int) (x3 : Int) (σ : St) (c1 : C32 x1) (c2 : C32 x2) (c3 : C32 x3) (hσ : CanS shR NR σ) (h : wp_X12_sum x1 x2 x3 σ Q) : G p l e (rmL 7 0 0) s m args below meth c 6 A0 D cA ad shR NR 0 0 (MQ below (QIc D cA ad shR NR Q A0) args s 0 0 A0) σ 0 [some (.ref (ad 0)), some (vI x1), some (vI x2), some (vI x3), none, none] [] := by
  unfold wp_X12_sum at h
  refine g_aload_0 E dX12_sum_0 ?_
  refine g_iload_1 E dX12_sum_1 ?_
  refine g_iload_2 E dX12_sum_2 ?_
  refine g_iload_3 E dX12_sum_3 ?_
  refine g_callvI E my_X12_isItem mi_X12_isItem msel_X12_isItem ml_RX12_318 (rm_ok (by decide) (by decide)) ⟨Nat.zero_le _, Nat.zero_le _⟩ kR_0 sR_0 rfl (m_X12_isItem E.2.2.1 c1 c2 c3 hσ h) rfl rfl (Nat.le_of_ble_eq_true rfl) dX12_sum_4 (fun r1 σ2 cr1 hσ2 h => ?_)
  refine g_if_ne E cr1 djX12_sum_7 (fun hc => ?_) (fun hc => ?_)
  · replace h := h.1 hc
    refine g_aload_0 E dX12_sum_13 ?_
    refine g_callvV E my_X12_looks mi_X12_looks msel_X12_looks ml_RX12_321 (rm_ok (by decide) (by decide)) ⟨Nat.zero_le _, Nat.zero_le _⟩ kR_0 sR_0 rfl (m_X12_looks E.2.2.1 hσ2 h) rfl rfl (Nat.le_of_ble_eq_true rfl) dX12_sum_14 (fun σ4 r3 hσ4 h => ?_)
    refine g_aload_0 E dX12_sum_17 ?_
    refine g_iload_1 E dX12_sum_18 ?_
    refine g_iload_2 E dX12_sum_19 ?_
    refine g_iload_3 E dX12_sum_20 ?_
    refine g_callvI E my_X12_has mi_X12_has msel_X12_has ml_RX12_324 (rm_ok (by decide) (by decide)) ⟨Nat.zero_le _, Nat.zero_le _⟩ kR_0 sR_0 rfl (m_X12_has E.2.2.1 c1 c2 c3 hσ4 h) rfl rfl (Nat.le_of_ble_eq_true rfl) dX12_sum_21 (fun r5 σ6 cr5 hσ6 h => ?_)
    refine g_if_ne E cr5 djX12_sum_24 (fun hc => ?_) (fun hc => ?_)
    · replace h := h.1 hc
      refine g_iconst E dX12_sum_29 ?_
      refine g_istore_4 E rfl (by decide) dX12_sum_30 ?_
      exact (t_X12_sum_l32 E hr bigN x1 x2 x3 1 σ6 c1 c2 c3 cl_1 hσ6 h).weak (w_k (w_k (w_k (w_k (w_k (w_d w_n))))))
    · replace h := h.2 hc
      refine g_iconst E dX12_sum_27 ?_
      exact g_iret E hr cl_0 h hσ6 dX12_sum_28
  · replace h := h.2 hc
    refine g_bipush E (by decide) dX12_sum_10 ?_
    exact g_iret E hr cl_m2 h hσ2 dX12_sum_12
end
theorem m_X12_sum {Z : (Nat → Nat) × (Nat → Nat)} {l : Launch} {D : va_G} {cA : Nat → ClassId} {ad : Nat → Nat} {x1 x2 x3 : Int} {σ : St} {Q : Int → St → Prop} (hA : AdOk NR ad) (c1 : C32 x1) (c2 : C32 x2) (c3 : C32 x3) (hσ : CanS shR NR σ) (h : wp_X12_sum x1 x2 x3 σ Q) : KtI Z l D cA ad shR NR yX12_sum cX12_sum 6 (some .int) 7 [.ref (ad 0), vI x1, vI x2, vI x3] σ Q :=
  KtI.of my_X12_sum hA [some (.ref (ad 0)), some (vI x1), some (vI x2), some (vI x3), none, none] (Nat.le_of_ble_eq_true rfl) rfl (fun p e s m args below meth c A0 E hr => t_X12_sum E hr x1 x2 x3 σ c1 c2 c3 hσ h)
theorem dX12_isLetterAt_0 : Dc cX12_isLetterAt 0 (.iload_n 1) 1 1 := ⟨by decide +kernel, rfl⟩
theorem dX12_isLetterAt_1 : Dc cX12_isLetterAt 1 (.bipush 100) 2 3 := ⟨by decide +kernel, rfl⟩
theorem djX12_isLetterAt_3 : Dj cX12_isLetterAt 3 (.if_icmp .lt 23) 3 6 23 26 := ⟨by decide +kernel, rfl, by decide⟩
theorem dX12_isLetterAt_6 : Dc cX12_isLetterAt 6 (.iload_n 3) 1 7 := ⟨by decide +kernel, rfl⟩
theorem dX12_isLetterAt_7 : Dc cX12_isLetterAt 7 (.iload_n 2) 1 8 := ⟨by decide +kernel, rfl⟩
theorem dX12_isLetterAt_8 : Dc cX12_isLetterAt 8 (.iconst 1) 1 9 := ⟨by decide +kernel, rfl⟩
theorem dX12_isLetterAt_9 : Dc cX12_isLetterAt 9 (.iadd) 1 10 := ⟨by decide +kernel, rfl⟩
theorem djX12_isLetterAt_10 : Dj cX12_isLetterAt 10 (.if_icmp .ne 20) 3 13 20 30 := ⟨by decide +kernel, rfl, by decide⟩
theorem dX12_isLetterAt_13 : Dc cX12_isLetterAt 13 (.aload_n 0) 1 14 := ⟨by decide +kernel, rfl⟩
theorem dX12_isLetterAt_14 : Dc cX12_isLetterAt 14 (.getfield 57) 3 17 := ⟨by decide +kernel, rfl⟩
theorem dX12_isLetterAt_17 : Dc cX12_isLetterAt 17 (.iload_n 2) 1 18 := ⟨by decide +kernel, rfl⟩
theorem dX12_isLetterAt_18 : Dc cX12_isLetterAt 18 (.iaload) 1 19 := ⟨by decide +kernel, rfl⟩
theorem dX12_isLetterAt_19 : Dc cX12_isLetterAt 19 (.iload_n 1) 1 20 := ⟨by decide +kernel, rfl⟩
theorem dX12_isLetterAt_20 : Dc cX12_isLetterAt 20 (.bipush 100) 2 22 := ⟨by decide +kernel, rfl⟩
theorem dX12_isLetterAt_22 : Dc cX12_isLetterAt 22 (.isub) 1 23 := ⟨by decide +kernel, rfl⟩
theorem djX12_isLetterAt_23 : Dj cX12_isLetterAt 23 (.if_icmp .ne 7) 3 26 7 30 := ⟨by decide +kernel, rfl, by decide⟩
theorem dX12_isLetterAt_26 : Dc cX12_isLetterAt 26 (.iconst 1) 1 27 := ⟨by decide +kernel, rfl⟩
theorem djX12_isLetterAt_27 : Dj cX12_isLetterAt 27 (.goto 4) 3 30 4 31 := ⟨by decide +kernel, rfl, by decide⟩
theorem dX12_isLetterAt_30 : Dc cX12_isLetterAt 30 (.iconst 0) 1 31 := ⟨by decide +kernel, rfl⟩
theorem dX12_isLetterAt_31 : Dc cX12_isLetterAt 31 (.ireturn) 1 32 := ⟨by decide +kernel, rfl⟩
section
variable {p : Program} {l : Launch} {e : Env} {s : State} {m : MethodId} {args : Array Value} {below : List Frame} {meth : Method} {c : Code} {A0 : Nat → Prop} {D : va_G} {cA : Nat → ClassId} {ad : Nat → Nat} {Z : (Nat → Nat) × (Nat → Nat)} {Q : Int → St → Prop}
set_option maxHeartbeats 4000000 in
set_option maxRecDepth 100000 in
theorem t_X12_isLetterAt_b26 (E : Ev p s m args meth c cX12_isLetterAt 4 RX12 A0 D cA ad NR Z) (hr : meth.sig.returnType = (some .boolean)) (σ : St) (hσ : CanS shR NR σ) (h : wp_X12_isLetterAt_b26 Q  σ) : G p l e (rmL 1 0 0) s m args below meth c 4 A0 D cA ad shR NR 0 0 (MQ below (QIc D cA ad shR NR Q A0) args s 0 0 A0) σ 26 [none, none, none, none] [] := by
  unfold wp_X12_isLetterAt_b26 at h
  refine g_iconst E dX12_isLetterAt_26 ?_
  refine g_goto E djX12_isLetterAt_27 ?_
  exact g_zret E hr (Or.inr rfl) h hσ dX12_isLetterAt_31
set_option maxHeartbeats 4000000 in
set_option maxRecDepth 100000 in
theorem t_X12_isLetterAt_b30 (E : Ev p s m args meth c cX12_isLetterAt 4 RX12 A0 D cA ad NR Z) (hr : meth.sig.returnType = (some .boolean)) (σ : St) (hσ : CanS shR NR σ) (h : wp_X12_isLetterAt_b30 Q  σ) : G p l e (rmL 1 0 0) s m args below meth c 4 A0 D cA ad shR NR 0 0 (MQ below (QIc D cA ad shR NR Q A0) args s 0 0 A0) σ 30 [none, none, none, none] [] := by
  unfold wp_X12_isLetterAt_b30 at h
  refine g_iconst E dX12_isLetterAt_30 ?_
  exact g_zret E hr (Or.inl rfl) h hσ dX12_isLetterAt_31
set_option maxHeartbeats 4000000 in
set_option maxRecDepth 100000 in
theorem t_X12_isLetterAt (E : Ev p s m args meth c cX12_isLetterAt 4 RX12 A0 D cA ad NR Z) (hr : meth.sig.returnType = (some .boolean)) (x1 : Int) (x2 : Int) (x3 : Int) (σ : St) (c1 : C32 x1) (c2 : C32 x2) (c3 : C32 x3) (hσ : CanS shR NR σ) (h : wp_X12_isLetterAt x1 x2 x3 σ Q) : G p l e (rmL 1 0 0) s m args below meth c 4 A0 D cA ad shR NR 0 0 (MQ below (QIc D cA ad shR NR Q A0) args s 0 0 A0) σ 0 [some (.ref (ad 0)), some (vI x1), some (vI x2), some (vI x3)] [] := by
  unfold wp_X12_isLetterAt at h
  refine g_iload_1 E dX12_isLetterAt_0 ?_
  refine g_bipush E (by decide) dX12_isLetterAt_1 ?_
  refine g_icmp_lt E c1 cl_100 djX12_isLetterAt_3 (fun hc => ?_) (fun hc => ?_)
  · replace h := h.1 hc
    exact (t_X12_isLetterAt_b26 E hr σ hσ h).weak (w_d (w_d (w_d (w_d w_n))))
  · replace h := h.2 hc
    refine g_iload_3 E dX12_isLetterAt_6 ?_
    refine g_iload_2 E dX12_isLetterAt_7 ?_
    refine g_iconst E dX12_isLetterAt_8 ?_
    refine g_iadd E dX12_isLetterAt_9 ?_
    refine g_icmp_ne E c3 (c32_w _) djX12_isLetterAt_10 (fun hc => ?_) (fun hc => ?_)
    · replace h := h.1 hc
      exact (t_X12_isLetterAt_b30 E hr σ hσ h).weak (w_d (w_d (w_d (w_d w_n))))
    · replace h := h.2 hc
      refine g_aload_0 E dX12_isLetterAt_13 ?_
      refine g_getR E fl_RX12_57 kR_0 sR_0 rfl dX12_isLetterAt_14 ?_
      refine g_iload_2 E dX12_isLetterAt_17 ?_
      refine g_iald E kR_14 sR_14 (by decide) h.1 dX12_isLetterAt_18 ?_
      replace h := h.2
      refine g_iload_1 E dX12_isLetterAt_19 ?_
      refine g_bipush E (by decide) dX12_isLetterAt_20 ?_
      refine g_isub E dX12_isLetterAt_22 ?_
      refine g_icmp_ne E (aR_14 hσ _) (c32_w _) djX12_isLetterAt_23 (fun hc => ?_) (fun hc => ?_)
      · replace h := h.1 hc
        exact (t_X12_isLetterAt_b30 E hr σ hσ h).weak (w_d (w_d (w_d (w_d w_n))))
      · replace h := h.2 hc
        exact (t_X12_isLetterAt_b26 E hr σ hσ h).weak (w_d (w_d (w_d (w_d w_n))))
end
theorem m_X12_isLetterAt {Z : (Nat → Nat) × (Nat → Nat)} {l : Launch} {D : va_G} {cA : Nat → ClassId} {ad : Nat → Nat} {x1 x2 x3 : Int} {σ : St} {Q : Int → St → Prop} (hA : AdOk NR ad) (c1 : C32 x1) (c2 : C32 x2) (c3 : C32 x3) (hσ : CanS shR NR σ) (h : wp_X12_isLetterAt x1 x2 x3 σ Q) : KtI Z l D cA ad shR NR yX12_isLetterAt cX12_isLetterAt 4 (some .boolean) 1 [.ref (ad 0), vI x1, vI x2, vI x3] σ Q :=
  KtI.of my_X12_isLetterAt hA [some (.ref (ad 0)), some (vI x1), some (vI x2), some (vI x3)] (Nat.le_of_ble_eq_true rfl) rfl (fun p e s m args below meth c A0 E hr => t_X12_isLetterAt E hr x1 x2 x3 σ c1 c2 c3 hσ h)
