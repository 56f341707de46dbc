theorem dX12_isRule_0 : Dc cX12_isRule 0 (.iload_n 1) 1 1 := ⟨by decide +kernel, rfl⟩
theorem dX12_isRule_1 : Dc cX12_isRule 1 (.i2l) 1 2 := ⟨by decide +kernel, rfl⟩
theorem dX12_isRule_2 : Dc cX12_isRule 2 (.lconst 0) 1 3 := ⟨by decide +kernel, rfl⟩
theorem dX12_isRule_3 : Dc cX12_isRule 3 (.aload_n 0) 1 4 := ⟨by decide +kernel, rfl⟩
theorem dX12_isRule_4 : Dc cX12_isRule 4 (.getfield 252) 3 7 := ⟨by decide +kernel, rfl⟩
theorem dX12_isRule_7 : Dc cX12_isRule 7 (.iconst 1) 1 8 := ⟨by decide +kernel, rfl⟩
theorem dX12_isRule_8 : Dc cX12_isRule 8 (.isub) 1 9 := ⟨by decide +kernel, rfl⟩
theorem dX12_isRule_9 : Dc cX12_isRule 9 (.i2l) 1 10 := ⟨by decide +kernel, rfl⟩
theorem dX12_isRule_10 : Dc cX12_isRule 10 (.invokestatic 148) 3 13 := ⟨by decide +kernel, rfl⟩
theorem dX12_isRule_13 : Dc cX12_isRule 13 (.ireturn) 1 14 := ⟨by decide +kernel, rfl⟩
section
variable {p : Program} {l : Launch} {e : Env} {s : State} {m : MethodId} {args : Array Value} {below : List Frame} {meth : Method} {c : Code} {A0 : Nat → Prop} {D : va_G} {cA : Nat → ClassId} {ad : Nat → Nat} {Z : (Nat → Nat) × (Nat → Nat)} {Q : Int → St → Prop}
set_option maxHeartbeats 4000000 in
set_option maxRecDepth 100000 in
theorem t_X12_isRule (E : Ev p s m args meth c cX12_isRule 2 RX12 A0 D cA ad NR Z) (hr : meth.sig.returnType = (some .boolean)) (x1 : Int) (σ : St) (c1 : C32 x1) (hσ : CanS shR NR σ) (h : wp_X12_isRule x1 σ Q) : G p l e (rmL 2 0 0) s m args below meth c 2 A0 D cA ad shR NR 0 0 (MQ below (QIc D cA ad shR NR Q A0) args s 0 0 A0) σ 0 [some (.ref (ad 0)), some (vI x1)] [] := by
  unfold wp_X12_isRule at h
  refine g_iload_1 E dX12_isRule_0 ?_
  refine g_i2l E c1 dX12_isRule_1 ?_
  refine g_lconst (n := 0) E (by decide) dX12_isRule_2 ?_
  refine g_aload_0 E dX12_isRule_3 ?_
  refine g_getI E fl_RX12_252 kR_0 sR_0 rfl dX12_isRule_4 ?_
  refine g_iconst E dX12_isRule_7 ?_
  refine g_isub E dX12_isRule_8 ?_
  refine g_i2l E (c32_w _) dX12_isRule_9 ?_
  refine g_callsI E my_X12_in ms_X12_in ml_RX12_148 (rm_ok (by decide) (by decide)) ⟨Nat.zero_le _, Nat.zero_le _⟩ (m_X12_in E.2.2.1 (c32_of_c64 c1) cL_0 (c32_of_c64 (c32_w _)) hσ h) rfl rfl (Nat.le_of_ble_eq_true rfl) dX12_isRule_10 (fun r1 σ2 cr1 hσ2 h => ?_)
  exact g_zret E hr h.1 h.2 hσ2 dX12_isRule_13
end
theorem m_X12_isRule {Z : (Nat → Nat) × (Nat → Nat)} {l : Launch} {D : va_G} {cA : Nat → ClassId} {ad : Nat → Nat} {x1 : Int} {σ : St} {Q : Int → St → Prop} (hA : AdOk NR ad) (c1 : C32 x1) (hσ : CanS shR NR σ) (h : wp_X12_isRule x1 σ Q) : KtI Z l D cA ad shR NR yX12_isRule cX12_isRule 2 (some .boolean) 2 [.ref (ad 0), vI x1] σ Q :=
  KtI.of my_X12_isRule hA [some (.ref (ad 0)), some (vI x1)] (Nat.le_of_ble_eq_true rfl) rfl (fun p e s m args below meth c A0 E hr => t_X12_isRule E hr x1 σ c1 hσ h)
theorem dX12_rule_0 : Dc cX12_rule 0 (.aload_n 0) 1 1 := ⟨by decide +kernel, rfl⟩
theorem dX12_rule_1 : Dc cX12_rule 1 (.iload_n 1) 1 2 := ⟨by decide +kernel, rfl⟩
theorem dX12_rule_2 : Dc cX12_rule 2 (.invokevirtual 262) 3 5 := ⟨by decide +kernel, rfl⟩
theorem djX12_rule_5 : Dj cX12_rule 5 (.ifCond .ne 6) 3 8 6 11 := ⟨by decide +kernel, rfl, by decide⟩
theorem dX12_rule_8 : Dc cX12_rule 8 (.bipush (-2)) 2 10 := ⟨by decide +kernel, rfl⟩
theorem dX12_rule_10 : Dc cX12_rule 10 (.ireturn) 1 11 := ⟨by decide +kernel, rfl⟩
theorem dX12_rule_11 : Dc cX12_rule 11 (.iload_n 2) 1 12 := ⟨by decide +kernel, rfl⟩
theorem dX12_rule_12 : Dc cX12_rule 12 (.tableswitch 85 0 5 #[40, 47, 54, 61, 68, 75]) 40 52 := ⟨by decide +kernel, rfl⟩
theorem dX12_rule_52 : Dc cX12_rule 52 (.aload_n 0) 1 53 := ⟨by decide +kernel, rfl⟩
theorem dX12_rule_53 : Dc cX12_rule 53 (.getfield 13) 3 56 := ⟨by decide +kernel, rfl⟩
theorem dX12_rule_56 : Dc cX12_rule 56 (.iload_n 1) 1 57 := ⟨by decide +kernel, rfl⟩
theorem dX12_rule_57 : Dc cX12_rule 57 (.iaload) 1 58 := ⟨by decide +kernel, rfl⟩
theorem dX12_rule_58 : Dc cX12_rule 58 (.ireturn) 1 59 := ⟨by decide +kernel, rfl⟩
theorem dX12_rule_59 : Dc cX12_rule 59 (.aload_n 0) 1 60 := ⟨by decide +kernel, rfl⟩
theorem dX12_rule_60 : Dc cX12_rule 60 (.getfield 17) 3 63 := ⟨by decide +kernel, rfl⟩
theorem dX12_rule_63 : Dc cX12_rule 63 (.iload_n 1) 1 64 := ⟨by decide +kernel, rfl⟩
theorem dX12_rule_64 : Dc cX12_rule 64 (.iaload) 1 65 := ⟨by decide +kernel, rfl⟩
theorem dX12_rule_65 : Dc cX12_rule 65 (.ireturn) 1 66 := ⟨by decide +kernel, rfl⟩
theorem dX12_rule_66 : Dc cX12_rule 66 (.aload_n 0) 1 67 := ⟨by decide +kernel, rfl⟩
theorem dX12_rule_67 : Dc cX12_rule 67 (.getfield 20) 3 70 := ⟨by decide +kernel, rfl⟩
theorem dX12_rule_70 : Dc cX12_rule 70 (.iload_n 1) 1 71 := ⟨by decide +kernel, rfl⟩
theorem dX12_rule_71 : Dc cX12_rule 71 (.iaload) 1 72 := ⟨by decide +kernel, rfl⟩
theorem dX12_rule_72 : Dc cX12_rule 72 (.ireturn) 1 73 := ⟨by decide +kernel, rfl⟩
theorem dX12_rule_73 : Dc cX12_rule 73 (.aload_n 0) 1 74 := ⟨by decide +kernel, rfl⟩
theorem dX12_rule_74 : Dc cX12_rule 74 (.getfield 23) 3 77 := ⟨by decide +kernel, rfl⟩
theorem dX12_rule_77 : Dc cX12_rule 77 (.iload_n 1) 1 78 := ⟨by decide +kernel, rfl⟩
theorem dX12_rule_78 : Dc cX12_rule 78 (.iaload) 1 79 := ⟨by decide +kernel, rfl⟩
theorem dX12_rule_79 : Dc cX12_rule 79 (.ireturn) 1 80 := ⟨by decide +kernel, rfl⟩
theorem dX12_rule_80 : Dc cX12_rule 80 (.aload_n 0) 1 81 := ⟨by decide +kernel, rfl⟩
theorem dX12_rule_81 : Dc cX12_rule 81 (.getfield 26) 3 84 := ⟨by decide +kernel, rfl⟩
theorem dX12_rule_84 : Dc cX12_rule 84 (.iload_n 1) 1 85 := ⟨by decide +kernel, rfl⟩
theorem dX12_rule_85 : Dc cX12_rule 85 (.iaload) 1 86 := ⟨by decide +kernel, rfl⟩
theorem dX12_rule_86 : Dc cX12_rule 86 (.ireturn) 1 87 := ⟨by decide +kernel, rfl⟩
theorem dX12_rule_87 : Dc cX12_rule 87 (.aload_n 0) 1 88 := ⟨by decide +kernel, rfl⟩
theorem dX12_rule_88 : Dc cX12_rule 88 (.getfield 255) 3 91 := ⟨by decide +kernel, rfl⟩
theorem dX12_rule_91 : Dc cX12_rule 91 (.iload_n 1) 1 92 := ⟨by decide +kernel, rfl⟩
theorem dX12_rule_92 : Dc cX12_rule 92 (.lshr) 1 93 := ⟨by decide +kernel, rfl⟩
theorem dX12_rule_93 : Dc cX12_rule 93 (.lconst 1) 1 94 := ⟨by decide +kernel, rfl⟩
theorem dX12_rule_94 : Dc cX12_rule 94 (.land) 1 95 := ⟨by decide +kernel, rfl⟩
theorem dX12_rule_95 : Dc cX12_rule 95 (.l2i) 1 96 := ⟨by decide +kernel, rfl⟩
theorem dX12_rule_96 : Dc cX12_rule 96 (.ireturn) 1 97 := ⟨by decide +kernel, rfl⟩
theorem dX12_rule_97 : Dc cX12_rule 97 (.bipush (-2)) 2 99 := ⟨by decide +kernel, rfl⟩
theorem dX12_rule_99 : Dc cX12_rule 99 (.ireturn) 1 100 := ⟨by decide +kernel, rfl⟩
section
variable {p : Program} {l : Launch} {e : Env} {s : State} {m : MethodId} {args : Array Value} {below : List Frame} {meth : Method} {c : Code} {A0 : Nat → Prop} {D : va_G} {cA : Nat → ClassId} {ad : Nat → Nat} {Z : (Nat → Nat) × (Nat → Nat)} {Q : Int → St → Prop}
set_option maxHeartbeats 4000000 in
set_option maxRecDepth 100000 in
theorem t_X12_rule (E : Ev p s m args meth c cX12_rule 3 RX12 A0 D cA ad NR Z) (hr : meth.sig.returnType = (some .int)) (x1 : Int) (x2 : Int) (σ : St) (c1 : C32 x1) (c2 : C32 x2) (hσ : CanS shR NR σ) (h : wp_X12_rule x1 x2 σ Q) : G p l e (rmL 3 0 0) s m args below meth c 3 A0 D cA ad shR NR 0 0 (MQ below (QIc D cA ad shR NR Q A0) args s 0 0 A0) σ 0 [some (.ref (ad 0)), some (vI x1), some (vI x2)] [] := by
  unfold wp_X12_rule at h
  refine g_aload_0 E dX12_rule_0 ?_
  refine g_iload_1 E dX12_rule_1 ?_
  refine g_callvI E my_X12_isRule mi_X12_isRule msel_X12_isRule ml_RX12_262 (rm_ok (by decide) (by decide)) ⟨Nat.zero_le _, Nat.zero_le _⟩ kR_0 sR_0 rfl (m_X12_isRule E.2.2.1 c1 hσ h) rfl rfl (Nat.le_of_ble_eq_true rfl) dX12_rule_2 (fun r1 σ2 cr1 hσ2 h => ?_)
  refine g_if_ne E cr1 djX12_rule_5 (fun hc => ?_) (fun hc => ?_)
  · replace h := h.1 hc
    refine g_iload_2 E dX12_rule_11 ?_
    by_cases hs0 : x2 = 0
    · refine g_tableIn (v := 0) (i := 0) E c2 hs0 (by decide) (by decide) dX12_rule_12 rfl (tgt := 52) (by decide) ?_
      replace h := h.1 hs0
      refine g_aload_0 E dX12_rule_52 ?_
      refine g_getR E fl_RX12_13 kR_0 sR_0 rfl dX12_rule_53 ?_
      refine g_iload_1 E dX12_rule_56 ?_
      refine g_iald E kR_1 sR_1 (by decide) h.1 dX12_rule_57 ?_
      replace h := h.2
      exact g_iret E hr (aR_1 hσ2 _) h hσ2 dX12_rule_58
    by_cases hs1 : x2 = 1
    · refine g_tableIn (v := 1) (i := 1) E c2 hs1 (by decide) (by decide) dX12_rule_12 rfl (tgt := 59) (by decide) ?_
      replace h := h.2.1 hs1
      refine g_aload_0 E dX12_rule_59 ?_
      refine g_getR E fl_RX12_17 kR_0 sR_0 rfl dX12_rule_60 ?_
      refine g_iload_1 E dX12_rule_63 ?_
      refine g_iald E kR_2 sR_2 (by decide) h.1 dX12_rule_64 ?_
      replace h := h.2
      exact g_iret E hr (aR_2 hσ2 _) h hσ2 dX12_rule_65
    by_cases hs2 : x2 = 2
    · refine g_tableIn (v := 2) (i := 2) E c2 hs2 (by decide) (by decide) dX12_rule_12 rfl (tgt := 66) (by decide) ?_
      replace h := h.2.2.1 hs2
      refine g_aload_0 E dX12_rule_66 ?_
      refine g_getR E fl_RX12_20 kR_0 sR_0 rfl dX12_rule_67 ?_
      refine g_iload_1 E dX12_rule_70 ?_
      refine g_iald E kR_3 sR_3 (by decide) h.1 dX12_rule_71 ?_
      replace h := h.2
      exact g_iret E hr (aR_3 hσ2 _) h hσ2 dX12_rule_72
    by_cases hs3 : x2 = 3
    · refine g_tableIn (v := 3) (i := 3) E c2 hs3 (by decide) (by decide) dX12_rule_12 rfl (tgt := 73) (by decide) ?_
      replace h := h.2.2.2.1 hs3
      refine g_aload_0 E dX12_rule_73 ?_
      refine g_getR E fl_RX12_23 kR_0 sR_0 rfl dX12_rule_74 ?_
      refine g_iload_1 E dX12_rule_77 ?_
      refine g_iald E kR_4 sR_4 (by decide) h.1 dX12_rule_78 ?_
      replace h := h.2
      exact g_iret E hr (aR_4 hσ2 _) h hσ2 dX12_rule_79
    by_cases hs4 : x2 = 4
    · refine g_tableIn (v := 4) (i := 4) E c2 hs4 (by decide) (by decide) dX12_rule_12 rfl (tgt := 80) (by decide) ?_
      replace h := h.2.2.2.2.1 hs4
      refine g_aload_0 E dX12_rule_80 ?_
      refine g_getR E fl_RX12_26 kR_0 sR_0 rfl dX12_rule_81 ?_
      refine g_iload_1 E dX12_rule_84 ?_
      refine g_iald E kR_5 sR_5 (by decide) h.1 dX12_rule_85 ?_
      replace h := h.2
      exact g_iret E hr (aR_5 hσ2 _) h hσ2 dX12_rule_86
    by_cases hs5 : x2 = 5
    · refine g_tableIn (v := 5) (i := 5) E c2 hs5 (by decide) (by decide) dX12_rule_12 rfl (tgt := 87) (by decide) ?_
      replace h := h.2.2.2.2.2.1 hs5
      refine g_aload_0 E dX12_rule_87 ?_
      refine g_getL E fl_RX12_255 kR_0 sR_0 rfl dX12_rule_88 ?_
      refine g_iload_1 E dX12_rule_91 ?_
      refine g_lshr E dX12_rule_92 ?_
      refine g_lconst (n := 1) E (by decide) dX12_rule_93 ?_
      refine g_land E dX12_rule_94 ?_
      refine g_l2i E dX12_rule_95 ?_
      exact g_iret E hr (c32_t _) h hσ2 dX12_rule_96
    replace h := h.2.2.2.2.2.2 ⟨hs0, hs1, hs2, hs3, hs4, hs5⟩
    refine g_tableOut E c2 (by omega) dX12_rule_12 (tgt := 97) (by decide) ?_
    refine g_bipush E (by decide) dX12_rule_97 ?_
    exact g_iret E hr cl_m2 h hσ2 dX12_rule_99
  · replace h := h.2 hc
    refine g_bipush E (by decide) dX12_rule_8 ?_
    exact g_iret E hr cl_m2 h hσ2 dX12_rule_10
end
theorem m_X12_rule {Z : (Nat → Nat) × (Nat → Nat)} {l : Launch} {D : va_G} {cA : Nat → ClassId} {ad : Nat → Nat} {x1 x2 : Int} {σ : St} {Q : Int → St → Prop} (hA : AdOk NR ad) (c1 : C32 x1) (c2 : C32 x2) (hσ : CanS shR NR σ) (h : wp_X12_rule x1 x2 σ Q) : KtI Z l D cA ad shR NR yX12_rule cX12_rule 3 (some .int) 3 [.ref (ad 0), vI x1, vI x2] σ Q :=
  KtI.of my_X12_rule hA [some (.ref (ad 0)), some (vI x1), some (vI x2)] (Nat.le_of_ble_eq_true rfl) rfl (fun p e s m args below meth c A0 E hr => t_X12_rule E hr x1 x2 σ c1 c2 hσ h)
theorem dX12_isElement_0 : Dc cX12_isElement 0 (.iload_n 1) 1 1 := ⟨by decide +kernel, rfl⟩
theorem dX12_isElement_1 : Dc cX12_isElement 1 (.i2l) 1 2 := ⟨by decide +kernel, rfl⟩
theorem dX12_isElement_2 : Dc cX12_isElement 2 (.lconst 0) 1 3 := ⟨by decide +kernel, rfl⟩
theorem dX12_isElement_3 : Dc cX12_isElement 3 (.aload_n 0) 1 4 := ⟨by decide +kernel, rfl⟩
theorem dX12_isElement_4 : Dc cX12_isElement 4 (.getfield 29) 3 7 := ⟨by decide +kernel, rfl⟩
theorem dX12_isElement_7 : Dc cX12_isElement 7 (.iconst 0) 1 8 := ⟨by decide +kernel, rfl⟩
theorem dX12_isElement_8 : Dc cX12_isElement 8 (.iaload) 1 9 := ⟨by decide +kernel, rfl⟩
theorem dX12_isElement_9 : Dc cX12_isElement 9 (.iconst 1) 1 10 := ⟨by decide +kernel, rfl⟩
theorem dX12_isElement_10 : Dc cX12_isElement 10 (.isub) 1 11 := ⟨by decide +kernel, rfl⟩
theorem dX12_isElement_11 : Dc cX12_isElement 11 (.i2l) 1 12 := ⟨by decide +kernel, rfl⟩
theorem dX12_isElement_12 : Dc cX12_isElement 12 (.invokestatic 148) 3 15 := ⟨by decide +kernel, rfl⟩
theorem dX12_isElement_15 : Dc cX12_isElement 15 (.ireturn) 1 16 := ⟨by decide +kernel, rfl⟩
section
variable {p : Program} {l : Launch} {e : Env} {s : State} {m : MethodId} {args : Array Value} {below : List Frame} {meth : Method} {c : Code} {A0 : Nat → Prop} {D : va_G} {cA : Nat → ClassId} {ad : Nat → Nat} {Z : (Nat → Nat) × (Nat → Nat)} {Q : Int → St → Prop}
set_option maxHeartbeats 4000000 in
set_option maxRecDepth 100000 in
theorem t_X12_isElement (E : Ev p s m args meth c cX12_isElement 2 RX12 A0 D cA ad NR Z) (hr : meth.sig.returnType = (some .boolean)) (x1 : Int) (σ : St) (c1 : C32 x1) (hσ : CanS shR NR σ) (h : wp_X12_isElement x1 σ Q) : G p l e (rmL 2 0 0) s m args below meth c 2 A0 D cA ad shR NR 0 0 (MQ below (QIc D cA ad shR NR Q A0) args s 0 0 A0) σ 0 [some (.ref (ad 0)), some (vI x1)] [] := by
  unfold wp_X12_isElement at h
  refine g_iload_1 E dX12_isElement_0 ?_
  refine g_i2l E c1 dX12_isElement_1 ?_
  refine g_lconst (n := 0) E (by decide) dX12_isElement_2 ?_
  refine g_aload_0 E dX12_isElement_3 ?_
  refine g_getR E fl_RX12_29 kR_0 sR_0 rfl dX12_isElement_4 ?_
  refine g_iconst E dX12_isElement_7 ?_
  refine g_iald E kR_6 sR_6 (by decide) (by decide) dX12_isElement_8 ?_
  refine g_iconst E dX12_isElement_9 ?_
  refine g_isub E dX12_isElement_10 ?_
  refine g_i2l E (c32_w _) dX12_isElement_11 ?_
  refine g_callsI E my_X12_in ms_X12_in ml_RX12_148 (rm_ok (by decide) (by decide)) ⟨Nat.zero_le _, Nat.zero_le _⟩ (m_X12_in E.2.2.1 (c32_of_c64 c1) cL_0 (c32_of_c64 (c32_w _)) hσ h) rfl rfl (Nat.le_of_ble_eq_true rfl) dX12_isElement_12 (fun r1 σ2 cr1 hσ2 h => ?_)
  exact g_zret E hr h.1 h.2 hσ2 dX12_isElement_15
end
theorem m_X12_isElement {Z : (Nat → Nat) × (Nat → Nat)} {l : Launch} {D : va_G} {cA : Nat → ClassId} {ad : Nat → Nat} {x1 : Int} {σ : St} {Q : Int → St → Prop} (hA : AdOk NR ad) (c1 : C32 x1) (hσ : CanS shR NR σ) (h : wp_X12_isElement x1 σ Q) : KtI Z l D cA ad shR NR yX12_isElement cX12_isElement 2 (some .boolean) 2 [.ref (ad 0), vI x1] σ Q :=
  KtI.of my_X12_isElement hA [some (.ref (ad 0)), some (vI x1)] (Nat.le_of_ble_eq_true rfl) rfl (fun p e s m args below meth c A0 E hr => t_X12_isElement E hr x1 σ c1 hσ h)
theorem dX12_product2_0 : Dc cX12_product2 0 (.aload_n 0) 1 1 := ⟨by decide +kernel, rfl⟩
theorem dX12_product2_1 : Dc cX12_product2 1 (.getfield 41) 3 4 := ⟨by decide +kernel, rfl⟩
theorem dX12_product2_4 : Dc cX12_product2 4 (.iload_n 1) 1 5 := ⟨by decide +kernel, rfl⟩
theorem dX12_product2_5 : Dc cX12_product2 5 (.aload_n 0) 1 6 := ⟨by decide +kernel, rfl⟩
theorem dX12_product2_6 : Dc cX12_product2 6 (.getfield 29) 3 9 := ⟨by decide +kernel, rfl⟩
theorem dX12_product2_9 : Dc cX12_product2 9 (.iconst 0) 1 10 := ⟨by decide +kernel, rfl⟩
theorem dX12_product2_10 : Dc cX12_product2 10 (.iaload) 1 11 := ⟨by decide +kernel, rfl⟩
theorem dX12_product2_11 : Dc cX12_product2 11 (.imul) 1 12 := ⟨by decide +kernel, rfl⟩
theorem dX12_product2_12 : Dc cX12_product2 12 (.iload_n 2) 1 13 := ⟨by decide +kernel, rfl⟩
theorem dX12_product2_13 : Dc cX12_product2 13 (.iadd) 1 14 := ⟨by decide +kernel, rfl⟩
theorem dX12_product2_14 : Dc cX12_product2 14 (.iaload) 1 15 := ⟨by decide +kernel, rfl⟩
theorem dX12_product2_15 : Dc cX12_product2 15 (.ireturn) 1 16 := ⟨by decide +kernel, rfl⟩
section
variable {p : Program} {l : Launch} {e : Env} {s : State} {m : MethodId} {args : Array Value} {below : List Frame} {meth : Method} {c : Code} {A0 : Nat → Prop} {D : va_G} {cA : Nat → ClassId} {ad : Nat → Nat} {Z : (Nat → Nat) × (Nat → Nat)} {Q : Int → St → Prop}
set_option maxHeartbeats 4000000 in
set_option maxRecDepth 100000 in
theorem t_X12_product2 (E : Ev p s m args meth c cX12_product2 3 RX12 A0 D cA ad NR Z) (hr : meth.sig.returnType = (some .int)) (x1 : Int) (x2 : Int) (σ : St) (c1 : C32 x1) (c2 : C32 x2) (hσ : CanS shR NR σ) (h : wp_X12_product2 x1 x2 σ Q) : G p l e (rmL 1 0 0) s m args below meth c 3 A0 D cA ad shR NR 0 0 (MQ below (QIc D cA ad shR NR Q A0) args s 0 0 A0) σ 0 [some (.ref (ad 0)), some (vI x1), some (vI x2)] [] := by
  unfold wp_X12_product2 at h
  refine g_aload_0 E dX12_product2_0 ?_
  refine g_getR E fl_RX12_41 kR_0 sR_0 rfl dX12_product2_1 ?_
  refine g_iload_1 E dX12_product2_4 ?_
  refine g_aload_0 E dX12_product2_5 ?_
  refine g_getR E fl_RX12_29 kR_0 sR_0 rfl dX12_product2_6 ?_
  refine g_iconst E dX12_product2_9 ?_
  refine g_iald E kR_6 sR_6 (by decide) (by decide) dX12_product2_10 ?_
  refine g_imul E dX12_product2_11 ?_
  refine g_iload_2 E dX12_product2_12 ?_
  refine g_iadd E dX12_product2_13 ?_
  refine g_iald E kR_10 sR_10 (by decide) h.1 dX12_product2_14 ?_
  replace h := h.2
  exact g_iret E hr (aR_10 hσ _) h hσ dX12_product2_15
end
theorem m_X12_product2 {Z : (Nat → Nat) × (Nat → Nat)} {l : Launch} {D : va_G} {cA : Nat → ClassId} {ad : Nat → Nat} {x1 x2 : Int} {σ : St} {Q : Int → St → Prop} (hA : AdOk NR ad) (c1 : C32 x1) (c2 : C32 x2) (hσ : CanS shR NR σ) (h : wp_X12_product2 x1 x2 σ Q) : KtI Z l D cA ad shR NR yX12_product2 cX12_product2 3 (some .int) 1 [.ref (ad 0), vI x1, vI x2] σ Q :=
  KtI.of my_X12_product2 hA [some (.ref (ad 0)), some (vI x1), some (vI x2)] (Nat.le_of_ble_eq_true rfl) rfl (fun p e s m args below meth c A0 E hr => t_X12_product2 E hr x1 x2 σ c1 c2 hσ h)
theorem dX12_sum2_0 : Dc cX12_sum2 0 (.aload_n 0) 1 1 := ⟨by decide +kernel, rfl⟩
theorem dX12_sum2_1 : Dc cX12_sum2 1 (.getfield 38) 3 4 := ⟨by decide +kernel, rfl⟩
theorem dX12_sum2_4 : Dc cX12_sum2 4 (.iload_n 1) 1 5 := ⟨by decide +kernel, rfl⟩
theorem dX12_sum2_5 : Dc cX12_sum2 5 (.aload_n 0) 1 6 := ⟨by decide +kernel, rfl⟩
theorem dX12_sum2_6 : Dc cX12_sum2 6 (.getfield 29) 3 9 := ⟨by decide +kernel, rfl⟩
theorem dX12_sum2_9 : Dc cX12_sum2 9 (.iconst 0) 1 10 := ⟨by decide +kernel, rfl⟩
theorem dX12_sum2_10 : Dc cX12_sum2 10 (.iaload) 1 11 := ⟨by decide +kernel, rfl⟩
theorem dX12_sum2_11 : Dc cX12_sum2 11 (.imul) 1 12 := ⟨by decide +kernel, rfl⟩
theorem dX12_sum2_12 : Dc cX12_sum2 12 (.iload_n 2) 1 13 := ⟨by decide +kernel, rfl⟩
theorem dX12_sum2_13 : Dc cX12_sum2 13 (.iadd) 1 14 := ⟨by decide +kernel, rfl⟩
theorem dX12_sum2_14 : Dc cX12_sum2 14 (.iaload) 1 15 := ⟨by decide +kernel, rfl⟩
theorem dX12_sum2_15 : Dc cX12_sum2 15 (.ireturn) 1 16 := ⟨by decide +kernel, rfl⟩
section
variable {p : Program} {l : Launch} {e : Env} {s : State} {m : MethodId} {args : Array Value} {below : List Frame} {meth : Method} {c : Code} {A0 : Nat → Prop} {D : va_G} {cA : Nat → ClassId} {ad : Nat → Nat} {Z : (Nat → Nat) × (Nat → Nat)} {Q : Int → St → Prop}
set_option maxHeartbeats 4000000 in
set_option maxRecDepth 100000 in
theorem t_X12_sum2 (E : Ev p s m args meth c cX12_sum2 3 RX12 A0 D cA ad NR Z) (hr : meth.sig.returnType = (some .int)) (x1 : Int) (x2 : Int) (σ : St) (c1 : C32 x1) (c2 : C32 x2) (hσ : CanS shR NR σ) (h : wp_X12_sum2 x1 x2 σ Q) : G p l e (rmL 1 0 0) s m args below meth c 3 A0 D cA ad shR NR 0 0 (MQ below (QIc D cA ad shR NR Q A0) args s 0 0 A0) σ 0 [some (.ref (ad 0)), some (vI x1), some (vI x2)] [] := by
  unfold wp_X12_sum2 at h
  refine g_aload_0 E dX12_sum2_0 ?_
  refine g_getR E fl_RX12_38 kR_0 sR_0 rfl dX12_sum2_1 ?_
  refine g_iload_1 E dX12_sum2_4 ?_
  refine g_aload_0 E dX12_sum2_5 ?_
  refine g_getR E fl_RX12_29 kR_0 sR_0 rfl dX12_sum2_6 ?_
  refine g_iconst E dX12_sum2_9 ?_
  refine g_iald E kR_6 sR_6 (by decide) (by decide) dX12_sum2_10 ?_
  refine g_imul E dX12_sum2_11 ?_
  refine g_iload_2 E dX12_sum2_12 ?_
  refine g_iadd E dX12_sum2_13 ?_
  refine g_iald E kR_9 sR_9 (by decide) h.1 dX12_sum2_14 ?_
  replace h := h.2
  exact g_iret E hr (aR_9 hσ _) h hσ dX12_sum2_15
end
theorem m_X12_sum2 {Z : (Nat → Nat) × (Nat → Nat)} {l : Launch} {D : va_G} {cA : Nat → ClassId} {ad : Nat → Nat} {x1 x2 : Int} {σ : St} {Q : Int → St → Prop} (hA : AdOk NR ad) (c1 : C32 x1) (c2 : C32 x2) (hσ : CanS shR NR σ) (h : wp_X12_sum2 x1 x2 σ Q) : KtI Z l D cA ad shR NR yX12_sum2 cX12_sum2 3 (some .int) 1 [.ref (ad 0), vI x1, vI x2] σ Q :=
  KtI.of my_X12_sum2 hA [some (.ref (ad 0)), some (vI x1), some (vI x2)] (Nat.le_of_ble_eq_true rfl) rfl (fun p e s m args below meth c A0 E hr => t_X12_sum2 E hr x1 x2 σ c1 c2 hσ h)
theorem dX12_table_0 : Dc cX12_table 0 (.iload_n 1) 1 1 := ⟨by decide +kernel, rfl⟩
theorem dX12_table_1 : Dc cX12_table 1 (.i2l) 1 2 := ⟨by decide +kernel, rfl⟩
theorem dX12_table_2 : Dc cX12_table 2 (.lconst 0) 1 3 := ⟨by decide +kernel, rfl⟩
theorem dX12_table_3 : Dc cX12_table 3 (.lconst 1) 1 4 := ⟨by decide +kernel, rfl⟩
theorem dX12_table_4 : Dc cX12_table 4 (.invokestatic 148) 3 7 := ⟨by decide +kernel, rfl⟩
theorem djX12_table_7 : Dj cX12_table 7 (.ifCond .eq 19) 3 10 19 26 := ⟨by decide +kernel, rfl, by decide⟩
theorem dX12_table_10 : Dc cX12_table 10 (.aload_n 0) 1 11 := ⟨by decide +kernel, rfl⟩
theorem dX12_table_11 : Dc cX12_table 11 (.iload_n 2) 1 12 := ⟨by decide +kernel, rfl⟩
theorem dX12_table_12 : Dc cX12_table 12 (.invokevirtual 266) 3 15 := ⟨by decide +kernel, rfl⟩
theorem djX12_table_15 : Dj cX12_table 15 (.ifCond .eq 11) 3 18 11 26 := ⟨by decide +kernel, rfl, by decide⟩
theorem dX12_table_18 : Dc cX12_table 18 (.aload_n 0) 1 19 := ⟨by decide +kernel, rfl⟩
theorem dX12_table_19 : Dc cX12_table 19 (.iload_n 3) 1 20 := ⟨by decide +kernel, rfl⟩
theorem dX12_table_20 : Dc cX12_table 20 (.invokevirtual 266) 3 23 := ⟨by decide +kernel, rfl⟩
theorem djX12_table_23 : Dj cX12_table 23 (.ifCond .ne 6) 3 26 6 29 := ⟨by decide +kernel, rfl, by decide⟩
theorem dX12_table_26 : Dc cX12_table 26 (.bipush (-2)) 2 28 := ⟨by decide +kernel, rfl⟩
theorem dX12_table_28 : Dc cX12_table 28 (.ireturn) 1 29 := ⟨by decide +kernel, rfl⟩
theorem dX12_table_29 : Dc cX12_table 29 (.iload_n 1) 1 30 := ⟨by decide +kernel, rfl⟩
theorem djX12_table_30 : Dj cX12_table 30 (.ifCond .ne 12) 3 33 12 42 := ⟨by decide +kernel, rfl, by decide⟩
theorem dX12_table_33 : Dc cX12_table 33 (.aload_n 0) 1 34 := ⟨by decide +kernel, rfl⟩
theorem dX12_table_34 : Dc cX12_table 34 (.iload_n 2) 1 35 := ⟨by decide +kernel, rfl⟩
theorem dX12_table_35 : Dc cX12_table 35 (.iload_n 3) 1 36 := ⟨by decide +kernel, rfl⟩
theorem dX12_table_36 : Dc cX12_table 36 (.invokevirtual 269) 3 39 := ⟨by decide +kernel, rfl⟩
theorem djX12_table_39 : Dj cX12_table 39 (.goto 9) 3 42 9 48 := ⟨by decide +kernel, rfl, by decide⟩
theorem dX12_table_42 : Dc cX12_table 42 (.aload_n 0) 1 43 := ⟨by decide +kernel, rfl⟩
theorem dX12_table_43 : Dc cX12_table 43 (.iload_n 2) 1 44 := ⟨by decide +kernel, rfl⟩
theorem dX12_table_44 : Dc cX12_table 44 (.iload_n 3) 1 45 := ⟨by decide +kernel, rfl⟩
theorem dX12_table_45 : Dc cX12_table 45 (.invokevirtual 272) 3 48 := ⟨by decide +kernel, rfl⟩
theorem dX12_table_48 : Dc cX12_table 48 (.ireturn) 1 49 := ⟨by decide +kernel, rfl⟩
section
variable {p : Program} {l : Launch} {e : Env} {s : State} {m : MethodId} {args : Array Value} {below : List Frame} {meth : Method} {c : Code} {A0 : Nat → Prop} {D : va_G} {cA : Nat → ClassId} {ad : Nat → Nat} {Z : (Nat → Nat) × (Nat → Nat)} {Q : Int → St → Prop}
set_option maxHeartbeats 4000000 in
set_option maxRecDepth 100000 in
theorem t_X12_table (E : Ev p s m args meth c cX12_table 4 RX12 A0 D cA ad NR Z) (hr : meth.sig.returnType = (some .int)) (x1 : Int) (x2 : Int) (x3 : Int) (σ : St) (c1 : C32 x1) (c2 : C32 x2) (c3 : C32 x3) (hσ : CanS shR NR σ) (h : wp_X12_table x1 x2 x3 σ Q) : G p l e (rmL 3 0 0) s m args below meth c 4 A0 D cA ad shR NR 0 0 (MQ below (QIc D cA ad shR NR Q A0) args s 0 0 A0) σ 0 [some (.ref (ad 0)), some (vI x1), some (vI x2), some (vI x3)] [] := by
  unfold wp_X12_table at h
  refine g_iload_1 E dX12_table_0 ?_
  refine g_i2l E c1 dX12_table_1 ?_
  refine g_lconst (n := 0) E (by decide) dX12_table_2 ?_
  refine g_lconst (n := 1) E (by decide) dX12_table_3 ?_
  refine g_callsI E my_X12_in ms_X12_in ml_RX12_148 (rm_ok (by decide) (by decide)) ⟨Nat.zero_le _, Nat.zero_le _⟩ (m_X12_in E.2.2.1 (c32_of_c64 c1) cL_0 cL_1 hσ h) rfl rfl (Nat.le_of_ble_eq_true rfl) dX12_table_4 (fun r1 σ2 cr1 hσ2 h => ?_)
  refine g_if_eq E cr1 djX12_table_7 (fun hc => ?_) (fun hc => ?_)
  · replace h := h.1 hc
    refine g_bipush E (by decide) dX12_table_26 ?_
    exact g_iret E hr cl_m2 h hσ2 dX12_table_28
  · replace h := h.2 hc
    refine g_aload_0 E dX12_table_10 ?_
    refine g_iload_2 E dX12_table_11 ?_
    refine g_callvI E my_X12_isElement mi_X12_isElement msel_X12_isElement ml_RX12_266 (rm_ok (by decide) (by decide)) ⟨Nat.zero_le _, Nat.zero_le _⟩ kR_0 sR_0 rfl (m_X12_isElement E.2.2.1 c2 hσ2 h) rfl rfl (Nat.le_of_ble_eq_true rfl) dX12_table_12 (fun r3 σ4 cr3 hσ4 h => ?_)
    refine g_if_eq E cr3 djX12_table_15 (fun hc => ?_) (fun hc => ?_)
    · replace h := h.1 hc
      refine g_bipush E (by decide) dX12_table_26 ?_
      exact g_iret E hr cl_m2 h hσ4 dX12_table_28
    · replace h := h.2 hc
      refine g_aload_0 E dX12_table_18 ?_
      refine g_iload_3 E dX12_table_19 ?_
      refine g_callvI E my_X12_isElement mi_X12_isElement msel_X12_isElement ml_RX12_266 (rm_ok (by decide) (by decide)) ⟨Nat.zero_le _, Nat.zero_le _⟩ kR_0 sR_0 rfl (m_X12_isElement E.2.2.1 c3 hσ4 h) rfl rfl (Nat.le_of_ble_eq_true rfl) dX12_table_20 (fun r5 σ6 cr5 hσ6 h => ?_)
      refine g_if_ne E cr5 djX12_table_23 (fun hc => ?_) (fun hc => ?_)
      · replace h := h.1 hc
        refine g_iload_1 E dX12_table_29 ?_
        refine g_if_ne E c1 djX12_table_30 (fun hc => ?_) (fun hc => ?_)
        · replace h := h.1 hc
          refine g_aload_0 E dX12_table_42 ?_
          refine g_iload_2 E dX12_table_43 ?_
          refine g_iload_3 E dX12_table_44 ?_
          refine g_callvI E my_X12_product2 mi_X12_product2 msel_X12_product2 ml_RX12_272 (rm_ok (by decide) (by decide)) ⟨Nat.zero_le _, Nat.zero_le _⟩ kR_0 sR_0 rfl (m_X12_product2 E.2.2.1 c2 c3 hσ6 h) rfl rfl (Nat.le_of_ble_eq_true rfl) dX12_table_45 (fun r7 σ8 cr7 hσ8 h => ?_)
          exact g_iret E hr cr7 h hσ8 dX12_table_48
        · replace h := h.2 hc
          refine g_aload_0 E dX12_table_33 ?_
          refine g_iload_2 E dX12_table_34 ?_
          refine g_iload_3 E dX12_table_35 ?_
          refine g_callvI E my_X12_sum2 mi_X12_sum2 msel_X12_sum2 ml_RX12_269 (rm_ok (by decide) (by decide)) ⟨Nat.zero_le _, Nat.zero_le _⟩ kR_0 sR_0 rfl (m_X12_sum2 E.2.2.1 c2 c3 hσ6 h) rfl rfl (Nat.le_of_ble_eq_true rfl) dX12_table_36 (fun r9 σ10 cr9 hσ10 h => ?_)
          refine g_goto E djX12_table_39 ?_
          exact g_iret E hr cr9 h hσ10 dX12_table_48
      · replace h := h.2 hc
        refine g_bipush E (by decide) dX12_table_26 ?_
        exact g_iret E hr cl_m2 h hσ6 dX12_table_28
end
theorem m_X12_table {Z : (Nat → Nat) × (Nat → Nat)} {l : Launch} {D : va_G} {cA : Nat → ClassId} {ad : Nat → Nat} {x1 x2 x3 : Int} {σ : St} {Q : Int → St → Prop} (hA : AdOk NR ad) (c1 : C32 x1) (c2 : C32 x2) (c3 : C32 x3) (hσ : CanS shR NR σ) (h : wp_X12_table x1 x2 x3 σ Q) : KtI Z l D cA ad shR NR yX12_table cX12_table 4 (some .int) 3 [.ref (ad 0), vI x1, vI x2, vI x3] σ Q :=
  KtI.of my_X12_table hA [some (.ref (ad 0)), some (vI x1), some (vI x2), some (vI x3)] (Nat.le_of_ble_eq_true rfl) rfl (fun p e s m args below meth c A0 E hr => t_X12_table E hr x1 x2 x3 σ c1 c2 c3 hσ h)
theorem dX12_drops_0 : Dc cX12_drops 0 (.aload_n 0) 1 1 := ⟨by decide +kernel, rfl⟩
theorem dX12_drops_1 : Dc cX12_drops 1 (.iload_n 1) 1 2 := ⟨by decide +kernel, rfl⟩
theorem dX12_drops_2 : Dc cX12_drops 2 (.invokevirtual 262) 3 5 := ⟨by decide +kernel, rfl⟩
theorem djX12_drops_5 : Dj cX12_drops 5 (.ifCond .eq 13) 3 8 13 18 := ⟨by decide +kernel, rfl, by decide⟩
theorem dX12_drops_8 : Dc cX12_drops 8 (.iload_n 2) 1 9 := ⟨by decide +kernel, rfl⟩
theorem dX12_drops_9 : Dc cX12_drops 9 (.i2l) 1 10 := ⟨by decide +kernel, rfl⟩
theorem dX12_drops_10 : Dc cX12_drops 10 (.lconst 0) 1 11 := ⟨by decide +kernel, rfl⟩
theorem dX12_drops_11 : Dc cX12_drops 11 (.lconst 1) 1 12 := ⟨by decide +kernel, rfl⟩
theorem dX12_drops_12 : Dc cX12_drops 12 (.invokestatic 148) 3 15 := ⟨by decide +kernel, rfl⟩
theorem djX12_drops_15 : Dj cX12_drops 15 (.ifCond .ne 6) 3 18 6 21 := ⟨by decide +kernel, rfl, by decide⟩
theorem dX12_drops_18 : Dc cX12_drops 18 (.bipush (-2)) 2 20 := ⟨by decide +kernel, rfl⟩
theorem dX12_drops_20 : Dc cX12_drops 20 (.ireturn) 1 21 := ⟨by decide +kernel, rfl⟩
theorem dX12_drops_21 : Dc cX12_drops 21 (.aload_n 0) 1 22 := ⟨by decide +kernel, rfl⟩
theorem dX12_drops_22 : Dc cX12_drops 22 (.getfield 255) 3 25 := ⟨by decide +kernel, rfl⟩
theorem dX12_drops_25 : Dc cX12_drops 25 (.lstore_n 3) 1 26 := ⟨by decide +kernel, rfl⟩
theorem dX12_drops_26 : Dc cX12_drops 26 (.aload_n 0) 1 27 := ⟨by decide +kernel, rfl⟩
theorem dX12_drops_27 : Dc cX12_drops 27 (.iload_n 2) 1 28 := ⟨by decide +kernel, rfl⟩
theorem dX12_drops_28 : Dc cX12_drops 28 (.iconst 1) 1 29 := ⟨by decide +kernel, rfl⟩
theorem djX12_drops_29 : Dj cX12_drops 29 (.if_icmp .ne 14) 3 32 14 43 := ⟨by decide +kernel, rfl, by decide⟩
theorem dX12_drops_32 : Dc cX12_drops 32 (.aload_n 0) 1 33 := ⟨by decide +kernel, rfl⟩
theorem dX12_drops_33 : Dc cX12_drops 33 (.getfield 255) 3 36 := ⟨by decide +kernel, rfl⟩
theorem dX12_drops_36 : Dc cX12_drops 36 (.lconst 1) 1 37 := ⟨by decide +kernel, rfl⟩
theorem dX12_drops_37 : Dc cX12_drops 37 (.iload_n 1) 1 38 := ⟨by decide +kernel, rfl⟩
theorem dX12_drops_38 : Dc cX12_drops 38 (.lshl) 1 39 := ⟨by decide +kernel, rfl⟩
theorem dX12_drops_39 : Dc cX12_drops 39 (.lor) 1 40 := ⟨by decide +kernel, rfl⟩
theorem djX12_drops_40 : Dj cX12_drops 40 (.goto 15) 3 43 15 55 := ⟨by decide +kernel, rfl, by decide⟩
theorem dX12_drops_43 : Dc cX12_drops 43 (.aload_n 0) 1 44 := ⟨by decide +kernel, rfl⟩
theorem dX12_drops_44 : Dc cX12_drops 44 (.getfield 255) 3 47 := ⟨by decide +kernel, rfl⟩
theorem dX12_drops_47 : Dc cX12_drops 47 (.lconst 1) 1 48 := ⟨by decide +kernel, rfl⟩
theorem dX12_drops_48 : Dc cX12_drops 48 (.iload_n 1) 1 49 := ⟨by decide +kernel, rfl⟩
theorem dX12_drops_49 : Dc cX12_drops 49 (.lshl) 1 50 := ⟨by decide +kernel, rfl⟩
theorem dX12_drops_50 : Dc cX12_drops 50 (.ldc2_w 275) 3 53 := ⟨by decide +kernel, rfl⟩
theorem dX12_drops_53 : Dc cX12_drops 53 (.lxor) 1 54 := ⟨by decide +kernel, rfl⟩
theorem dX12_drops_54 : Dc cX12_drops 54 (.land) 1 55 := ⟨by decide +kernel, rfl⟩
theorem dX12_drops_55 : Dc cX12_drops 55 (.putfield 255) 3 58 := ⟨by decide +kernel, rfl⟩
theorem dX12_drops_58 : Dc cX12_drops 58 (.lload_n 3) 1 59 := ⟨by decide +kernel, rfl⟩
theorem dX12_drops_59 : Dc cX12_drops 59 (.aload_n 0) 1 60 := ⟨by decide +kernel, rfl⟩
theorem dX12_drops_60 : Dc cX12_drops 60 (.getfield 255) 3 63 := ⟨by decide +kernel, rfl⟩
theorem dX12_drops_63 : Dc cX12_drops 63 (.lcmp) 1 64 := ⟨by decide +kernel, rfl⟩
theorem djX12_drops_64 : Dj cX12_drops 64 (.ifCond .ne 7) 3 67 7 71 := ⟨by decide +kernel, rfl, by decide⟩
theorem dX12_drops_67 : Dc cX12_drops 67 (.iconst 0) 1 68 := ⟨by decide +kernel, rfl⟩
theorem djX12_drops_68 : Dj cX12_drops 68 (.goto 4) 3 71 4 72 := ⟨by decide +kernel, rfl, by decide⟩
theorem dX12_drops_71 : Dc cX12_drops 71 (.iconst 1) 1 72 := ⟨by decide +kernel, rfl⟩
theorem dX12_drops_72 : Dc cX12_drops 72 (.ireturn) 1 73 := ⟨by decide +kernel, rfl⟩
section
variable {p : Program} {l : Launch} {e : Env} {s : State} {m : MethodId} {args : Array Value} {below : List Frame} {meth : Method} {c : Code} {A0 : Nat → Prop} {D : va_G} {cA : Nat → ClassId} {ad : Nat → Nat} {Z : (Nat → Nat) × (Nat → Nat)} {Q : Int → St → Prop}
set_option maxHeartbeats 4000000 in
set_option maxRecDepth 100000 in
theorem t_X12_drops_b55 (E : Ev p s m args meth c cX12_drops 5 RX12 A0 D cA ad NR Z) (hr : meth.sig.returnType = (some .int)) (x3 : Int) (s0 : Int) (σ : St) (c3 : C64 x3) (cs0 : C64 s0) (hσ : CanS shR NR σ) (h : wp_X12_drops_b55 Q x3 s0 σ) : G p l e (rmL 3 0 0) s m args below meth c 5 A0 D cA ad shR NR 0 0 (MQ below (QIc D cA ad shR NR Q A0) args s 0 0 A0) σ 55 [some (.ref (ad 0)), none, none, some (vL x3), none] [vL s0, .ref (ad 0)] := by
  unfold wp_X12_drops_b55 at h
  refine g_putL E fl_RX12_255 rfl rfl kR_0 sR_0 rfl dX12_drops_55 (g_nmS (fun σ6 eσ6 => ?_))
  replace h := h σ6 eσ6
  have hσ6 : CanS shR NR σ6 := by rw [eσ6]; exact uR_0_2 hσ cs0
  refine g_lload_3 E dX12_drops_58 ?_
  refine g_aload_0 E dX12_drops_59 ?_
  refine g_getL E fl_RX12_255 kR_0 sR_0 rfl dX12_drops_60 ?_
  refine g_lcmp_ne E c3 (fR_0_2 hσ6) dX12_drops_63 djX12_drops_64 (fun hc => ?_) (fun hc => ?_)
  · replace h := h.1 hc
    refine g_iconst E dX12_drops_71 ?_
    exact g_iret E hr cl_1 h hσ6 dX12_drops_72
  · replace h := h.2 hc
    refine g_iconst E dX12_drops_67 ?_
    refine g_goto E djX12_drops_68 ?_
    exact g_iret E hr cl_0 h hσ6 dX12_drops_72
set_option maxHeartbeats 4000000 in
set_option maxRecDepth 100000 in
theorem t_X12_drops (E : Ev p s m args meth c cX12_drops 5 RX12 A0 D cA ad NR Z) (hr : meth.sig.returnType = (some .int)) (x1 : Int) (x2 : Int) (σ : St) (c1 : C32 x1) (c2 : C32 x2) (hσ : CanS shR NR σ) (h : wp_X12_drops x1 x2 σ Q) : G p l e (rmL 3 0 0) s m args below meth c 5 A0 D cA ad shR NR 0 0 (MQ below (QIc D cA ad shR NR Q A0) args s 0 0 A0) σ 0 [some (.ref (ad 0)), some (vI x1), some (vI x2), none, none] [] := by
  unfold wp_X12_drops at h
  refine g_aload_0 E dX12_drops_0 ?_
  refine g_iload_1 E dX12_drops_1 ?_
  refine g_callvI E my_X12_isRule mi_X12_isRule msel_X12_isRule ml_RX12_262 (rm_ok (by decide) (by decide)) ⟨Nat.zero_le _, Nat.zero_le _⟩ kR_0 sR_0 rfl (m_X12_isRule E.2.2.1 c1 hσ h) rfl rfl (Nat.le_of_ble_eq_true rfl) dX12_drops_2 (fun r1 σ2 cr1 hσ2 h => ?_)
  refine g_if_eq E cr1 djX12_drops_5 (fun hc => ?_) (fun hc => ?_)
  · replace h := h.1 hc
    refine g_bipush E (by decide) dX12_drops_18 ?_
    exact g_iret E hr cl_m2 h hσ2 dX12_drops_20
  · replace h := h.2 hc
    refine g_iload_2 E dX12_drops_8 ?_
    refine g_i2l E c2 dX12_drops_9 ?_
    refine g_lconst (n := 0) E (by decide) dX12_drops_10 ?_
    refine g_lconst (n := 1) E (by decide) dX12_drops_11 ?_
    refine g_callsI E my_X12_in ms_X12_in ml_RX12_148 (rm_ok (by decide) (by decide)) ⟨Nat.zero_le _, Nat.zero_le _⟩ (m_X12_in E.2.2.1 (c32_of_c64 c2) cL_0 cL_1 hσ2 h) rfl rfl (Nat.le_of_ble_eq_true rfl) dX12_drops_12 (fun r3 σ4 cr3 hσ4 h => ?_)
    refine g_if_ne E cr3 djX12_drops_15 (fun hc => ?_) (fun hc => ?_)
    · replace h := h.1 hc
      refine g_aload_0 E dX12_drops_21 ?_
      refine g_getL E fl_RX12_255 kR_0 sR_0 rfl dX12_drops_22 ?_
      refine g_nmL (fun v5 ev5 => ?_)
      replace h := h v5 ev5
      have cv5 : C64 v5 := by rw [ev5]; exact (fR_0_2 hσ4)
      refine g_lstore_3 E rfl (by decide) dX12_drops_25 ?_
      refine g_aload_0 E dX12_drops_26 ?_
      refine g_iload_2 E dX12_drops_27 ?_
      refine g_iconst E dX12_drops_28 ?_
      refine g_icmp_ne E c2 cl_1 djX12_drops_29 (fun hc => ?_) (fun hc => ?_)
      · replace h := h.1 hc
        refine g_aload_0 E dX12_drops_43 ?_
        refine g_getL E fl_RX12_255 kR_0 sR_0 rfl dX12_drops_44 ?_
        refine g_lconst (n := 1) E (by decide) dX12_drops_47 ?_
        refine g_iload_1 E dX12_drops_48 ?_
        refine g_lshl E dX12_drops_49 ?_
        refine g_ldc2 (n := (-1)) E wc_RX12_275 dX12_drops_50 ?_
        refine g_lxor E dX12_drops_53 ?_
        refine g_land E dX12_drops_54 ?_
        exact (t_X12_drops_b55 E hr v5 (l_and (σ4 0 2) (l_xor (l_shl 1 x1) ((-1)))) σ4 cv5 (c64_t _) hσ4 h).weak (w_k (w_d (w_d (w_k (w_d w_n)))))
      · replace h := h.2 hc
        refine g_aload_0 E dX12_drops_32 ?_
        refine g_getL E fl_RX12_255 kR_0 sR_0 rfl dX12_drops_33 ?_
        refine g_lconst (n := 1) E (by decide) dX12_drops_36 ?_
        refine g_iload_1 E dX12_drops_37 ?_
        refine g_lshl E dX12_drops_38 ?_
        refine g_lor E dX12_drops_39 ?_
        refine g_goto E djX12_drops_40 ?_
        exact (t_X12_drops_b55 E hr v5 (l_or (σ4 0 2) (l_shl 1 x1)) σ4 cv5 (c64_t _) hσ4 h).weak (w_k (w_d (w_d (w_k (w_d w_n)))))
    · replace h := h.2 hc
      refine g_bipush E (by decide) dX12_drops_18 ?_
      exact g_iret E hr cl_m2 h hσ4 dX12_drops_20
end
theorem m_X12_drops {Z : (Nat → Nat) × (Nat → Nat)} {l : Launch} {D : va_G} {cA : Nat → ClassId} {ad : Nat → Nat} {x1 x2 : Int} {σ : St} {Q : Int → St → Prop} (hA : AdOk NR ad) (c1 : C32 x1) (c2 : C32 x2) (hσ : CanS shR NR σ) (h : wp_X12_drops x1 x2 σ Q) : KtI Z l D cA ad shR NR yX12_drops cX12_drops 5 (some .int) 3 [.ref (ad 0), vI x1, vI x2] σ Q :=
  KtI.of my_X12_drops hA [some (.ref (ad 0)), some (vI x1), some (vI x2), none, none] (Nat.le_of_ble_eq_true rfl) rfl (fun p e s m args below meth c A0 E hr => t_X12_drops E hr x1 x2 σ c1 c2 hσ h)
theorem dX12_prices_0 : Dc cX12_prices 0 (.aload_n 0) 1 1 := ⟨by decide +kernel, rfl⟩
theorem dX12_prices_1 : Dc cX12_prices 1 (.iload_n 1) 1 2 := ⟨by decide +kernel, rfl⟩
theorem dX12_prices_2 : Dc cX12_prices 2 (.invokevirtual 262) 3 5 := ⟨by decide +kernel, rfl⟩
theorem djX12_prices_5 : Dj cX12_prices 5 (.ifCond .eq 15) 3 8 15 20 := ⟨by decide +kernel, rfl, by decide⟩
theorem dX12_prices_8 : Dc cX12_prices 8 (.iload_n 2) 1 9 := ⟨by decide +kernel, rfl⟩
theorem dX12_prices_9 : Dc cX12_prices 9 (.i2l) 1 10 := ⟨by decide +kernel, rfl⟩
theorem dX12_prices_10 : Dc cX12_prices 10 (.lconst 1) 1 11 := ⟨by decide +kernel, rfl⟩
theorem dX12_prices_11 : Dc cX12_prices 11 (.ldc2_w 277) 3 14 := ⟨by decide +kernel, rfl⟩
theorem dX12_prices_14 : Dc cX12_prices 14 (.invokestatic 148) 3 17 := ⟨by decide +kernel, rfl⟩
theorem djX12_prices_17 : Dj cX12_prices 17 (.ifCond .ne 6) 3 20 6 23 := ⟨by decide +kernel, rfl, by decide⟩
theorem dX12_prices_20 : Dc cX12_prices 20 (.bipush (-2)) 2 22 := ⟨by decide +kernel, rfl⟩
theorem dX12_prices_22 : Dc cX12_prices 22 (.ireturn) 1 23 := ⟨by decide +kernel, rfl⟩
theorem dX12_prices_23 : Dc cX12_prices 23 (.aload_n 0) 1 24 := ⟨by decide +kernel, rfl⟩
theorem dX12_prices_24 : Dc cX12_prices 24 (.getfield 23) 3 27 := ⟨by decide +kernel, rfl⟩
theorem dX12_prices_27 : Dc cX12_prices 27 (.iload_n 1) 1 28 := ⟨by decide +kernel, rfl⟩
theorem dX12_prices_28 : Dc cX12_prices 28 (.iaload) 1 29 := ⟨by decide +kernel, rfl⟩
theorem dX12_prices_29 : Dc cX12_prices 29 (.istore_n 3) 1 30 := ⟨by decide +kernel, rfl⟩
theorem dX12_prices_30 : Dc cX12_prices 30 (.aload_n 0) 1 31 := ⟨by decide +kernel, rfl⟩
theorem dX12_prices_31 : Dc cX12_prices 31 (.getfield 23) 3 34 := ⟨by decide +kernel, rfl⟩
theorem dX12_prices_34 : Dc cX12_prices 34 (.iload_n 1) 1 35 := ⟨by decide +kernel, rfl⟩
theorem dX12_prices_35 : Dc cX12_prices 35 (.iload_n 2) 1 36 := ⟨by decide +kernel, rfl⟩
theorem dX12_prices_36 : Dc cX12_prices 36 (.iastore) 1 37 := ⟨by decide +kernel, rfl⟩
theorem dX12_prices_37 : Dc cX12_prices 37 (.iload_n 3) 1 38 := ⟨by decide +kernel, rfl⟩
theorem dX12_prices_38 : Dc cX12_prices 38 (.ireturn) 1 39 := ⟨by decide +kernel, rfl⟩
section
variable {p : Program} {l : Launch} {e : Env} {s : State} {m : MethodId} {args : Array Value} {below : List Frame} {meth : Method} {c : Code} {A0 : Nat → Prop} {D : va_G} {cA : Nat → ClassId} {ad : Nat → Nat} {Z : (Nat → Nat) × (Nat → Nat)} {Q : Int → St → Prop}
set_option maxHeartbeats 4000000 in
set_option maxRecDepth 100000 in
theorem t_X12_prices (E : Ev p s m args meth c cX12_prices 4 RX12 A0 D cA ad NR Z) (hr : meth.sig.returnType = (some .int)) (x1 : Int) (x2 : Int) (σ : St) (c1 : C32 x1) (c2 : C32 x2) (hσ : CanS shR NR σ) (h : wp_X12_prices x1 x2 σ Q) : G p l e (rmL 3 0 0) s m args below meth c 4 A0 D cA ad shR NR 0 0 (MQ below (QIc D cA ad shR NR Q A0) args s 0 0 A0) σ 0 [some (.ref (ad 0)), some (vI x1), some (vI x2), none] [] := by
  unfold wp_X12_prices at h
  refine g_aload_0 E dX12_prices_0 ?_
  refine g_iload_1 E dX12_prices_1 ?_
  refine g_callvI E my_X12_isRule mi_X12_isRule msel_X12_isRule ml_RX12_262 (rm_ok (by decide) (by decide)) ⟨Nat.zero_le _, Nat.zero_le _⟩ kR_0 sR_0 rfl (m_X12_isRule E.2.2.1 c1 hσ h) rfl rfl (Nat.le_of_ble_eq_true rfl) dX12_prices_2 (fun r1 σ2 cr1 hσ2 h => ?_)
  refine g_if_eq E cr1 djX12_prices_5 (fun hc => ?_) (fun hc => ?_)
  · replace h := h.1 hc
    refine g_bipush E (by decide) dX12_prices_20 ?_
    exact g_iret E hr cl_m2 h hσ2 dX12_prices_22
  · replace h := h.2 hc
    refine g_iload_2 E dX12_prices_8 ?_
    refine g_i2l E c2 dX12_prices_9 ?_
    refine g_lconst (n := 1) E (by decide) dX12_prices_10 ?_
    refine g_ldc2 (n := 99) E wc_RX12_277 dX12_prices_11 ?_
    refine g_callsI E my_X12_in ms_X12_in ml_RX12_148 (rm_ok (by decide) (by decide)) ⟨Nat.zero_le _, Nat.zero_le _⟩ (m_X12_in E.2.2.1 (c32_of_c64 c2) cL_1 cL_99 hσ2 h) rfl rfl (Nat.le_of_ble_eq_true rfl) dX12_prices_14 (fun r3 σ4 cr3 hσ4 h => ?_)
    refine g_if_ne E cr3 djX12_prices_17 (fun hc => ?_) (fun hc => ?_)
    · replace h := h.1 hc
      refine g_aload_0 E dX12_prices_23 ?_
      refine g_getR E fl_RX12_23 kR_0 sR_0 rfl dX12_prices_24 ?_
      refine g_iload_1 E dX12_prices_27 ?_
      refine g_iald E kR_4 sR_4 (by decide) h.1 dX12_prices_28 ?_
      replace h := h.2
      refine g_nmI (fun v5 ev5 => ?_)
      replace h := h v5 ev5
      have cv5 : C32 v5 := by rw [ev5]; exact (aR_4 hσ4 _)
      refine g_istore_3 E rfl (by decide) dX12_prices_29 ?_
      refine g_aload_0 E dX12_prices_30 ?_
      refine g_getR E fl_RX12_23 kR_0 sR_0 rfl dX12_prices_31 ?_
      refine g_iload_1 E dX12_prices_34 ?_
      refine g_iload_2 E dX12_prices_35 ?_
      refine g_iast E kR_4 sR_4 (by decide) h.1 dX12_prices_36 (g_nmS (fun σ6 eσ6 => ?_))
      replace h := h.2 σ6 eσ6
      have hσ6 : CanS shR NR σ6 := by rw [eσ6]; exact wR_4 hσ4 c2
      refine g_iload_3 E dX12_prices_37 ?_
      exact g_iret E hr cv5 h hσ6 dX12_prices_38
    · replace h := h.2 hc
      refine g_bipush E (by decide) dX12_prices_20 ?_
      exact g_iret E hr cl_m2 h hσ4 dX12_prices_22
end
theorem m_X12_prices {Z : (Nat → Nat) × (Nat → Nat)} {l : Launch} {D : va_G} {cA : Nat → ClassId} {ad : Nat → Nat} {x1 x2 : Int} {σ : St} {Q : Int → St → Prop} (hA : AdOk NR ad) (c1 : C32 x1) (c2 : C32 x2) (hσ : CanS shR NR σ) (h : wp_X12_prices x1 x2 σ Q) : KtI Z l D cA ad shR NR yX12_prices cX12_prices 4 (some .int) 3 [.ref (ad 0), vI x1, vI x2] σ Q :=
  KtI.of my_X12_prices hA [some (.ref (ad 0)), some (vI x1), some (vI x2), none] (Nat.le_of_ble_eq_true rfl) rfl (fun p e s m args below meth c A0 E hr => t_X12_prices E hr x1 x2 σ c1 c2 hσ h)
theorem dX12_elements_0 : Dc cX12_elements 0 (.aload_n 0) 1 1 := ⟨by decide +kernel, rfl⟩
theorem dX12_elements_1 : Dc cX12_elements 1 (.iload_n 1) 1 2 := ⟨by decide +kernel, rfl⟩
theorem dX12_elements_2 : Dc cX12_elements 2 (.invokevirtual 262) 3 5 := ⟨by decide +kernel, rfl⟩
theorem djX12_elements_5 : Dj cX12_elements 5 (.ifCond .eq 11) 3 8 11 16 := ⟨by decide +kernel, rfl, by decide⟩
theorem dX12_elements_8 : Dc cX12_elements 8 (.aload_n 0) 1 9 := ⟨by decide +kernel, rfl⟩
theorem dX12_elements_9 : Dc cX12_elements 9 (.iload_n 2) 1 10 := ⟨by decide +kernel, rfl⟩
theorem dX12_elements_10 : Dc cX12_elements 10 (.invokevirtual 266) 3 13 := ⟨by decide +kernel, rfl⟩
theorem djX12_elements_13 : Dj cX12_elements 13 (.ifCond .ne 6) 3 16 6 19 := ⟨by decide +kernel, rfl, by decide⟩
theorem dX12_elements_16 : Dc cX12_elements 16 (.bipush (-2)) 2 18 := ⟨by decide +kernel, rfl⟩
theorem dX12_elements_18 : Dc cX12_elements 18 (.ireturn) 1 19 := ⟨by decide +kernel, rfl⟩
theorem dX12_elements_19 : Dc cX12_elements 19 (.aload_n 0) 1 20 := ⟨by decide +kernel, rfl⟩
theorem dX12_elements_20 : Dc cX12_elements 20 (.getfield 26) 3 23 := ⟨by decide +kernel, rfl⟩
theorem dX12_elements_23 : Dc cX12_elements 23 (.iload_n 1) 1 24 := ⟨by decide +kernel, rfl⟩
theorem dX12_elements_24 : Dc cX12_elements 24 (.iaload) 1 25 := ⟨by decide +kernel, rfl⟩
theorem dX12_elements_25 : Dc cX12_elements 25 (.istore_n 3) 1 26 := ⟨by decide +kernel, rfl⟩
theorem dX12_elements_26 : Dc cX12_elements 26 (.aload_n 0) 1 27 := ⟨by decide +kernel, rfl⟩
theorem dX12_elements_27 : Dc cX12_elements 27 (.getfield 26) 3 30 := ⟨by decide +kernel, rfl⟩
theorem dX12_elements_30 : Dc cX12_elements 30 (.iload_n 1) 1 31 := ⟨by decide +kernel, rfl⟩
theorem dX12_elements_31 : Dc cX12_elements 31 (.iload_n 2) 1 32 := ⟨by decide +kernel, rfl⟩
theorem dX12_elements_32 : Dc cX12_elements 32 (.iastore) 1 33 := ⟨by decide +kernel, rfl⟩
theorem dX12_elements_33 : Dc cX12_elements 33 (.iload_n 3) 1 34 := ⟨by decide +kernel, rfl⟩
theorem dX12_elements_34 : Dc cX12_elements 34 (.ireturn) 1 35 := ⟨by decide +kernel, rfl⟩
section
variable {p : Program} {l : Launch} {e : Env} {s : State} {m : MethodId} {args : Array Value} {below : List Frame} {meth : Method} {c : Code} {A0 : Nat → Prop} {D : va_G} {cA : Nat → ClassId} {ad : Nat → Nat} {Z : (Nat → Nat) × (Nat → Nat)} {Q : Int → St → Prop}
set_option maxHeartbeats 4000000 in
set_option maxRecDepth 100000 in
theorem t_X12_elements (E : Ev p s m args meth c cX12_elements 4 RX12 A0 D cA ad NR Z) (hr : meth.sig.returnType = (some .int)) (x1 : Int) (x2 : Int) (σ : St) (c1 : C32 x1) (c2 : C32 x2) (hσ : CanS shR NR σ) (h : wp_X12_elements x1 x2 σ Q) : G p l e (rmL 3 0 0) s m args below meth c 4 A0 D cA ad shR NR 0 0 (MQ below (QIc D cA ad shR NR Q A0) args s 0 0 A0) σ 0 [some (.ref (ad 0)), some (vI x1), some (vI x2), none] [] := by
  unfold wp_X12_elements at h
  refine g_aload_0 E dX12_elements_0 ?_
  refine g_iload_1 E dX12_elements_1 ?_
  refine g_callvI E my_X12_isRule mi_X12_isRule msel_X12_isRule ml_RX12_262 (rm_ok (by decide) (by decide)) ⟨Nat.zero_le _, Nat.zero_le _⟩ kR_0 sR_0 rfl (m_X12_isRule E.2.2.1 c1 hσ h) rfl rfl (Nat.le_of_ble_eq_true rfl) dX12_elements_2 (fun r1 σ2 cr1 hσ2 h => ?_)
  refine g_if_eq E cr1 djX12_elements_5 (fun hc => ?_) (fun hc => ?_)
  · replace h := h.1 hc
    refine g_bipush E (by decide) dX12_elements_16 ?_
    exact g_iret E hr cl_m2 h hσ2 dX12_elements_18
  · replace h := h.2 hc
    refine g_aload_0 E dX12_elements_8 ?_
    refine g_iload_2 E dX12_elements_9 ?_
    refine g_callvI E my_X12_isElement mi_X12_isElement msel_X12_isElement ml_RX12_266 (rm_ok (by decide) (by decide)) ⟨Nat.zero_le _, Nat.zero_le _⟩ kR_0 sR_0 rfl (m_X12_isElement E.2.2.1 c2 hσ2 h) rfl rfl (Nat.le_of_ble_eq_true rfl) dX12_elements_10 (fun r3 σ4 cr3 hσ4 h => ?_)
    refine g_if_ne E cr3 djX12_elements_13 (fun hc => ?_) (fun hc => ?_)
    · replace h := h.1 hc
      refine g_aload_0 E dX12_elements_19 ?_
      refine g_getR E fl_RX12_26 kR_0 sR_0 rfl dX12_elements_20 ?_
      refine g_iload_1 E dX12_elements_23 ?_
      refine g_iald E kR_5 sR_5 (by decide) h.1 dX12_elements_24 ?_
      replace h := h.2
      refine g_nmI (fun v5 ev5 => ?_)
      replace h := h v5 ev5
      have cv5 : C32 v5 := by rw [ev5]; exact (aR_5 hσ4 _)
      refine g_istore_3 E rfl (by decide) dX12_elements_25 ?_
      refine g_aload_0 E dX12_elements_26 ?_
      refine g_getR E fl_RX12_26 kR_0 sR_0 rfl dX12_elements_27 ?_
      refine g_iload_1 E dX12_elements_30 ?_
      refine g_iload_2 E dX12_elements_31 ?_
      refine g_iast E kR_5 sR_5 (by decide) h.1 dX12_elements_32 (g_nmS (fun σ6 eσ6 => ?_))
      replace h := h.2 σ6 eσ6
      have hσ6 : CanS shR NR σ6 := by rw [eσ6]; exact wR_5 hσ4 c2
      refine g_iload_3 E dX12_elements_33 ?_
      exact g_iret E hr cv5 h hσ6 dX12_elements_34
    · replace h := h.2 hc
      refine g_bipush E (by decide) dX12_elements_16 ?_
      exact g_iret E hr cl_m2 h hσ4 dX12_elements_18
end
theorem m_X12_elements {Z : (Nat → Nat) × (Nat → Nat)} {l : Launch} {D : va_G} {cA : Nat → ClassId} {ad : Nat → Nat} {x1 x2 : Int} {σ : St} {Q : Int → St → Prop} (hA : AdOk NR ad) (c1 : C32 x1) (c2 : C32 x2) (hσ : CanS shR NR σ) (h : wp_X12_elements x1 x2 σ Q) : KtI Z l D cA ad shR NR yX12_elements cX12_elements 4 (some .int) 3 [.ref (ad 0), vI x1, vI x2] σ Q :=
  KtI.of my_X12_elements hA [some (.ref (ad 0)), some (vI x1), some (vI x2), none] (Nat.le_of_ble_eq_true rfl) rfl (fun p e s m args below meth c A0 E hr => t_X12_elements E hr x1 x2 σ c1 c2 hσ h)
theorem dX12_isItem_0 : Dc cX12_isItem 0 (.iload_n 1) 1 1 := ⟨by decide +kernel, rfl⟩
theorem dX12_isItem_1 : Dc cX12_isItem 1 (.i2l) 1 2 := ⟨by decide +kernel, rfl⟩
theorem dX12_isItem_2 : Dc cX12_isItem 2 (.lconst 0) 1 3 := ⟨by decide +kernel, rfl⟩
theorem dX12_isItem_3 : Dc cX12_isItem 3 (.ldc2_w 316) 3 6 := ⟨by decide +kernel, rfl⟩
theorem dX12_isItem_6 : Dc cX12_isItem 6 (.invokestatic 148) 3 9 := ⟨by decide +kernel, rfl⟩
theorem djX12_isItem_9 : Dj cX12_isItem 9 (.ifCond .eq 24) 3 12 24 33 := ⟨by decide +kernel, rfl, by decide⟩
theorem dX12_isItem_12 : Dc cX12_isItem 12 (.iload_n 2) 1 13 := ⟨by decide +kernel, rfl⟩
theorem djX12_isItem_13 : Dj cX12_isItem 13 (.ifCond .lt 20) 3 16 20 33 := ⟨by decide +kernel, rfl, by decide⟩
theorem dX12_isItem_16 : Dc cX12_isItem 16 (.iload_n 2) 1 17 := ⟨by decide +kernel, rfl⟩
theorem dX12_isItem_17 : Dc cX12_isItem 17 (.iload_n 3) 1 18 := ⟨by decide +kernel, rfl⟩
theorem djX12_isItem_18 : Dj cX12_isItem 18 (.if_icmp .ge 15) 3 21 15 33 := ⟨by decide +kernel, rfl, by decide⟩
theorem dX12_isItem_21 : Dc cX12_isItem 21 (.iload_n 3) 1 22 := ⟨by decide +kernel, rfl⟩
theorem dX12_isItem_22 : Dc cX12_isItem 22 (.aload_n 0) 1 23 := ⟨by decide +kernel, rfl⟩
theorem dX12_isItem_23 : Dc cX12_isItem 23 (.getfield 259) 3 26 := ⟨by decide +kernel, rfl⟩
theorem djX12_isItem_26 : Dj cX12_isItem 26 (.if_icmp .gt 7) 3 29 7 33 := ⟨by decide +kernel, rfl, by decide⟩
theorem dX12_isItem_29 : Dc cX12_isItem 29 (.iconst 1) 1 30 := ⟨by decide +kernel, rfl⟩
theorem djX12_isItem_30 : Dj cX12_isItem 30 (.goto 4) 3 33 4 34 := ⟨by decide +kernel, rfl, by decide⟩
theorem dX12_isItem_33 : Dc cX12_isItem 33 (.iconst 0) 1 34 := ⟨by decide +kernel, rfl⟩
theorem dX12_isItem_34 : Dc cX12_isItem 34 (.ireturn) 1 35 := ⟨by decide +kernel, rfl⟩
section
variable {p : Program} {l : Launch} {e : Env} {s : State} {m : MethodId} {args : Array Value} {below : List Frame} {meth : Method} {c : Code} {A0 : Nat → Prop} {D : va_G} {cA : Nat → ClassId} {ad : Nat → Nat} {Z : (Nat → Nat) × (Nat → Nat)} {Q : Int → St → Prop}
set_option maxHeartbeats 4000000 in
set_option maxRecDepth 100000 in
theorem t_X12_isItem_b33 (E : Ev p s m args meth c cX12_isItem 4 RX12 A0 D cA ad NR Z) (hr : meth.sig.returnType = (some .boolean)) (σ : St) (hσ : CanS shR NR σ) (h : wp_X12_isItem_b33 Q  σ) : G p l e (rmL 2 0 0) s m args below meth c 4 A0 D cA ad shR NR 0 0 (MQ below (QIc D cA ad shR NR Q A0) args s 0 0 A0) σ 33 [none, none, none, none] [] := by
  unfold wp_X12_isItem_b33 at h
  refine g_iconst E dX12_isItem_33 ?_
  exact g_zret E hr (Or.inl rfl) h hσ dX12_isItem_34
set_option maxHeartbeats 4000000 in
set_option maxRecDepth 100000 in
theorem t_X12_isItem (E : Ev p s m args meth c cX12_isItem 4 RX12 A0 D cA ad NR Z) (hr : meth.sig.returnType = (some .boolean)) (x1 : Int) (x2 : Int) (x3 : Int) (σ : St) (c1 : C32 x1) (c2 : C32 x2) (c3 : C32 x3) (hσ : CanS shR NR σ) (h : wp_X12_isItem x1 x2 x3 σ Q) : G p l e (rmL 2 0 0) s m args below meth c 4 A0 D cA ad shR NR 0 0 (MQ below (QIc D cA ad shR NR Q A0) args s 0 0 A0) σ 0 [some (.ref (ad 0)), some (vI x1), some (vI x2), some (vI x3)] [] := by
  unfold wp_X12_isItem at h
  refine g_iload_1 E dX12_isItem_0 ?_
  refine g_i2l E c1 dX12_isItem_1 ?_
  refine g_lconst (n := 0) E (by decide) dX12_isItem_2 ?_
  refine g_ldc2 (n := 11) E wc_RX12_316 dX12_isItem_3 ?_
  refine g_callsI E my_X12_in ms_X12_in ml_RX12_148 (rm_ok (by decide) (by decide)) ⟨Nat.zero_le _, Nat.zero_le _⟩ (m_X12_in E.2.2.1 (c32_of_c64 c1) cL_0 cL_11 hσ h) rfl rfl (Nat.le_of_ble_eq_true rfl) dX12_isItem_6 (fun r1 σ2 cr1 hσ2 h => ?_)
  refine g_if_eq E cr1 djX12_isItem_9 (fun hc => ?_) (fun hc => ?_)
  · replace h := h.1 hc
    exact (t_X12_isItem_b33 E hr σ2 hσ2 h).weak (w_d (w_d (w_d (w_d w_n))))
  · replace h := h.2 hc
    refine g_iload_2 E dX12_isItem_12 ?_
    refine g_if_lt E c2 djX12_isItem_13 (fun hc => ?_) (fun hc => ?_)
    · replace h := h.1 hc
      exact (t_X12_isItem_b33 E hr σ2 hσ2 h).weak (w_d (w_d (w_d (w_d w_n))))
    · replace h := h.2 hc
      refine g_iload_2 E dX12_isItem_16 ?_
      refine g_iload_3 E dX12_isItem_17 ?_
      refine g_icmp_ge E c2 c3 djX12_isItem_18 (fun hc => ?_) (fun hc => ?_)
      · replace h := h.1 hc
        exact (t_X12_isItem_b33 E hr σ2 hσ2 h).weak (w_d (w_d (w_d (w_d w_n))))
      · replace h := h.2 hc
        refine g_iload_3 E dX12_isItem_21 ?_
        refine g_aload_0 E dX12_isItem_22 ?_
        refine g_getI E fl_RX12_259 kR_0 sR_0 rfl dX12_isItem_23 ?_
        refine g_icmp_gt E c3 (fR_0_15 hσ2) djX12_isItem_26 (fun hc => ?_) (fun hc => ?_)
        · replace h := h.1 hc
          exact (t_X12_isItem_b33 E hr σ2 hσ2 h).weak (w_d (w_d (w_d (w_d w_n))))
        · replace h := h.2 hc
          refine g_iconst E dX12_isItem_29 ?_
          refine g_goto E djX12_isItem_30 ?_
          exact g_zret E hr (Or.inr rfl) h hσ2 dX12_isItem_34
end
theorem m_X12_isItem {Z : (Nat → Nat) × (Nat → Nat)} {l : Launch} {D : va_G} {cA : Nat → ClassId} {ad : Nat → Nat} {x1 x2 x3 : Int} {σ : St} {Q : Int → St → Prop} (hA : AdOk NR ad) (c1 : C32 x1) (c2 : C32 x2) (c3 : C32 x3) (hσ : CanS shR NR σ) (h : wp_X12_isItem x1 x2 x3 σ Q) : KtI Z l D cA ad shR NR yX12_isItem cX12_isItem 4 (some .boolean) 2 [.ref (ad 0), vI x1, vI x2, vI x3] σ Q :=
  KtI.of my_X12_isItem hA [some (.ref (ad 0)), some (vI x1), some (vI x2), some (vI x3)] (Nat.le_of_ble_eq_true rfl) rfl (fun p e s m args below meth c A0 E hr => t_X12_isItem E hr x1 x2 x3 σ c1 c2 c3 hσ h)
theorem dX12_isIn_0 : Dc cX12_isIn 0 (.aload_n 0) 1 1 := ⟨by decide +kernel, rfl⟩
theorem dX12_isIn_1 : Dc cX12_isIn 1 (.getfield 279) 3 4 := ⟨by decide +kernel, rfl⟩
theorem dX12_isIn_4 : Dc cX12_isIn 4 (.iload_n 1) 1 5 := ⟨by decide +kernel, rfl⟩
theorem dX12_isIn_5 : Dc cX12_isIn 5 (.lshr) 1 6 := ⟨by decide +kernel, rfl⟩
theorem dX12_isIn_6 : Dc cX12_isIn 6 (.lconst 1) 1 7 := ⟨by decide +kernel, rfl⟩
theorem dX12_isIn_7 : Dc cX12_isIn 7 (.land) 1 8 := ⟨by decide +kernel, rfl⟩
theorem dX12_isIn_8 : Dc cX12_isIn 8 (.lconst 0) 1 9 := ⟨by decide +kernel, rfl⟩
theorem dX12_isIn_9 : Dc cX12_isIn 9 (.lcmp) 1 10 := ⟨by decide +kernel, rfl⟩
theorem djX12_isIn_10 : Dj cX12_isIn 10 (.ifCond .ne 7) 3 13 7 17 := ⟨by decide +kernel, rfl, by decide⟩
theorem dX12_isIn_13 : Dc cX12_isIn 13 (.iconst 1) 1 14 := ⟨by decide +kernel, rfl⟩
theorem djX12_isIn_14 : Dj cX12_isIn 14 (.goto 4) 3 17 4 18 := ⟨by decide +kernel, rfl, by decide⟩
theorem dX12_isIn_17 : Dc cX12_isIn 17 (.iconst 0) 1 18 := ⟨by decide +kernel, rfl⟩
theorem dX12_isIn_18 : Dc cX12_isIn 18 (.ireturn) 1 19 := ⟨by decide +kernel, rfl⟩
section
variable {p : Program} {l : Launch} {e : Env} {s : State} {m : MethodId} {args : Array Value} {below : List Frame} {meth : Method} {c : Code} {A0 : Nat → Prop} {D : va_G} {cA : Nat → ClassId} {ad : Nat → Nat} {Z : (Nat → Nat) × (Nat → Nat)} {Q : Int → St → Prop}
set_option maxHeartbeats 4000000 in
set_option maxRecDepth 100000 in
theorem t_X12_isIn (E : Ev p s m args meth c cX12_isIn 2 RX12 A0 D cA ad NR Z) (hr : meth.sig.returnType = (some .boolean)) (x1 : Int) (σ : St) (c1 : C32 x1) (hσ : CanS shR NR σ) (h : wp_X12_isIn x1 σ Q) : G p l e (rmL 1 0 0) s m args below meth c 2 A0 D cA ad shR NR 0 0 (MQ below (QIc D cA ad shR NR Q A0) args s 0 0 A0) σ 0 [some (.ref (ad 0)), some (vI x1)] [] := by
  unfold wp_X12_isIn at h
  refine g_aload_0 E dX12_isIn_0 ?_
  refine g_getL E fl_RX12_279 kR_0 sR_0 rfl dX12_isIn_1 ?_
  refine g_iload_1 E dX12_isIn_4 ?_
  refine g_lshr E dX12_isIn_5 ?_
  refine g_lconst (n := 1) E (by decide) dX12_isIn_6 ?_
  refine g_land E dX12_isIn_7 ?_
  refine g_lconst (n := 0) E (by decide) dX12_isIn_8 ?_
  refine g_lcmp_ne E (c64_t _) cL_0 dX12_isIn_9 djX12_isIn_10 (fun hc => ?_) (fun hc => ?_)
  · replace h := h.1 hc
    refine g_iconst E dX12_isIn_17 ?_
    exact g_zret E hr (Or.inl rfl) h hσ dX12_isIn_18
  · replace h := h.2 hc
    refine g_iconst E dX12_isIn_13 ?_
    refine g_goto E djX12_isIn_14 ?_
    exact g_zret E hr (Or.inr rfl) h hσ dX12_isIn_18
end
theorem m_X12_isIn {Z : (Nat → Nat) × (Nat → Nat)} {l : Launch} {D : va_G} {cA : Nat → ClassId} {ad : Nat → Nat} {x1 : Int} {σ : St} {Q : Int → St → Prop} (hA : AdOk NR ad) (c1 : C32 x1) (hσ : CanS shR NR σ) (h : wp_X12_isIn x1 σ Q) : KtI Z l D cA ad shR NR yX12_isIn cX12_isIn 2 (some .boolean) 1 [.ref (ad 0), vI x1] σ Q :=
  KtI.of my_X12_isIn hA [some (.ref (ad 0)), some (vI x1)] (Nat.le_of_ble_eq_true rfl) rfl (fun p e s m args below meth c A0 E hr => t_X12_isIn E hr x1 σ c1 hσ h)
theorem dX12_item_0 : Dc cX12_item 0 (.iload_n 0) 1 1 := ⟨by decide +kernel, rfl⟩
theorem dX12_item_1 : Dc cX12_item 1 (.bipush 8) 2 3 := ⟨by decide +kernel, rfl⟩
theorem dX12_item_3 : Dc cX12_item 3 (.imul) 1 4 := ⟨by decide +kernel, rfl⟩
theorem dX12_item_4 : Dc cX12_item 4 (.iload_n 1) 1 5 := ⟨by decide +kernel, rfl⟩
theorem dX12_item_5 : Dc cX12_item 5 (.iadd) 1 6 := ⟨by decide +kernel, rfl⟩
theorem dX12_item_6 : Dc cX12_item 6 (.bipush 8) 2 8 := ⟨by decide +kernel, rfl⟩
theorem dX12_item_8 : Dc cX12_item 8 (.imul) 1 9 := ⟨by decide +kernel, rfl⟩
theorem dX12_item_9 : Dc cX12_item 9 (.iload_n 2) 1 10 := ⟨by decide +kernel, rfl⟩
theorem dX12_item_10 : Dc cX12_item 10 (.iadd) 1 11 := ⟨by decide +kernel, rfl⟩
theorem dX12_item_11 : Dc cX12_item 11 (.iconst 1) 1 12 := ⟨by decide +kernel, rfl⟩
theorem dX12_item_12 : Dc cX12_item 12 (.isub) 1 13 := ⟨by decide +kernel, rfl⟩
theorem dX12_item_13 : Dc cX12_item 13 (.ireturn) 1 14 := ⟨by decide +kernel, rfl⟩
section
variable {p : Program} {l : Launch} {e : Env} {s : State} {m : MethodId} {args : Array Value} {below : List Frame} {meth : Method} {c : Code} {A0 : Nat → Prop} {D : va_G} {cA : Nat → ClassId} {ad : Nat → Nat} {Z : (Nat → Nat) × (Nat → Nat)} {Q : Int → St → Prop}
set_option maxHeartbeats 4000000 in
set_option maxRecDepth 100000 in
theorem t_X12_item (E : Ev p s m args meth c cX12_item 3 RX12 A0 D cA ad NR Z) (hr : meth.sig.returnType = (some .int)) (x0 : Int) (x1 : Int) (x2 : Int) (σ : St) (c0 : C32 x0) (c1 : C32 x1) (c2 : C32 x2) (hσ : CanS shR NR σ) (h : wp_X12_item x0 x1 x2 σ Q) : G p l e (rmL 1 0 0) s m args below meth c 3 A0 D cA ad shR NR 0 0 (MQ below (QIc D cA ad shR NR Q A0) args s 0 0 A0) σ 0 [some (vI x0), some (vI x1), some (vI x2)] [] := by
  unfold wp_X12_item at h
  refine g_iload_0 E dX12_item_0 ?_
  refine g_bipush E (by decide) dX12_item_1 ?_
  refine g_imul E dX12_item_3 ?_
  refine g_iload_1 E dX12_item_4 ?_
  refine g_iadd E dX12_item_5 ?_
  refine g_bipush E (by decide) dX12_item_6 ?_
  refine g_imul E dX12_item_8 ?_
  refine g_iload_2 E dX12_item_9 ?_
  refine g_iadd E dX12_item_10 ?_
  refine g_iconst E dX12_item_11 ?_
  refine g_isub E dX12_item_12 ?_
  exact g_iret E hr (c32_w _) h hσ dX12_item_13
end
theorem m_X12_item {Z : (Nat → Nat) × (Nat → Nat)} {l : Launch} {D : va_G} {cA : Nat → ClassId} {ad : Nat → Nat} {x0 x1 x2 : Int} {σ : St} {Q : Int → St → Prop} (hA : AdOk NR ad) (c0 : C32 x0) (c1 : C32 x1) (c2 : C32 x2) (hσ : CanS shR NR σ) (h : wp_X12_item x0 x1 x2 σ Q) : KtI Z l D cA ad shR NR yX12_item cX12_item 3 (some .int) 1 [vI x0, vI x1, vI x2] σ Q :=
  KtI.of my_X12_item hA [some (vI x0), some (vI x1), some (vI x2)] (Nat.le_of_ble_eq_true rfl) rfl (fun p e s m args below meth c A0 E hr => t_X12_item E hr x0 x1 x2 σ c0 c1 c2 hσ h)
theorem dX12_fits_0 : Dc cX12_fits 0 (.iload_n 1) 1 1 := ⟨by decide +kernel, rfl⟩
theorem dX12_fits_1 : Dc cX12_fits 1 (.bipush 100) 2 3 := ⟨by decide +kernel, rfl⟩
theorem djX12_fits_3 : Dj cX12_fits 3 (.if_icmp .lt 31) 3 6 31 34 := ⟨by decide +kernel, rfl, by decide⟩
theorem dX12_fits_6 : Dc cX12_fits 6 (.iload_n 3) 1 7 := ⟨by decide +kernel, rfl⟩
theorem dX12_fits_7 : Dc cX12_fits 7 (.iload_n 2) 1 8 := ⟨by decide +kernel, rfl⟩
theorem dX12_fits_8 : Dc cX12_fits 8 (.iconst 1) 1 9 := ⟨by decide +kernel, rfl⟩
theorem dX12_fits_9 : Dc cX12_fits 9 (.iadd) 1 10 := ⟨by decide +kernel, rfl⟩
theorem djX12_fits_10 : Dj cX12_fits 10 (.if_icmp .ne 20) 3 13 20 30 := ⟨by decide +kernel, rfl, by decide⟩
theorem dX12_fits_13 : Dc cX12_fits 13 (.aload_n 0) 1 14 := ⟨by decide +kernel, rfl⟩
theorem dX12_fits_14 : Dc cX12_fits 14 (.getfield 57) 3 17 := ⟨by decide +kernel, rfl⟩
theorem dX12_fits_17 : Dc cX12_fits 17 (.iload_n 2) 1 18 := ⟨by decide +kernel, rfl⟩
theorem dX12_fits_18 : Dc cX12_fits 18 (.iaload) 1 19 := ⟨by decide +kernel, rfl⟩
theorem dX12_fits_19 : Dc cX12_fits 19 (.iload_n 1) 1 20 := ⟨by decide +kernel, rfl⟩
theorem dX12_fits_20 : Dc cX12_fits 20 (.bipush 100) 2 22 := ⟨by decide +kernel, rfl⟩
theorem dX12_fits_22 : Dc cX12_fits 22 (.isub) 1 23 := ⟨by decide +kernel, rfl⟩
theorem djX12_fits_23 : Dj cX12_fits 23 (.if_icmp .ne 7) 3 26 7 30 := ⟨by decide +kernel, rfl, by decide⟩
theorem dX12_fits_26 : Dc cX12_fits 26 (.iconst 1) 1 27 := ⟨by decide +kernel, rfl⟩
theorem djX12_fits_27 : Dj cX12_fits 27 (.goto 29) 3 30 29 56 := ⟨by decide +kernel, rfl, by decide⟩
theorem dX12_fits_30 : Dc cX12_fits 30 (.iconst 0) 1 31 := ⟨by decide +kernel, rfl⟩
theorem djX12_fits_31 : Dj cX12_fits 31 (.goto 25) 3 34 25 56 := ⟨by decide +kernel, rfl, by decide⟩
theorem dX12_fits_34 : Dc cX12_fits 34 (.aload_n 0) 1 35 := ⟨by decide +kernel, rfl⟩
theorem dX12_fits_35 : Dc cX12_fits 35 (.getfield 60) 3 38 := ⟨by decide +kernel, rfl⟩
theorem dX12_fits_38 : Dc cX12_fits 38 (.iload_n 1) 1 39 := ⟨by decide +kernel, rfl⟩
theorem dX12_fits_39 : Dc cX12_fits 39 (.iload_n 2) 1 40 := ⟨by decide +kernel, rfl⟩
theorem dX12_fits_40 : Dc cX12_fits 40 (.iload_n 3) 1 41 := ⟨by decide +kernel, rfl⟩
theorem dX12_fits_41 : Dc cX12_fits 41 (.invokestatic 282) 3 44 := ⟨by decide +kernel, rfl⟩
theorem dX12_fits_44 : Dc cX12_fits 44 (.iaload) 1 45 := ⟨by decide +kernel, rfl⟩
theorem dX12_fits_45 : Dc cX12_fits 45 (.ldc_w 286) 3 48 := ⟨by decide +kernel, rfl⟩
theorem djX12_fits_48 : Dj cX12_fits 48 (.if_icmp .ge 7) 3 51 7 55 := ⟨by decide +kernel, rfl, by decide⟩
theorem dX12_fits_51 : Dc cX12_fits 51 (.iconst 1) 1 52 := ⟨by decide +kernel, rfl⟩
theorem djX12_fits_52 : Dj cX12_fits 52 (.goto 4) 3 55 4 56 := ⟨by decide +kernel, rfl, by decide⟩
theorem dX12_fits_55 : Dc cX12_fits 55 (.iconst 0) 1 56 := ⟨by decide +kernel, rfl⟩
theorem dX12_fits_56 : Dc cX12_fits 56 (.ireturn) 1 57 := ⟨by decide +kernel, rfl⟩
section
variable {p : Program} {l : Launch} {e : Env} {s : State} {m : MethodId} {args : Array Value} {below : List Frame} {meth : Method} {c : Code} {A0 : Nat → Prop} {D : va_G} {cA : Nat → ClassId} {ad : Nat → Nat} {Z : (Nat → Nat) × (Nat → Nat)} {Q : Int → St → Prop}
set_option maxHeartbeats 4000000 in
set_option maxRecDepth 100000 in
theorem t_X12_fits_b30 (E : Ev p s m args meth c cX12_fits 4 RX12 A0 D cA ad NR Z) (hr : meth.sig.returnType = (some .boolean)) (σ : St) (hσ : CanS shR NR σ) (h : wp_X12_fits_b30 Q  σ) : G p l e (rmL 2 0 0) s m args below meth c 4 A0 D cA ad shR NR 0 0 (MQ below (QIc D cA ad shR NR Q A0) args s 0 0 A0) σ 30 [none, none, none, none] [] := by
  unfold wp_X12_fits_b30 at h
  refine g_iconst E dX12_fits_30 ?_
  refine g_goto E djX12_fits_31 ?_
  exact g_zret E hr (Or.inl rfl) h hσ dX12_fits_56
set_option maxHeartbeats 4000000 in
set_option maxRecDepth 100000 in
theorem t_X12_fits (E : Ev p s m args meth c cX12_fits 4 RX12 A0 D cA ad NR Z) (hr : meth.sig.returnType = (some .boolean)) (x1 : Int) (x2 : Int) (x3 : Int) (σ : St) (c1 : C32 x1) (c2 : C32 x2) (c3 : C32 x3) (hσ : CanS shR NR σ) (h : wp_X12_fits x1 x2 x3 σ Q) : G p l e (rmL 2 0 0) s m args below meth c 4 A0 D cA ad shR NR 0 0 (MQ below (QIc D cA ad shR NR Q A0) args s 0 0 A0) σ 0 [some (.ref (ad 0)), some (vI x1), some (vI x2), some (vI x3)] [] := by
  unfold wp_X12_fits at h
  refine g_iload_1 E dX12_fits_0 ?_
  refine g_bipush E (by decide) dX12_fits_1 ?_
  refine g_icmp_lt E c1 cl_100 djX12_fits_3 (fun hc => ?_) (fun hc => ?_)
  · replace h := h.1 hc
    refine g_aload_0 E dX12_fits_34 ?_
    refine g_getR E fl_RX12_60 kR_0 sR_0 rfl dX12_fits_35 ?_
    refine g_iload_1 E dX12_fits_38 ?_
    refine g_iload_2 E dX12_fits_39 ?_
    refine g_iload_3 E dX12_fits_40 ?_
    refine g_callsI E my_X12_item ms_X12_item ml_RX12_282 (rm_ok (by decide) (by decide)) ⟨Nat.zero_le _, Nat.zero_le _⟩ (m_X12_item E.2.2.1 c1 c2 c3 hσ h) rfl rfl (Nat.le_of_ble_eq_true rfl) dX12_fits_41 (fun r1 σ2 cr1 hσ2 h => ?_)
    refine g_iald E kR_15 sR_15 (by decide) h.1 dX12_fits_44 ?_
    replace h := h.2
    refine g_ldcw (n := 1000000000) E wc_RX12_286 dX12_fits_45 ?_
    refine g_icmp_ge E (aR_15 hσ2 _) cl_1000000000 djX12_fits_48 (fun hc => ?_) (fun hc => ?_)
    · replace h := h.1 hc
      refine g_iconst E dX12_fits_55 ?_
      exact g_zret E hr (Or.inl rfl) h hσ2 dX12_fits_56
    · replace h := h.2 hc
      refine g_iconst E dX12_fits_51 ?_
      refine g_goto E djX12_fits_52 ?_
      exact g_zret E hr (Or.inr rfl) h hσ2 dX12_fits_56
  · replace h := h.2 hc
    refine g_iload_3 E dX12_fits_6 ?_
    refine g_iload_2 E dX12_fits_7 ?_
    refine g_iconst E dX12_fits_8 ?_
    refine g_iadd E dX12_fits_9 ?_
    refine g_icmp_ne E c3 (c32_w _) djX12_fits_10 (fun hc => ?_) (fun hc => ?_)
    · replace h := h.1 hc
      exact (t_X12_fits_b30 E hr σ hσ h).weak (w_d (w_d (w_d (w_d w_n))))
    · replace h := h.2 hc
      refine g_aload_0 E dX12_fits_13 ?_
      refine g_getR E fl_RX12_57 kR_0 sR_0 rfl dX12_fits_14 ?_
      refine g_iload_2 E dX12_fits_17 ?_
      refine g_iald E kR_14 sR_14 (by decide) h.1 dX12_fits_18 ?_
      replace h := h.2
      refine g_iload_1 E dX12_fits_19 ?_
      refine g_bipush E (by decide) dX12_fits_20 ?_
      refine g_isub E dX12_fits_22 ?_
      refine g_icmp_ne E (aR_14 hσ _) (c32_w _) djX12_fits_23 (fun hc => ?_) (fun hc => ?_)
      · replace h := h.1 hc
        exact (t_X12_fits_b30 E hr σ hσ h).weak (w_d (w_d (w_d (w_d w_n))))
      · replace h := h.2 hc
        refine g_iconst E dX12_fits_26 ?_
        refine g_goto E djX12_fits_27 ?_
        exact g_zret E hr (Or.inr rfl) h hσ dX12_fits_56
end
theorem m_X12_fits {Z : (Nat → Nat) × (Nat → Nat)} {l : Launch} {D : va_G} {cA : Nat → ClassId} {ad : Nat → Nat} {x1 x2 x3 : Int} {σ : St} {Q : Int → St → Prop} (hA : AdOk NR ad) (c1 : C32 x1) (c2 : C32 x2) (c3 : C32 x3) (hσ : CanS shR NR σ) (h : wp_X12_fits x1 x2 x3 σ Q) : KtI Z l D cA ad shR NR yX12_fits cX12_fits 4 (some .boolean) 2 [.ref (ad 0), vI x1, vI x2, vI x3] σ Q :=
  KtI.of my_X12_fits hA [some (.ref (ad 0)), some (vI x1), some (vI x2), some (vI x3)] (Nat.le_of_ble_eq_true rfl) rfl (fun p e s m args below meth c A0 E hr => t_X12_fits E hr x1 x2 x3 σ c1 c2 c3 hσ h)
theorem dX12_leastPart_0 : Dc cX12_leastPart 0 (.iload_n 1) 1 1 := ⟨by decide +kernel, rfl⟩
theorem dX12_leastPart_1 : Dc cX12_leastPart 1 (.bipush 100) 2 3 := ⟨by decide +kernel, rfl⟩
theorem djX12_leastPart_3 : Dj cX12_leastPart 3 (.if_icmp .lt 7) 3 6 7 10 := ⟨by decide +kernel, rfl, by decide⟩
theorem dX12_leastPart_6 : Dc cX12_leastPart 6 (.iconst 0) 1 7 := ⟨by decide +kernel, rfl⟩
theorem djX12_leastPart_7 : Dj cX12_leastPart 7 (.goto 14) 3 10 14 21 := ⟨by decide +kernel, rfl, by decide⟩
theorem dX12_leastPart_10 : Dc cX12_leastPart 10 (.aload_n 0) 1 11 := ⟨by decide +kernel, rfl⟩
theorem dX12_leastPart_11 : Dc cX12_leastPart 11 (.getfield 60) 3 14 := ⟨by decide +kernel, rfl⟩
theorem dX12_leastPart_14 : Dc cX12_leastPart 14 (.iload_n 1) 1 15 := ⟨by decide +kernel, rfl⟩
theorem dX12_leastPart_15 : Dc cX12_leastPart 15 (.iload_n 2) 1 16 := ⟨by decide +kernel, rfl⟩
theorem dX12_leastPart_16 : Dc cX12_leastPart 16 (.iload_n 3) 1 17 := ⟨by decide +kernel, rfl⟩
theorem dX12_leastPart_17 : Dc cX12_leastPart 17 (.invokestatic 282) 3 20 := ⟨by decide +kernel, rfl⟩
theorem dX12_leastPart_20 : Dc cX12_leastPart 20 (.iaload) 1 21 := ⟨by decide +kernel, rfl⟩
theorem dX12_leastPart_21 : Dc cX12_leastPart 21 (.ireturn) 1 22 := ⟨by decide +kernel, rfl⟩
section
variable {p : Program} {l : Launch} {e : Env} {s : State} {m : MethodId} {args : Array Value} {below : List Frame} {meth : Method} {c : Code} {A0 : Nat → Prop} {D : va_G} {cA : Nat → ClassId} {ad : Nat → Nat} {Z : (Nat → Nat) × (Nat → Nat)} {Q : Int → St → Prop}
set_option maxHeartbeats 4000000 in
set_option maxRecDepth 100000 in
theorem t_X12_leastPart (E : Ev p s m args meth c cX12_leastPart 4 RX12 A0 D cA ad NR Z) (hr : meth.sig.returnType = (some .int)) (x1 : Int) (x2 : Int) (x3 : Int) (σ : St) (c1 : C32 x1) (c2 : C32 x2) (c3 : C32 x3) (hσ : CanS shR NR σ) (h : wp_X12_leastPart x1 x2 x3 σ Q) : G p l e (rmL 2 0 0) s m args below meth c 4 A0 D cA ad shR NR 0 0 (MQ below (QIc D cA ad shR NR Q A0) args s 0 0 A0) σ 0 [some (.ref (ad 0)), some (vI x1), some (vI x2), some (vI x3)] [] := by
  unfold wp_X12_leastPart at h
  refine g_iload_1 E dX12_leastPart_0 ?_
  refine g_bipush E (by decide) dX12_leastPart_1 ?_
  refine g_icmp_lt E c1 cl_100 djX12_leastPart_3 (fun hc => ?_) (fun hc => ?_)
  · replace h := h.1 hc
    refine g_aload_0 E dX12_leastPart_10 ?_
    refine g_getR E fl_RX12_60 kR_0 sR_0 rfl dX12_leastPart_11 ?_
    refine g_iload_1 E dX12_leastPart_14 ?_
    refine g_iload_2 E dX12_leastPart_15 ?_
    refine g_iload_3 E dX12_leastPart_16 ?_
    refine g_callsI E my_X12_item ms_X12_item ml_RX12_282 (rm_ok (by decide) (by decide)) ⟨Nat.zero_le _, Nat.zero_le _⟩ (m_X12_item E.2.2.1 c1 c2 c3 hσ h) rfl rfl (Nat.le_of_ble_eq_true rfl) dX12_leastPart_17 (fun r1 σ2 cr1 hσ2 h => ?_)
    refine g_iald E kR_15 sR_15 (by decide) h.1 dX12_leastPart_20 ?_
    replace h := h.2
    exact g_iret E hr (aR_15 hσ2 _) h hσ2 dX12_leastPart_21
  · replace h := h.2 hc
    refine g_iconst E dX12_leastPart_6 ?_
    refine g_goto E djX12_leastPart_7 ?_
    exact g_iret E hr cl_0 h hσ dX12_leastPart_21
end
theorem m_X12_leastPart {Z : (Nat → Nat) × (Nat → Nat)} {l : Launch} {D : va_G} {cA : Nat → ClassId} {ad : Nat → Nat} {x1 x2 x3 : Int} {σ : St} {Q : Int → St → Prop} (hA : AdOk NR ad) (c1 : C32 x1) (c2 : C32 x2) (c3 : C32 x3) (hσ : CanS shR NR σ) (h : wp_X12_leastPart x1 x2 x3 σ Q) : KtI Z l D cA ad shR NR yX12_leastPart cX12_leastPart 4 (some .int) 2 [.ref (ad 0), vI x1, vI x2, vI x3] σ Q :=
  KtI.of my_X12_leastPart hA [some (.ref (ad 0)), some (vI x1), some (vI x2), some (vI x3)] (Nat.le_of_ble_eq_true rfl) rfl (fun p e s m args below meth c A0 E hr => t_X12_leastPart E hr x1 x2 x3 σ c1 c2 c3 hσ h)
theorem dX12_lowers_0 : Dc cX12_lowers 0 (.iload 4) 2 2 := ⟨by decide +kernel, rfl⟩
theorem dX12_lowers_2 : Dc cX12_lowers 2 (.aload_n 0) 1 3 := ⟨by decide +kernel, rfl⟩
theorem dX12_lowers_3 : Dc cX12_lowers 3 (.getfield 60) 3 6 := ⟨by decide +kernel, rfl⟩
theorem dX12_lowers_6 : Dc cX12_lowers 6 (.iload_n 1) 1 7 := ⟨by decide +kernel, rfl⟩
theorem dX12_lowers_7 : Dc cX12_lowers 7 (.iload_n 2) 1 8 := ⟨by decide +kernel, rfl⟩
theorem dX12_lowers_8 : Dc cX12_lowers 8 (.iload_n 3) 1 9 := ⟨by decide +kernel, rfl⟩
theorem dX12_lowers_9 : Dc cX12_lowers 9 (.invokestatic 282) 3 12 := ⟨by decide +kernel, rfl⟩
theorem dX12_lowers_12 : Dc cX12_lowers 12 (.iaload) 1 13 := ⟨by decide +kernel, rfl⟩
theorem djX12_lowers_13 : Dj cX12_lowers 13 (.if_icmp .lt 5) 3 16 5 18 := ⟨by decide +kernel, rfl, by decide⟩
theorem dX12_lowers_16 : Dc cX12_lowers 16 (.iconst 0) 1 17 := ⟨by decide +kernel, rfl⟩
theorem dX12_lowers_17 : Dc cX12_lowers 17 (.ireturn) 1 18 := ⟨by decide +kernel, rfl⟩
theorem dX12_lowers_18 : Dc cX12_lowers 18 (.aload_n 0) 1 19 := ⟨by decide +kernel, rfl⟩
theorem dX12_lowers_19 : Dc cX12_lowers 19 (.getfield 60) 3 22 := ⟨by decide +kernel, rfl⟩
theorem dX12_lowers_22 : Dc cX12_lowers 22 (.iload_n 1) 1 23 := ⟨by decide +kernel, rfl⟩
theorem dX12_lowers_23 : Dc cX12_lowers 23 (.iload_n 2) 1 24 := ⟨by decide +kernel, rfl⟩
theorem dX12_lowers_24 : Dc cX12_lowers 24 (.iload_n 3) 1 25 := ⟨by decide +kernel, rfl⟩
theorem dX12_lowers_25 : Dc cX12_lowers 25 (.invokestatic 282) 3 28 := ⟨by decide +kernel, rfl⟩
theorem dX12_lowers_28 : Dc cX12_lowers 28 (.iload 4) 2 30 := ⟨by decide +kernel, rfl⟩
theorem dX12_lowers_30 : Dc cX12_lowers 30 (.iastore) 1 31 := ⟨by decide +kernel, rfl⟩
theorem dX12_lowers_31 : Dc cX12_lowers 31 (.iconst 1) 1 32 := ⟨by decide +kernel, rfl⟩
theorem dX12_lowers_32 : Dc cX12_lowers 32 (.ireturn) 1 33 := ⟨by decide +kernel, rfl⟩
section
variable {p : Program} {l : Launch} {e : Env} {s : State} {m : MethodId} {args : Array Value} {below : List Frame} {meth : Method} {c : Code} {A0 : Nat → Prop} {D : va_G} {cA : Nat → ClassId} {ad : Nat → Nat} {Z : (Nat → Nat) × (Nat → Nat)} {Q : Int → St → Prop}
set_option maxHeartbeats 4000000 in
set_option maxRecDepth 100000 in
theorem t_X12_lowers (E : Ev p s m args meth c cX12_lowers 5 RX12 A0 D cA ad NR Z) (hr : meth.sig.returnType = (some .boolean)) (x1 : Int) (x2 : Int) (x3 : Int) (x4 : Int) (σ : St) (c1 : C32 x1) (c2 : C32 x2) (c3 : C32 x3) (c4 : C32 x4) (hσ : CanS shR NR σ) (h : wp_X12_lowers x1 x2 x3 x4 σ Q) : G p l e (rmL 2 0 0) s m args below meth c 5 A0 D cA ad shR NR 0 0 (MQ below (QIc D cA ad shR NR Q A0) args s 0 0 A0) σ 0 [some (.ref (ad 0)), some (vI x1), some (vI x2), some (vI x3), some (vI x4)] [] := by
  unfold wp_X12_lowers at h
  refine g_iload_4 E dX12_lowers_0 ?_
  refine g_aload_0 E dX12_lowers_2 ?_
  refine g_getR E fl_RX12_60 kR_0 sR_0 rfl dX12_lowers_3 ?_
  refine g_iload_1 E dX12_lowers_6 ?_
  refine g_iload_2 E dX12_lowers_7 ?_
  refine g_iload_3 E dX12_lowers_8 ?_
  refine g_callsI E my_X12_item ms_X12_item ml_RX12_282 (rm_ok (by decide) (by decide)) ⟨Nat.zero_le _, Nat.zero_le _⟩ (m_X12_item E.2.2.1 c1 c2 c3 hσ h) rfl rfl (Nat.le_of_ble_eq_true rfl) dX12_lowers_9 (fun r1 σ2 cr1 hσ2 h => ?_)
  refine g_iald E kR_15 sR_15 (by decide) h.1 dX12_lowers_12 ?_
  replace h := h.2
  refine g_icmp_lt E c4 (aR_15 hσ2 _) djX12_lowers_13 (fun hc => ?_) (fun hc => ?_)
  · replace h := h.1 hc
    refine g_aload_0 E dX12_lowers_18 ?_
    refine g_getR E fl_RX12_60 kR_0 sR_0 rfl dX12_lowers_19 ?_
    refine g_iload_1 E dX12_lowers_22 ?_
    refine g_iload_2 E dX12_lowers_23 ?_
    refine g_iload_3 E dX12_lowers_24 ?_
    refine g_callsI E my_X12_item ms_X12_item ml_RX12_282 (rm_ok (by decide) (by decide)) ⟨Nat.zero_le _, Nat.zero_le _⟩ (m_X12_item E.2.2.1 c1 c2 c3 hσ2 h) rfl rfl (Nat.le_of_ble_eq_true rfl) dX12_lowers_25 (fun r3 σ4 cr3 hσ4 h => ?_)
    refine g_iload_4 E dX12_lowers_28 ?_
    refine g_iast E kR_15 sR_15 (by decide) h.1 dX12_lowers_30 (g_nmS (fun σ5 eσ5 => ?_))
    replace h := h.2 σ5 eσ5
    have hσ5 : CanS shR NR σ5 := by rw [eσ5]; exact wR_15 hσ4 c4
    refine g_iconst E dX12_lowers_31 ?_
    exact g_zret E hr (Or.inr rfl) h hσ5 dX12_lowers_32
  · replace h := h.2 hc
    refine g_iconst E dX12_lowers_16 ?_
    exact g_zret E hr (Or.inl rfl) h hσ2 dX12_lowers_17
end
theorem m_X12_lowers {Z : (Nat → Nat) × (Nat → Nat)} {l : Launch} {D : va_G} {cA : Nat → ClassId} {ad : Nat → Nat} {x1 x2 x3 x4 : Int} {σ : St} {Q : Int → St → Prop} (hA : AdOk NR ad) (c1 : C32 x1) (c2 : C32 x2) (c3 : C32 x3) (c4 : C32 x4) (hσ : CanS shR NR σ) (h : wp_X12_lowers x1 x2 x3 x4 σ Q) : KtI Z l D cA ad shR NR yX12_lowers cX12_lowers 5 (some .boolean) 2 [.ref (ad 0), vI x1, vI x2, vI x3, vI x4] σ Q :=
  KtI.of my_X12_lowers hA [some (.ref (ad 0)), some (vI x1), some (vI x2), some (vI x3), some (vI x4)] (Nat.le_of_ble_eq_true rfl) rfl (fun p e s m args below meth c A0 E hr => t_X12_lowers E hr x1 x2 x3 x4 σ c1 c2 c3 c4 hσ h)
theorem dX12_laysTwos_0 : Dc cX12_laysTwos 0 (.iload_n 2) 1 1 := ⟨by decide +kernel, rfl⟩
theorem dX12_laysTwos_1 : Dc cX12_laysTwos 1 (.iconst 1) 1 2 := ⟨by decide +kernel, rfl⟩
theorem dX12_laysTwos_2 : Dc cX12_laysTwos 2 (.iadd) 1 3 := ⟨by decide +kernel, rfl⟩
theorem dX12_laysTwos_3 : Dc cX12_laysTwos 3 (.istore 4) 2 5 := ⟨by decide +kernel, rfl⟩
theorem dX12_laysTwos_5 : Dc cX12_laysTwos 5 (.iload 4) 2 7 := ⟨by decide +kernel, rfl⟩
theorem dX12_laysTwos_7 : Dc cX12_laysTwos 7 (.iload_n 3) 1 8 := ⟨by decide +kernel, rfl⟩
theorem djX12_laysTwos_8 : Dj cX12_laysTwos 8 (.if_icmp .ge 88) 3 11 88 96 := ⟨by decide +kernel, rfl, by decide⟩
theorem dX12_laysTwos_11 : Dc cX12_laysTwos 11 (.aload_n 0) 1 12 := ⟨by decide +kernel, rfl⟩
theorem dX12_laysTwos_12 : Dc cX12_laysTwos 12 (.aload_n 0) 1 13 := ⟨by decide +kernel, rfl⟩
theorem dX12_laysTwos_13 : Dc cX12_laysTwos 13 (.getfield 17) 3 16 := ⟨by decide +kernel, rfl⟩
theorem dX12_laysTwos_16 : Dc cX12_laysTwos 16 (.iload_n 1) 1 17 := ⟨by decide +kernel, rfl⟩
theorem dX12_laysTwos_17 : Dc cX12_laysTwos 17 (.iaload) 1 18 := ⟨by decide +kernel, rfl⟩
theorem dX12_laysTwos_18 : Dc cX12_laysTwos 18 (.iload_n 2) 1 19 := ⟨by decide +kernel, rfl⟩
theorem dX12_laysTwos_19 : Dc cX12_laysTwos 19 (.iload 4) 2 21 := ⟨by decide +kernel, rfl⟩
theorem dX12_laysTwos_21 : Dc cX12_laysTwos 21 (.invokevirtual 287) 3 24 := ⟨by decide +kernel, rfl⟩
theorem djX12_laysTwos_24 : Dj cX12_laysTwos 24 (.ifCond .eq 66) 3 27 66 90 := ⟨by decide +kernel, rfl, by decide⟩
theorem dX12_laysTwos_27 : Dc cX12_laysTwos 27 (.aload_n 0) 1 28 := ⟨by decide +kernel, rfl⟩
theorem dX12_laysTwos_28 : Dc cX12_laysTwos 28 (.aload_n 0) 1 29 := ⟨by decide +kernel, rfl⟩
theorem dX12_laysTwos_29 : Dc cX12_laysTwos 29 (.getfield 20) 3 32 := ⟨by decide +kernel, rfl⟩
theorem dX12_laysTwos_32 : Dc cX12_laysTwos 32 (.iload_n 1) 1 33 := ⟨by decide +kernel, rfl⟩
theorem dX12_laysTwos_33 : Dc cX12_laysTwos 33 (.iaload) 1 34 := ⟨by decide +kernel, rfl⟩
theorem dX12_laysTwos_34 : Dc cX12_laysTwos 34 (.iload 4) 2 36 := ⟨by decide +kernel, rfl⟩
theorem dX12_laysTwos_36 : Dc cX12_laysTwos 36 (.iload_n 3) 1 37 := ⟨by decide +kernel, rfl⟩
theorem dX12_laysTwos_37 : Dc cX12_laysTwos 37 (.invokevirtual 287) 3 40 := ⟨by decide +kernel, rfl⟩
theorem djX12_laysTwos_40 : Dj cX12_laysTwos 40 (.ifCond .eq 50) 3 43 50 90 := ⟨by decide +kernel, rfl, by decide⟩
theorem dX12_laysTwos_43 : Dc cX12_laysTwos 43 (.aload_n 0) 1 44 := ⟨by decide +kernel, rfl⟩
theorem dX12_laysTwos_44 : Dc cX12_laysTwos 44 (.aload_n 0) 1 45 := ⟨by decide +kernel, rfl⟩
theorem dX12_laysTwos_45 : Dc cX12_laysTwos 45 (.getfield 13) 3 48 := ⟨by decide +kernel, rfl⟩
theorem dX12_laysTwos_48 : Dc cX12_laysTwos 48 (.iload_n 1) 1 49 := ⟨by decide +kernel, rfl⟩
theorem dX12_laysTwos_49 : Dc cX12_laysTwos 49 (.iaload) 1 50 := ⟨by decide +kernel, rfl⟩
theorem dX12_laysTwos_50 : Dc cX12_laysTwos 50 (.iload_n 2) 1 51 := ⟨by decide +kernel, rfl⟩
theorem dX12_laysTwos_51 : Dc cX12_laysTwos 51 (.iload_n 3) 1 52 := ⟨by decide +kernel, rfl⟩
theorem dX12_laysTwos_52 : Dc cX12_laysTwos 52 (.aload_n 0) 1 53 := ⟨by decide +kernel, rfl⟩
theorem dX12_laysTwos_53 : Dc cX12_laysTwos 53 (.getfield 23) 3 56 := ⟨by decide +kernel, rfl⟩
theorem dX12_laysTwos_56 : Dc cX12_laysTwos 56 (.iload_n 1) 1 57 := ⟨by decide +kernel, rfl⟩
theorem dX12_laysTwos_57 : Dc cX12_laysTwos 57 (.iaload) 1 58 := ⟨by decide +kernel, rfl⟩
theorem dX12_laysTwos_58 : Dc cX12_laysTwos 58 (.aload_n 0) 1 59 := ⟨by decide +kernel, rfl⟩
theorem dX12_laysTwos_59 : Dc cX12_laysTwos 59 (.aload_n 0) 1 60 := ⟨by decide +kernel, rfl⟩
theorem dX12_laysTwos_60 : Dc cX12_laysTwos 60 (.getfield 17) 3 63 := ⟨by decide +kernel, rfl⟩
theorem dX12_laysTwos_63 : Dc cX12_laysTwos 63 (.iload_n 1) 1 64 := ⟨by decide +kernel, rfl⟩
theorem dX12_laysTwos_64 : Dc cX12_laysTwos 64 (.iaload) 1 65 := ⟨by decide +kernel, rfl⟩
theorem dX12_laysTwos_65 : Dc cX12_laysTwos 65 (.iload_n 2) 1 66 := ⟨by decide +kernel, rfl⟩
theorem dX12_laysTwos_66 : Dc cX12_laysTwos 66 (.iload 4) 2 68 := ⟨by decide +kernel, rfl⟩
theorem dX12_laysTwos_68 : Dc cX12_laysTwos 68 (.invokevirtual 291) 3 71 := ⟨by decide +kernel, rfl⟩
theorem dX12_laysTwos_71 : Dc cX12_laysTwos 71 (.iadd) 1 72 := ⟨by decide +kernel, rfl⟩
theorem dX12_laysTwos_72 : Dc cX12_laysTwos 72 (.aload_n 0) 1 73 := ⟨by decide +kernel, rfl⟩
theorem dX12_laysTwos_73 : Dc cX12_laysTwos 73 (.aload_n 0) 1 74 := ⟨by decide +kernel, rfl⟩
theorem dX12_laysTwos_74 : Dc cX12_laysTwos 74 (.getfield 20) 3 77 := ⟨by decide +kernel, rfl⟩
theorem dX12_laysTwos_77 : Dc cX12_laysTwos 77 (.iload_n 1) 1 78 := ⟨by decide +kernel, rfl⟩
theorem dX12_laysTwos_78 : Dc cX12_laysTwos 78 (.iaload) 1 79 := ⟨by decide +kernel, rfl⟩
theorem dX12_laysTwos_79 : Dc cX12_laysTwos 79 (.iload 4) 2 81 := ⟨by decide +kernel, rfl⟩
theorem dX12_laysTwos_81 : Dc cX12_laysTwos 81 (.iload_n 3) 1 82 := ⟨by decide +kernel, rfl⟩
theorem dX12_laysTwos_82 : Dc cX12_laysTwos 82 (.invokevirtual 291) 3 85 := ⟨by decide +kernel, rfl⟩
theorem dX12_laysTwos_85 : Dc cX12_laysTwos 85 (.iadd) 1 86 := ⟨by decide +kernel, rfl⟩
theorem dX12_laysTwos_86 : Dc cX12_laysTwos 86 (.invokevirtual 294) 3 89 := ⟨by decide +kernel, rfl⟩
theorem dX12_laysTwos_89 : Dc cX12_laysTwos 89 (.pop) 1 90 := ⟨by decide +kernel, rfl⟩
theorem dX12_laysTwos_90 : Dc cX12_laysTwos 90 (.iinc 4 1) 3 93 := ⟨by decide +kernel, rfl⟩
theorem djX12_laysTwos_93 : Dj cX12_laysTwos 93 (.goto (-88)) 3 96 (-88) 5 := ⟨by decide +kernel, rfl, by decide⟩
theorem dX12_laysTwos_96 : Dc cX12_laysTwos 96 (.return_) 1 97 := ⟨by decide +kernel, rfl⟩
section
variable {p : Program} {l : Launch} {e : Env} {s : State} {m : MethodId} {args : Array Value} {below : List Frame} {meth : Method} {c : Code} {A0 : Nat → Prop} {D : va_G} {cA : Nat → ClassId} {ad : Nat → Nat} {Z : (Nat → Nat) × (Nat → Nat)} {Q : Int → St → Prop}
set_option maxHeartbeats 4000000 in
set_option maxRecDepth 100000 in
theorem t_X12_laysTwos_b90 (E : Ev p s m args meth c cX12_laysTwos 5 RX12 A0 D cA ad NR Z) (hr : meth.sig.returnType = none) {K5 : Int → Int → Int → Int → St → Prop} (hK5 : ∀ (x1 : Int) (x2 : Int) (x3 : Int) (x4 : Int) (σ : St), C32 x1 → C32 x2 → C32 x3 → C32 x4 → CanS shR NR σ → K5 x1 x2 x3 x4 σ → G p l e (rmL 3 0 0) s m args below meth c 5 A0 D cA ad shR NR 0 0 (MQ below (QVc D cA ad shR NR Q A0) args s 0 0 A0) σ 5 [some (.ref (ad 0)), some (vI x1), some (vI x2), some (vI x3), some (vI x4)] []) (x1 : Int) (x2 : Int) (x3 : Int) (x4 : Int) (σ : St) (c1 : C32 x1) (c2 : C32 x2) (c3 : C32 x3) (c4 : C32 x4) (hσ : CanS shR NR σ) (h : wp_X12_laysTwos_b90 Q K5 x1 x2 x3 x4 σ) : G p l e (rmL 3 0 0) s m args below meth c 5 A0 D cA ad shR NR 0 0 (MQ below (QVc D cA ad shR NR Q A0) args s 0 0 A0) σ 90 [some (.ref (ad 0)), some (vI x1), some (vI x2), some (vI x3), some (vI x4)] [] := by
  unfold wp_X12_laysTwos_b90 at h
  refine g_iinc_4 E rfl (by decide) dX12_laysTwos_90 (fun v12 ev12 => ?_)
  replace h := h v12 ev12
  have cv12 : C32 v12 := by rw [ev12]; exact c32_w _
  refine g_goto E djX12_laysTwos_93 ?_
  exact (hK5 x1 x2 x3 v12 σ c1 c2 c3 cv12 hσ h).weak (w_k (w_k (w_k (w_k (w_k w_n)))))
set_option maxHeartbeats 4000000 in
set_option maxRecDepth 100000 in
theorem t_X12_laysTwos_l5 (E : Ev p s m args meth c cX12_laysTwos 5 RX12 A0 D cA ad NR Z) (hr : meth.sig.returnType = none) : ∀ (n : Nat) (x1 : Int) (x2 : Int) (x3 : Int) (x4 : Int) (σ : St), C32 x1 → C32 x2 → C32 x3 → C32 x4 → CanS shR NR σ → wp_X12_laysTwos_l5 Q n x1 x2 x3 x4 σ → G p l e (rmL 3 0 0) s m args below meth c 5 A0 D cA ad shR NR 0 0 (MQ below (QVc D cA ad shR NR Q A0) args s 0 0 A0) σ 5 [some (.ref (ad 0)), some (vI x1), some (vI x2), some (vI x3), some (vI x4)] [] := by
  intro n
  induction n with
  | zero => intro _ _ _ _ _ _ _ _ _ _ h; exact h.elim
  | succ n ih =>
    intro x1 x2 x3 x4 σ c1 c2 c3 c4 hσ h
    unfold wp_X12_laysTwos_l5 at h
    refine g_iload_4 E dX12_laysTwos_5 ?_
    refine g_iload_3 E dX12_laysTwos_7 ?_
    refine g_icmp_ge E c4 c3 djX12_laysTwos_8 (fun hc => ?_) (fun hc => ?_)
    · replace h := h.1 hc
      exact g_vret E hr h hσ dX12_laysTwos_96
    · replace h := h.2 hc
      refine g_aload_0 E dX12_laysTwos_11 ?_
      refine g_aload_0 E dX12_laysTwos_12 ?_
      refine g_getR E fl_RX12_17 kR_0 sR_0 rfl dX12_laysTwos_13 ?_
      refine g_iload_1 E dX12_laysTwos_16 ?_
      refine g_iald E kR_2 sR_2 (by decide) h.1 dX12_laysTwos_17 ?_
      replace h := h.2
      refine g_iload_2 E dX12_laysTwos_18 ?_
      refine g_iload_4 E dX12_laysTwos_19 ?_
      refine g_callvI E my_X12_fits mi_X12_fits msel_X12_fits ml_RX12_287 (rm_ok (by decide) (by decide)) ⟨Nat.zero_le _, Nat.zero_le _⟩ kR_0 sR_0 rfl (m_X12_fits E.2.2.1 (aR_2 hσ _) c2 c4 hσ h) rfl rfl (Nat.le_of_ble_eq_true rfl) dX12_laysTwos_21 (fun r2 σ3 cr2 hσ3 h => ?_)
      refine g_if_eq E cr2 djX12_laysTwos_24 (fun hc => ?_) (fun hc => ?_)
      · replace h := h.1 hc
        exact (t_X12_laysTwos_b90 E hr ih x1 x2 x3 x4 σ3 c1 c2 c3 c4 hσ3 h).weak (w_k (w_k (w_k (w_k (w_k w_n)))))
      · replace h := h.2 hc
        refine g_aload_0 E dX12_laysTwos_27 ?_
        refine g_aload_0 E dX12_laysTwos_28 ?_
        refine g_getR E fl_RX12_20 kR_0 sR_0 rfl dX12_laysTwos_29 ?_
        refine g_iload_1 E dX12_laysTwos_32 ?_
        refine g_iald E kR_3 sR_3 (by decide) h.1 dX12_laysTwos_33 ?_
        replace h := h.2
        refine g_iload_4 E dX12_laysTwos_34 ?_
        refine g_iload_3 E dX12_laysTwos_36 ?_
        refine g_callvI E my_X12_fits mi_X12_fits msel_X12_fits ml_RX12_287 (rm_ok (by decide) (by decide)) ⟨Nat.zero_le _, Nat.zero_le _⟩ kR_0 sR_0 rfl (m_X12_fits E.2.2.1 (aR_3 hσ3 _) c4 c3 hσ3 h) rfl rfl (Nat.le_of_ble_eq_true rfl) dX12_laysTwos_37 (fun r4 σ5 cr4 hσ5 h => ?_)
        refine g_if_eq E cr4 djX12_laysTwos_40 (fun hc => ?_) (fun hc => ?_)
        · replace h := h.1 hc
          exact (t_X12_laysTwos_b90 E hr ih x1 x2 x3 x4 σ5 c1 c2 c3 c4 hσ5 h).weak (w_k (w_k (w_k (w_k (w_k w_n)))))
        · replace h := h.2 hc
          refine g_aload_0 E dX12_laysTwos_43 ?_
          refine g_aload_0 E dX12_laysTwos_44 ?_
          refine g_getR E fl_RX12_13 kR_0 sR_0 rfl dX12_laysTwos_45 ?_
          refine g_iload_1 E dX12_laysTwos_48 ?_
          refine g_iald E kR_1 sR_1 (by decide) h.1 dX12_laysTwos_49 ?_
          replace h := h.2
          refine g_iload_2 E dX12_laysTwos_50 ?_
          refine g_iload_3 E dX12_laysTwos_51 ?_
          refine g_aload_0 E dX12_laysTwos_52 ?_
          refine g_getR E fl_RX12_23 kR_0 sR_0 rfl dX12_laysTwos_53 ?_
          refine g_iload_1 E dX12_laysTwos_56 ?_
          refine g_iald E kR_4 sR_4 (by decide) h.1 dX12_laysTwos_57 ?_
          replace h := h.2
          refine g_aload_0 E dX12_laysTwos_58 ?_
          refine g_aload_0 E dX12_laysTwos_59 ?_
          refine g_getR E fl_RX12_17 kR_0 sR_0 rfl dX12_laysTwos_60 ?_
          refine g_iload_1 E dX12_laysTwos_63 ?_
          refine g_iald E kR_2 sR_2 (by decide) h.1 dX12_laysTwos_64 ?_
          replace h := h.2
          refine g_iload_2 E dX12_laysTwos_65 ?_
          refine g_iload_4 E dX12_laysTwos_66 ?_
          refine g_callvI E my_X12_leastPart mi_X12_leastPart msel_X12_leastPart ml_RX12_291 (rm_ok (by decide) (by decide)) ⟨Nat.zero_le _, Nat.zero_le _⟩ kR_0 sR_0 rfl (m_X12_leastPart E.2.2.1 (aR_2 hσ5 _) c2 c4 hσ5 h) rfl rfl (Nat.le_of_ble_eq_true rfl) dX12_laysTwos_68 (fun r6 σ7 cr6 hσ7 h => ?_)
          refine g_iadd E dX12_laysTwos_71 ?_
          refine g_aload_0 E dX12_laysTwos_72 ?_
          refine g_aload_0 E dX12_laysTwos_73 ?_
          refine g_getR E fl_RX12_20 kR_0 sR_0 rfl dX12_laysTwos_74 ?_
          refine g_iload_1 E dX12_laysTwos_77 ?_
          refine g_iald E kR_3 sR_3 (by decide) h.1 dX12_laysTwos_78 ?_
          replace h := h.2
          refine g_iload_4 E dX12_laysTwos_79 ?_
          refine g_iload_3 E dX12_laysTwos_81 ?_
          refine g_callvI E my_X12_leastPart mi_X12_leastPart msel_X12_leastPart ml_RX12_291 (rm_ok (by decide) (by decide)) ⟨Nat.zero_le _, Nat.zero_le _⟩ kR_0 sR_0 rfl (m_X12_leastPart E.2.2.1 (aR_3 hσ7 _) c4 c3 hσ7 h) rfl rfl (Nat.le_of_ble_eq_true rfl) dX12_laysTwos_82 (fun r8 σ9 cr8 hσ9 h => ?_)
          refine g_iadd E dX12_laysTwos_85 ?_
          refine g_callvI E my_X12_lowers mi_X12_lowers msel_X12_lowers ml_RX12_294 (rm_ok (by decide) (by decide)) ⟨Nat.zero_le _, Nat.zero_le _⟩ kR_0 sR_0 rfl (m_X12_lowers E.2.2.1 (aR_1 hσ5 _) c2 c3 (c32_w _) hσ9 h) rfl rfl (Nat.le_of_ble_eq_true rfl) dX12_laysTwos_86 (fun r10 σ11 cr10 hσ11 h => ?_)
          refine g_pop E rfl dX12_laysTwos_89 ?_
          exact (t_X12_laysTwos_b90 E hr ih x1 x2 x3 x4 σ11 c1 c2 c3 c4 hσ11 h).weak (w_k (w_k (w_k (w_k (w_k w_n)))))
set_option maxHeartbeats 4000000 in
set_option maxRecDepth 100000 in
theorem t_X12_laysTwos (E : Ev p s m args meth c cX12_laysTwos 5 RX12 A0 D cA ad NR Z) (hr : meth.sig.returnType = none) (x1 : Int) (x2 : Int) (x3 : Int) (σ : St) (c1 : C32 x1) (c2 : C32 x2) (c3 : C32 x3) (hσ : CanS shR NR σ) (h : wp_X12_laysTwos x1 x2 x3 σ Q) : G p l e (rmL 3 0 0) s m args below meth c 5 A0 D cA ad shR NR 0 0 (MQ below (QVc D cA ad shR NR Q A0) args s 0 0 A0) σ 0 [some (.ref (ad 0)), some (vI x1), some (vI x2), some (vI x3), none] [] := by
  unfold wp_X12_laysTwos at h
  refine g_iload_2 E dX12_laysTwos_0 ?_
  refine g_iconst E dX12_laysTwos_1 ?_
  refine g_iadd E dX12_laysTwos_2 ?_
  refine g_nmI (fun v1 ev1 => ?_)
  replace h := h v1 ev1
  have cv1 : C32 v1 := by rw [ev1]; exact (c32_w _)
  refine g_istore_4 E rfl (by decide) dX12_laysTwos_3 ?_
  exact (t_X12_laysTwos_l5 E hr bigN x1 x2 x3 v1 σ c1 c2 c3 cv1 hσ h).weak (w_k (w_k (w_k (w_k (w_k w_n)))))
end
theorem m_X12_laysTwos {Z : (Nat → Nat) × (Nat → Nat)} {l : Launch} {D : va_G} {cA : Nat → ClassId} {ad : Nat → Nat} {x1 x2 x3 : Int} {σ : St} {Q : Int → St → Prop} (hA : AdOk NR ad) (c1 : C32 x1) (c2 : C32 x2) (c3 : C32 x3) (hσ : CanS shR NR σ) (h : wp_X12_laysTwos x1 x2 x3 σ Q) : KtV Z l D cA ad shR NR yX12_laysTwos cX12_laysTwos 5 none 3 [.ref (ad 0), vI x1, vI x2, vI x3] σ Q :=
  KtV.of my_X12_laysTwos hA [some (.ref (ad 0)), some (vI x1), some (vI x2), some (vI x3), none] (Nat.le_of_ble_eq_true rfl) rfl (fun p e s m args below meth c A0 E hr => t_X12_laysTwos E hr x1 x2 x3 σ c1 c2 c3 hσ h)
theorem dX12_laysSpan_0 : Dc cX12_laysSpan 0 (.iconst 0) 1 1 := ⟨by decide +kernel, rfl⟩
theorem dX12_laysSpan_1 : Dc cX12_laysSpan 1 (.istore_n 3) 1 2 := ⟨by decide +kernel, rfl⟩
theorem dX12_laysSpan_2 : Dc cX12_laysSpan 2 (.iload_n 3) 1 3 := ⟨by decide +kernel, rfl⟩
theorem dX12_laysSpan_3 : Dc cX12_laysSpan 3 (.aload_n 0) 1 4 := ⟨by decide +kernel, rfl⟩
theorem dX12_laysSpan_4 : Dc cX12_laysSpan 4 (.getfield 252) 3 7 := ⟨by decide +kernel, rfl⟩
theorem djX12_laysSpan_7 : Dj cX12_laysSpan 7 (.if_icmp .ge 34) 3 10 34 41 := ⟨by decide +kernel, rfl, by decide⟩
theorem dX12_laysSpan_10 : Dc cX12_laysSpan 10 (.aload_n 0) 1 11 := ⟨by decide +kernel, rfl⟩
theorem dX12_laysSpan_11 : Dc cX12_laysSpan 11 (.iload_n 3) 1 12 := ⟨by decide +kernel, rfl⟩
theorem dX12_laysSpan_12 : Dc cX12_laysSpan 12 (.invokevirtual 298) 3 15 := ⟨by decide +kernel, rfl⟩
theorem djX12_laysSpan_15 : Dj cX12_laysSpan 15 (.ifCond .eq 20) 3 18 20 35 := ⟨by decide +kernel, rfl, by decide⟩
theorem dX12_laysSpan_18 : Dc cX12_laysSpan 18 (.aload_n 0) 1 19 := ⟨by decide +kernel, rfl⟩
theorem dX12_laysSpan_19 : Dc cX12_laysSpan 19 (.getfield 20) 3 22 := ⟨by decide +kernel, rfl⟩
theorem dX12_laysSpan_22 : Dc cX12_laysSpan 22 (.iload_n 3) 1 23 := ⟨by decide +kernel, rfl⟩
theorem dX12_laysSpan_23 : Dc cX12_laysSpan 23 (.iaload) 1 24 := ⟨by decide +kernel, rfl⟩
theorem dX12_laysSpan_24 : Dc cX12_laysSpan 24 (.iconst (-1)) 1 25 := ⟨by decide +kernel, rfl⟩
theorem djX12_laysSpan_25 : Dj cX12_laysSpan 25 (.if_icmp .eq 10) 3 28 10 35 := ⟨by decide +kernel, rfl, by decide⟩
theorem dX12_laysSpan_28 : Dc cX12_laysSpan 28 (.aload_n 0) 1 29 := ⟨by decide +kernel, rfl⟩
theorem dX12_laysSpan_29 : Dc cX12_laysSpan 29 (.iload_n 3) 1 30 := ⟨by decide +kernel, rfl⟩
theorem dX12_laysSpan_30 : Dc cX12_laysSpan 30 (.iload_n 1) 1 31 := ⟨by decide +kernel, rfl⟩
theorem dX12_laysSpan_31 : Dc cX12_laysSpan 31 (.iload_n 2) 1 32 := ⟨by decide +kernel, rfl⟩
theorem dX12_laysSpan_32 : Dc cX12_laysSpan 32 (.invokevirtual 301) 3 35 := ⟨by decide +kernel, rfl⟩
theorem dX12_laysSpan_35 : Dc cX12_laysSpan 35 (.iinc 3 1) 3 38 := ⟨by decide +kernel, rfl⟩
theorem djX12_laysSpan_38 : Dj cX12_laysSpan 38 (.goto (-36)) 3 41 (-36) 2 := ⟨by decide +kernel, rfl, by decide⟩
theorem dX12_laysSpan_41 : Dc cX12_laysSpan 41 (.iconst 1) 1 42 := ⟨by decide +kernel, rfl⟩
theorem dX12_laysSpan_42 : Dc cX12_laysSpan 42 (.istore_n 3) 1 43 := ⟨by decide +kernel, rfl⟩
theorem dX12_laysSpan_43 : Dc cX12_laysSpan 43 (.iload_n 3) 1 44 := ⟨by decide +kernel, rfl⟩
theorem djX12_laysSpan_44 : Dj cX12_laysSpan 44 (.ifCond .eq 109) 3 47 109 153 := ⟨by decide +kernel, rfl, by decide⟩
theorem dX12_laysSpan_47 : Dc cX12_laysSpan 47 (.iconst 0) 1 48 := ⟨by decide +kernel, rfl⟩
theorem dX12_laysSpan_48 : Dc cX12_laysSpan 48 (.istore_n 3) 1 49 := ⟨by decide +kernel, rfl⟩
theorem dX12_laysSpan_49 : Dc cX12_laysSpan 49 (.iconst 0) 1 50 := ⟨by decide +kernel, rfl⟩
theorem dX12_laysSpan_50 : Dc cX12_laysSpan 50 (.istore 4) 2 52 := ⟨by decide +kernel, rfl⟩
theorem dX12_laysSpan_52 : Dc cX12_laysSpan 52 (.iload 4) 2 54 := ⟨by decide +kernel, rfl⟩
theorem dX12_laysSpan_54 : Dc cX12_laysSpan 54 (.aload_n 0) 1 55 := ⟨by decide +kernel, rfl⟩
theorem dX12_laysSpan_55 : Dc cX12_laysSpan 55 (.getfield 252) 3 58 := ⟨by decide +kernel, rfl⟩
theorem djX12_laysSpan_58 : Dj cX12_laysSpan 58 (.if_icmp .ge 92) 3 61 92 150 := ⟨by decide +kernel, rfl, by decide⟩
theorem dX12_laysSpan_61 : Dc cX12_laysSpan 61 (.aload_n 0) 1 62 := ⟨by decide +kernel, rfl⟩
theorem dX12_laysSpan_62 : Dc cX12_laysSpan 62 (.iload 4) 2 64 := ⟨by decide +kernel, rfl⟩
theorem dX12_laysSpan_64 : Dc cX12_laysSpan 64 (.invokevirtual 298) 3 67 := ⟨by decide +kernel, rfl⟩
theorem djX12_laysSpan_67 : Dj cX12_laysSpan 67 (.ifCond .eq 77) 3 70 77 144 := ⟨by decide +kernel, rfl, by decide⟩
theorem dX12_laysSpan_70 : Dc cX12_laysSpan 70 (.aload_n 0) 1 71 := ⟨by decide +kernel, rfl⟩
theorem dX12_laysSpan_71 : Dc cX12_laysSpan 71 (.getfield 20) 3 74 := ⟨by decide +kernel, rfl⟩
theorem dX12_laysSpan_74 : Dc cX12_laysSpan 74 (.iload 4) 2 76 := ⟨by decide +kernel, rfl⟩
theorem dX12_laysSpan_76 : Dc cX12_laysSpan 76 (.iaload) 1 77 := ⟨by decide +kernel, rfl⟩
theorem dX12_laysSpan_77 : Dc cX12_laysSpan 77 (.iconst (-1)) 1 78 := ⟨by decide +kernel, rfl⟩
theorem djX12_laysSpan_78 : Dj cX12_laysSpan 78 (.if_icmp .ne 66) 3 81 66 144 := ⟨by decide +kernel, rfl, by decide⟩
theorem dX12_laysSpan_81 : Dc cX12_laysSpan 81 (.aload_n 0) 1 82 := ⟨by decide +kernel, rfl⟩
theorem dX12_laysSpan_82 : Dc cX12_laysSpan 82 (.aload_n 0) 1 83 := ⟨by decide +kernel, rfl⟩
theorem dX12_laysSpan_83 : Dc cX12_laysSpan 83 (.getfield 17) 3 86 := ⟨by decide +kernel, rfl⟩
theorem dX12_laysSpan_86 : Dc cX12_laysSpan 86 (.iload 4) 2 88 := ⟨by decide +kernel, rfl⟩
theorem dX12_laysSpan_88 : Dc cX12_laysSpan 88 (.iaload) 1 89 := ⟨by decide +kernel, rfl⟩
theorem dX12_laysSpan_89 : Dc cX12_laysSpan 89 (.iload_n 1) 1 90 := ⟨by decide +kernel, rfl⟩
theorem dX12_laysSpan_90 : Dc cX12_laysSpan 90 (.iload_n 2) 1 91 := ⟨by decide +kernel, rfl⟩
theorem dX12_laysSpan_91 : Dc cX12_laysSpan 91 (.invokevirtual 287) 3 94 := ⟨by decide +kernel, rfl⟩
theorem djX12_laysSpan_94 : Dj cX12_laysSpan 94 (.ifCond .eq 50) 3 97 50 144 := ⟨by decide +kernel, rfl, by decide⟩
theorem dX12_laysSpan_97 : Dc cX12_laysSpan 97 (.aload_n 0) 1 98 := ⟨by decide +kernel, rfl⟩
theorem dX12_laysSpan_98 : Dc cX12_laysSpan 98 (.aload_n 0) 1 99 := ⟨by decide +kernel, rfl⟩
theorem dX12_laysSpan_99 : Dc cX12_laysSpan 99 (.getfield 13) 3 102 := ⟨by decide +kernel, rfl⟩
theorem dX12_laysSpan_102 : Dc cX12_laysSpan 102 (.iload 4) 2 104 := ⟨by decide +kernel, rfl⟩
theorem dX12_laysSpan_104 : Dc cX12_laysSpan 104 (.iaload) 1 105 := ⟨by decide +kernel, rfl⟩
theorem dX12_laysSpan_105 : Dc cX12_laysSpan 105 (.iload_n 1) 1 106 := ⟨by decide +kernel, rfl⟩
theorem dX12_laysSpan_106 : Dc cX12_laysSpan 106 (.iload_n 2) 1 107 := ⟨by decide +kernel, rfl⟩
theorem dX12_laysSpan_107 : Dc cX12_laysSpan 107 (.aload_n 0) 1 108 := ⟨by decide +kernel, rfl⟩
theorem dX12_laysSpan_108 : Dc cX12_laysSpan 108 (.getfield 23) 3 111 := ⟨by decide +kernel, rfl⟩
theorem dX12_laysSpan_111 : Dc cX12_laysSpan 111 (.iload 4) 2 113 := ⟨by decide +kernel, rfl⟩
theorem dX12_laysSpan_113 : Dc cX12_laysSpan 113 (.iaload) 1 114 := ⟨by decide +kernel, rfl⟩
theorem dX12_laysSpan_114 : Dc cX12_laysSpan 114 (.aload_n 0) 1 115 := ⟨by decide +kernel, rfl⟩
theorem dX12_laysSpan_115 : Dc cX12_laysSpan 115 (.aload_n 0) 1 116 := ⟨by decide +kernel, rfl⟩
theorem dX12_laysSpan_116 : Dc cX12_laysSpan 116 (.getfield 17) 3 119 := ⟨by decide +kernel, rfl⟩
theorem dX12_laysSpan_119 : Dc cX12_laysSpan 119 (.iload 4) 2 121 := ⟨by decide +kernel, rfl⟩
theorem dX12_laysSpan_121 : Dc cX12_laysSpan 121 (.iaload) 1 122 := ⟨by decide +kernel, rfl⟩
theorem dX12_laysSpan_122 : Dc cX12_laysSpan 122 (.iload_n 1) 1 123 := ⟨by decide +kernel, rfl⟩
theorem dX12_laysSpan_123 : Dc cX12_laysSpan 123 (.iload_n 2) 1 124 := ⟨by decide +kernel, rfl⟩
theorem dX12_laysSpan_124 : Dc cX12_laysSpan 124 (.invokevirtual 291) 3 127 := ⟨by decide +kernel, rfl⟩
theorem dX12_laysSpan_127 : Dc cX12_laysSpan 127 (.iadd) 1 128 := ⟨by decide +kernel, rfl⟩
theorem dX12_laysSpan_128 : Dc cX12_laysSpan 128 (.invokevirtual 294) 3 131 := ⟨by decide +kernel, rfl⟩
theorem djX12_laysSpan_131 : Dj cX12_laysSpan 131 (.ifCond .ne 7) 3 134 7 138 := ⟨by decide +kernel, rfl, by decide⟩
theorem dX12_laysSpan_134 : Dc cX12_laysSpan 134 (.iload_n 3) 1 135 := ⟨by decide +kernel, rfl⟩
theorem djX12_laysSpan_135 : Dj cX12_laysSpan 135 (.ifCond .eq 7) 3 138 7 142 := ⟨by decide +kernel, rfl, by decide⟩
theorem dX12_laysSpan_138 : Dc cX12_laysSpan 138 (.iconst 1) 1 139 := ⟨by decide +kernel, rfl⟩
theorem djX12_laysSpan_139 : Dj cX12_laysSpan 139 (.goto 4) 3 142 4 143 := ⟨by decide +kernel, rfl, by decide⟩
theorem dX12_laysSpan_142 : Dc cX12_laysSpan 142 (.iconst 0) 1 143 := ⟨by decide +kernel, rfl⟩
theorem dX12_laysSpan_143 : Dc cX12_laysSpan 143 (.istore_n 3) 1 144 := ⟨by decide +kernel, rfl⟩
theorem dX12_laysSpan_144 : Dc cX12_laysSpan 144 (.iinc 4 1) 3 147 := ⟨by decide +kernel, rfl⟩
theorem djX12_laysSpan_147 : Dj cX12_laysSpan 147 (.goto (-95)) 3 150 (-95) 52 := ⟨by decide +kernel, rfl, by decide⟩
theorem djX12_laysSpan_150 : Dj cX12_laysSpan 150 (.goto (-107)) 3 153 (-107) 43 := ⟨by decide +kernel, rfl, by decide⟩
theorem dX12_laysSpan_153 : Dc cX12_laysSpan 153 (.return_) 1 154 := ⟨by decide +kernel, rfl⟩
section
variable {p : Program} {l : Launch} {e : Env} {s : State} {m : MethodId} {args : Array Value} {below : List Frame} {meth : Method} {c : Code} {A0 : Nat → Prop} {D : va_G} {cA : Nat → ClassId} {ad : Nat → Nat} {Z : (Nat → Nat) × (Nat → Nat)} {Q : Int → St → Prop}
set_option maxHeartbeats 4000000 in
set_option maxRecDepth 100000 in
theorem t_X12_laysSpan_b35 (E : Ev p s m args meth c cX12_laysSpan 5 RX12 A0 D cA ad NR Z) (hr : meth.sig.returnType = none) {K2 : Int → Int → Int → St → Prop} (hK2 : ∀ (x1 : Int) (x2 : Int) (x3 : Int) (σ : St), C32 x1 → C32 x2 → C32 x3 → CanS shR NR σ → K2 x1 x2 x3 σ → G p l e (rmL 4 0 0) s m args below meth c 5 A0 D cA ad shR NR 0 0 (MQ below (QVc D cA ad shR NR Q A0) args s 0 0 A0) σ 2 [some (.ref (ad 0)), some (vI x1), some (vI x2), some (vI x3), none] []) (x1 : Int) (x2 : Int) (x3 : Int) (σ : St) (c1 : C32 x1) (c2 : C32 x2) (c3 : C32 x3) (hσ : CanS shR NR σ) (h : wp_X12_laysSpan_b35 Q K2 x1 x2 x3 σ) : G p l e (rmL 4 0 0) s m args below meth c 5 A0 D cA ad shR NR 0 0 (MQ below (QVc D cA ad shR NR Q A0) args s 0 0 A0) σ 35 [some (.ref (ad 0)), some (vI x1), some (vI x2), some (vI x3), none] [] := by
  unfold wp_X12_laysSpan_b35 at h
  refine g_iinc_3 E rfl (by decide) dX12_laysSpan_35 (fun v5 ev5 => ?_)
  replace h := h v5 ev5
  have cv5 : C32 v5 := by rw [ev5]; exact c32_w _
  refine g_goto E djX12_laysSpan_38 ?_
  exact (hK2 x1 x2 v5 σ c1 c2 cv5 hσ h).weak (w_k (w_k (w_k (w_k (w_d w_n)))))
set_option maxHeartbeats 4000000 in
set_option maxRecDepth 100000 in
theorem t_X12_laysSpan_b144 (E : Ev p s m args meth c cX12_laysSpan 5 RX12 A0 D cA ad NR Z) (hr : meth.sig.returnType = none) {K43 : Int → Int → Int → St → Prop} (hK43 : ∀ (x1 : Int) (x2 : Int) (x3 : Int) (σ : St), C32 x1 → C32 x2 → C32 x3 → CanS shR NR σ → K43 x1 x2 x3 σ → G p l e (rmL 4 0 0) s m args below meth c 5 A0 D cA ad shR NR 0 0 (MQ below (QVc D cA ad shR NR Q A0) args s 0 0 A0) σ 43 [some (.ref (ad 0)), some (vI x1), some (vI x2), some (vI x3), none] []) {K52 : Int → Int → Int → Int → St → Prop} (hK52 : ∀ (x1 : Int) (x2 : Int) (x3 : Int) (x4 : Int) (σ : St), C32 x1 → C32 x2 → C32 x3 → C32 x4 → CanS shR NR σ → K52 x1 x2 x3 x4 σ → G p l e (rmL 4 0 0) s m args below meth c 5 A0 D cA ad shR NR 0 0 (MQ below (QVc D cA ad shR NR Q A0) args s 0 0 A0) σ 52 [some (.ref (ad 0)), some (vI x1), some (vI x2), some (vI x3), some (vI x4)] []) (x1 : Int) (x2 : Int) (x3 : Int) (x4 : Int) (σ : St) (c1 : C32 x1) (c2 : C32 x2) (c3 : C32 x3) (c4 : C32 x4) (hσ : CanS shR NR σ) (h : wp_X12_laysSpan_b144 Q K43 K52 x1 x2 x3 x4 σ) : G p l e (rmL 4 0 0) s m args below meth c 5 A0 D cA ad shR NR 0 0 (MQ below (QVc D cA ad shR NR Q A0) args s 0 0 A0) σ 144 [some (.ref (ad 0)), some (vI x1), some (vI x2), some (vI x3), some (vI x4)] [] := by
  unfold wp_X12_laysSpan_b144 at h
  refine g_iinc_4 E rfl (by decide) dX12_laysSpan_144 (fun v14 ev14 => ?_)
  replace h := h v14 ev14
  have cv14 : C32 v14 := by rw [ev14]; exact c32_w _
  refine g_goto E djX12_laysSpan_147 ?_
  exact (hK52 x1 x2 x3 v14 σ c1 c2 c3 cv14 hσ h).weak (w_k (w_k (w_k (w_k (w_k w_n)))))
set_option maxHeartbeats 4000000 in
set_option maxRecDepth 100000 in
theorem t_X12_laysSpan_b143 (E : Ev p s m args meth c cX12_laysSpan 5 RX12 A0 D cA ad NR Z) (hr : meth.sig.returnType = none) {K43 : Int → Int → Int → St → Prop} (hK43 : ∀ (x1 : Int) (x2 : Int) (x3 : Int) (σ : St), C32 x1 → C32 x2 → C32 x3 → CanS shR NR σ → K43 x1 x2 x3 σ → G p l e (rmL 4 0 0) s m args below meth c 5 A0 D cA ad shR NR 0 0 (MQ below (QVc D cA ad shR NR Q A0) args s 0 0 A0) σ 43 [some (.ref (ad 0)), some (vI x1), some (vI x2), some (vI x3), none] []) {K52 : Int → Int → Int → Int → St → Prop} (hK52 : ∀ (x1 : Int) (x2 : Int) (x3 : Int) (x4 : Int) (σ : St), C32 x1 → C32 x2 → C32 x3 → C32 x4 → CanS shR NR σ → K52 x1 x2 x3 x4 σ → G p l e (rmL 4 0 0) s m args below meth c 5 A0 D cA ad shR NR 0 0 (MQ below (QVc D cA ad shR NR Q A0) args s 0 0 A0) σ 52 [some (.ref (ad 0)), some (vI x1), some (vI x2), some (vI x3), some (vI x4)] []) (x1 : Int) (x2 : Int) (x4 : Int) (s0 : Int) (σ : St) (c1 : C32 x1) (c2 : C32 x2) (c4 : C32 x4) (cs0 : C32 s0) (hσ : CanS shR NR σ) (h : wp_X12_laysSpan_b143 Q K43 K52 x1 x2 x4 s0 σ) : G p l e (rmL 4 0 0) s m args below meth c 5 A0 D cA ad shR NR 0 0 (MQ below (QVc D cA ad shR NR Q A0) args s 0 0 A0) σ 143 [some (.ref (ad 0)), some (vI x1), some (vI x2), none, some (vI x4)] [vI s0] := by
  unfold wp_X12_laysSpan_b143 at h
  refine g_istore_3 E rfl (by decide) dX12_laysSpan_143 ?_
  exact (t_X12_laysSpan_b144 E hr hK43 hK52 x1 x2 s0 x4 σ c1 c2 cs0 c4 hσ h).weak (w_k (w_k (w_k (w_k (w_k w_n)))))
set_option maxHeartbeats 4000000 in
set_option maxRecDepth 100000 in
theorem t_X12_laysSpan_b138 (E : Ev p s m args meth c cX12_laysSpan 5 RX12 A0 D cA ad NR Z) (hr : meth.sig.returnType = none) {K43 : Int → Int → Int → St → Prop} (hK43 : ∀ (x1 : Int) (x2 : Int) (x3 : Int) (σ : St), C32 x1 → C32 x2 → C32 x3 → CanS shR NR σ → K43 x1 x2 x3 σ → G p l e (rmL 4 0 0) s m args below meth c 5 A0 D cA ad shR NR 0 0 (MQ below (QVc D cA ad shR NR Q A0) args s 0 0 A0) σ 43 [some (.ref (ad 0)), some (vI x1), some (vI x2), some (vI x3), none] []) {K52 : Int → Int → Int → Int → St → Prop} (hK52 : ∀ (x1 : Int) (x2 : Int) (x3 : Int) (x4 : Int) (σ : St), C32 x1 → C32 x2 → C32 x3 → C32 x4 → CanS shR NR σ → K52 x1 x2 x3 x4 σ → G p l e (rmL 4 0 0) s m args below meth c 5 A0 D cA ad shR NR 0 0 (MQ below (QVc D cA ad shR NR Q A0) args s 0 0 A0) σ 52 [some (.ref (ad 0)), some (vI x1), some (vI x2), some (vI x3), some (vI x4)] []) (x1 : Int) (x2 : Int) (x4 : Int) (σ : St) (c1 : C32 x1) (c2 : C32 x2) (c4 : C32 x4) (hσ : CanS shR NR σ) (h : wp_X12_laysSpan_b138 Q K43 K52 x1 x2 x4 σ) : G p l e (rmL 4 0 0) s m args below meth c 5 A0 D cA ad shR NR 0 0 (MQ below (QVc D cA ad shR NR Q A0) args s 0 0 A0) σ 138 [some (.ref (ad 0)), some (vI x1), some (vI x2), none, some (vI x4)] [] := by
  unfold wp_X12_laysSpan_b138 at h
  refine g_iconst E dX12_laysSpan_138 ?_
  refine g_goto E djX12_laysSpan_139 ?_
  exact (t_X12_laysSpan_b143 E hr hK43 hK52 x1 x2 x4 1 σ c1 c2 c4 cl_1 hσ h).weak (w_k (w_k (w_k (w_d (w_k w_n)))))
set_option maxHeartbeats 4000000 in
set_option maxRecDepth 100000 in
theorem t_X12_laysSpan_l52 (E : Ev p s m args meth c cX12_laysSpan 5 RX12 A0 D cA ad NR Z) (hr : meth.sig.returnType = none) {K43 : Int → Int → Int → St → Prop} (hK43 : ∀ (x1 : Int) (x2 : Int) (x3 : Int) (σ : St), C32 x1 → C32 x2 → C32 x3 → CanS shR NR σ → K43 x1 x2 x3 σ → G p l e (rmL 4 0 0) s m args below meth c 5 A0 D cA ad shR NR 0 0 (MQ below (QVc D cA ad shR NR Q A0) args s 0 0 A0) σ 43 [some (.ref (ad 0)), some (vI x1), some (vI x2), some (vI x3), none] []) : ∀ (n : Nat) (x1 : Int) (x2 : Int) (x3 : Int) (x4 : Int) (σ : St), C32 x1 → C32 x2 → C32 x3 → C32 x4 → CanS shR NR σ → wp_X12_laysSpan_l52 Q K43 n x1 x2 x3 x4 σ → G p l e (rmL 4 0 0) s m args below meth c 5 A0 D cA ad shR NR 0 0 (MQ below (QVc D cA ad shR NR Q A0) args s 0 0 A0) σ 52 [some (.ref (ad 0)), some (vI x1), some (vI x2), some (vI x3), some (vI x4)] [] := by
  intro n
  induction n with
  | zero => intro _ _ _ _ _ _ _ _ _ _ h; exact h.elim
  | succ n ih =>
    intro x1 x2 x3 x4 σ c1 c2 c3 c4 hσ h
    unfold wp_X12_laysSpan_l52 at h
    refine g_iload_4 E dX12_laysSpan_52 ?_
    refine g_aload_0 E dX12_laysSpan_54 ?_
    refine g_getI E fl_RX12_252 kR_0 sR_0 rfl dX12_laysSpan_55 ?_
    refine g_icmp_ge E c4 (fR_0_1 hσ) djX12_laysSpan_58 (fun hc => ?_) (fun hc => ?_)
    · replace h := h.1 hc
      refine g_goto E djX12_laysSpan_150 ?_
      exact (hK43 x1 x2 x3 σ c1 c2 c3 hσ h).weak (w_k (w_k (w_k (w_k (w_d w_n)))))
    · replace h := h.2 hc
      refine g_aload_0 E dX12_laysSpan_61 ?_
      refine g_iload_4 E dX12_laysSpan_62 ?_
      refine g_callvI E my_X12_isIn mi_X12_isIn msel_X12_isIn ml_RX12_298 (rm_ok (by decide) (by decide)) ⟨Nat.zero_le _, Nat.zero_le _⟩ kR_0 sR_0 rfl (m_X12_isIn E.2.2.1 c4 hσ h) rfl rfl (Nat.le_of_ble_eq_true rfl) dX12_laysSpan_64 (fun r6 σ7 cr6 hσ7 h => ?_)
      refine g_if_eq E cr6 djX12_laysSpan_67 (fun hc => ?_) (fun hc => ?_)
      · replace h := h.1 hc
        exact (t_X12_laysSpan_b144 E hr hK43 ih x1 x2 x3 x4 σ7 c1 c2 c3 c4 hσ7 h).weak (w_k (w_k (w_k (w_k (w_k w_n)))))
      · replace h := h.2 hc
        refine g_aload_0 E dX12_laysSpan_70 ?_
        refine g_getR E fl_RX12_20 kR_0 sR_0 rfl dX12_laysSpan_71 ?_
        refine g_iload_4 E dX12_laysSpan_74 ?_
        refine g_iald E kR_3 sR_3 (by decide) h.1 dX12_laysSpan_76 ?_
        replace h := h.2
        refine g_iconst E dX12_laysSpan_77 ?_
        refine g_icmp_ne E (aR_3 hσ7 _) cl_m1 djX12_laysSpan_78 (fun hc => ?_) (fun hc => ?_)
        · replace h := h.1 hc
          exact (t_X12_laysSpan_b144 E hr hK43 ih x1 x2 x3 x4 σ7 c1 c2 c3 c4 hσ7 h).weak (w_k (w_k (w_k (w_k (w_k w_n)))))
        · replace h := h.2 hc
          refine g_aload_0 E dX12_laysSpan_81 ?_
          refine g_aload_0 E dX12_laysSpan_82 ?_
          refine g_getR E fl_RX12_17 kR_0 sR_0 rfl dX12_laysSpan_83 ?_
          refine g_iload_4 E dX12_laysSpan_86 ?_
          refine g_iald E kR_2 sR_2 (by decide) h.1 dX12_laysSpan_88 ?_
          replace h := h.2
          refine g_iload_1 E dX12_laysSpan_89 ?_
          refine g_iload_2 E dX12_laysSpan_90 ?_
          refine g_callvI E my_X12_fits mi_X12_fits msel_X12_fits ml_RX12_287 (rm_ok (by decide) (by decide)) ⟨Nat.zero_le _, Nat.zero_le _⟩ kR_0 sR_0 rfl (m_X12_fits E.2.2.1 (aR_2 hσ7 _) c1 c2 hσ7 h) rfl rfl (Nat.le_of_ble_eq_true rfl) dX12_laysSpan_91 (fun r8 σ9 cr8 hσ9 h => ?_)
          refine g_if_eq E cr8 djX12_laysSpan_94 (fun hc => ?_) (fun hc => ?_)
          · replace h := h.1 hc
            exact (t_X12_laysSpan_b144 E hr hK43 ih x1 x2 x3 x4 σ9 c1 c2 c3 c4 hσ9 h).weak (w_k (w_k (w_k (w_k (w_k w_n)))))
          · replace h := h.2 hc
            refine g_aload_0 E dX12_laysSpan_97 ?_
            refine g_aload_0 E dX12_laysSpan_98 ?_
            refine g_getR E fl_RX12_13 kR_0 sR_0 rfl dX12_laysSpan_99 ?_
            refine g_iload_4 E dX12_laysSpan_102 ?_
            refine g_iald E kR_1 sR_1 (by decide) h.1 dX12_laysSpan_104 ?_
            replace h := h.2
            refine g_iload_1 E dX12_laysSpan_105 ?_
            refine g_iload_2 E dX12_laysSpan_106 ?_
            refine g_aload_0 E dX12_laysSpan_107 ?_
            refine g_getR E fl_RX12_23 kR_0 sR_0 rfl dX12_laysSpan_108 ?_
            refine g_iload_4 E dX12_laysSpan_111 ?_
            refine g_iald E kR_4 sR_4 (by decide) h.1 dX12_laysSpan_113 ?_
            replace h := h.2
            refine g_aload_0 E dX12_laysSpan_114 ?_
            refine g_aload_0 E dX12_laysSpan_115 ?_
            refine g_getR E fl_RX12_17 kR_0 sR_0 rfl dX12_laysSpan_116 ?_
            refine g_iload_4 E dX12_laysSpan_119 ?_
            refine g_iald E kR_2 sR_2 (by decide) h.1 dX12_laysSpan_121 ?_
            replace h := h.2
            refine g_iload_1 E dX12_laysSpan_122 ?_
            refine g_iload_2 E dX12_laysSpan_123 ?_
            refine g_callvI E my_X12_leastPart mi_X12_leastPart msel_X12_leastPart ml_RX12_291 (rm_ok (by decide) (by decide)) ⟨Nat.zero_le _, Nat.zero_le _⟩ kR_0 sR_0 rfl (m_X12_leastPart E.2.2.1 (aR_2 hσ9 _) c1 c2 hσ9 h) rfl rfl (Nat.le_of_ble_eq_true rfl) dX12_laysSpan_124 (fun r10 σ11 cr10 hσ11 h => ?_)
            refine g_iadd E dX12_laysSpan_127 ?_
            refine g_callvI E my_X12_lowers mi_X12_lowers msel_X12_lowers ml_RX12_294 (rm_ok (by decide) (by decide)) ⟨Nat.zero_le _, Nat.zero_le _⟩ kR_0 sR_0 rfl (m_X12_lowers E.2.2.1 (aR_1 hσ9 _) c1 c2 (c32_w _) hσ11 h) rfl rfl (Nat.le_of_ble_eq_true rfl) dX12_laysSpan_128 (fun r12 σ13 cr12 hσ13 h => ?_)
            refine g_if_ne E cr12 djX12_laysSpan_131 (fun hc => ?_) (fun hc => ?_)
            · replace h := h.1 hc
              exact (t_X12_laysSpan_b138 E hr hK43 ih x1 x2 x4 σ13 c1 c2 c4 hσ13 h).weak (w_k (w_k (w_k (w_d (w_k w_n)))))
            · replace h := h.2 hc
              refine g_iload_3 E dX12_laysSpan_134 ?_
              refine g_if_eq E c3 djX12_laysSpan_135 (fun hc => ?_) (fun hc => ?_)
              · replace h := h.1 hc
                refine g_iconst E dX12_laysSpan_142 ?_
                exact (t_X12_laysSpan_b143 E hr hK43 ih x1 x2 x4 0 σ13 c1 c2 c4 cl_0 hσ13 h).weak (w_k (w_k (w_k (w_d (w_k w_n)))))
              · replace h := h.2 hc
                exact (t_X12_laysSpan_b138 E hr hK43 ih x1 x2 x4 σ13 c1 c2 c4 hσ13 h).weak (w_k (w_k (w_k (w_d (w_k w_n)))))
set_option maxHeartbeats 4000000 in
set_option maxRecDepth 100000 in
theorem t_X12_laysSpan_l43 (E : Ev p s m args meth c cX12_laysSpan 5 RX12 A0 D cA ad NR Z) (hr : meth.sig.returnType = none) : ∀ (n : Nat) (x1 : Int) (x2 : Int) (x3 : Int) (σ : St), C32 x1 → C32 x2 → C32 x3 → CanS shR NR σ → wp_X12_laysSpan_l43 Q n x1 x2 x3 σ → G p l e (rmL 4 0 0) s m args below meth c 5 A0 D cA ad shR NR 0 0 (MQ below (QVc D cA ad shR NR Q A0) args s 0 0 A0) σ 43 [some (.ref (ad 0)), some (vI x1), some (vI x2), some (vI x3), none] [] := by
  intro n
  induction n with
  | zero => intro _ _ _ _ _ _ _ _ h; exact h.elim
  | succ n ih =>
    intro x1 x2 x3 σ c1 c2 c3 hσ h
    unfold wp_X12_laysSpan_l43 at h
    refine g_iload_3 E dX12_laysSpan_43 ?_
    refine g_if_eq E c3 djX12_laysSpan_44 (fun hc => ?_) (fun hc => ?_)
    · replace h := h.1 hc
      exact g_vret E hr h hσ dX12_laysSpan_153
    · replace h := h.2 hc
      refine g_iconst E dX12_laysSpan_47 ?_
      refine g_istore_3 E rfl (by decide) dX12_laysSpan_48 ?_
      refine g_iconst E dX12_laysSpan_49 ?_
      refine g_istore_4 E rfl (by decide) dX12_laysSpan_50 ?_
      exact (t_X12_laysSpan_l52 E hr ih bigN x1 x2 0 0 σ c1 c2 cl_0 cl_0 hσ h).weak (w_k (w_k (w_k (w_k (w_k w_n)))))
set_option maxHeartbeats 4000000 in
set_option maxRecDepth 100000 in
theorem t_X12_laysSpan_l2 (E : Ev p s m args meth c cX12_laysSpan 5 RX12 A0 D cA ad NR Z) (hr : meth.sig.returnType = none) : ∀ (n : Nat) (x1 : Int) (x2 : Int) (x3 : Int) (σ : St), C32 x1 → C32 x2 → C32 x3 → CanS shR NR σ → wp_X12_laysSpan_l2 Q n x1 x2 x3 σ → G p l e (rmL 4 0 0) s m args below meth c 5 A0 D cA ad shR NR 0 0 (MQ below (QVc D cA ad shR NR Q A0) args s 0 0 A0) σ 2 [some (.ref (ad 0)), some (vI x1), some (vI x2), some (vI x3), none] [] := by
  intro n
  induction n with
  | zero => intro _ _ _ _ _ _ _ _ h; exact h.elim
  | succ n ih =>
    intro x1 x2 x3 σ c1 c2 c3 hσ h
    unfold wp_X12_laysSpan_l2 at h
    refine g_iload_3 E dX12_laysSpan_2 ?_
    refine g_aload_0 E dX12_laysSpan_3 ?_
    refine g_getI E fl_RX12_252 kR_0 sR_0 rfl dX12_laysSpan_4 ?_
    refine g_icmp_ge E c3 (fR_0_1 hσ) djX12_laysSpan_7 (fun hc => ?_) (fun hc => ?_)
    · replace h := h.1 hc
      refine g_iconst E dX12_laysSpan_41 ?_
      refine g_istore_3 E rfl (by decide) dX12_laysSpan_42 ?_
      exact (t_X12_laysSpan_l43 E hr bigN x1 x2 1 σ c1 c2 cl_1 hσ h).weak (w_k (w_k (w_k (w_k (w_d w_n)))))
    · replace h := h.2 hc
      refine g_aload_0 E dX12_laysSpan_10 ?_
      refine g_iload_3 E dX12_laysSpan_11 ?_
      refine g_callvI E my_X12_isIn mi_X12_isIn msel_X12_isIn ml_RX12_298 (rm_ok (by decide) (by decide)) ⟨Nat.zero_le _, Nat.zero_le _⟩ kR_0 sR_0 rfl (m_X12_isIn E.2.2.1 c3 hσ h) rfl rfl (Nat.le_of_ble_eq_true rfl) dX12_laysSpan_12 (fun r1 σ2 cr1 hσ2 h => ?_)
      refine g_if_eq E cr1 djX12_laysSpan_15 (fun hc => ?_) (fun hc => ?_)
      · replace h := h.1 hc
        exact (t_X12_laysSpan_b35 E hr ih x1 x2 x3 σ2 c1 c2 c3 hσ2 h).weak (w_k (w_k (w_k (w_k (w_d w_n)))))
      · replace h := h.2 hc
        refine g_aload_0 E dX12_laysSpan_18 ?_
        refine g_getR E fl_RX12_20 kR_0 sR_0 rfl dX12_laysSpan_19 ?_
        refine g_iload_3 E dX12_laysSpan_22 ?_
        refine g_iald E kR_3 sR_3 (by decide) h.1 dX12_laysSpan_23 ?_
        replace h := h.2
        refine g_iconst E dX12_laysSpan_24 ?_
        refine g_icmp_eq E (aR_3 hσ2 _) cl_m1 djX12_laysSpan_25 (fun hc => ?_) (fun hc => ?_)
        · replace h := h.1 hc
          exact (t_X12_laysSpan_b35 E hr ih x1 x2 x3 σ2 c1 c2 c3 hσ2 h).weak (w_k (w_k (w_k (w_k (w_d w_n)))))
        · replace h := h.2 hc
          refine g_aload_0 E dX12_laysSpan_28 ?_
          refine g_iload_3 E dX12_laysSpan_29 ?_
          refine g_iload_1 E dX12_laysSpan_30 ?_
          refine g_iload_2 E dX12_laysSpan_31 ?_
          refine g_callvV E my_X12_laysTwos mi_X12_laysTwos msel_X12_laysTwos ml_RX12_301 (rm_ok (by decide) (by decide)) ⟨Nat.zero_le _, Nat.zero_le _⟩ kR_0 sR_0 rfl (m_X12_laysTwos E.2.2.1 c3 c1 c2 hσ2 h) rfl rfl (Nat.le_of_ble_eq_true rfl) dX12_laysSpan_32 (fun σ4 r3 hσ4 h => ?_)
          exact (t_X12_laysSpan_b35 E hr ih x1 x2 x3 σ4 c1 c2 c3 hσ4 h).weak (w_k (w_k (w_k (w_k (w_d w_n)))))
set_option maxHeartbeats 4000000 in
set_option maxRecDepth 100000 in
theorem t_X12_laysSpan (E : Ev p s m args meth c cX12_laysSpan 5 RX12 A0 D cA ad NR Z) (hr : meth.sig.returnType = none) (x1 : Int) (x2 : Int) (σ : St) (c1 : C32 x1) (c2 : C32 x2) (hσ : CanS shR NR σ) (h : wp_X12_laysSpan x1 x2 σ Q) : G p l e (rmL 4 0 0) s m args below meth c 5 A0 D cA ad shR NR 0 0 (MQ below (QVc D cA ad shR NR Q A0) args s 0 0 A0) σ 0 [some (.ref (ad 0)), some (vI x1), some (vI x2), none, none] [] := by
  unfold wp_X12_laysSpan at h
  refine g_iconst E dX12_laysSpan_0 ?_
  refine g_istore_3 E rfl (by decide) dX12_laysSpan_1 ?_
  exact (t_X12_laysSpan_l2 E hr bigN x1 x2 0 σ c1 c2 cl_0 hσ h).weak (w_k (w_k (w_k (w_k (w_d w_n)))))
end
theorem m_X12_laysSpan {Z : (Nat → Nat) × (Nat → Nat)} {l : Launch} {D : va_G} {cA : Nat → ClassId} {ad : Nat → Nat} {x1 x2 : Int} {σ : St} {Q : Int → St → Prop} (hA : AdOk NR ad) (c1 : C32 x1) (c2 : C32 x2) (hσ : CanS shR NR σ) (h : wp_X12_laysSpan x1 x2 σ Q) : KtV Z l D cA ad shR NR yX12_laysSpan cX12_laysSpan 5 none 4 [.ref (ad 0), vI x1, vI x2] σ Q :=
  KtV.of my_X12_laysSpan hA [some (.ref (ad 0)), some (vI x1), some (vI x2), none, none] (Nat.le_of_ble_eq_true rfl) rfl (fun p e s m args below meth c A0 E hr => t_X12_laysSpan E hr x1 x2 σ c1 c2 hσ h)
theorem dX12_laysLeast_0 : Dc cX12_laysLeast 0 (.aload_n 0) 1 1 := ⟨by decide +kernel, rfl⟩
theorem dX12_laysLeast_1 : Dc cX12_laysLeast 1 (.lload_n 1) 1 2 := ⟨by decide +kernel, rfl⟩
theorem dX12_laysLeast_2 : Dc cX12_laysLeast 2 (.putfield 279) 3 5 := ⟨by decide +kernel, rfl⟩
theorem dX12_laysLeast_5 : Dc cX12_laysLeast 5 (.iconst 0) 1 6 := ⟨by decide +kernel, rfl⟩
theorem dX12_laysLeast_6 : Dc cX12_laysLeast 6 (.istore_n 3) 1 7 := ⟨by decide +kernel, rfl⟩
theorem dX12_laysLeast_7 : Dc cX12_laysLeast 7 (.iload_n 3) 1 8 := ⟨by decide +kernel, rfl⟩
theorem dX12_laysLeast_8 : Dc cX12_laysLeast 8 (.sipush 768) 3 11 := ⟨by decide +kernel, rfl⟩
theorem djX12_laysLeast_11 : Dj cX12_laysLeast 11 (.if_icmp .ge 18) 3 14 18 29 := ⟨by decide +kernel, rfl, by decide⟩
theorem dX12_laysLeast_14 : Dc cX12_laysLeast 14 (.aload_n 0) 1 15 := ⟨by decide +kernel, rfl⟩
theorem dX12_laysLeast_15 : Dc cX12_laysLeast 15 (.getfield 60) 3 18 := ⟨by decide +kernel, rfl⟩
theorem dX12_laysLeast_18 : Dc cX12_laysLeast 18 (.iload_n 3) 1 19 := ⟨by decide +kernel, rfl⟩
theorem dX12_laysLeast_19 : Dc cX12_laysLeast 19 (.ldc_w 286) 3 22 := ⟨by decide +kernel, rfl⟩
theorem dX12_laysLeast_22 : Dc cX12_laysLeast 22 (.iastore) 1 23 := ⟨by decide +kernel, rfl⟩
theorem dX12_laysLeast_23 : Dc cX12_laysLeast 23 (.iinc 3 1) 3 26 := ⟨by decide +kernel, rfl⟩
theorem djX12_laysLeast_26 : Dj cX12_laysLeast 26 (.goto (-19)) 3 29 (-19) 7 := ⟨by decide +kernel, rfl, by decide⟩
theorem dX12_laysLeast_29 : Dc cX12_laysLeast 29 (.iconst 1) 1 30 := ⟨by decide +kernel, rfl⟩
theorem dX12_laysLeast_30 : Dc cX12_laysLeast 30 (.istore_n 3) 1 31 := ⟨by decide +kernel, rfl⟩
theorem dX12_laysLeast_31 : Dc cX12_laysLeast 31 (.iload_n 3) 1 32 := ⟨by decide +kernel, rfl⟩
theorem dX12_laysLeast_32 : Dc cX12_laysLeast 32 (.aload_n 0) 1 33 := ⟨by decide +kernel, rfl⟩
theorem dX12_laysLeast_33 : Dc cX12_laysLeast 33 (.getfield 305) 3 36 := ⟨by decide +kernel, rfl⟩
theorem djX12_laysLeast_36 : Dj cX12_laysLeast 36 (.if_icmp .gt 39) 3 39 39 75 := ⟨by decide +kernel, rfl, by decide⟩
theorem dX12_laysLeast_39 : Dc cX12_laysLeast 39 (.iconst 0) 1 40 := ⟨by decide +kernel, rfl⟩
theorem dX12_laysLeast_40 : Dc cX12_laysLeast 40 (.istore 4) 2 42 := ⟨by decide +kernel, rfl⟩
theorem dX12_laysLeast_42 : Dc cX12_laysLeast 42 (.iload 4) 2 44 := ⟨by decide +kernel, rfl⟩
theorem dX12_laysLeast_44 : Dc cX12_laysLeast 44 (.iload_n 3) 1 45 := ⟨by decide +kernel, rfl⟩
theorem dX12_laysLeast_45 : Dc cX12_laysLeast 45 (.iadd) 1 46 := ⟨by decide +kernel, rfl⟩
theorem dX12_laysLeast_46 : Dc cX12_laysLeast 46 (.aload_n 0) 1 47 := ⟨by decide +kernel, rfl⟩
theorem dX12_laysLeast_47 : Dc cX12_laysLeast 47 (.getfield 305) 3 50 := ⟨by decide +kernel, rfl⟩
theorem djX12_laysLeast_50 : Dj cX12_laysLeast 50 (.if_icmp .gt 19) 3 53 19 69 := ⟨by decide +kernel, rfl, by decide⟩
theorem dX12_laysLeast_53 : Dc cX12_laysLeast 53 (.aload_n 0) 1 54 := ⟨by decide +kernel, rfl⟩
theorem dX12_laysLeast_54 : Dc cX12_laysLeast 54 (.iload 4) 2 56 := ⟨by decide +kernel, rfl⟩
theorem dX12_laysLeast_56 : Dc cX12_laysLeast 56 (.iload 4) 2 58 := ⟨by decide +kernel, rfl⟩
theorem dX12_laysLeast_58 : Dc cX12_laysLeast 58 (.iload_n 3) 1 59 := ⟨by decide +kernel, rfl⟩
theorem dX12_laysLeast_59 : Dc cX12_laysLeast 59 (.iadd) 1 60 := ⟨by decide +kernel, rfl⟩
theorem dX12_laysLeast_60 : Dc cX12_laysLeast 60 (.invokevirtual 308) 3 63 := ⟨by decide +kernel, rfl⟩
theorem dX12_laysLeast_63 : Dc cX12_laysLeast 63 (.iinc 4 1) 3 66 := ⟨by decide +kernel, rfl⟩
theorem djX12_laysLeast_66 : Dj cX12_laysLeast 66 (.goto (-24)) 3 69 (-24) 42 := ⟨by decide +kernel, rfl, by decide⟩
theorem dX12_laysLeast_69 : Dc cX12_laysLeast 69 (.iinc 3 1) 3 72 := ⟨by decide +kernel, rfl⟩
theorem djX12_laysLeast_72 : Dj cX12_laysLeast 72 (.goto (-41)) 3 75 (-41) 31 := ⟨by decide +kernel, rfl, by decide⟩
theorem dX12_laysLeast_75 : Dc cX12_laysLeast 75 (.return_) 1 76 := ⟨by decide +kernel, rfl⟩
section
variable {p : Program} {l : Launch} {e : Env} {s : State} {m : MethodId} {args : Array Value} {below : List Frame} {meth : Method} {c : Code} {A0 : Nat → Prop} {D : va_G} {cA : Nat → ClassId} {ad : Nat → Nat} {Z : (Nat → Nat) × (Nat → Nat)} {Q : Int → St → Prop}
set_option maxHeartbeats 4000000 in
set_option maxRecDepth 100000 in
theorem t_X12_laysLeast_l42 (E : Ev p s m args meth c cX12_laysLeast 5 RX12 A0 D cA ad NR Z) (hr : meth.sig.returnType = none) {K31 : Int → St → Prop} (hK31 : ∀ (x3 : Int) (σ : St), C32 x3 → CanS shR NR σ → K31 x3 σ → G p l e (rmL 5 0 0) s m args below meth c 5 A0 D cA ad shR NR 0 0 (MQ below (QVc D cA ad shR NR Q A0) args s 0 0 A0) σ 31 [some (.ref (ad 0)), none, none, some (vI x3), none] []) : ∀ (n : Nat) (x3 : Int) (x4 : Int) (σ : St), C32 x3 → C32 x4 → CanS shR NR σ → wp_X12_laysLeast_l42 Q K31 n x3 x4 σ → G p l e (rmL 5 0 0) s m args below meth c 5 A0 D cA ad shR NR 0 0 (MQ below (QVc D cA ad shR NR Q A0) args s 0 0 A0) σ 42 [some (.ref (ad 0)), none, none, some (vI x3), some (vI x4)] [] := by
  intro n
  induction n with
  | zero => intro _ _ _ _ _ _ h; exact h.elim
  | succ n ih =>
    intro x3 x4 σ c3 c4 hσ h
    unfold wp_X12_laysLeast_l42 at h
    refine g_iload_4 E dX12_laysLeast_42 ?_
    refine g_iload_3 E dX12_laysLeast_44 ?_
    refine g_iadd E dX12_laysLeast_45 ?_
    refine g_aload_0 E dX12_laysLeast_46 ?_
    refine g_getI E fl_RX12_305 kR_0 sR_0 rfl dX12_laysLeast_47 ?_
    refine g_icmp_gt E (c32_w _) (fR_0_27 hσ) djX12_laysLeast_50 (fun hc => ?_) (fun hc => ?_)
    · replace h := h.1 hc
      refine g_iinc_3 E rfl (by decide) dX12_laysLeast_69 (fun v4 ev4 => ?_)
      replace h := h v4 ev4
      have cv4 : C32 v4 := by rw [ev4]; exact c32_w _
      refine g_goto E djX12_laysLeast_72 ?_
      exact (hK31 v4 σ cv4 hσ h).weak (w_k (w_d (w_d (w_k (w_d w_n)))))
    · replace h := h.2 hc
      refine g_aload_0 E dX12_laysLeast_53 ?_
      refine g_iload_4 E dX12_laysLeast_54 ?_
      refine g_iload_4 E dX12_laysLeast_56 ?_
      refine g_iload_3 E dX12_laysLeast_58 ?_
      refine g_iadd E dX12_laysLeast_59 ?_
      refine g_callvV E my_X12_laysSpan mi_X12_laysSpan msel_X12_laysSpan ml_RX12_308 (rm_ok (by decide) (by decide)) ⟨Nat.zero_le _, Nat.zero_le _⟩ kR_0 sR_0 rfl (m_X12_laysSpan E.2.2.1 c4 (c32_w _) hσ h) rfl rfl (Nat.le_of_ble_eq_true rfl) dX12_laysLeast_60 (fun σ6 r5 hσ6 h => ?_)
      refine g_iinc_4 E rfl (by decide) dX12_laysLeast_63 (fun v7 ev7 => ?_)
      replace h := h v7 ev7
      have cv7 : C32 v7 := by rw [ev7]; exact c32_w _
      refine g_goto E djX12_laysLeast_66 ?_
      exact (ih x3 v7 σ6 c3 cv7 hσ6 h).weak (w_k (w_d (w_d (w_k (w_k w_n)))))
set_option maxHeartbeats 4000000 in
set_option maxRecDepth 100000 in
theorem t_X12_laysLeast_l31 (E : Ev p s m args meth c cX12_laysLeast 5 RX12 A0 D cA ad NR Z) (hr : meth.sig.returnType = none) : ∀ (n : Nat) (x3 : Int) (σ : St), C32 x3 → CanS shR NR σ → wp_X12_laysLeast_l31 Q n x3 σ → G p l e (rmL 5 0 0) s m args below meth c 5 A0 D cA ad shR NR 0 0 (MQ below (QVc D cA ad shR NR Q A0) args s 0 0 A0) σ 31 [some (.ref (ad 0)), none, none, some (vI x3), none] [] := by
  intro n
  induction n with
  | zero => intro _ _ _ _ h; exact h.elim
  | succ n ih =>
    intro x3 σ c3 hσ h
    unfold wp_X12_laysLeast_l31 at h
    refine g_iload_3 E dX12_laysLeast_31 ?_
    refine g_aload_0 E dX12_laysLeast_32 ?_
    refine g_getI E fl_RX12_305 kR_0 sR_0 rfl dX12_laysLeast_33 ?_
    refine g_icmp_gt E c3 (fR_0_27 hσ) djX12_laysLeast_36 (fun hc => ?_) (fun hc => ?_)
    · replace h := h.1 hc
      exact g_vret E hr h hσ dX12_laysLeast_75
    · replace h := h.2 hc
      refine g_iconst E dX12_laysLeast_39 ?_
      refine g_istore_4 E rfl (by decide) dX12_laysLeast_40 ?_
      exact (t_X12_laysLeast_l42 E hr ih bigN x3 0 σ c3 cl_0 hσ h).weak (w_k (w_d (w_d (w_k (w_k w_n)))))
set_option maxHeartbeats 4000000 in
set_option maxRecDepth 100000 in
theorem t_X12_laysLeast_l7 (E : Ev p s m args meth c cX12_laysLeast 5 RX12 A0 D cA ad NR Z) (hr : meth.sig.returnType = none) : ∀ (n : Nat) (x3 : Int) (σ : St), C32 x3 → CanS shR NR σ → wp_X12_laysLeast_l7 Q n x3 σ → G p l e (rmL 5 0 0) s m args below meth c 5 A0 D cA ad shR NR 0 0 (MQ below (QVc D cA ad shR NR Q A0) args s 0 0 A0) σ 7 [some (.ref (ad 0)), none, none, some (vI x3), none] [] := by
  intro n
  induction n with
  | zero => intro _ _ _ _ h; exact h.elim
  | succ n ih =>
    intro x3 σ c3 hσ h
    unfold wp_X12_laysLeast_l7 at h
    refine g_iload_3 E dX12_laysLeast_7 ?_
    refine g_sipush E (by decide) dX12_laysLeast_8 ?_
    refine g_icmp_ge E c3 cl_768 djX12_laysLeast_11 (fun hc => ?_) (fun hc => ?_)
    · replace h := h.1 hc
      refine g_iconst E dX12_laysLeast_29 ?_
      refine g_istore_3 E rfl (by decide) dX12_laysLeast_30 ?_
      exact (t_X12_laysLeast_l31 E hr bigN 1 σ cl_1 hσ h).weak (w_k (w_d (w_d (w_k (w_d w_n)))))
    · replace h := h.2 hc
      refine g_aload_0 E dX12_laysLeast_14 ?_
      refine g_getR E fl_RX12_60 kR_0 sR_0 rfl dX12_laysLeast_15 ?_
      refine g_iload_3 E dX12_laysLeast_18 ?_
      refine g_ldcw (n := 1000000000) E wc_RX12_286 dX12_laysLeast_19 ?_
      refine g_iast E kR_15 sR_15 (by decide) h.1 dX12_laysLeast_22 (g_nmS (fun σ2 eσ2 => ?_))
      replace h := h.2 σ2 eσ2
      have hσ2 : CanS shR NR σ2 := by rw [eσ2]; exact wR_15 hσ cl_1000000000
      refine g_iinc_3 E rfl (by decide) dX12_laysLeast_23 (fun v3 ev3 => ?_)
      replace h := h v3 ev3
      have cv3 : C32 v3 := by rw [ev3]; exact c32_w _
      refine g_goto E djX12_laysLeast_26 ?_
      exact (ih v3 σ2 cv3 hσ2 h).weak (w_k (w_d (w_d (w_k (w_d w_n)))))
set_option maxHeartbeats 4000000 in
set_option maxRecDepth 100000 in
theorem t_X12_laysLeast (E : Ev p s m args meth c cX12_laysLeast 5 RX12 A0 D cA ad NR Z) (hr : meth.sig.returnType = none) (x1 : Int) (σ : St) (c1 : C64 x1) (hσ : CanS shR NR σ) (h : wp_X12_laysLeast x1 σ Q) : G p l e (rmL 5 0 0) s m args below meth c 5 A0 D cA ad shR NR 0 0 (MQ below (QVc D cA ad shR NR Q A0) args s 0 0 A0) σ 0 [some (.ref (ad 0)), some (vL x1), none, none, none] [] := by
  unfold wp_X12_laysLeast at h
  refine g_aload_0 E dX12_laysLeast_0 ?_
  refine g_lload_1 E dX12_laysLeast_1 ?_
  refine g_putL E fl_RX12_279 rfl rfl kR_0 sR_0 rfl dX12_laysLeast_2 (g_nmS (fun σ1 eσ1 => ?_))
  replace h := h σ1 eσ1
  have hσ1 : CanS shR NR σ1 := by rw [eσ1]; exact uR_0_28 hσ c1
  refine g_iconst E dX12_laysLeast_5 ?_
  refine g_istore_3 E rfl (by decide) dX12_laysLeast_6 ?_
  exact (t_X12_laysLeast_l7 E hr bigN 0 σ1 cl_0 hσ1 h).weak (w_k (w_d (w_d (w_k (w_d w_n)))))
end
theorem m_X12_laysLeast {Z : (Nat → Nat) × (Nat → Nat)} {l : Launch} {D : va_G} {cA : Nat → ClassId} {ad : Nat → Nat} {x1 : Int} {σ : St} {Q : Int → St → Prop} (hA : AdOk NR ad) (c1 : C64 x1) (hσ : CanS shR NR σ) (h : wp_X12_laysLeast x1 σ Q) : KtV Z l D cA ad shR NR yX12_laysLeast cX12_laysLeast 5 none 5 [.ref (ad 0), vL x1] σ Q :=
  KtV.of my_X12_laysLeast hA [some (.ref (ad 0)), some (vL x1), none, none, none] (Nat.le_of_ble_eq_true rfl) rfl (fun p e s m args below meth c A0 E hr => t_X12_laysLeast E hr x1 σ c1 hσ h)
theorem dX12_looks_0 : Dc cX12_looks 0 (.aload_n 0) 1 1 := ⟨by decide +kernel, rfl⟩
theorem dX12_looks_1 : Dc cX12_looks 1 (.aload_n 0) 1 2 := ⟨by decide +kernel, rfl⟩
theorem dX12_looks_2 : Dc cX12_looks 2 (.getfield 259) 3 5 := ⟨by decide +kernel, rfl⟩
theorem dX12_looks_5 : Dc cX12_looks 5 (.putfield 305) 3 8 := ⟨by decide +kernel, rfl⟩
theorem dX12_looks_8 : Dc cX12_looks 8 (.iconst 0) 1 9 := ⟨by decide +kernel, rfl⟩
theorem dX12_looks_9 : Dc cX12_looks 9 (.istore_n 1) 1 10 := ⟨by decide +kernel, rfl⟩
theorem dX12_looks_10 : Dc cX12_looks 10 (.iload_n 1) 1 11 := ⟨by decide +kernel, rfl⟩
theorem dX12_looks_11 : Dc cX12_looks 11 (.aload_n 0) 1 12 := ⟨by decide +kernel, rfl⟩
theorem dX12_looks_12 : Dc cX12_looks 12 (.getfield 305) 3 15 := ⟨by decide +kernel, rfl⟩
theorem djX12_looks_15 : Dj cX12_looks 15 (.if_icmp .ge 21) 3 18 21 36 := ⟨by decide +kernel, rfl, by decide⟩
theorem dX12_looks_18 : Dc cX12_looks 18 (.aload_n 0) 1 19 := ⟨by decide +kernel, rfl⟩
theorem dX12_looks_19 : Dc cX12_looks 19 (.getfield 57) 3 22 := ⟨by decide +kernel, rfl⟩
theorem dX12_looks_22 : Dc cX12_looks 22 (.iload_n 1) 1 23 := ⟨by decide +kernel, rfl⟩
theorem dX12_looks_23 : Dc cX12_looks 23 (.aload_n 0) 1 24 := ⟨by decide +kernel, rfl⟩
theorem dX12_looks_24 : Dc cX12_looks 24 (.getfield 44) 3 27 := ⟨by decide +kernel, rfl⟩
theorem dX12_looks_27 : Dc cX12_looks 27 (.iload_n 1) 1 28 := ⟨by decide +kernel, rfl⟩
theorem dX12_looks_28 : Dc cX12_looks 28 (.iaload) 1 29 := ⟨by decide +kernel, rfl⟩
theorem dX12_looks_29 : Dc cX12_looks 29 (.iastore) 1 30 := ⟨by decide +kernel, rfl⟩
theorem dX12_looks_30 : Dc cX12_looks 30 (.iinc 1 1) 3 33 := ⟨by decide +kernel, rfl⟩
theorem djX12_looks_33 : Dj cX12_looks 33 (.goto (-23)) 3 36 (-23) 10 := ⟨by decide +kernel, rfl, by decide⟩
theorem dX12_looks_36 : Dc cX12_looks 36 (.aload_n 0) 1 37 := ⟨by decide +kernel, rfl⟩
theorem dX12_looks_37 : Dc cX12_looks 37 (.aload_n 0) 1 38 := ⟨by decide +kernel, rfl⟩
theorem dX12_looks_38 : Dc cX12_looks 38 (.getfield 255) 3 41 := ⟨by decide +kernel, rfl⟩
theorem dX12_looks_41 : Dc cX12_looks 41 (.invokevirtual 312) 3 44 := ⟨by decide +kernel, rfl⟩
theorem dX12_looks_44 : Dc cX12_looks 44 (.return_) 1 45 := ⟨by decide +kernel, rfl⟩
section
variable {p : Program} {l : Launch} {e : Env} {s : State} {m : MethodId} {args : Array Value} {below : List Frame} {meth : Method} {c : Code} {A0 : Nat → Prop} {D : va_G} {cA : Nat → ClassId} {ad : Nat → Nat} {Z : (Nat → Nat) × (Nat → Nat)} {Q : Int → St → Prop}
set_option maxHeartbeats 4000000 in
set_option maxRecDepth 100000 in
theorem t_X12_looks_l10 (E : Ev p s m args meth c cX12_looks 2 RX12 A0 D cA ad NR Z) (hr : meth.sig.returnType = none) : ∀ (n : Nat) (x1 : Int) (σ : St), C32 x1 → CanS shR NR σ → wp_X12_looks_l10 Q n x1 σ → G p l e (rmL 6 0 0) s m args below meth c 2 A0 D cA ad shR NR 0 0 (MQ below (QVc D cA ad shR NR Q A0) args s 0 0 A0) σ 10 [some (.ref (ad 0)), some (vI x1)] [] := by
  intro n
  induction n with
  | zero => intro _ _ _ _ h; exact h.elim
  | succ n ih =>
    intro x1 σ c1 hσ h
    unfold wp_X12_looks_l10 at h
    refine g_iload_1 E dX12_looks_10 ?_
    refine g_aload_0 E dX12_looks_11 ?_
    refine g_getI E fl_RX12_305 kR_0 sR_0 rfl dX12_looks_12 ?_
    refine g_icmp_ge E c1 (fR_0_27 hσ) djX12_looks_15 (fun hc => ?_) (fun hc => ?_)
    · replace h := h.1 hc
      refine g_aload_0 E dX12_looks_36 ?_
      refine g_aload_0 E dX12_looks_37 ?_
      refine g_getL E fl_RX12_255 kR_0 sR_0 rfl dX12_looks_38 ?_
      refine g_callvV E my_X12_laysLeast mi_X12_laysLeast msel_X12_laysLeast ml_RX12_312 (rm_ok (by decide) (by decide)) ⟨Nat.zero_le _, Nat.zero_le _⟩ kR_0 sR_0 rfl (m_X12_laysLeast E.2.2.1 (fR_0_2 hσ) hσ h) rfl rfl (Nat.le_of_ble_eq_true rfl) dX12_looks_41 (fun σ3 r2 hσ3 h => ?_)
      exact g_vret E hr h hσ3 dX12_looks_44
    · replace h := h.2 hc
      refine g_aload_0 E dX12_looks_18 ?_
      refine g_getR E fl_RX12_57 kR_0 sR_0 rfl dX12_looks_19 ?_
      refine g_iload_1 E dX12_looks_22 ?_
      refine g_aload_0 E dX12_looks_23 ?_
      refine g_getR E fl_RX12_44 kR_0 sR_0 rfl dX12_looks_24 ?_
      refine g_iload_1 E dX12_looks_27 ?_
      refine g_iald E kR_11 sR_11 (by decide) h.1 dX12_looks_28 ?_
      replace h := h.2
      refine g_iast E kR_14 sR_14 (by decide) h.1 dX12_looks_29 (g_nmS (fun σ4 eσ4 => ?_))
      replace h := h.2 σ4 eσ4
      have hσ4 : CanS shR NR σ4 := by rw [eσ4]; exact wR_14 hσ (aR_11 hσ _)
      refine g_iinc_1 E rfl (by decide) dX12_looks_30 (fun v5 ev5 => ?_)
      replace h := h v5 ev5
      have cv5 : C32 v5 := by rw [ev5]; exact c32_w _
      refine g_goto E djX12_looks_33 ?_
      exact (ih v5 σ4 cv5 hσ4 h).weak (w_k (w_k w_n))
set_option maxHeartbeats 4000000 in
set_option maxRecDepth 100000 in
theorem t_X12_looks (E : Ev p s m args meth c cX12_looks 2 RX12 A0 D cA ad NR Z) (hr : meth.sig.returnType = none) (σ : St) (hσ : CanS shR NR σ) (h : wp_X12_looks  σ Q) : G p l e (rmL 6 0 0) s m args below meth c 2 A0 D cA ad shR NR 0 0 (MQ below (QVc D cA ad shR NR Q A0) args s 0 0 A0) σ 0 [some (.ref (ad 0)), none] [] := by
  unfold wp_X12_looks at h
  refine g_aload_0 E dX12_looks_0 ?_
  refine g_aload_0 E dX12_looks_1 ?_
  refine g_getI E fl_RX12_259 kR_0 sR_0 rfl dX12_looks_2 ?_
  refine g_putI E fl_RX12_305 rfl rfl kR_0 sR_0 rfl dX12_looks_5 (g_nmS (fun σ1 eσ1 => ?_))
  replace h := h σ1 eσ1
  have hσ1 : CanS shR NR σ1 := by rw [eσ1]; exact uR_0_27 hσ (fR_0_15 hσ)
  refine g_iconst E dX12_looks_8 ?_
  refine g_istore_1 E rfl (by decide) dX12_looks_9 ?_
  exact (t_X12_looks_l10 E hr bigN 0 σ1 cl_0 hσ1 h).weak (w_k (w_k w_n))
end
theorem m_X12_looks {Z : (Nat → Nat) × (Nat → Nat)} {l : Launch} {D : va_G} {cA : Nat → ClassId} {ad : Nat → Nat} {σ : St} {Q : Int → St → Prop} (hA : AdOk NR ad) (hσ : CanS shR NR σ) (h : wp_X12_looks  σ Q) : KtV Z l D cA ad shR NR yX12_looks cX12_looks 2 none 6 [.ref (ad 0)] σ Q :=
  KtV.of my_X12_looks hA [some (.ref (ad 0)), none] (Nat.le_of_ble_eq_true rfl) rfl (fun p e s m args below meth c A0 E hr => t_X12_looks E hr σ hσ h)
theorem dX12_has_0 : Dc cX12_has 0 (.aload_n 0) 1 1 := ⟨by decide +kernel, rfl⟩
theorem dX12_has_1 : Dc cX12_has 1 (.getfield 60) 3 4 := ⟨by decide +kernel, rfl⟩
theorem dX12_has_4 : Dc cX12_has 4 (.iload_n 1) 1 5 := ⟨by decide +kernel, rfl⟩
theorem dX12_has_5 : Dc cX12_has 5 (.iload_n 2) 1 6 := ⟨by decide +kernel, rfl⟩
theorem dX12_has_6 : Dc cX12_has 6 (.iload_n 3) 1 7 := ⟨by decide +kernel, rfl⟩
theorem dX12_has_7 : Dc cX12_has 7 (.invokestatic 282) 3 10 := ⟨by decide +kernel, rfl⟩
theorem dX12_has_10 : Dc cX12_has 10 (.iaload) 1 11 := ⟨by decide +kernel, rfl⟩
theorem dX12_has_11 : Dc cX12_has 11 (.ldc_w 286) 3 14 := ⟨by decide +kernel, rfl⟩
theorem djX12_has_14 : Dj cX12_has 14 (.if_icmp .ge 7) 3 17 7 21 := ⟨by decide +kernel, rfl, by decide⟩
theorem dX12_has_17 : Dc cX12_has 17 (.iconst 1) 1 18 := ⟨by decide +kernel, rfl⟩
theorem djX12_has_18 : Dj cX12_has 18 (.goto 4) 3 21 4 22 := ⟨by decide +kernel, rfl, by decide⟩
theorem dX12_has_21 : Dc cX12_has 21 (.iconst 0) 1 22 := ⟨by decide +kernel, rfl⟩
theorem dX12_has_22 : Dc cX12_has 22 (.ireturn) 1 23 := ⟨by decide +kernel, rfl⟩
section
variable {p : Program} {l : Launch} {e : Env} {s : State} {m : MethodId} {args : Array Value} {below : List Frame} {meth : Method} {c : Code} {A0 : Nat → Prop} {D : va_G} {cA : Nat → ClassId} {ad : Nat → Nat} {Z : (Nat → Nat) × (Nat → Nat)} {Q : Int → St → Prop}
set_option maxHeartbeats 4000000 in
set_option maxRecDepth 100000 in
theorem t_X12_has (E : Ev p s m args meth c cX12_has 4 RX12 A0 D cA ad NR Z) (hr : meth.sig.returnType = (some .boolean)) (x1 : Int) (x2 : Int) (x3 : Int) (σ : St) (c1 : C32 x1) (c2 : C32 x2) (c3 : C32 x3) (hσ : CanS shR NR σ) (h : wp_X12_has x1 x2 x3 σ Q) : G p l e (rmL 2 0 0) s m args below meth c 4 A0 D cA ad shR NR 0 0 (MQ below (QIc D cA ad shR NR Q A0) args s 0 0 A0) σ 0 [some (.ref (ad 0)), some (vI x1), some (vI x2), some (vI x3)] [] := by
  unfold wp_X12_has at h
  refine g_aload_0 E dX12_has_0 ?_
  refine g_getR E fl_RX12_60 kR_0 sR_0 rfl dX12_has_1 ?_
  refine g_iload_1 E dX12_has_4 ?_
  refine g_iload_2 E dX12_has_5 ?_
  refine g_iload_3 E dX12_has_6 ?_
  refine g_callsI E my_X12_item ms_X12_item ml_RX12_282 (rm_ok (by decide) (by decide)) ⟨Nat.zero_le _, Nat.zero_le _⟩ (m_X12_item E.2.2.1 c1 c2 c3 hσ h) rfl rfl (Nat.le_of_ble_eq_true rfl) dX12_has_7 (fun r1 σ2 cr1 hσ2 h => ?_)
  refine g_iald E kR_15 sR_15 (by decide) h.1 dX12_has_10 ?_
  replace h := h.2
  refine g_ldcw (n := 1000000000) E wc_RX12_286 dX12_has_11 ?_
  refine g_icmp_ge E (aR_15 hσ2 _) cl_1000000000 djX12_has_14 (fun hc => ?_) (fun hc => ?_)
  · replace h := h.1 hc
    refine g_iconst E dX12_has_21 ?_
    exact g_zret E hr (Or.inl rfl) h hσ2 dX12_has_22
  · replace h := h.2 hc
    refine g_iconst E dX12_has_17 ?_
    refine g_goto E djX12_has_18 ?_
    exact g_zret E hr (Or.inr rfl) h hσ2 dX12_has_22
end
theorem m_X12_has {Z : (Nat → Nat) × (Nat → Nat)} {l : Launch} {D : va_G} {cA : Nat → ClassId} {ad : Nat → Nat} {x1 x2 x3 : Int} {σ : St} {Q : Int → St → Prop} (hA : AdOk NR ad) (c1 : C32 x1) (c2 : C32 x2) (c3 : C32 x3) (hσ : CanS shR NR σ) (h : wp_X12_has x1 x2 x3 σ Q) : KtI Z l D cA ad shR NR yX12_has cX12_has 4 (some .boolean) 2 [.ref (ad 0), vI x1, vI x2, vI x3] σ Q :=
  KtI.of my_X12_has hA [some (.ref (ad 0)), some (vI x1), some (vI x2), some (vI x3)] (Nat.le_of_ble_eq_true rfl) rfl (fun p e s m args below meth c A0 E hr => t_X12_has E hr x1 x2 x3 σ c1 c2 c3 hσ h)
theorem dX12_can_0 : Dc cX12_can 0 (.aload_n 0) 1 1 := ⟨by decide +kernel, rfl⟩
theorem dX12_can_1 : Dc cX12_can 1 (.iload_n 1) 1 2 := ⟨by decide +kernel, rfl⟩
theorem dX12_can_2 : Dc cX12_can 2 (.iload_n 2) 1 3 := ⟨by decide +kernel, rfl⟩
theorem dX12_can_3 : Dc cX12_can 3 (.iload_n 3) 1 4 := ⟨by decide +kernel, rfl⟩
theorem dX12_can_4 : Dc cX12_can 4 (.invokevirtual 318) 3 7 := ⟨by decide +kernel, rfl⟩
theorem djX12_can_7 : Dj cX12_can 7 (.ifCond .ne 6) 3 10 6 13 := ⟨by decide +kernel, rfl, by decide⟩
theorem dX12_can_10 : Dc cX12_can 10 (.bipush (-2)) 2 12 := ⟨by decide +kernel, rfl⟩
theorem dX12_can_12 : Dc cX12_can 12 (.ireturn) 1 13 := ⟨by decide +kernel, rfl⟩
theorem dX12_can_13 : Dc cX12_can 13 (.aload_n 0) 1 14 := ⟨by decide +kernel, rfl⟩
theorem dX12_can_14 : Dc cX12_can 14 (.invokevirtual 321) 3 17 := ⟨by decide +kernel, rfl⟩
theorem dX12_can_17 : Dc cX12_can 17 (.aload_n 0) 1 18 := ⟨by decide +kernel, rfl⟩
theorem dX12_can_18 : Dc cX12_can 18 (.iload_n 1) 1 19 := ⟨by decide +kernel, rfl⟩
theorem dX12_can_19 : Dc cX12_can 19 (.iload_n 2) 1 20 := ⟨by decide +kernel, rfl⟩
theorem dX12_can_20 : Dc cX12_can 20 (.iload_n 3) 1 21 := ⟨by decide +kernel, rfl⟩
theorem dX12_can_21 : Dc cX12_can 21 (.invokevirtual 324) 3 24 := ⟨by decide +kernel, rfl⟩
theorem djX12_can_24 : Dj cX12_can 24 (.ifCond .eq 7) 3 27 7 31 := ⟨by decide +kernel, rfl, by decide⟩
theorem dX12_can_27 : Dc cX12_can 27 (.iconst 1) 1 28 := ⟨by decide +kernel, rfl⟩
theorem djX12_can_28 : Dj cX12_can 28 (.goto 4) 3 31 4 32 := ⟨by decide +kernel, rfl, by decide⟩
theorem dX12_can_31 : Dc cX12_can 31 (.iconst 0) 1 32 := ⟨by decide +kernel, rfl⟩
theorem dX12_can_32 : Dc cX12_can 32 (.ireturn) 1 33 := ⟨by decide +kernel, rfl⟩
section
variable {p : Program} {l : Launch} {e : Env} {s : State} {m : MethodId} {args : Array Value} {below : List Frame} {meth : Method} {c : Code} {A0 : Nat → Prop} {D : va_G} {cA : Nat → ClassId} {ad : Nat → Nat} {Z : (Nat → Nat) × (Nat → Nat)} {Q : Int → St → Prop}
set_option maxHeartbeats 4000000 in
set_option maxRecDepth 100000 in
theorem t_X12_can (E : Ev p s m args meth c cX12_can 4 RX12 A0 D cA ad NR Z) (hr : meth.sig.returnType = (some .int)) (x1 : Int) (x2 : Int) (x3 : Int) (σ : St) (c1 : C32 x1) (c2 : C32 x2) (c3 : C32 x3) (hσ : CanS shR NR σ) (h : wp_X12_can x1 x2 x3 σ Q) : G p l e (rmL 7 0 0) s m args below meth c 4 A0 D cA ad shR NR 0 0 (MQ below (QIc D cA ad shR NR Q A0) args s 0 0 A0) σ 0 [some (.ref (ad 0)), some (vI x1), some (vI x2), some (vI x3)] [] := by
  unfold wp_X12_can at h
  refine g_aload_0 E dX12_can_0 ?_
  refine g_iload_1 E dX12_can_1 ?_
  refine g_iload_2 E dX12_can_2 ?_
  refine g_iload_3 E dX12_can_3 ?_
  refine g_callvI E my_X12_isItem mi_X12_isItem msel_X12_isItem ml_RX12_318 (rm_ok (by decide) (by decide)) ⟨Nat.zero_le _, Nat.zero_le _⟩ kR_0 sR_0 rfl (m_X12_isItem E.2.2.1 c1 c2 c3 hσ h) rfl rfl (Nat.le_of_ble_eq_true rfl) dX12_can_4 (fun r1 σ2 cr1 hσ2 h => ?_)
  refine g_if_ne E cr1 djX12_can_7 (fun hc => ?_) (fun hc => ?_)
  · replace h := h.1 hc
    refine g_aload_0 E dX12_can_13 ?_
    refine g_callvV E my_X12_looks mi_X12_looks msel_X12_looks ml_RX12_321 (rm_ok (by decide) (by decide)) ⟨Nat.zero_le _, Nat.zero_le _⟩ kR_0 sR_0 rfl (m_X12_looks E.2.2.1 hσ2 h) rfl rfl (Nat.le_of_ble_eq_true rfl) dX12_can_14 (fun σ4 r3 hσ4 h => ?_)
    refine g_aload_0 E dX12_can_17 ?_
    refine g_iload_1 E dX12_can_18 ?_
    refine g_iload_2 E dX12_can_19 ?_
    refine g_iload_3 E dX12_can_20 ?_
    refine g_callvI E my_X12_has mi_X12_has msel_X12_has ml_RX12_324 (rm_ok (by decide) (by decide)) ⟨Nat.zero_le _, Nat.zero_le _⟩ kR_0 sR_0 rfl (m_X12_has E.2.2.1 c1 c2 c3 hσ4 h) rfl rfl (Nat.le_of_ble_eq_true rfl) dX12_can_21 (fun r5 σ6 cr5 hσ6 h => ?_)
    refine g_if_eq E cr5 djX12_can_24 (fun hc => ?_) (fun hc => ?_)
    · replace h := h.1 hc
      refine g_iconst E dX12_can_31 ?_
      exact g_iret E hr cl_0 h hσ6 dX12_can_32
    · replace h := h.2 hc
      refine g_iconst E dX12_can_27 ?_
      refine g_goto E djX12_can_28 ?_
      exact g_iret E hr cl_1 h hσ6 dX12_can_32
  · replace h := h.2 hc
    refine g_bipush E (by decide) dX12_can_10 ?_
    exact g_iret E hr cl_m2 h hσ2 dX12_can_12
end
theorem m_X12_can {Z : (Nat → Nat) × (Nat → Nat)} {l : Launch} {D : va_G} {cA : Nat → ClassId} {ad : Nat → Nat} {x1 x2 x3 : Int} {σ : St} {Q : Int → St → Prop} (hA : AdOk NR ad) (c1 : C32 x1) (c2 : C32 x2) (c3 : C32 x3) (hσ : CanS shR NR σ) (h : wp_X12_can x1 x2 x3 σ Q) : KtI Z l D cA ad shR NR yX12_can cX12_can 4 (some .int) 7 [.ref (ad 0), vI x1, vI x2, vI x3] σ Q :=
  KtI.of my_X12_can hA [some (.ref (ad 0)), some (vI x1), some (vI x2), some (vI x3)] (Nat.le_of_ble_eq_true rfl) rfl (fun p e s m args below meth c A0 E hr => t_X12_can E hr x1 x2 x3 σ c1 c2 c3 hσ h)
theorem dX12_least_0 : Dc cX12_least 0 (.aload_n 0) 1 1 := ⟨by decide +kernel, rfl⟩
theorem dX12_least_1 : Dc cX12_least 1 (.iload_n 1) 1 2 := ⟨by decide +kernel, rfl⟩
theorem dX12_least_2 : Dc cX12_least 2 (.iload_n 2) 1 3 := ⟨by decide +kernel, rfl⟩
theorem dX12_least_3 : Dc cX12_least 3 (.iload_n 3) 1 4 := ⟨by decide +kernel, rfl⟩
theorem dX12_least_4 : Dc cX12_least 4 (.invokevirtual 318) 3 7 := ⟨by decide +kernel, rfl⟩
theorem djX12_least_7 : Dj cX12_least 7 (.ifCond .ne 6) 3 10 6 13 := ⟨by decide +kernel, rfl, by decide⟩
theorem dX12_least_10 : Dc cX12_least 10 (.bipush (-2)) 2 12 := ⟨by decide +kernel, rfl⟩
theorem dX12_least_12 : Dc cX12_least 12 (.ireturn) 1 13 := ⟨by decide +kernel, rfl⟩
theorem dX12_least_13 : Dc cX12_least 13 (.aload_n 0) 1 14 := ⟨by decide +kernel, rfl⟩
theorem dX12_least_14 : Dc cX12_least 14 (.invokevirtual 321) 3 17 := ⟨by decide +kernel, rfl⟩
theorem dX12_least_17 : Dc cX12_least 17 (.aload_n 0) 1 18 := ⟨by decide +kernel, rfl⟩
theorem dX12_least_18 : Dc cX12_least 18 (.iload_n 1) 1 19 := ⟨by decide +kernel, rfl⟩
theorem dX12_least_19 : Dc cX12_least 19 (.iload_n 2) 1 20 := ⟨by decide +kernel, rfl⟩
theorem dX12_least_20 : Dc cX12_least 20 (.iload_n 3) 1 21 := ⟨by decide +kernel, rfl⟩
theorem dX12_least_21 : Dc cX12_least 21 (.invokevirtual 324) 3 24 := ⟨by decide +kernel, rfl⟩
theorem djX12_least_24 : Dj cX12_least 24 (.ifCond .eq 17) 3 27 17 41 := ⟨by decide +kernel, rfl, by decide⟩
theorem dX12_least_27 : Dc cX12_least 27 (.aload_n 0) 1 28 := ⟨by decide +kernel, rfl⟩
theorem dX12_least_28 : Dc cX12_least 28 (.getfield 60) 3 31 := ⟨by decide +kernel, rfl⟩
theorem dX12_least_31 : Dc cX12_least 31 (.iload_n 1) 1 32 := ⟨by decide +kernel, rfl⟩
theorem dX12_least_32 : Dc cX12_least 32 (.iload_n 2) 1 33 := ⟨by decide +kernel, rfl⟩
theorem dX12_least_33 : Dc cX12_least 33 (.iload_n 3) 1 34 := ⟨by decide +kernel, rfl⟩
theorem dX12_least_34 : Dc cX12_least 34 (.invokestatic 282) 3 37 := ⟨by decide +kernel, rfl⟩
theorem dX12_least_37 : Dc cX12_least 37 (.iaload) 1 38 := ⟨by decide +kernel, rfl⟩
theorem djX12_least_38 : Dj cX12_least 38 (.goto 4) 3 41 4 42 := ⟨by decide +kernel, rfl, by decide⟩
theorem dX12_least_41 : Dc cX12_least 41 (.iconst (-1)) 1 42 := ⟨by decide +kernel, rfl⟩
theorem dX12_least_42 : Dc cX12_least 42 (.ireturn) 1 43 := ⟨by decide +kernel, rfl⟩
section
variable {p : Program} {l : Launch} {e : Env} {s : State} {m : MethodId} {args : Array Value} {below : List Frame} {meth : Method} {c : Code} {A0 : Nat → Prop} {D : va_G} {cA : Nat → ClassId} {ad : Nat → Nat} {Z : (Nat → Nat) × (Nat → Nat)} {Q : Int → St → Prop}
set_option maxHeartbeats 4000000 in
set_option maxRecDepth 100000 in
theorem t_X12_least (E : Ev p s m args meth c cX12_least 4 RX12 A0 D cA ad NR Z) (hr : meth.sig.returnType = (some .int)) (x1 : Int) (x2 : Int) (x3 : Int) (σ : St) (c1 : C32 x1) (c2 : C32 x2) (c3 : C32 x3) (hσ : CanS shR NR σ) (h : wp_X12_least x1 x2 x3 σ Q) : G p l e (rmL 7 0 0) s m args below meth c 4 A0 D cA ad shR NR 0 0 (MQ below (QIc D cA ad shR NR Q A0) args s 0 0 A0) σ 0 [some (.ref (ad 0)), some (vI x1), some (vI x2), some (vI x3)] [] := by
  unfold wp_X12_least at h
  refine g_aload_0 E dX12_least_0 ?_
  refine g_iload_1 E dX12_least_1 ?_
  refine g_iload_2 E dX12_least_2 ?_
  refine g_iload_3 E dX12_least_3 ?_
  refine g_callvI E my_X12_isItem mi_X12_isItem msel_X12_isItem ml_RX12_318 (rm_ok (by decide) (by decide)) ⟨Nat.zero_le _, Nat.zero_le _⟩ kR_0 sR_0 rfl (m_X12_isItem E.2.2.1 c1 c2 c3 hσ h) rfl rfl (Nat.le_of_ble_eq_true rfl) dX12_least_4 (fun r1 σ2 cr1 hσ2 h => ?_)
  refine g_if_ne E cr1 djX12_least_7 (fun hc => ?_) (fun hc => ?_)
  · replace h := h.1 hc
    refine g_aload_0 E dX12_least_13 ?_
    refine g_callvV E my_X12_looks mi_X12_looks msel_X12_looks ml_RX12_321 (rm_ok (by decide) (by decide)) ⟨Nat.zero_le _, Nat.zero_le _⟩ kR_0 sR_0 rfl (m_X12_looks E.2.2.1 hσ2 h) rfl rfl (Nat.le_of_ble_eq_true rfl) dX12_least_14 (fun σ4 r3 hσ4 h => ?_)
    refine g_aload_0 E dX12_least_17 ?_
    refine g_iload_1 E dX12_least_18 ?_
    refine g_iload_2 E dX12_least_19 ?_
    refine g_iload_3 E dX12_least_20 ?_
    refine g_callvI E my_X12_has mi_X12_has msel_X12_has ml_RX12_324 (rm_ok (by decide) (by decide)) ⟨Nat.zero_le _, Nat.zero_le _⟩ kR_0 sR_0 rfl (m_X12_has E.2.2.1 c1 c2 c3 hσ4 h) rfl rfl (Nat.le_of_ble_eq_true rfl) dX12_least_21 (fun r5 σ6 cr5 hσ6 h => ?_)
    refine g_if_eq E cr5 djX12_least_24 (fun hc => ?_) (fun hc => ?_)
    · replace h := h.1 hc
      refine g_iconst E dX12_least_41 ?_
      exact g_iret E hr cl_m1 h hσ6 dX12_least_42
    · replace h := h.2 hc
      refine g_aload_0 E dX12_least_27 ?_
      refine g_getR E fl_RX12_60 kR_0 sR_0 rfl dX12_least_28 ?_
      refine g_iload_1 E dX12_least_31 ?_
      refine g_iload_2 E dX12_least_32 ?_
      refine g_iload_3 E dX12_least_33 ?_
      refine g_callsI E my_X12_item ms_X12_item ml_RX12_282 (rm_ok (by decide) (by decide)) ⟨Nat.zero_le _, Nat.zero_le _⟩ (m_X12_item E.2.2.1 c1 c2 c3 hσ6 h) rfl rfl (Nat.le_of_ble_eq_true rfl) dX12_least_34 (fun r7 σ8 cr7 hσ8 h => ?_)
      refine g_iald E kR_15 sR_15 (by decide) h.1 dX12_least_37 ?_
      replace h := h.2
      refine g_goto E djX12_least_38 ?_
      exact g_iret E hr (aR_15 hσ8 _) h hσ8 dX12_least_42
  · replace h := h.2 hc
    refine g_bipush E (by decide) dX12_least_10 ?_
    exact g_iret E hr cl_m2 h hσ2 dX12_least_12
end
theorem m_X12_least {Z : (Nat → Nat) × (Nat → Nat)} {l : Launch} {D : va_G} {cA : Nat → ClassId} {ad : Nat → Nat} {x1 x2 x3 : Int} {σ : St} {Q : Int → St → Prop} (hA : AdOk NR ad) (c1 : C32 x1) (c2 : C32 x2) (c3 : C32 x3) (hσ : CanS shR NR σ) (h : wp_X12_least x1 x2 x3 σ Q) : KtI Z l D cA ad shR NR yX12_least cX12_least 4 (some .int) 7 [.ref (ad 0), vI x1, vI x2, vI x3] σ Q :=
  KtI.of my_X12_least hA [some (.ref (ad 0)), some (vI x1), some (vI x2), some (vI x3)] (Nat.le_of_ble_eq_true rfl) rfl (fun p e s m args below meth c A0 E hr => t_X12_least E hr x1 x2 x3 σ c1 c2 c3 hσ h)
theorem dX12_isSingle_0 : Dc cX12_isSingle 0 (.aload_n 0) 1 1 := ⟨by decide +kernel, rfl⟩
theorem dX12_isSingle_1 : Dc cX12_isSingle 1 (.iload_n 1) 1 2 := ⟨by decide +kernel, rfl⟩
theorem dX12_isSingle_2 : Dc cX12_isSingle 2 (.invokevirtual 298) 3 5 := ⟨by decide +kernel, rfl⟩
theorem djX12_isSingle_5 : Dj cX12_isSingle 5 (.ifCond .eq 28) 3 8 28 33 := ⟨by decide +kernel, rfl, by decide⟩
theorem dX12_isSingle_8 : Dc cX12_isSingle 8 (.aload_n 0) 1 9 := ⟨by decide +kernel, rfl⟩
theorem dX12_isSingle_9 : Dc cX12_isSingle 9 (.getfield 20) 3 12 := ⟨by decide +kernel, rfl⟩
theorem dX12_isSingle_12 : Dc cX12_isSingle 12 (.iload_n 1) 1 13 := ⟨by decide +kernel, rfl⟩
theorem dX12_isSingle_13 : Dc cX12_isSingle 13 (.iaload) 1 14 := ⟨by decide +kernel, rfl⟩
theorem dX12_isSingle_14 : Dc cX12_isSingle 14 (.iconst (-1)) 1 15 := ⟨by decide +kernel, rfl⟩
theorem djX12_isSingle_15 : Dj cX12_isSingle 15 (.if_icmp .ne 18) 3 18 18 33 := ⟨by decide +kernel, rfl, by decide⟩
theorem dX12_isSingle_18 : Dc cX12_isSingle 18 (.aload_n 0) 1 19 := ⟨by decide +kernel, rfl⟩
theorem dX12_isSingle_19 : Dc cX12_isSingle 19 (.getfield 17) 3 22 := ⟨by decide +kernel, rfl⟩
theorem dX12_isSingle_22 : Dc cX12_isSingle 22 (.iload_n 1) 1 23 := ⟨by decide +kernel, rfl⟩
theorem dX12_isSingle_23 : Dc cX12_isSingle 23 (.iaload) 1 24 := ⟨by decide +kernel, rfl⟩
theorem dX12_isSingle_24 : Dc cX12_isSingle 24 (.bipush 12) 2 26 := ⟨by decide +kernel, rfl⟩
theorem djX12_isSingle_26 : Dj cX12_isSingle 26 (.if_icmp .ge 7) 3 29 7 33 := ⟨by decide +kernel, rfl, by decide⟩
theorem dX12_isSingle_29 : Dc cX12_isSingle 29 (.iconst 1) 1 30 := ⟨by decide +kernel, rfl⟩
theorem djX12_isSingle_30 : Dj cX12_isSingle 30 (.goto 4) 3 33 4 34 := ⟨by decide +kernel, rfl, by decide⟩
theorem dX12_isSingle_33 : Dc cX12_isSingle 33 (.iconst 0) 1 34 := ⟨by decide +kernel, rfl⟩
theorem dX12_isSingle_34 : Dc cX12_isSingle 34 (.ireturn) 1 35 := ⟨by decide +kernel, rfl⟩
section
variable {p : Program} {l : Launch} {e : Env} {s : State} {m : MethodId} {args : Array Value} {below : List Frame} {meth : Method} {c : Code} {A0 : Nat → Prop} {D : va_G} {cA : Nat → ClassId} {ad : Nat → Nat} {Z : (Nat → Nat) × (Nat → Nat)} {Q : Int → St → Prop}
set_option maxHeartbeats 4000000 in
set_option maxRecDepth 100000 in
theorem t_X12_isSingle_b33 (E : Ev p s m args meth c cX12_isSingle 2 RX12 A0 D cA ad NR Z) (hr : meth.sig.returnType = (some .boolean)) (σ : St) (hσ : CanS shR NR σ) (h : wp_X12_isSingle_b33 Q  σ) : G p l e (rmL 2 0 0) s m args below meth c 2 A0 D cA ad shR NR 0 0 (MQ below (QIc D cA ad shR NR Q A0) args s 0 0 A0) σ 33 [none, none] [] := by
  unfold wp_X12_isSingle_b33 at h
  refine g_iconst E dX12_isSingle_33 ?_
  exact g_zret E hr (Or.inl rfl) h hσ dX12_isSingle_34
set_option maxHeartbeats 4000000 in
set_option maxRecDepth 100000 in
theorem t_X12_isSingle (E : Ev p s m args meth c cX12_isSingle 2 RX12 A0 D cA ad NR Z) (hr : meth.sig.returnType = (some .boolean)) (x1 : Int) (σ : St) (c1 : C32 x1) (hσ : CanS shR NR σ) (h : wp_X12_isSingle x1 σ Q) : G p l e (rmL 2 0 0) s m args below meth c 2 A0 D cA ad shR NR 0 0 (MQ below (QIc D cA ad shR NR Q A0) args s 0 0 A0) σ 0 [some (.ref (ad 0)), some (vI x1)] [] := by
  unfold wp_X12_isSingle at h
  refine g_aload_0 E dX12_isSingle_0 ?_
  refine g_iload_1 E dX12_isSingle_1 ?_
  refine g_callvI E my_X12_isIn mi_X12_isIn msel_X12_isIn ml_RX12_298 (rm_ok (by decide) (by decide)) ⟨Nat.zero_le _, Nat.zero_le _⟩ kR_0 sR_0 rfl (m_X12_isIn E.2.2.1 c1 hσ h) rfl rfl (Nat.le_of_ble_eq_true rfl) dX12_isSingle_2 (fun r1 σ2 cr1 hσ2 h => ?_)
  refine g_if_eq E cr1 djX12_isSingle_5 (fun hc => ?_) (fun hc => ?_)
  · replace h := h.1 hc
    exact (t_X12_isSingle_b33 E hr σ2 hσ2 h).weak (w_d (w_d w_n))
  · replace h := h.2 hc
    refine g_aload_0 E dX12_isSingle_8 ?_
    refine g_getR E fl_RX12_20 kR_0 sR_0 rfl dX12_isSingle_9 ?_
    refine g_iload_1 E dX12_isSingle_12 ?_
    refine g_iald E kR_3 sR_3 (by decide) h.1 dX12_isSingle_13 ?_
    replace h := h.2
    refine g_iconst E dX12_isSingle_14 ?_
    refine g_icmp_ne E (aR_3 hσ2 _) cl_m1 djX12_isSingle_15 (fun hc => ?_) (fun hc => ?_)
    · replace h := h.1 hc
      exact (t_X12_isSingle_b33 E hr σ2 hσ2 h).weak (w_d (w_d w_n))
    · replace h := h.2 hc
      refine g_aload_0 E dX12_isSingle_18 ?_
      refine g_getR E fl_RX12_17 kR_0 sR_0 rfl dX12_isSingle_19 ?_
      refine g_iload_1 E dX12_isSingle_22 ?_
      refine g_iald E kR_2 sR_2 (by decide) h.1 dX12_isSingle_23 ?_
      replace h := h.2
      refine g_bipush E (by decide) dX12_isSingle_24 ?_
      refine g_icmp_ge E (aR_2 hσ2 _) cl_12 djX12_isSingle_26 (fun hc => ?_) (fun hc => ?_)
      · replace h := h.1 hc
        exact (t_X12_isSingle_b33 E hr σ2 hσ2 h).weak (w_d (w_d w_n))
      · replace h := h.2 hc
        refine g_iconst E dX12_isSingle_29 ?_
        refine g_goto E djX12_isSingle_30 ?_
        exact g_zret E hr (Or.inr rfl) h hσ2 dX12_isSingle_34
end
theorem m_X12_isSingle {Z : (Nat → Nat) × (Nat → Nat)} {l : Launch} {D : va_G} {cA : Nat → ClassId} {ad : Nat → Nat} {x1 : Int} {σ : St} {Q : Int → St → Prop} (hA : AdOk NR ad) (c1 : C32 x1) (hσ : CanS shR NR σ) (h : wp_X12_isSingle x1 σ Q) : KtI Z l D cA ad shR NR yX12_isSingle cX12_isSingle 2 (some .boolean) 2 [.ref (ad 0), vI x1] σ Q :=
  KtI.of my_X12_isSingle hA [some (.ref (ad 0)), some (vI x1)] (Nat.le_of_ble_eq_true rfl) rfl (fun p e s m args below meth c A0 E hr => t_X12_isSingle E hr x1 σ c1 hσ h)
theorem dX12_ringsAt_0 : Dc cX12_ringsAt 0 (.iconst 0) 1 1 := ⟨by decide +kernel, rfl⟩
theorem dX12_ringsAt_1 : Dc cX12_ringsAt 1 (.istore_n 3) 1 2 := ⟨by decide +kernel, rfl⟩
theorem dX12_ringsAt_2 : Dc cX12_ringsAt 2 (.iload_n 3) 1 3 := ⟨by decide +kernel, rfl⟩
theorem dX12_ringsAt_3 : Dc cX12_ringsAt 3 (.bipush 12) 2 5 := ⟨by decide +kernel, rfl⟩
theorem djX12_ringsAt_5 : Dj cX12_ringsAt 5 (.if_icmp .ge 16) 3 8 16 21 := ⟨by decide +kernel, rfl, by decide⟩
theorem dX12_ringsAt_8 : Dc cX12_ringsAt 8 (.aload_n 0) 1 9 := ⟨by decide +kernel, rfl⟩
theorem dX12_ringsAt_9 : Dc cX12_ringsAt 9 (.getfield 74) 3 12 := ⟨by decide +kernel, rfl⟩
theorem dX12_ringsAt_12 : Dc cX12_ringsAt 12 (.iload_n 3) 1 13 := ⟨by decide +kernel, rfl⟩
theorem dX12_ringsAt_13 : Dc cX12_ringsAt 13 (.iconst 0) 1 14 := ⟨by decide +kernel, rfl⟩
theorem dX12_ringsAt_14 : Dc cX12_ringsAt 14 (.iastore) 1 15 := ⟨by decide +kernel, rfl⟩
theorem dX12_ringsAt_15 : Dc cX12_ringsAt 15 (.iinc 3 1) 3 18 := ⟨by decide +kernel, rfl⟩
theorem djX12_ringsAt_18 : Dj cX12_ringsAt 18 (.goto (-16)) 3 21 (-16) 2 := ⟨by decide +kernel, rfl, by decide⟩
theorem dX12_ringsAt_21 : Dc cX12_ringsAt 21 (.iconst 0) 1 22 := ⟨by decide +kernel, rfl⟩
theorem dX12_ringsAt_22 : Dc cX12_ringsAt 22 (.istore_n 3) 1 23 := ⟨by decide +kernel, rfl⟩
theorem dX12_ringsAt_23 : Dc cX12_ringsAt 23 (.iload_n 3) 1 24 := ⟨by decide +kernel, rfl⟩
theorem dX12_ringsAt_24 : Dc cX12_ringsAt 24 (.aload_n 0) 1 25 := ⟨by decide +kernel, rfl⟩
theorem dX12_ringsAt_25 : Dc cX12_ringsAt 25 (.getfield 252) 3 28 := ⟨by decide +kernel, rfl⟩
theorem djX12_ringsAt_28 : Dj cX12_ringsAt 28 (.if_icmp .ge 59) 3 31 59 87 := ⟨by decide +kernel, rfl, by decide⟩
theorem dX12_ringsAt_31 : Dc cX12_ringsAt 31 (.aload_n 0) 1 32 := ⟨by decide +kernel, rfl⟩
theorem dX12_ringsAt_32 : Dc cX12_ringsAt 32 (.iload_n 3) 1 33 := ⟨by decide +kernel, rfl⟩
theorem dX12_ringsAt_33 : Dc cX12_ringsAt 33 (.invokevirtual 334) 3 36 := ⟨by decide +kernel, rfl⟩
theorem djX12_ringsAt_36 : Dj cX12_ringsAt 36 (.ifCond .eq 45) 3 39 45 81 := ⟨by decide +kernel, rfl, by decide⟩
theorem dX12_ringsAt_39 : Dc cX12_ringsAt 39 (.iload_n 1) 1 40 := ⟨by decide +kernel, rfl⟩
theorem dX12_ringsAt_40 : Dc cX12_ringsAt 40 (.iconst (-1)) 1 41 := ⟨by decide +kernel, rfl⟩
theorem djX12_ringsAt_41 : Dj cX12_ringsAt 41 (.if_icmp .eq 18) 3 44 18 59 := ⟨by decide +kernel, rfl, by decide⟩
theorem dX12_ringsAt_44 : Dc cX12_ringsAt 44 (.aload_n 0) 1 45 := ⟨by decide +kernel, rfl⟩
theorem dX12_ringsAt_45 : Dc cX12_ringsAt 45 (.aload_n 0) 1 46 := ⟨by decide +kernel, rfl⟩
theorem dX12_ringsAt_46 : Dc cX12_ringsAt 46 (.getfield 17) 3 49 := ⟨by decide +kernel, rfl⟩
theorem dX12_ringsAt_49 : Dc cX12_ringsAt 49 (.iload_n 3) 1 50 := ⟨by decide +kernel, rfl⟩
theorem dX12_ringsAt_50 : Dc cX12_ringsAt 50 (.iaload) 1 51 := ⟨by decide +kernel, rfl⟩
theorem dX12_ringsAt_51 : Dc cX12_ringsAt 51 (.iload_n 1) 1 52 := ⟨by decide +kernel, rfl⟩
theorem dX12_ringsAt_52 : Dc cX12_ringsAt 52 (.iload_n 2) 1 53 := ⟨by decide +kernel, rfl⟩
theorem dX12_ringsAt_53 : Dc cX12_ringsAt 53 (.invokevirtual 324) 3 56 := ⟨by decide +kernel, rfl⟩
theorem djX12_ringsAt_56 : Dj cX12_ringsAt 56 (.ifCond .eq 25) 3 59 25 81 := ⟨by decide +kernel, rfl, by decide⟩
theorem dX12_ringsAt_59 : Dc cX12_ringsAt 59 (.aload_n 0) 1 60 := ⟨by decide +kernel, rfl⟩
theorem dX12_ringsAt_60 : Dc cX12_ringsAt 60 (.getfield 74) 3 63 := ⟨by decide +kernel, rfl⟩
theorem dX12_ringsAt_63 : Dc cX12_ringsAt 63 (.aload_n 0) 1 64 := ⟨by decide +kernel, rfl⟩
theorem dX12_ringsAt_64 : Dc cX12_ringsAt 64 (.getfield 13) 3 67 := ⟨by decide +kernel, rfl⟩
theorem dX12_ringsAt_67 : Dc cX12_ringsAt 67 (.iload_n 3) 1 68 := ⟨by decide +kernel, rfl⟩
theorem dX12_ringsAt_68 : Dc cX12_ringsAt 68 (.iaload) 1 69 := ⟨by decide +kernel, rfl⟩
theorem dX12_ringsAt_69 : Dc cX12_ringsAt 69 (.dup2) 1 70 := ⟨by decide +kernel, rfl⟩
theorem dX12_ringsAt_70 : Dc cX12_ringsAt 70 (.iaload) 1 71 := ⟨by decide +kernel, rfl⟩
theorem dX12_ringsAt_71 : Dc cX12_ringsAt 71 (.iconst 1) 1 72 := ⟨by decide +kernel, rfl⟩
theorem dX12_ringsAt_72 : Dc cX12_ringsAt 72 (.aload_n 0) 1 73 := ⟨by decide +kernel, rfl⟩
theorem dX12_ringsAt_73 : Dc cX12_ringsAt 73 (.getfield 17) 3 76 := ⟨by decide +kernel, rfl⟩
theorem dX12_ringsAt_76 : Dc cX12_ringsAt 76 (.iload_n 3) 1 77 := ⟨by decide +kernel, rfl⟩
theorem dX12_ringsAt_77 : Dc cX12_ringsAt 77 (.iaload) 1 78 := ⟨by decide +kernel, rfl⟩
theorem dX12_ringsAt_78 : Dc cX12_ringsAt 78 (.ishl) 1 79 := ⟨by decide +kernel, rfl⟩
theorem dX12_ringsAt_79 : Dc cX12_ringsAt 79 (.ior) 1 80 := ⟨by decide +kernel, rfl⟩
theorem dX12_ringsAt_80 : Dc cX12_ringsAt 80 (.iastore) 1 81 := ⟨by decide +kernel, rfl⟩
theorem dX12_ringsAt_81 : Dc cX12_ringsAt 81 (.iinc 3 1) 3 84 := ⟨by decide +kernel, rfl⟩
theorem djX12_ringsAt_84 : Dj cX12_ringsAt 84 (.goto (-61)) 3 87 (-61) 23 := ⟨by decide +kernel, rfl, by decide⟩
theorem dX12_ringsAt_87 : Dc cX12_ringsAt 87 (.iconst 0) 1 88 := ⟨by decide +kernel, rfl⟩
theorem dX12_ringsAt_88 : Dc cX12_ringsAt 88 (.istore_n 3) 1 89 := ⟨by decide +kernel, rfl⟩
theorem dX12_ringsAt_89 : Dc cX12_ringsAt 89 (.iload_n 3) 1 90 := ⟨by decide +kernel, rfl⟩
theorem dX12_ringsAt_90 : Dc cX12_ringsAt 90 (.bipush 12) 2 92 := ⟨by decide +kernel, rfl⟩
theorem djX12_ringsAt_92 : Dj cX12_ringsAt 92 (.if_icmp .ge 56) 3 95 56 148 := ⟨by decide +kernel, rfl, by decide⟩
theorem dX12_ringsAt_95 : Dc cX12_ringsAt 95 (.iconst 0) 1 96 := ⟨by decide +kernel, rfl⟩
theorem dX12_ringsAt_96 : Dc cX12_ringsAt 96 (.istore 4) 2 98 := ⟨by decide +kernel, rfl⟩
theorem dX12_ringsAt_98 : Dc cX12_ringsAt 98 (.iload 4) 2 100 := ⟨by decide +kernel, rfl⟩
theorem dX12_ringsAt_100 : Dc cX12_ringsAt 100 (.bipush 12) 2 102 := ⟨by decide +kernel, rfl⟩
theorem djX12_ringsAt_102 : Dj cX12_ringsAt 102 (.if_icmp .ge 40) 3 105 40 142 := ⟨by decide +kernel, rfl, by decide⟩
theorem dX12_ringsAt_105 : Dc cX12_ringsAt 105 (.aload_n 0) 1 106 := ⟨by decide +kernel, rfl⟩
theorem dX12_ringsAt_106 : Dc cX12_ringsAt 106 (.getfield 74) 3 109 := ⟨by decide +kernel, rfl⟩
theorem dX12_ringsAt_109 : Dc cX12_ringsAt 109 (.iload 4) 2 111 := ⟨by decide +kernel, rfl⟩
theorem dX12_ringsAt_111 : Dc cX12_ringsAt 111 (.iaload) 1 112 := ⟨by decide +kernel, rfl⟩
theorem dX12_ringsAt_112 : Dc cX12_ringsAt 112 (.iload_n 3) 1 113 := ⟨by decide +kernel, rfl⟩
theorem dX12_ringsAt_113 : Dc cX12_ringsAt 113 (.ishr) 1 114 := ⟨by decide +kernel, rfl⟩
theorem dX12_ringsAt_114 : Dc cX12_ringsAt 114 (.iconst 1) 1 115 := ⟨by decide +kernel, rfl⟩
theorem dX12_ringsAt_115 : Dc cX12_ringsAt 115 (.iand) 1 116 := ⟨by decide +kernel, rfl⟩
theorem dX12_ringsAt_116 : Dc cX12_ringsAt 116 (.iconst 1) 1 117 := ⟨by decide +kernel, rfl⟩
theorem djX12_ringsAt_117 : Dj cX12_ringsAt 117 (.if_icmp .ne 19) 3 120 19 136 := ⟨by decide +kernel, rfl, by decide⟩
theorem dX12_ringsAt_120 : Dc cX12_ringsAt 120 (.aload_n 0) 1 121 := ⟨by decide +kernel, rfl⟩
theorem dX12_ringsAt_121 : Dc cX12_ringsAt 121 (.getfield 74) 3 124 := ⟨by decide +kernel, rfl⟩
theorem dX12_ringsAt_124 : Dc cX12_ringsAt 124 (.iload 4) 2 126 := ⟨by decide +kernel, rfl⟩
theorem dX12_ringsAt_126 : Dc cX12_ringsAt 126 (.dup2) 1 127 := ⟨by decide +kernel, rfl⟩
theorem dX12_ringsAt_127 : Dc cX12_ringsAt 127 (.iaload) 1 128 := ⟨by decide +kernel, rfl⟩
theorem dX12_ringsAt_128 : Dc cX12_ringsAt 128 (.aload_n 0) 1 129 := ⟨by decide +kernel, rfl⟩
theorem dX12_ringsAt_129 : Dc cX12_ringsAt 129 (.getfield 74) 3 132 := ⟨by decide +kernel, rfl⟩
theorem dX12_ringsAt_132 : Dc cX12_ringsAt 132 (.iload_n 3) 1 133 := ⟨by decide +kernel, rfl⟩
theorem dX12_ringsAt_133 : Dc cX12_ringsAt 133 (.iaload) 1 134 := ⟨by decide +kernel, rfl⟩
theorem dX12_ringsAt_134 : Dc cX12_ringsAt 134 (.ior) 1 135 := ⟨by decide +kernel, rfl⟩
theorem dX12_ringsAt_135 : Dc cX12_ringsAt 135 (.iastore) 1 136 := ⟨by decide +kernel, rfl⟩
theorem dX12_ringsAt_136 : Dc cX12_ringsAt 136 (.iinc 4 1) 3 139 := ⟨by decide +kernel, rfl⟩
theorem djX12_ringsAt_139 : Dj cX12_ringsAt 139 (.goto (-41)) 3 142 (-41) 98 := ⟨by decide +kernel, rfl, by decide⟩
theorem dX12_ringsAt_142 : Dc cX12_ringsAt 142 (.iinc 3 1) 3 145 := ⟨by decide +kernel, rfl⟩
theorem djX12_ringsAt_145 : Dj cX12_ringsAt 145 (.goto (-56)) 3 148 (-56) 89 := ⟨by decide +kernel, rfl, by decide⟩
theorem dX12_ringsAt_148 : Dc cX12_ringsAt 148 (.iconst 0) 1 149 := ⟨by decide +kernel, rfl⟩
theorem dX12_ringsAt_149 : Dc cX12_ringsAt 149 (.istore_n 3) 1 150 := ⟨by decide +kernel, rfl⟩
theorem dX12_ringsAt_150 : Dc cX12_ringsAt 150 (.iconst 0) 1 151 := ⟨by decide +kernel, rfl⟩
theorem dX12_ringsAt_151 : Dc cX12_ringsAt 151 (.istore 4) 2 153 := ⟨by decide +kernel, rfl⟩
theorem dX12_ringsAt_153 : Dc cX12_ringsAt 153 (.iload 4) 2 155 := ⟨by decide +kernel, rfl⟩
theorem dX12_ringsAt_155 : Dc cX12_ringsAt 155 (.bipush 12) 2 157 := ⟨by decide +kernel, rfl⟩
theorem djX12_ringsAt_157 : Dj cX12_ringsAt 157 (.if_icmp .ge 24) 3 160 24 181 := ⟨by decide +kernel, rfl, by decide⟩
theorem dX12_ringsAt_160 : Dc cX12_ringsAt 160 (.iload_n 3) 1 161 := ⟨by decide +kernel, rfl⟩
theorem dX12_ringsAt_161 : Dc cX12_ringsAt 161 (.aload_n 0) 1 162 := ⟨by decide +kernel, rfl⟩
theorem dX12_ringsAt_162 : Dc cX12_ringsAt 162 (.getfield 74) 3 165 := ⟨by decide +kernel, rfl⟩
theorem dX12_ringsAt_165 : Dc cX12_ringsAt 165 (.iload 4) 2 167 := ⟨by decide +kernel, rfl⟩
theorem dX12_ringsAt_167 : Dc cX12_ringsAt 167 (.iaload) 1 168 := ⟨by decide +kernel, rfl⟩
theorem dX12_ringsAt_168 : Dc cX12_ringsAt 168 (.iconst 1) 1 169 := ⟨by decide +kernel, rfl⟩
theorem dX12_ringsAt_169 : Dc cX12_ringsAt 169 (.iload 4) 2 171 := ⟨by decide +kernel, rfl⟩
theorem dX12_ringsAt_171 : Dc cX12_ringsAt 171 (.ishl) 1 172 := ⟨by decide +kernel, rfl⟩
theorem dX12_ringsAt_172 : Dc cX12_ringsAt 172 (.iand) 1 173 := ⟨by decide +kernel, rfl⟩
theorem dX12_ringsAt_173 : Dc cX12_ringsAt 173 (.ior) 1 174 := ⟨by decide +kernel, rfl⟩
theorem dX12_ringsAt_174 : Dc cX12_ringsAt 174 (.istore_n 3) 1 175 := ⟨by decide +kernel, rfl⟩
theorem dX12_ringsAt_175 : Dc cX12_ringsAt 175 (.iinc 4 1) 3 178 := ⟨by decide +kernel, rfl⟩
theorem djX12_ringsAt_178 : Dj cX12_ringsAt 178 (.goto (-25)) 3 181 (-25) 153 := ⟨by decide +kernel, rfl, by decide⟩
theorem dX12_ringsAt_181 : Dc cX12_ringsAt 181 (.iload_n 3) 1 182 := ⟨by decide +kernel, rfl⟩
theorem dX12_ringsAt_182 : Dc cX12_ringsAt 182 (.ireturn) 1 183 := ⟨by decide +kernel, rfl⟩
section
variable {p : Program} {l : Launch} {e : Env} {s : State} {m : MethodId} {args : Array Value} {below : List Frame} {meth : Method} {c : Code} {A0 : Nat → Prop} {D : va_G} {cA : Nat → ClassId} {ad : Nat → Nat} {Z : (Nat → Nat) × (Nat → Nat)} {Q : Int → St → Prop}
set_option maxHeartbeats 4000000 in
set_option maxRecDepth 100000 in
theorem t_X12_ringsAt_b81 (E : Ev p s m args meth c cX12_ringsAt 5 RX12 A0 D cA ad NR Z) (hr : meth.sig.returnType = (some .int)) {K23 : Int → Int → Int → St → Prop} (hK23 : ∀ (x1 : Int) (x2 : Int) (x3 : Int) (σ : St), C32 x1 → C32 x2 → C32 x3 → CanS shR NR σ → K23 x1 x2 x3 σ → G p l e (rmL 3 0 0) s m args below meth c 5 A0 D cA ad shR NR 0 0 (MQ below (QIc D cA ad shR NR Q A0) args s 0 0 A0) σ 23 [some (.ref (ad 0)), some (vI x1), some (vI x2), some (vI x3), none] []) (x1 : Int) (x2 : Int) (x3 : Int) (σ : St) (c1 : C32 x1) (c2 : C32 x2) (c3 : C32 x3) (hσ : CanS shR NR σ) (h : wp_X12_ringsAt_b81 Q K23 x1 x2 x3 σ) : G p l e (rmL 3 0 0) s m args below meth c 5 A0 D cA ad shR NR 0 0 (MQ below (QIc D cA ad shR NR Q A0) args s 0 0 A0) σ 81 [some (.ref (ad 0)), some (vI x1), some (vI x2), some (vI x3), none] [] := by
  unfold wp_X12_ringsAt_b81 at h
  refine g_iinc_3 E rfl (by decide) dX12_ringsAt_81 (fun v7 ev7 => ?_)
  replace h := h v7 ev7
  have cv7 : C32 v7 := by rw [ev7]; exact c32_w _
  refine g_goto E djX12_ringsAt_84 ?_
  exact (hK23 x1 x2 v7 σ c1 c2 cv7 hσ h).weak (w_k (w_k (w_k (w_k (w_d w_n)))))
set_option maxHeartbeats 4000000 in
set_option maxRecDepth 100000 in
theorem t_X12_ringsAt_b59 (E : Ev p s m args meth c cX12_ringsAt 5 RX12 A0 D cA ad NR Z) (hr : meth.sig.returnType = (some .int)) {K23 : Int → Int → Int → St → Prop} (hK23 : ∀ (x1 : Int) (x2 : Int) (x3 : Int) (σ : St), C32 x1 → C32 x2 → C32 x3 → CanS shR NR σ → K23 x1 x2 x3 σ → G p l e (rmL 3 0 0) s m args below meth c 5 A0 D cA ad shR NR 0 0 (MQ below (QIc D cA ad shR NR Q A0) args s 0 0 A0) σ 23 [some (.ref (ad 0)), some (vI x1), some (vI x2), some (vI x3), none] []) (x1 : Int) (x2 : Int) (x3 : Int) (σ : St) (c1 : C32 x1) (c2 : C32 x2) (c3 : C32 x3) (hσ : CanS shR NR σ) (h : wp_X12_ringsAt_b59 Q K23 x1 x2 x3 σ) : G p l e (rmL 3 0 0) s m args below meth c 5 A0 D cA ad shR NR 0 0 (MQ below (QIc D cA ad shR NR Q A0) args s 0 0 A0) σ 59 [some (.ref (ad 0)), some (vI x1), some (vI x2), some (vI x3), none] [] := by
  unfold wp_X12_ringsAt_b59 at h
  refine g_aload_0 E dX12_ringsAt_59 ?_
  refine g_getR E fl_RX12_74 kR_0 sR_0 rfl dX12_ringsAt_60 ?_
  refine g_aload_0 E dX12_ringsAt_63 ?_
  refine g_getR E fl_RX12_13 kR_0 sR_0 rfl dX12_ringsAt_64 ?_
  refine g_iload_3 E dX12_ringsAt_67 ?_
  refine g_iald E kR_1 sR_1 (by decide) h.1 dX12_ringsAt_68 ?_
  replace h := h.2
  refine g_dup2 E rfl rfl dX12_ringsAt_69 ?_
  refine g_iald E kR_19 sR_19 (by decide) h.1 dX12_ringsAt_70 ?_
  replace h := h.2
  refine g_iconst E dX12_ringsAt_71 ?_
  refine g_aload_0 E dX12_ringsAt_72 ?_
  refine g_getR E fl_RX12_17 kR_0 sR_0 rfl dX12_ringsAt_73 ?_
  refine g_iload_3 E dX12_ringsAt_76 ?_
  refine g_iald E kR_2 sR_2 (by decide) h.1 dX12_ringsAt_77 ?_
  replace h := h.2
  refine g_ishl E dX12_ringsAt_78 ?_
  refine g_ior E dX12_ringsAt_79 ?_
  refine g_iast E kR_19 sR_19 (by decide) h.1 dX12_ringsAt_80 (g_nmS (fun σ8 eσ8 => ?_))
  replace h := h.2 σ8 eσ8
  have hσ8 : CanS shR NR σ8 := by rw [eσ8]; exact wR_19 hσ (c32_t _)
  exact (t_X12_ringsAt_b81 E hr hK23 x1 x2 x3 σ8 c1 c2 c3 hσ8 h).weak (w_k (w_k (w_k (w_k (w_d w_n)))))
set_option maxHeartbeats 4000000 in
set_option maxRecDepth 100000 in
theorem t_X12_ringsAt_b136 (E : Ev p s m args meth c cX12_ringsAt 5 RX12 A0 D cA ad NR Z) (hr : meth.sig.returnType = (some .int)) {K89 : Int → St → Prop} (hK89 : ∀ (x3 : Int) (σ : St), C32 x3 → CanS shR NR σ → K89 x3 σ → G p l e (rmL 3 0 0) s m args below meth c 5 A0 D cA ad shR NR 0 0 (MQ below (QIc D cA ad shR NR Q A0) args s 0 0 A0) σ 89 [some (.ref (ad 0)), none, none, some (vI x3), none] []) {K98 : Int → Int → St → Prop} (hK98 : ∀ (x3 : Int) (x4 : Int) (σ : St), C32 x3 → C32 x4 → CanS shR NR σ → K98 x3 x4 σ → G p l e (rmL 3 0 0) s m args below meth c 5 A0 D cA ad shR NR 0 0 (MQ below (QIc D cA ad shR NR Q A0) args s 0 0 A0) σ 98 [some (.ref (ad 0)), none, none, some (vI x3), some (vI x4)] []) (x3 : Int) (x4 : Int) (σ : St) (c3 : C32 x3) (c4 : C32 x4) (hσ : CanS shR NR σ) (h : wp_X12_ringsAt_b136 Q K89 K98 x3 x4 σ) : G p l e (rmL 3 0 0) s m args below meth c 5 A0 D cA ad shR NR 0 0 (MQ below (QIc D cA ad shR NR Q A0) args s 0 0 A0) σ 136 [some (.ref (ad 0)), none, none, some (vI x3), some (vI x4)] [] := by
  unfold wp_X12_ringsAt_b136 at h
  refine g_iinc_4 E rfl (by decide) dX12_ringsAt_136 (fun v13 ev13 => ?_)
  replace h := h v13 ev13
  have cv13 : C32 v13 := by rw [ev13]; exact c32_w _
  refine g_goto E djX12_ringsAt_139 ?_
  exact (hK98 x3 v13 σ c3 cv13 hσ h).weak (w_k (w_d (w_d (w_k (w_k w_n)))))
set_option maxHeartbeats 4000000 in
set_option maxRecDepth 100000 in
theorem t_X12_ringsAt_l98 (E : Ev p s m args meth c cX12_ringsAt 5 RX12 A0 D cA ad NR Z) (hr : meth.sig.returnType = (some .int)) {K89 : Int → St → Prop} (hK89 : ∀ (x3 : Int) (σ : St), C32 x3 → CanS shR NR σ → K89 x3 σ → G p l e (rmL 3 0 0) s m args below meth c 5 A0 D cA ad shR NR 0 0 (MQ below (QIc D cA ad shR NR Q A0) args s 0 0 A0) σ 89 [some (.ref (ad 0)), none, none, some (vI x3), none] []) : ∀ (n : Nat) (x3 : Int) (x4 : Int) (σ : St), C32 x3 → C32 x4 → CanS shR NR σ → wp_X12_ringsAt_l98 Q K89 n x3 x4 σ → G p l e (rmL 3 0 0) s m args below meth c 5 A0 D cA ad shR NR 0 0 (MQ below (QIc D cA ad shR NR Q A0) args s 0 0 A0) σ 98 [some (.ref (ad 0)), none, none, some (vI x3), some (vI x4)] [] := by
  intro n
  induction n with
  | zero => intro _ _ _ _ _ _ h; exact h.elim
  | succ n ih =>
    intro x3 x4 σ c3 c4 hσ h
    unfold wp_X12_ringsAt_l98 at h
    refine g_iload_4 E dX12_ringsAt_98 ?_
    refine g_bipush E (by decide) dX12_ringsAt_100 ?_
    refine g_icmp_ge E c4 cl_12 djX12_ringsAt_102 (fun hc => ?_) (fun hc => ?_)
    · replace h := h.1 hc
      refine g_iinc_3 E rfl (by decide) dX12_ringsAt_142 (fun v11 ev11 => ?_)
      replace h := h v11 ev11
      have cv11 : C32 v11 := by rw [ev11]; exact c32_w _
      refine g_goto E djX12_ringsAt_145 ?_
      exact (hK89 v11 σ cv11 hσ h).weak (w_k (w_d (w_d (w_k (w_d w_n)))))
    · replace h := h.2 hc
      refine g_aload_0 E dX12_ringsAt_105 ?_
      refine g_getR E fl_RX12_74 kR_0 sR_0 rfl dX12_ringsAt_106 ?_
      refine g_iload_4 E dX12_ringsAt_109 ?_
      refine g_iald E kR_19 sR_19 (by decide) h.1 dX12_ringsAt_111 ?_
      replace h := h.2
      refine g_iload_3 E dX12_ringsAt_112 ?_
      refine g_ishr E dX12_ringsAt_113 ?_
      refine g_iconst E dX12_ringsAt_114 ?_
      refine g_iand E dX12_ringsAt_115 ?_
      refine g_iconst E dX12_ringsAt_116 ?_
      refine g_icmp_ne E (c32_t _) cl_1 djX12_ringsAt_117 (fun hc => ?_) (fun hc => ?_)
      · replace h := h.1 hc
        exact (t_X12_ringsAt_b136 E hr hK89 ih x3 x4 σ c3 c4 hσ h).weak (w_k (w_d (w_d (w_k (w_k w_n)))))
      · replace h := h.2 hc
        refine g_aload_0 E dX12_ringsAt_120 ?_
        refine g_getR E fl_RX12_74 kR_0 sR_0 rfl dX12_ringsAt_121 ?_
        refine g_iload_4 E dX12_ringsAt_124 ?_
        refine g_dup2 E rfl rfl dX12_ringsAt_126 ?_
        refine g_iald E kR_19 sR_19 (by decide) h.1 dX12_ringsAt_127 ?_
        replace h := h.2
        refine g_aload_0 E dX12_ringsAt_128 ?_
        refine g_getR E fl_RX12_74 kR_0 sR_0 rfl dX12_ringsAt_129 ?_
        refine g_iload_3 E dX12_ringsAt_132 ?_
        refine g_iald E kR_19 sR_19 (by decide) h.1 dX12_ringsAt_133 ?_
        replace h := h.2
        refine g_ior E dX12_ringsAt_134 ?_
        refine g_iast E kR_19 sR_19 (by decide) h.1 dX12_ringsAt_135 (g_nmS (fun σ12 eσ12 => ?_))
        replace h := h.2 σ12 eσ12
        have hσ12 : CanS shR NR σ12 := by rw [eσ12]; exact wR_19 hσ (c32_t _)
        exact (t_X12_ringsAt_b136 E hr hK89 ih x3 x4 σ12 c3 c4 hσ12 h).weak (w_k (w_d (w_d (w_k (w_k w_n)))))
set_option maxHeartbeats 4000000 in
set_option maxRecDepth 100000 in
theorem t_X12_ringsAt_l153 (E : Ev p s m args meth c cX12_ringsAt 5 RX12 A0 D cA ad NR Z) (hr : meth.sig.returnType = (some .int)) : ∀ (n : Nat) (x3 : Int) (x4 : Int) (σ : St), C32 x3 → C32 x4 → CanS shR NR σ → wp_X12_ringsAt_l153 Q n x3 x4 σ → G p l e (rmL 3 0 0) s m args below meth c 5 A0 D cA ad shR NR 0 0 (MQ below (QIc D cA ad shR NR Q A0) args s 0 0 A0) σ 153 [some (.ref (ad 0)), none, none, some (vI x3), some (vI x4)] [] := by
  intro n
  induction n with
  | zero => intro _ _ _ _ _ _ h; exact h.elim
  | succ n ih =>
    intro x3 x4 σ c3 c4 hσ h
    unfold wp_X12_ringsAt_l153 at h
    refine g_iload_4 E dX12_ringsAt_153 ?_
    refine g_bipush E (by decide) dX12_ringsAt_155 ?_
    refine g_icmp_ge E c4 cl_12 djX12_ringsAt_157 (fun hc => ?_) (fun hc => ?_)
    · replace h := h.1 hc
      refine g_iload_3 E dX12_ringsAt_181 ?_
      exact g_iret E hr c3 h hσ dX12_ringsAt_182
    · replace h := h.2 hc
      refine g_iload_3 E dX12_ringsAt_160 ?_
      refine g_aload_0 E dX12_ringsAt_161 ?_
      refine g_getR E fl_RX12_74 kR_0 sR_0 rfl dX12_ringsAt_162 ?_
      refine g_iload_4 E dX12_ringsAt_165 ?_
      refine g_iald E kR_19 sR_19 (by decide) h.1 dX12_ringsAt_167 ?_
      replace h := h.2
      refine g_iconst E dX12_ringsAt_168 ?_
      refine g_iload_4 E dX12_ringsAt_169 ?_
      refine g_ishl E dX12_ringsAt_171 ?_
      refine g_iand E dX12_ringsAt_172 ?_
      refine g_ior E dX12_ringsAt_173 ?_
      refine g_nmI (fun v9 ev9 => ?_)
      replace h := h v9 ev9
      have cv9 : C32 v9 := by rw [ev9]; exact (c32_t _)
      refine g_istore_3 E rfl (by decide) dX12_ringsAt_174 ?_
      refine g_iinc_4 E rfl (by decide) dX12_ringsAt_175 (fun v10 ev10 => ?_)
      replace h := h v10 ev10
      have cv10 : C32 v10 := by rw [ev10]; exact c32_w _
      refine g_goto E djX12_ringsAt_178 ?_
      exact (ih v9 v10 σ cv9 cv10 hσ h).weak (w_k (w_d (w_d (w_k (w_k w_n)))))
set_option maxHeartbeats 4000000 in
set_option maxRecDepth 100000 in
theorem t_X12_ringsAt_l89 (E : Ev p s m args meth c cX12_ringsAt 5 RX12 A0 D cA ad NR Z) (hr : meth.sig.returnType = (some .int)) : ∀ (n : Nat) (x3 : Int) (σ : St), C32 x3 → CanS shR NR σ → wp_X12_ringsAt_l89 Q n x3 σ → G p l e (rmL 3 0 0) s m args below meth c 5 A0 D cA ad shR NR 0 0 (MQ below (QIc D cA ad shR NR Q A0) args s 0 0 A0) σ 89 [some (.ref (ad 0)), none, none, some (vI x3), none] [] := by
  intro n
  induction n with
  | zero => intro _ _ _ _ h; exact h.elim
  | succ n ih =>
    intro x3 σ c3 hσ h
    unfold wp_X12_ringsAt_l89 at h
    refine g_iload_3 E dX12_ringsAt_89 ?_
    refine g_bipush E (by decide) dX12_ringsAt_90 ?_
    refine g_icmp_ge E c3 cl_12 djX12_ringsAt_92 (fun hc => ?_) (fun hc => ?_)
    · replace h := h.1 hc
      refine g_iconst E dX12_ringsAt_148 ?_
      refine g_istore_3 E rfl (by decide) dX12_ringsAt_149 ?_
      refine g_iconst E dX12_ringsAt_150 ?_
      refine g_istore_4 E rfl (by decide) dX12_ringsAt_151 ?_
      exact (t_X12_ringsAt_l153 E hr bigN 0 0 σ cl_0 cl_0 hσ h).weak (w_k (w_d (w_d (w_k (w_k w_n)))))
    · replace h := h.2 hc
      refine g_iconst E dX12_ringsAt_95 ?_
      refine g_istore_4 E rfl (by decide) dX12_ringsAt_96 ?_
      exact (t_X12_ringsAt_l98 E hr ih bigN x3 0 σ c3 cl_0 hσ h).weak (w_k (w_d (w_d (w_k (w_k w_n)))))
set_option maxHeartbeats 4000000 in
set_option maxRecDepth 100000 in
theorem t_X12_ringsAt_l23 (E : Ev p s m args meth c cX12_ringsAt 5 RX12 A0 D cA ad NR Z) (hr : meth.sig.returnType = (some .int)) : ∀ (n : Nat) (x1 : Int) (x2 : Int) (x3 : Int) (σ : St), C32 x1 → C32 x2 → C32 x3 → CanS shR NR σ → wp_X12_ringsAt_l23 Q n x1 x2 x3 σ → G p l e (rmL 3 0 0) s m args below meth c 5 A0 D cA ad shR NR 0 0 (MQ below (QIc D cA ad shR NR Q A0) args s 0 0 A0) σ 23 [some (.ref (ad 0)), some (vI x1), some (vI x2), some (vI x3), none] [] := by
  intro n
  induction n with
  | zero => intro _ _ _ _ _ _ _ _ h; exact h.elim
  | succ n ih =>
    intro x1 x2 x3 σ c1 c2 c3 hσ h
    unfold wp_X12_ringsAt_l23 at h
    refine g_iload_3 E dX12_ringsAt_23 ?_
    refine g_aload_0 E dX12_ringsAt_24 ?_
    refine g_getI E fl_RX12_252 kR_0 sR_0 rfl dX12_ringsAt_25 ?_
    refine g_icmp_ge E c3 (fR_0_1 hσ) djX12_ringsAt_28 (fun hc => ?_) (fun hc => ?_)
    · replace h := h.1 hc
      refine g_iconst E dX12_ringsAt_87 ?_
      refine g_istore_3 E rfl (by decide) dX12_ringsAt_88 ?_
      exact (t_X12_ringsAt_l89 E hr bigN 0 σ cl_0 hσ h).weak (w_k (w_d (w_d (w_k (w_d w_n)))))
    · replace h := h.2 hc
      refine g_aload_0 E dX12_ringsAt_31 ?_
      refine g_iload_3 E dX12_ringsAt_32 ?_
      refine g_callvI E my_X12_isSingle mi_X12_isSingle msel_X12_isSingle ml_RX12_334 (rm_ok (by decide) (by decide)) ⟨Nat.zero_le _, Nat.zero_le _⟩ kR_0 sR_0 rfl (m_X12_isSingle E.2.2.1 c3 hσ h) rfl rfl (Nat.le_of_ble_eq_true rfl) dX12_ringsAt_33 (fun r3 σ4 cr3 hσ4 h => ?_)
      refine g_if_eq E cr3 djX12_ringsAt_36 (fun hc => ?_) (fun hc => ?_)
      · replace h := h.1 hc
        exact (t_X12_ringsAt_b81 E hr ih x1 x2 x3 σ4 c1 c2 c3 hσ4 h).weak (w_k (w_k (w_k (w_k (w_d w_n)))))
      · replace h := h.2 hc
        refine g_iload_1 E dX12_ringsAt_39 ?_
        refine g_iconst E dX12_ringsAt_40 ?_
        refine g_icmp_eq E c1 cl_m1 djX12_ringsAt_41 (fun hc => ?_) (fun hc => ?_)
        · replace h := h.1 hc
          exact (t_X12_ringsAt_b59 E hr ih x1 x2 x3 σ4 c1 c2 c3 hσ4 h).weak (w_k (w_k (w_k (w_k (w_d w_n)))))
        · replace h := h.2 hc
          refine g_aload_0 E dX12_ringsAt_44 ?_
          refine g_aload_0 E dX12_ringsAt_45 ?_
          refine g_getR E fl_RX12_17 kR_0 sR_0 rfl dX12_ringsAt_46 ?_
          refine g_iload_3 E dX12_ringsAt_49 ?_
          refine g_iald E kR_2 sR_2 (by decide) h.1 dX12_ringsAt_50 ?_
          replace h := h.2
          refine g_iload_1 E dX12_ringsAt_51 ?_
          refine g_iload_2 E dX12_ringsAt_52 ?_
          refine g_callvI E my_X12_has mi_X12_has msel_X12_has ml_RX12_324 (rm_ok (by decide) (by decide)) ⟨Nat.zero_le _, Nat.zero_le _⟩ kR_0 sR_0 rfl (m_X12_has E.2.2.1 (aR_2 hσ4 _) c1 c2 hσ4 h) rfl rfl (Nat.le_of_ble_eq_true rfl) dX12_ringsAt_53 (fun r5 σ6 cr5 hσ6 h => ?_)
          refine g_if_eq E cr5 djX12_ringsAt_56 (fun hc => ?_) (fun hc => ?_)
          · replace h := h.1 hc
            exact (t_X12_ringsAt_b81 E hr ih x1 x2 x3 σ6 c1 c2 c3 hσ6 h).weak (w_k (w_k (w_k (w_k (w_d w_n)))))
          · replace h := h.2 hc
            exact (t_X12_ringsAt_b59 E hr ih x1 x2 x3 σ6 c1 c2 c3 hσ6 h).weak (w_k (w_k (w_k (w_k (w_d w_n)))))
set_option maxHeartbeats 4000000 in
set_option maxRecDepth 100000 in
theorem t_X12_ringsAt_l2 (E : Ev p s m args meth c cX12_ringsAt 5 RX12 A0 D cA ad NR Z) (hr : meth.sig.returnType = (some .int)) : ∀ (n : Nat) (x1 : Int) (x2 : Int) (x3 : Int) (σ : St), C32 x1 → C32 x2 → C32 x3 → CanS shR NR σ → wp_X12_ringsAt_l2 Q n x1 x2 x3 σ → G p l e (rmL 3 0 0) s m args below meth c 5 A0 D cA ad shR NR 0 0 (MQ below (QIc D cA ad shR NR Q A0) args s 0 0 A0) σ 2 [some (.ref (ad 0)), some (vI x1), some (vI x2), some (vI x3), none] [] := by
  intro n
  induction n with
  | zero => intro _ _ _ _ _ _ _ _ h; exact h.elim
  | succ n ih =>
    intro x1 x2 x3 σ c1 c2 c3 hσ h
    unfold wp_X12_ringsAt_l2 at h
    refine g_iload_3 E dX12_ringsAt_2 ?_
    refine g_bipush E (by decide) dX12_ringsAt_3 ?_
    refine g_icmp_ge E c3 cl_12 djX12_ringsAt_5 (fun hc => ?_) (fun hc => ?_)
    · replace h := h.1 hc
      refine g_iconst E dX12_ringsAt_21 ?_
      refine g_istore_3 E rfl (by decide) dX12_ringsAt_22 ?_
      exact (t_X12_ringsAt_l23 E hr bigN x1 x2 0 σ c1 c2 cl_0 hσ h).weak (w_k (w_k (w_k (w_k (w_d w_n)))))
    · replace h := h.2 hc
      refine g_aload_0 E dX12_ringsAt_8 ?_
      refine g_getR E fl_RX12_74 kR_0 sR_0 rfl dX12_ringsAt_9 ?_
      refine g_iload_3 E dX12_ringsAt_12 ?_
      refine g_iconst E dX12_ringsAt_13 ?_
      refine g_iast E kR_19 sR_19 (by decide) h.1 dX12_ringsAt_14 (g_nmS (fun σ1 eσ1 => ?_))
      replace h := h.2 σ1 eσ1
      have hσ1 : CanS shR NR σ1 := by rw [eσ1]; exact wR_19 hσ cl_0
      refine g_iinc_3 E rfl (by decide) dX12_ringsAt_15 (fun v2 ev2 => ?_)
      replace h := h v2 ev2
      have cv2 : C32 v2 := by rw [ev2]; exact c32_w _
      refine g_goto E djX12_ringsAt_18 ?_
      exact (ih x1 x2 v2 σ1 c1 c2 cv2 hσ1 h).weak (w_k (w_k (w_k (w_k (w_d w_n)))))
set_option maxHeartbeats 4000000 in
set_option maxRecDepth 100000 in
theorem t_X12_ringsAt (E : Ev p s m args meth c cX12_ringsAt 5 RX12 A0 D cA ad NR Z) (hr : meth.sig.returnType = (some .int)) (x1 : Int) (x2 : Int) (σ : St) (c1 : C32 x1) (c2 : C32 x2) (hσ : CanS shR NR σ) (h : wp_X12_ringsAt x1 x2 σ Q) : G p l e (rmL 3 0 0) s m args below meth c 5 A0 D cA ad shR NR 0 0 (MQ below (QIc D cA ad shR NR Q A0) args s 0 0 A0) σ 0 [some (.ref (ad 0)), some (vI x1), some (vI x2), none, none] [] := by
  unfold wp_X12_ringsAt at h
  refine g_iconst E dX12_ringsAt_0 ?_
  refine g_istore_3 E rfl (by decide) dX12_ringsAt_1 ?_
  exact (t_X12_ringsAt_l2 E hr bigN x1 x2 0 σ c1 c2 cl_0 hσ h).weak (w_k (w_k (w_k (w_k (w_d w_n)))))
end
theorem m_X12_ringsAt {Z : (Nat → Nat) × (Nat → Nat)} {l : Launch} {D : va_G} {cA : Nat → ClassId} {ad : Nat → Nat} {x1 x2 : Int} {σ : St} {Q : Int → St → Prop} (hA : AdOk NR ad) (c1 : C32 x1) (c2 : C32 x2) (hσ : CanS shR NR σ) (h : wp_X12_ringsAt x1 x2 σ Q) : KtI Z l D cA ad shR NR yX12_ringsAt cX12_ringsAt 5 (some .int) 3 [.ref (ad 0), vI x1, vI x2] σ Q :=
  KtI.of my_X12_ringsAt hA [some (.ref (ad 0)), some (vI x1), some (vI x2), none, none] (Nat.le_of_ble_eq_true rfl) rfl (fun p e s m args below meth c A0 E hr => t_X12_ringsAt E hr x1 x2 σ c1 c2 hσ h)
