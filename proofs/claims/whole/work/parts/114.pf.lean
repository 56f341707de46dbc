theorem dX12_isEndlessPart_0 : Dc cX12_isEndlessPart 0 (.iload_n 1) 1 1 := ⟨by decide +kernel, rfl⟩
theorem dX12_isEndlessPart_1 : Dc cX12_isEndlessPart 1 (.bipush 100) 2 3 := ⟨by decide +kernel, rfl⟩
theorem djX12_isEndlessPart_3 : Dj cX12_isEndlessPart 3 (.if_icmp .ge 21) 3 6 21 24 := ⟨by decide +kernel, rfl, by decide⟩
theorem dX12_isEndlessPart_6 : Dc cX12_isEndlessPart 6 (.aload_n 0) 1 7 := ⟨by decide +kernel, rfl⟩
theorem dX12_isEndlessPart_7 : Dc cX12_isEndlessPart 7 (.getfield 63) 3 10 := ⟨by decide +kernel, rfl⟩
theorem dX12_isEndlessPart_10 : Dc cX12_isEndlessPart 10 (.iload_n 1) 1 11 := ⟨by decide +kernel, rfl⟩
theorem dX12_isEndlessPart_11 : Dc cX12_isEndlessPart 11 (.iload_n 2) 1 12 := ⟨by decide +kernel, rfl⟩
theorem dX12_isEndlessPart_12 : Dc cX12_isEndlessPart 12 (.iload_n 3) 1 13 := ⟨by decide +kernel, rfl⟩
theorem dX12_isEndlessPart_13 : Dc cX12_isEndlessPart 13 (.invokestatic 282) 3 16 := ⟨by decide +kernel, rfl⟩
theorem dX12_isEndlessPart_16 : Dc cX12_isEndlessPart 16 (.baload) 1 17 := ⟨by decide +kernel, rfl⟩
theorem djX12_isEndlessPart_17 : Dj cX12_isEndlessPart 17 (.ifCond .eq 7) 3 20 7 24 := ⟨by decide +kernel, rfl, by decide⟩
theorem dX12_isEndlessPart_20 : Dc cX12_isEndlessPart 20 (.iconst 1) 1 21 := ⟨by decide +kernel, rfl⟩
theorem djX12_isEndlessPart_21 : Dj cX12_isEndlessPart 21 (.goto 4) 3 24 4 25 := ⟨by decide +kernel, rfl, by decide⟩
theorem dX12_isEndlessPart_24 : Dc cX12_isEndlessPart 24 (.iconst 0) 1 25 := ⟨by decide +kernel, rfl⟩
theorem dX12_isEndlessPart_25 : Dc cX12_isEndlessPart 25 (.ireturn) 1 26 := ⟨by decide +kernel, rfl⟩
section
variable {p : Program} {l : Launch} {e : Env} {s : State} {m : MethodId} {args : Array Value} {below : List Frame} {meth : Method} {c : Code} {A0 : Nat → Prop} {D : va_G} {cA : Nat → ClassId} {ad : Nat → Nat} {Z : (Nat → Nat) × (Nat → Nat)} {Q : Int → St → Prop}
set_option maxHeartbeats 4000000 in
set_option maxRecDepth 100000 in
theorem t_X12_isEndlessPart_b24 (E : Ev p s m args meth c cX12_isEndlessPart 4 RX12 A0 D cA ad NR Z) (hr : meth.sig.returnType = (some .boolean)) (σ : St) (hσ : CanS shR NR σ) (h : wp_X12_isEndlessPart_b24 Q  σ) : G p l e (rmL 2 0 0) s m args below meth c 4 A0 D cA ad shR NR 0 0 (MQ below (QIc D cA ad shR NR Q A0) args s 0 0 A0) σ 24 [none, none, none, none] [] := by
  unfold wp_X12_isEndlessPart_b24 at h
  refine g_iconst E dX12_isEndlessPart_24 ?_
  exact g_zret E hr (Or.inl rfl) h hσ dX12_isEndlessPart_25
set_option maxHeartbeats 4000000 in
set_option maxRecDepth 100000 in
theorem t_X12_isEndlessPart (E : Ev p s m args meth c cX12_isEndlessPart 4 RX12 A0 D cA ad NR Z) (hr : meth.sig.returnType = (some .boolean)) (x1 : Int) (x2 : Int) (x3 : Int) (σ : St) (c1 : C32 x1) (c2 : C32 x2) (c3 : C32 x3) (hσ : CanS shR NR σ) (h : wp_X12_isEndlessPart x1 x2 x3 σ Q) : G p l e (rmL 2 0 0) s m args below meth c 4 A0 D cA ad shR NR 0 0 (MQ below (QIc D cA ad shR NR Q A0) args s 0 0 A0) σ 0 [some (.ref (ad 0)), some (vI x1), some (vI x2), some (vI x3)] [] := by
  unfold wp_X12_isEndlessPart at h
  refine g_iload_1 E dX12_isEndlessPart_0 ?_
  refine g_bipush E (by decide) dX12_isEndlessPart_1 ?_
  refine g_icmp_ge E c1 cl_100 djX12_isEndlessPart_3 (fun hc => ?_) (fun hc => ?_)
  · replace h := h.1 hc
    exact (t_X12_isEndlessPart_b24 E hr σ hσ h).weak (w_d (w_d (w_d (w_d w_n))))
  · replace h := h.2 hc
    refine g_aload_0 E dX12_isEndlessPart_6 ?_
    refine g_getR E fl_RX12_63 kR_0 sR_0 rfl dX12_isEndlessPart_7 ?_
    refine g_iload_1 E dX12_isEndlessPart_10 ?_
    refine g_iload_2 E dX12_isEndlessPart_11 ?_
    refine g_iload_3 E dX12_isEndlessPart_12 ?_
    refine g_callsI E my_X12_item ms_X12_item ml_RX12_282 (rm_ok (by decide) (by decide)) ⟨Nat.zero_le _, Nat.zero_le _⟩ (m_X12_item E.2.2.1 c1 c2 c3 hσ h) rfl rfl (Nat.le_of_ble_eq_true rfl) dX12_isEndlessPart_13 (fun r1 σ2 cr1 hσ2 h => ?_)
    refine g_zald E kR_16 sR_16 (by decide) h.1 dX12_isEndlessPart_16 ?_
    replace h := h.2
    refine g_if_eq E (aR_16 hσ2 _) djX12_isEndlessPart_17 (fun hc => ?_) (fun hc => ?_)
    · replace h := h.1 hc
      exact (t_X12_isEndlessPart_b24 E hr σ2 hσ2 h).weak (w_d (w_d (w_d (w_d w_n))))
    · replace h := h.2 hc
      refine g_iconst E dX12_isEndlessPart_20 ?_
      refine g_goto E djX12_isEndlessPart_21 ?_
      exact g_zret E hr (Or.inr rfl) h hσ2 dX12_isEndlessPart_25
end
theorem m_X12_isEndlessPart {Z : (Nat → Nat) × (Nat → Nat)} {l : Launch} {D : va_G} {cA : Nat → ClassId} {ad : Nat → Nat} {x1 x2 x3 : Int} {σ : St} {Q : Int → St → Prop} (hA : AdOk NR ad) (c1 : C32 x1) (c2 : C32 x2) (c3 : C32 x3) (hσ : CanS shR NR σ) (h : wp_X12_isEndlessPart x1 x2 x3 σ Q) : KtI Z l D cA ad shR NR yX12_isEndlessPart cX12_isEndlessPart 4 (some .boolean) 2 [.ref (ad 0), vI x1, vI x2, vI x3] σ Q :=
  KtI.of my_X12_isEndlessPart hA [some (.ref (ad 0)), some (vI x1), some (vI x2), some (vI x3)] (Nat.le_of_ble_eq_true rfl) rfl (fun p e s m args below meth c A0 E hr => t_X12_isEndlessPart E hr x1 x2 x3 σ c1 c2 c3 hσ h)
theorem dX12_goesOn_0 : Dc cX12_goesOn 0 (.aload_n 0) 1 1 := ⟨by decide +kernel, rfl⟩
theorem dX12_goesOn_1 : Dc cX12_goesOn 1 (.getfield 20) 3 4 := ⟨by decide +kernel, rfl⟩
theorem dX12_goesOn_4 : Dc cX12_goesOn 4 (.iload_n 1) 1 5 := ⟨by decide +kernel, rfl⟩
theorem dX12_goesOn_5 : Dc cX12_goesOn 5 (.iaload) 1 6 := ⟨by decide +kernel, rfl⟩
theorem dX12_goesOn_6 : Dc cX12_goesOn 6 (.iconst (-1)) 1 7 := ⟨by decide +kernel, rfl⟩
theorem djX12_goesOn_7 : Dj cX12_goesOn 7 (.if_icmp .ne 39) 3 10 39 46 := ⟨by decide +kernel, rfl, by decide⟩
theorem dX12_goesOn_10 : Dc cX12_goesOn 10 (.aload_n 0) 1 11 := ⟨by decide +kernel, rfl⟩
theorem dX12_goesOn_11 : Dc cX12_goesOn 11 (.aload_n 0) 1 12 := ⟨by decide +kernel, rfl⟩
theorem dX12_goesOn_12 : Dc cX12_goesOn 12 (.getfield 17) 3 15 := ⟨by decide +kernel, rfl⟩
theorem dX12_goesOn_15 : Dc cX12_goesOn 15 (.iload_n 1) 1 16 := ⟨by decide +kernel, rfl⟩
theorem dX12_goesOn_16 : Dc cX12_goesOn 16 (.iaload) 1 17 := ⟨by decide +kernel, rfl⟩
theorem dX12_goesOn_17 : Dc cX12_goesOn 17 (.iload_n 2) 1 18 := ⟨by decide +kernel, rfl⟩
theorem dX12_goesOn_18 : Dc cX12_goesOn 18 (.iload_n 3) 1 19 := ⟨by decide +kernel, rfl⟩
theorem dX12_goesOn_19 : Dc cX12_goesOn 19 (.invokevirtual 287) 3 22 := ⟨by decide +kernel, rfl⟩
theorem djX12_goesOn_22 : Dj cX12_goesOn 22 (.ifCond .eq 22) 3 25 22 44 := ⟨by decide +kernel, rfl, by decide⟩
theorem dX12_goesOn_25 : Dc cX12_goesOn 25 (.aload_n 0) 1 26 := ⟨by decide +kernel, rfl⟩
theorem dX12_goesOn_26 : Dc cX12_goesOn 26 (.aload_n 0) 1 27 := ⟨by decide +kernel, rfl⟩
theorem dX12_goesOn_27 : Dc cX12_goesOn 27 (.getfield 17) 3 30 := ⟨by decide +kernel, rfl⟩
theorem dX12_goesOn_30 : Dc cX12_goesOn 30 (.iload_n 1) 1 31 := ⟨by decide +kernel, rfl⟩
theorem dX12_goesOn_31 : Dc cX12_goesOn 31 (.iaload) 1 32 := ⟨by decide +kernel, rfl⟩
theorem dX12_goesOn_32 : Dc cX12_goesOn 32 (.iload_n 2) 1 33 := ⟨by decide +kernel, rfl⟩
theorem dX12_goesOn_33 : Dc cX12_goesOn 33 (.iload_n 3) 1 34 := ⟨by decide +kernel, rfl⟩
theorem dX12_goesOn_34 : Dc cX12_goesOn 34 (.invokevirtual 337) 3 37 := ⟨by decide +kernel, rfl⟩
theorem djX12_goesOn_37 : Dj cX12_goesOn 37 (.ifCond .eq 7) 3 40 7 44 := ⟨by decide +kernel, rfl, by decide⟩
theorem dX12_goesOn_40 : Dc cX12_goesOn 40 (.iconst 1) 1 41 := ⟨by decide +kernel, rfl⟩
theorem djX12_goesOn_41 : Dj cX12_goesOn 41 (.goto 4) 3 44 4 45 := ⟨by decide +kernel, rfl, by decide⟩
theorem dX12_goesOn_44 : Dc cX12_goesOn 44 (.iconst 0) 1 45 := ⟨by decide +kernel, rfl⟩
theorem dX12_goesOn_45 : Dc cX12_goesOn 45 (.ireturn) 1 46 := ⟨by decide +kernel, rfl⟩
theorem dX12_goesOn_46 : Dc cX12_goesOn 46 (.iload_n 2) 1 47 := ⟨by decide +kernel, rfl⟩
theorem dX12_goesOn_47 : Dc cX12_goesOn 47 (.iconst 1) 1 48 := ⟨by decide +kernel, rfl⟩
theorem dX12_goesOn_48 : Dc cX12_goesOn 48 (.iadd) 1 49 := ⟨by decide +kernel, rfl⟩
theorem dX12_goesOn_49 : Dc cX12_goesOn 49 (.istore 4) 2 51 := ⟨by decide +kernel, rfl⟩
theorem dX12_goesOn_51 : Dc cX12_goesOn 51 (.iload 4) 2 53 := ⟨by decide +kernel, rfl⟩
theorem dX12_goesOn_53 : Dc cX12_goesOn 53 (.iload_n 3) 1 54 := ⟨by decide +kernel, rfl⟩
theorem djX12_goesOn_54 : Dj cX12_goesOn 54 (.if_icmp .ge 75) 3 57 75 129 := ⟨by decide +kernel, rfl, by decide⟩
theorem dX12_goesOn_57 : Dc cX12_goesOn 57 (.aload_n 0) 1 58 := ⟨by decide +kernel, rfl⟩
theorem dX12_goesOn_58 : Dc cX12_goesOn 58 (.aload_n 0) 1 59 := ⟨by decide +kernel, rfl⟩
theorem dX12_goesOn_59 : Dc cX12_goesOn 59 (.getfield 17) 3 62 := ⟨by decide +kernel, rfl⟩
theorem dX12_goesOn_62 : Dc cX12_goesOn 62 (.iload_n 1) 1 63 := ⟨by decide +kernel, rfl⟩
theorem dX12_goesOn_63 : Dc cX12_goesOn 63 (.iaload) 1 64 := ⟨by decide +kernel, rfl⟩
theorem dX12_goesOn_64 : Dc cX12_goesOn 64 (.iload_n 2) 1 65 := ⟨by decide +kernel, rfl⟩
theorem dX12_goesOn_65 : Dc cX12_goesOn 65 (.iload 4) 2 67 := ⟨by decide +kernel, rfl⟩
theorem dX12_goesOn_67 : Dc cX12_goesOn 67 (.invokevirtual 287) 3 70 := ⟨by decide +kernel, rfl⟩
theorem djX12_goesOn_70 : Dj cX12_goesOn 70 (.ifCond .eq 53) 3 73 53 123 := ⟨by decide +kernel, rfl, by decide⟩
theorem dX12_goesOn_73 : Dc cX12_goesOn 73 (.aload_n 0) 1 74 := ⟨by decide +kernel, rfl⟩
theorem dX12_goesOn_74 : Dc cX12_goesOn 74 (.aload_n 0) 1 75 := ⟨by decide +kernel, rfl⟩
theorem dX12_goesOn_75 : Dc cX12_goesOn 75 (.getfield 20) 3 78 := ⟨by decide +kernel, rfl⟩
theorem dX12_goesOn_78 : Dc cX12_goesOn 78 (.iload_n 1) 1 79 := ⟨by decide +kernel, rfl⟩
theorem dX12_goesOn_79 : Dc cX12_goesOn 79 (.iaload) 1 80 := ⟨by decide +kernel, rfl⟩
theorem dX12_goesOn_80 : Dc cX12_goesOn 80 (.iload 4) 2 82 := ⟨by decide +kernel, rfl⟩
theorem dX12_goesOn_82 : Dc cX12_goesOn 82 (.iload_n 3) 1 83 := ⟨by decide +kernel, rfl⟩
theorem dX12_goesOn_83 : Dc cX12_goesOn 83 (.invokevirtual 287) 3 86 := ⟨by decide +kernel, rfl⟩
theorem djX12_goesOn_86 : Dj cX12_goesOn 86 (.ifCond .eq 37) 3 89 37 123 := ⟨by decide +kernel, rfl, by decide⟩
theorem dX12_goesOn_89 : Dc cX12_goesOn 89 (.aload_n 0) 1 90 := ⟨by decide +kernel, rfl⟩
theorem dX12_goesOn_90 : Dc cX12_goesOn 90 (.aload_n 0) 1 91 := ⟨by decide +kernel, rfl⟩
theorem dX12_goesOn_91 : Dc cX12_goesOn 91 (.getfield 17) 3 94 := ⟨by decide +kernel, rfl⟩
theorem dX12_goesOn_94 : Dc cX12_goesOn 94 (.iload_n 1) 1 95 := ⟨by decide +kernel, rfl⟩
theorem dX12_goesOn_95 : Dc cX12_goesOn 95 (.iaload) 1 96 := ⟨by decide +kernel, rfl⟩
theorem dX12_goesOn_96 : Dc cX12_goesOn 96 (.iload_n 2) 1 97 := ⟨by decide +kernel, rfl⟩
theorem dX12_goesOn_97 : Dc cX12_goesOn 97 (.iload 4) 2 99 := ⟨by decide +kernel, rfl⟩
theorem dX12_goesOn_99 : Dc cX12_goesOn 99 (.invokevirtual 337) 3 102 := ⟨by decide +kernel, rfl⟩
theorem djX12_goesOn_102 : Dj cX12_goesOn 102 (.ifCond .ne 19) 3 105 19 121 := ⟨by decide +kernel, rfl, by decide⟩
theorem dX12_goesOn_105 : Dc cX12_goesOn 105 (.aload_n 0) 1 106 := ⟨by decide +kernel, rfl⟩
theorem dX12_goesOn_106 : Dc cX12_goesOn 106 (.aload_n 0) 1 107 := ⟨by decide +kernel, rfl⟩
theorem dX12_goesOn_107 : Dc cX12_goesOn 107 (.getfield 20) 3 110 := ⟨by decide +kernel, rfl⟩
theorem dX12_goesOn_110 : Dc cX12_goesOn 110 (.iload_n 1) 1 111 := ⟨by decide +kernel, rfl⟩
theorem dX12_goesOn_111 : Dc cX12_goesOn 111 (.iaload) 1 112 := ⟨by decide +kernel, rfl⟩
theorem dX12_goesOn_112 : Dc cX12_goesOn 112 (.iload 4) 2 114 := ⟨by decide +kernel, rfl⟩
theorem dX12_goesOn_114 : Dc cX12_goesOn 114 (.iload_n 3) 1 115 := ⟨by decide +kernel, rfl⟩
theorem dX12_goesOn_115 : Dc cX12_goesOn 115 (.invokevirtual 337) 3 118 := ⟨by decide +kernel, rfl⟩
theorem djX12_goesOn_118 : Dj cX12_goesOn 118 (.ifCond .eq 5) 3 121 5 123 := ⟨by decide +kernel, rfl, by decide⟩
theorem dX12_goesOn_121 : Dc cX12_goesOn 121 (.iconst 1) 1 122 := ⟨by decide +kernel, rfl⟩
theorem dX12_goesOn_122 : Dc cX12_goesOn 122 (.ireturn) 1 123 := ⟨by decide +kernel, rfl⟩
theorem dX12_goesOn_123 : Dc cX12_goesOn 123 (.iinc 4 1) 3 126 := ⟨by decide +kernel, rfl⟩
theorem djX12_goesOn_126 : Dj cX12_goesOn 126 (.goto (-75)) 3 129 (-75) 51 := ⟨by decide +kernel, rfl, by decide⟩
theorem dX12_goesOn_129 : Dc cX12_goesOn 129 (.iconst 0) 1 130 := ⟨by decide +kernel, rfl⟩
theorem dX12_goesOn_130 : Dc cX12_goesOn 130 (.ireturn) 1 131 := ⟨by decide +kernel, rfl⟩
section
variable {p : Program} {l : Launch} {e : Env} {s : State} {m : MethodId} {args : Array Value} {below : List Frame} {meth : Method} {c : Code} {A0 : Nat → Prop} {D : va_G} {cA : Nat → ClassId} {ad : Nat → Nat} {Z : (Nat → Nat) × (Nat → Nat)} {Q : Int → St → Prop}
set_option maxHeartbeats 4000000 in
set_option maxRecDepth 100000 in
theorem t_X12_goesOn_b44 (E : Ev p s m args meth c cX12_goesOn 5 RX12 A0 D cA ad NR Z) (hr : meth.sig.returnType = (some .boolean)) (σ : St) (hσ : CanS shR NR σ) (h : wp_X12_goesOn_b44 Q  σ) : G p l e (rmL 3 0 0) s m args below meth c 5 A0 D cA ad shR NR 0 0 (MQ below (QIc D cA ad shR NR Q A0) args s 0 0 A0) σ 44 [none, none, none, none, none] [] := by
  unfold wp_X12_goesOn_b44 at h
  refine g_iconst E dX12_goesOn_44 ?_
  exact g_zret E hr (Or.inl rfl) h hσ dX12_goesOn_45
set_option maxHeartbeats 4000000 in
set_option maxRecDepth 100000 in
theorem t_X12_goesOn_b123 (E : Ev p s m args meth c cX12_goesOn 5 RX12 A0 D cA ad NR Z) (hr : meth.sig.returnType = (some .boolean)) {K51 : Int → Int → Int → Int → St → Prop} (hK51 : ∀ (x1 : Int) (x2 : Int) (x3 : Int) (x4 : Int) (σ : St), C32 x1 → C32 x2 → C32 x3 → C32 x4 → CanS shR NR σ → K51 x1 x2 x3 x4 σ → G p l e (rmL 3 0 0) s m args below meth c 5 A0 D cA ad shR NR 0 0 (MQ below (QIc D cA ad shR NR Q A0) args s 0 0 A0) σ 51 [some (.ref (ad 0)), some (vI x1), some (vI x2), some (vI x3), some (vI x4)] []) (x1 : Int) (x2 : Int) (x3 : Int) (x4 : Int) (σ : St) (c1 : C32 x1) (c2 : C32 x2) (c3 : C32 x3) (c4 : C32 x4) (hσ : CanS shR NR σ) (h : wp_X12_goesOn_b123 Q K51 x1 x2 x3 x4 σ) : G p l e (rmL 3 0 0) s m args below meth c 5 A0 D cA ad shR NR 0 0 (MQ below (QIc D cA ad shR NR Q A0) args s 0 0 A0) σ 123 [some (.ref (ad 0)), some (vI x1), some (vI x2), some (vI x3), some (vI x4)] [] := by
  unfold wp_X12_goesOn_b123 at h
  refine g_iinc_4 E rfl (by decide) dX12_goesOn_123 (fun v14 ev14 => ?_)
  replace h := h v14 ev14
  have cv14 : C32 v14 := by rw [ev14]; exact c32_w _
  refine g_goto E djX12_goesOn_126 ?_
  exact (hK51 x1 x2 x3 v14 σ c1 c2 c3 cv14 hσ h).weak (w_k (w_k (w_k (w_k (w_k w_n)))))
set_option maxHeartbeats 4000000 in
set_option maxRecDepth 100000 in
theorem t_X12_goesOn_l51 (E : Ev p s m args meth c cX12_goesOn 5 RX12 A0 D cA ad NR Z) (hr : meth.sig.returnType = (some .boolean)) : ∀ (n : Nat) (x1 : Int) (x2 : Int) (x3 : Int) (x4 : Int) (σ : St), C32 x1 → C32 x2 → C32 x3 → C32 x4 → CanS shR NR σ → wp_X12_goesOn_l51 Q n x1 x2 x3 x4 σ → G p l e (rmL 3 0 0) s m args below meth c 5 A0 D cA ad shR NR 0 0 (MQ below (QIc D cA ad shR NR Q A0) args s 0 0 A0) σ 51 [some (.ref (ad 0)), some (vI x1), some (vI x2), some (vI x3), some (vI x4)] [] := by
  intro n
  induction n with
  | zero => intro _ _ _ _ _ _ _ _ _ _ h; exact h.elim
  | succ n ih =>
    intro x1 x2 x3 x4 σ c1 c2 c3 c4 hσ h
    unfold wp_X12_goesOn_l51 at h
    refine g_iload_4 E dX12_goesOn_51 ?_
    refine g_iload_3 E dX12_goesOn_53 ?_
    refine g_icmp_ge E c4 c3 djX12_goesOn_54 (fun hc => ?_) (fun hc => ?_)
    · replace h := h.1 hc
      refine g_iconst E dX12_goesOn_129 ?_
      exact g_zret E hr (Or.inl rfl) h hσ dX12_goesOn_130
    · replace h := h.2 hc
      refine g_aload_0 E dX12_goesOn_57 ?_
      refine g_aload_0 E dX12_goesOn_58 ?_
      refine g_getR E fl_RX12_17 kR_0 sR_0 rfl dX12_goesOn_59 ?_
      refine g_iload_1 E dX12_goesOn_62 ?_
      refine g_iald E kR_2 sR_2 (by decide) h.1 dX12_goesOn_63 ?_
      replace h := h.2
      refine g_iload_2 E dX12_goesOn_64 ?_
      refine g_iload_4 E dX12_goesOn_65 ?_
      refine g_callvI E my_X12_fits mi_X12_fits msel_X12_fits ml_RX12_287 (rm_ok (by decide) (by decide)) ⟨Nat.zero_le _, Nat.zero_le _⟩ kR_0 sR_0 rfl (m_X12_fits E.2.2.1 (aR_2 hσ _) c2 c4 hσ h) rfl rfl (Nat.le_of_ble_eq_true rfl) dX12_goesOn_67 (fun r6 σ7 cr6 hσ7 h => ?_)
      refine g_if_eq E cr6 djX12_goesOn_70 (fun hc => ?_) (fun hc => ?_)
      · replace h := h.1 hc
        exact (t_X12_goesOn_b123 E hr ih x1 x2 x3 x4 σ7 c1 c2 c3 c4 hσ7 h).weak (w_k (w_k (w_k (w_k (w_k w_n)))))
      · replace h := h.2 hc
        refine g_aload_0 E dX12_goesOn_73 ?_
        refine g_aload_0 E dX12_goesOn_74 ?_
        refine g_getR E fl_RX12_20 kR_0 sR_0 rfl dX12_goesOn_75 ?_
        refine g_iload_1 E dX12_goesOn_78 ?_
        refine g_iald E kR_3 sR_3 (by decide) h.1 dX12_goesOn_79 ?_
        replace h := h.2
        refine g_iload_4 E dX12_goesOn_80 ?_
        refine g_iload_3 E dX12_goesOn_82 ?_
        refine g_callvI E my_X12_fits mi_X12_fits msel_X12_fits ml_RX12_287 (rm_ok (by decide) (by decide)) ⟨Nat.zero_le _, Nat.zero_le _⟩ kR_0 sR_0 rfl (m_X12_fits E.2.2.1 (aR_3 hσ7 _) c4 c3 hσ7 h) rfl rfl (Nat.le_of_ble_eq_true rfl) dX12_goesOn_83 (fun r8 σ9 cr8 hσ9 h => ?_)
        refine g_if_eq E cr8 djX12_goesOn_86 (fun hc => ?_) (fun hc => ?_)
        · replace h := h.1 hc
          exact (t_X12_goesOn_b123 E hr ih x1 x2 x3 x4 σ9 c1 c2 c3 c4 hσ9 h).weak (w_k (w_k (w_k (w_k (w_k w_n)))))
        · replace h := h.2 hc
          refine g_aload_0 E dX12_goesOn_89 ?_
          refine g_aload_0 E dX12_goesOn_90 ?_
          refine g_getR E fl_RX12_17 kR_0 sR_0 rfl dX12_goesOn_91 ?_
          refine g_iload_1 E dX12_goesOn_94 ?_
          refine g_iald E kR_2 sR_2 (by decide) h.1 dX12_goesOn_95 ?_
          replace h := h.2
          refine g_iload_2 E dX12_goesOn_96 ?_
          refine g_iload_4 E dX12_goesOn_97 ?_
          refine g_callvI E my_X12_isEndlessPart mi_X12_isEndlessPart msel_X12_isEndlessPart ml_RX12_337 (rm_ok (by decide) (by decide)) ⟨Nat.zero_le _, Nat.zero_le _⟩ kR_0 sR_0 rfl (m_X12_isEndlessPart E.2.2.1 (aR_2 hσ9 _) c2 c4 hσ9 h) rfl rfl (Nat.le_of_ble_eq_true rfl) dX12_goesOn_99 (fun r10 σ11 cr10 hσ11 h => ?_)
          refine g_if_ne E cr10 djX12_goesOn_102 (fun hc => ?_) (fun hc => ?_)
          · replace h := h.1 hc
            refine g_iconst E dX12_goesOn_121 ?_
            exact g_zret E hr (Or.inr rfl) h hσ11 dX12_goesOn_122
          · replace h := h.2 hc
            refine g_aload_0 E dX12_goesOn_105 ?_
            refine g_aload_0 E dX12_goesOn_106 ?_
            refine g_getR E fl_RX12_20 kR_0 sR_0 rfl dX12_goesOn_107 ?_
            refine g_iload_1 E dX12_goesOn_110 ?_
            refine g_iald E kR_3 sR_3 (by decide) h.1 dX12_goesOn_111 ?_
            replace h := h.2
            refine g_iload_4 E dX12_goesOn_112 ?_
            refine g_iload_3 E dX12_goesOn_114 ?_
            refine g_callvI E my_X12_isEndlessPart mi_X12_isEndlessPart msel_X12_isEndlessPart ml_RX12_337 (rm_ok (by decide) (by decide)) ⟨Nat.zero_le _, Nat.zero_le _⟩ kR_0 sR_0 rfl (m_X12_isEndlessPart E.2.2.1 (aR_3 hσ11 _) c4 c3 hσ11 h) rfl rfl (Nat.le_of_ble_eq_true rfl) dX12_goesOn_115 (fun r12 σ13 cr12 hσ13 h => ?_)
            refine g_if_eq E cr12 djX12_goesOn_118 (fun hc => ?_) (fun hc => ?_)
            · replace h := h.1 hc
              exact (t_X12_goesOn_b123 E hr ih x1 x2 x3 x4 σ13 c1 c2 c3 c4 hσ13 h).weak (w_k (w_k (w_k (w_k (w_k w_n)))))
            · replace h := h.2 hc
              refine g_iconst E dX12_goesOn_121 ?_
              exact g_zret E hr (Or.inr rfl) h hσ13 dX12_goesOn_122
set_option maxHeartbeats 4000000 in
set_option maxRecDepth 100000 in
theorem t_X12_goesOn (E : Ev p s m args meth c cX12_goesOn 5 RX12 A0 D cA ad NR Z) (hr : meth.sig.returnType = (some .boolean)) (x1 : Int) (x2 : Int) (x3 : Int) (σ : St) (c1 : C32 x1) (c2 : C32 x2) (c3 : C32 x3) (hσ : CanS shR NR σ) (h : wp_X12_goesOn x1 x2 x3 σ Q) : G p l e (rmL 3 0 0) s m args below meth c 5 A0 D cA ad shR NR 0 0 (MQ below (QIc D cA ad shR NR Q A0) args s 0 0 A0) σ 0 [some (.ref (ad 0)), some (vI x1), some (vI x2), some (vI x3), none] [] := by
  unfold wp_X12_goesOn at h
  refine g_aload_0 E dX12_goesOn_0 ?_
  refine g_getR E fl_RX12_20 kR_0 sR_0 rfl dX12_goesOn_1 ?_
  refine g_iload_1 E dX12_goesOn_4 ?_
  refine g_iald E kR_3 sR_3 (by decide) h.1 dX12_goesOn_5 ?_
  replace h := h.2
  refine g_iconst E dX12_goesOn_6 ?_
  refine g_icmp_ne E (aR_3 hσ _) cl_m1 djX12_goesOn_7 (fun hc => ?_) (fun hc => ?_)
  · replace h := h.1 hc
    refine g_iload_2 E dX12_goesOn_46 ?_
    refine g_iconst E dX12_goesOn_47 ?_
    refine g_iadd E dX12_goesOn_48 ?_
    refine g_nmI (fun v1 ev1 => ?_)
    replace h := h v1 ev1
    have cv1 : C32 v1 := by rw [ev1]; exact (c32_w _)
    refine g_istore_4 E rfl (by decide) dX12_goesOn_49 ?_
    exact (t_X12_goesOn_l51 E hr bigN x1 x2 x3 v1 σ c1 c2 c3 cv1 hσ h).weak (w_k (w_k (w_k (w_k (w_k w_n)))))
  · replace h := h.2 hc
    refine g_aload_0 E dX12_goesOn_10 ?_
    refine g_aload_0 E dX12_goesOn_11 ?_
    refine g_getR E fl_RX12_17 kR_0 sR_0 rfl dX12_goesOn_12 ?_
    refine g_iload_1 E dX12_goesOn_15 ?_
    refine g_iald E kR_2 sR_2 (by decide) h.1 dX12_goesOn_16 ?_
    replace h := h.2
    refine g_iload_2 E dX12_goesOn_17 ?_
    refine g_iload_3 E dX12_goesOn_18 ?_
    refine g_callvI E my_X12_fits mi_X12_fits msel_X12_fits ml_RX12_287 (rm_ok (by decide) (by decide)) ⟨Nat.zero_le _, Nat.zero_le _⟩ kR_0 sR_0 rfl (m_X12_fits E.2.2.1 (aR_2 hσ _) c2 c3 hσ h) rfl rfl (Nat.le_of_ble_eq_true rfl) dX12_goesOn_19 (fun r2 σ3 cr2 hσ3 h => ?_)
    refine g_if_eq E cr2 djX12_goesOn_22 (fun hc => ?_) (fun hc => ?_)
    · replace h := h.1 hc
      exact (t_X12_goesOn_b44 E hr σ3 hσ3 h).weak (w_d (w_d (w_d (w_d (w_d w_n)))))
    · replace h := h.2 hc
      refine g_aload_0 E dX12_goesOn_25 ?_
      refine g_aload_0 E dX12_goesOn_26 ?_
      refine g_getR E fl_RX12_17 kR_0 sR_0 rfl dX12_goesOn_27 ?_
      refine g_iload_1 E dX12_goesOn_30 ?_
      refine g_iald E kR_2 sR_2 (by decide) h.1 dX12_goesOn_31 ?_
      replace h := h.2
      refine g_iload_2 E dX12_goesOn_32 ?_
      refine g_iload_3 E dX12_goesOn_33 ?_
      refine g_callvI E my_X12_isEndlessPart mi_X12_isEndlessPart msel_X12_isEndlessPart ml_RX12_337 (rm_ok (by decide) (by decide)) ⟨Nat.zero_le _, Nat.zero_le _⟩ kR_0 sR_0 rfl (m_X12_isEndlessPart E.2.2.1 (aR_2 hσ3 _) c2 c3 hσ3 h) rfl rfl (Nat.le_of_ble_eq_true rfl) dX12_goesOn_34 (fun r4 σ5 cr4 hσ5 h => ?_)
      refine g_if_eq E cr4 djX12_goesOn_37 (fun hc => ?_) (fun hc => ?_)
      · replace h := h.1 hc
        exact (t_X12_goesOn_b44 E hr σ5 hσ5 h).weak (w_d (w_d (w_d (w_d (w_d w_n)))))
      · replace h := h.2 hc
        refine g_iconst E dX12_goesOn_40 ?_
        refine g_goto E djX12_goesOn_41 ?_
        exact g_zret E hr (Or.inr rfl) h hσ5 dX12_goesOn_45
end
theorem m_X12_goesOn {Z : (Nat → Nat) × (Nat → Nat)} {l : Launch} {D : va_G} {cA : Nat → ClassId} {ad : Nat → Nat} {x1 x2 x3 : Int} {σ : St} {Q : Int → St → Prop} (hA : AdOk NR ad) (c1 : C32 x1) (c2 : C32 x2) (c3 : C32 x3) (hσ : CanS shR NR σ) (h : wp_X12_goesOn x1 x2 x3 σ Q) : KtI Z l D cA ad shR NR yX12_goesOn cX12_goesOn 5 (some .boolean) 3 [.ref (ad 0), vI x1, vI x2, vI x3] σ Q :=
  KtI.of my_X12_goesOn hA [some (.ref (ad 0)), some (vI x1), some (vI x2), some (vI x3), none] (Nat.le_of_ble_eq_true rfl) rfl (fun p e s m args below meth c A0 E hr => t_X12_goesOn E hr x1 x2 x3 σ c1 c2 c3 hσ h)
theorem dX12_laysEndlessSpan_0 : Dc cX12_laysEndlessSpan 0 (.aload_n 0) 1 1 := ⟨by decide +kernel, rfl⟩
theorem dX12_laysEndlessSpan_1 : Dc cX12_laysEndlessSpan 1 (.iload_n 1) 1 2 := ⟨by decide +kernel, rfl⟩
theorem dX12_laysEndlessSpan_2 : Dc cX12_laysEndlessSpan 2 (.iload_n 2) 1 3 := ⟨by decide +kernel, rfl⟩
theorem dX12_laysEndlessSpan_3 : Dc cX12_laysEndlessSpan 3 (.invokevirtual 343) 3 6 := ⟨by decide +kernel, rfl⟩
theorem dX12_laysEndlessSpan_6 : Dc cX12_laysEndlessSpan 6 (.istore_n 3) 1 7 := ⟨by decide +kernel, rfl⟩
theorem dX12_laysEndlessSpan_7 : Dc cX12_laysEndlessSpan 7 (.iconst 0) 1 8 := ⟨by decide +kernel, rfl⟩
theorem dX12_laysEndlessSpan_8 : Dc cX12_laysEndlessSpan 8 (.istore 4) 2 10 := ⟨by decide +kernel, rfl⟩
theorem dX12_laysEndlessSpan_10 : Dc cX12_laysEndlessSpan 10 (.iload 4) 2 12 := ⟨by decide +kernel, rfl⟩
theorem dX12_laysEndlessSpan_12 : Dc cX12_laysEndlessSpan 12 (.bipush 12) 2 14 := ⟨by decide +kernel, rfl⟩
theorem djX12_laysEndlessSpan_14 : Dj cX12_laysEndlessSpan 14 (.if_icmp .ge 32) 3 17 32 46 := ⟨by decide +kernel, rfl, by decide⟩
theorem dX12_laysEndlessSpan_17 : Dc cX12_laysEndlessSpan 17 (.iload_n 3) 1 18 := ⟨by decide +kernel, rfl⟩
theorem dX12_laysEndlessSpan_18 : Dc cX12_laysEndlessSpan 18 (.iload 4) 2 20 := ⟨by decide +kernel, rfl⟩
theorem dX12_laysEndlessSpan_20 : Dc cX12_laysEndlessSpan 20 (.ishr) 1 21 := ⟨by decide +kernel, rfl⟩
theorem dX12_laysEndlessSpan_21 : Dc cX12_laysEndlessSpan 21 (.iconst 1) 1 22 := ⟨by decide +kernel, rfl⟩
theorem dX12_laysEndlessSpan_22 : Dc cX12_laysEndlessSpan 22 (.iand) 1 23 := ⟨by decide +kernel, rfl⟩
theorem dX12_laysEndlessSpan_23 : Dc cX12_laysEndlessSpan 23 (.iconst 1) 1 24 := ⟨by decide +kernel, rfl⟩
theorem djX12_laysEndlessSpan_24 : Dj cX12_laysEndlessSpan 24 (.if_icmp .ne 16) 3 27 16 40 := ⟨by decide +kernel, rfl, by decide⟩
theorem dX12_laysEndlessSpan_27 : Dc cX12_laysEndlessSpan 27 (.aload_n 0) 1 28 := ⟨by decide +kernel, rfl⟩
theorem dX12_laysEndlessSpan_28 : Dc cX12_laysEndlessSpan 28 (.getfield 63) 3 31 := ⟨by decide +kernel, rfl⟩
theorem dX12_laysEndlessSpan_31 : Dc cX12_laysEndlessSpan 31 (.iload 4) 2 33 := ⟨by decide +kernel, rfl⟩
theorem dX12_laysEndlessSpan_33 : Dc cX12_laysEndlessSpan 33 (.iload_n 1) 1 34 := ⟨by decide +kernel, rfl⟩
theorem dX12_laysEndlessSpan_34 : Dc cX12_laysEndlessSpan 34 (.iload_n 2) 1 35 := ⟨by decide +kernel, rfl⟩
theorem dX12_laysEndlessSpan_35 : Dc cX12_laysEndlessSpan 35 (.invokestatic 282) 3 38 := ⟨by decide +kernel, rfl⟩
theorem dX12_laysEndlessSpan_38 : Dc cX12_laysEndlessSpan 38 (.iconst 1) 1 39 := ⟨by decide +kernel, rfl⟩
theorem dX12_laysEndlessSpan_39 : Dc cX12_laysEndlessSpan 39 (.bastore) 1 40 := ⟨by decide +kernel, rfl⟩
theorem dX12_laysEndlessSpan_40 : Dc cX12_laysEndlessSpan 40 (.iinc 4 1) 3 43 := ⟨by decide +kernel, rfl⟩
theorem djX12_laysEndlessSpan_43 : Dj cX12_laysEndlessSpan 43 (.goto (-33)) 3 46 (-33) 10 := ⟨by decide +kernel, rfl, by decide⟩
theorem dX12_laysEndlessSpan_46 : Dc cX12_laysEndlessSpan 46 (.iconst 1) 1 47 := ⟨by decide +kernel, rfl⟩
theorem dX12_laysEndlessSpan_47 : Dc cX12_laysEndlessSpan 47 (.istore 4) 2 49 := ⟨by decide +kernel, rfl⟩
theorem dX12_laysEndlessSpan_49 : Dc cX12_laysEndlessSpan 49 (.iload 4) 2 51 := ⟨by decide +kernel, rfl⟩
theorem djX12_laysEndlessSpan_51 : Dj cX12_laysEndlessSpan 51 (.ifCond .eq 91) 3 54 91 142 := ⟨by decide +kernel, rfl, by decide⟩
theorem dX12_laysEndlessSpan_54 : Dc cX12_laysEndlessSpan 54 (.iconst 0) 1 55 := ⟨by decide +kernel, rfl⟩
theorem dX12_laysEndlessSpan_55 : Dc cX12_laysEndlessSpan 55 (.istore 4) 2 57 := ⟨by decide +kernel, rfl⟩
theorem dX12_laysEndlessSpan_57 : Dc cX12_laysEndlessSpan 57 (.iconst 0) 1 58 := ⟨by decide +kernel, rfl⟩
theorem dX12_laysEndlessSpan_58 : Dc cX12_laysEndlessSpan 58 (.istore 5) 2 60 := ⟨by decide +kernel, rfl⟩
theorem dX12_laysEndlessSpan_60 : Dc cX12_laysEndlessSpan 60 (.iload 5) 2 62 := ⟨by decide +kernel, rfl⟩
theorem dX12_laysEndlessSpan_62 : Dc cX12_laysEndlessSpan 62 (.aload_n 0) 1 63 := ⟨by decide +kernel, rfl⟩
theorem dX12_laysEndlessSpan_63 : Dc cX12_laysEndlessSpan 63 (.getfield 252) 3 66 := ⟨by decide +kernel, rfl⟩
theorem djX12_laysEndlessSpan_66 : Dj cX12_laysEndlessSpan 66 (.if_icmp .ge 73) 3 69 73 139 := ⟨by decide +kernel, rfl, by decide⟩
theorem dX12_laysEndlessSpan_69 : Dc cX12_laysEndlessSpan 69 (.aload_n 0) 1 70 := ⟨by decide +kernel, rfl⟩
theorem dX12_laysEndlessSpan_70 : Dc cX12_laysEndlessSpan 70 (.iload 5) 2 72 := ⟨by decide +kernel, rfl⟩
theorem dX12_laysEndlessSpan_72 : Dc cX12_laysEndlessSpan 72 (.invokevirtual 298) 3 75 := ⟨by decide +kernel, rfl⟩
theorem djX12_laysEndlessSpan_75 : Dj cX12_laysEndlessSpan 75 (.ifCond .eq 58) 3 78 58 133 := ⟨by decide +kernel, rfl, by decide⟩
theorem dX12_laysEndlessSpan_78 : Dc cX12_laysEndlessSpan 78 (.aload_n 0) 1 79 := ⟨by decide +kernel, rfl⟩
theorem dX12_laysEndlessSpan_79 : Dc cX12_laysEndlessSpan 79 (.getfield 63) 3 82 := ⟨by decide +kernel, rfl⟩
theorem dX12_laysEndlessSpan_82 : Dc cX12_laysEndlessSpan 82 (.aload_n 0) 1 83 := ⟨by decide +kernel, rfl⟩
theorem dX12_laysEndlessSpan_83 : Dc cX12_laysEndlessSpan 83 (.getfield 13) 3 86 := ⟨by decide +kernel, rfl⟩
theorem dX12_laysEndlessSpan_86 : Dc cX12_laysEndlessSpan 86 (.iload 5) 2 88 := ⟨by decide +kernel, rfl⟩
theorem dX12_laysEndlessSpan_88 : Dc cX12_laysEndlessSpan 88 (.iaload) 1 89 := ⟨by decide +kernel, rfl⟩
theorem dX12_laysEndlessSpan_89 : Dc cX12_laysEndlessSpan 89 (.iload_n 1) 1 90 := ⟨by decide +kernel, rfl⟩
theorem dX12_laysEndlessSpan_90 : Dc cX12_laysEndlessSpan 90 (.iload_n 2) 1 91 := ⟨by decide +kernel, rfl⟩
theorem dX12_laysEndlessSpan_91 : Dc cX12_laysEndlessSpan 91 (.invokestatic 282) 3 94 := ⟨by decide +kernel, rfl⟩
theorem dX12_laysEndlessSpan_94 : Dc cX12_laysEndlessSpan 94 (.baload) 1 95 := ⟨by decide +kernel, rfl⟩
theorem djX12_laysEndlessSpan_95 : Dj cX12_laysEndlessSpan 95 (.ifCond .ne 38) 3 98 38 133 := ⟨by decide +kernel, rfl, by decide⟩
theorem dX12_laysEndlessSpan_98 : Dc cX12_laysEndlessSpan 98 (.aload_n 0) 1 99 := ⟨by decide +kernel, rfl⟩
theorem dX12_laysEndlessSpan_99 : Dc cX12_laysEndlessSpan 99 (.iload 5) 2 101 := ⟨by decide +kernel, rfl⟩
theorem dX12_laysEndlessSpan_101 : Dc cX12_laysEndlessSpan 101 (.iload_n 1) 1 102 := ⟨by decide +kernel, rfl⟩
theorem dX12_laysEndlessSpan_102 : Dc cX12_laysEndlessSpan 102 (.iload_n 2) 1 103 := ⟨by decide +kernel, rfl⟩
theorem dX12_laysEndlessSpan_103 : Dc cX12_laysEndlessSpan 103 (.invokevirtual 346) 3 106 := ⟨by decide +kernel, rfl⟩
theorem djX12_laysEndlessSpan_106 : Dj cX12_laysEndlessSpan 106 (.ifCond .ne 6) 3 109 6 112 := ⟨by decide +kernel, rfl, by decide⟩
theorem djX12_laysEndlessSpan_109 : Dj cX12_laysEndlessSpan 109 (.goto 24) 3 112 24 133 := ⟨by decide +kernel, rfl, by decide⟩
theorem dX12_laysEndlessSpan_112 : Dc cX12_laysEndlessSpan 112 (.aload_n 0) 1 113 := ⟨by decide +kernel, rfl⟩
theorem dX12_laysEndlessSpan_113 : Dc cX12_laysEndlessSpan 113 (.getfield 63) 3 116 := ⟨by decide +kernel, rfl⟩
theorem dX12_laysEndlessSpan_116 : Dc cX12_laysEndlessSpan 116 (.aload_n 0) 1 117 := ⟨by decide +kernel, rfl⟩
theorem dX12_laysEndlessSpan_117 : Dc cX12_laysEndlessSpan 117 (.getfield 13) 3 120 := ⟨by decide +kernel, rfl⟩
theorem dX12_laysEndlessSpan_120 : Dc cX12_laysEndlessSpan 120 (.iload 5) 2 122 := ⟨by decide +kernel, rfl⟩
theorem dX12_laysEndlessSpan_122 : Dc cX12_laysEndlessSpan 122 (.iaload) 1 123 := ⟨by decide +kernel, rfl⟩
theorem dX12_laysEndlessSpan_123 : Dc cX12_laysEndlessSpan 123 (.iload_n 1) 1 124 := ⟨by decide +kernel, rfl⟩
theorem dX12_laysEndlessSpan_124 : Dc cX12_laysEndlessSpan 124 (.iload_n 2) 1 125 := ⟨by decide +kernel, rfl⟩
theorem dX12_laysEndlessSpan_125 : Dc cX12_laysEndlessSpan 125 (.invokestatic 282) 3 128 := ⟨by decide +kernel, rfl⟩
theorem dX12_laysEndlessSpan_128 : Dc cX12_laysEndlessSpan 128 (.iconst 1) 1 129 := ⟨by decide +kernel, rfl⟩
theorem dX12_laysEndlessSpan_129 : Dc cX12_laysEndlessSpan 129 (.bastore) 1 130 := ⟨by decide +kernel, rfl⟩
theorem dX12_laysEndlessSpan_130 : Dc cX12_laysEndlessSpan 130 (.iconst 1) 1 131 := ⟨by decide +kernel, rfl⟩
theorem dX12_laysEndlessSpan_131 : Dc cX12_laysEndlessSpan 131 (.istore 4) 2 133 := ⟨by decide +kernel, rfl⟩
theorem dX12_laysEndlessSpan_133 : Dc cX12_laysEndlessSpan 133 (.iinc 5 1) 3 136 := ⟨by decide +kernel, rfl⟩
theorem djX12_laysEndlessSpan_136 : Dj cX12_laysEndlessSpan 136 (.goto (-76)) 3 139 (-76) 60 := ⟨by decide +kernel, rfl, by decide⟩
theorem djX12_laysEndlessSpan_139 : Dj cX12_laysEndlessSpan 139 (.goto (-90)) 3 142 (-90) 49 := ⟨by decide +kernel, rfl, by decide⟩
theorem dX12_laysEndlessSpan_142 : Dc cX12_laysEndlessSpan 142 (.return_) 1 143 := ⟨by decide +kernel, rfl⟩
section
variable {p : Program} {l : Launch} {e : Env} {s : State} {m : MethodId} {args : Array Value} {below : List Frame} {meth : Method} {c : Code} {A0 : Nat → Prop} {D : va_G} {cA : Nat → ClassId} {ad : Nat → Nat} {Z : (Nat → Nat) × (Nat → Nat)} {Q : Int → St → Prop}
set_option maxHeartbeats 4000000 in
set_option maxRecDepth 100000 in
theorem t_X12_laysEndlessSpan_b40 (E : Ev p s m args meth c cX12_laysEndlessSpan 6 RX12 A0 D cA ad NR Z) (hr : meth.sig.returnType = none) {K10 : Int → Int → Int → Int → St → Prop} (hK10 : ∀ (x1 : Int) (x2 : Int) (x3 : Int) (x4 : Int) (σ : St), C32 x1 → C32 x2 → C32 x3 → C32 x4 → CanS shR NR σ → K10 x1 x2 x3 x4 σ → G p l e (rmL 4 0 0) s m args below meth c 6 A0 D cA ad shR NR 0 0 (MQ below (QVc D cA ad shR NR Q A0) args s 0 0 A0) σ 10 [some (.ref (ad 0)), some (vI x1), some (vI x2), some (vI x3), some (vI x4), none] []) (x1 : Int) (x2 : Int) (x3 : Int) (x4 : Int) (σ : St) (c1 : C32 x1) (c2 : C32 x2) (c3 : C32 x3) (c4 : C32 x4) (hσ : CanS shR NR σ) (h : wp_X12_laysEndlessSpan_b40 Q K10 x1 x2 x3 x4 σ) : G p l e (rmL 4 0 0) s m args below meth c 6 A0 D cA ad shR NR 0 0 (MQ below (QVc D cA ad shR NR Q A0) args s 0 0 A0) σ 40 [some (.ref (ad 0)), some (vI x1), some (vI x2), some (vI x3), some (vI x4), none] [] := by
  unfold wp_X12_laysEndlessSpan_b40 at h
  refine g_iinc_4 E rfl (by decide) dX12_laysEndlessSpan_40 (fun v6 ev6 => ?_)
  replace h := h v6 ev6
  have cv6 : C32 v6 := by rw [ev6]; exact c32_w _
  refine g_goto E djX12_laysEndlessSpan_43 ?_
  exact (hK10 x1 x2 x3 v6 σ c1 c2 c3 cv6 hσ h).weak (w_k (w_k (w_k (w_k (w_k (w_d w_n))))))
set_option maxHeartbeats 4000000 in
set_option maxRecDepth 100000 in
theorem t_X12_laysEndlessSpan_b133 (E : Ev p s m args meth c cX12_laysEndlessSpan 6 RX12 A0 D cA ad NR Z) (hr : meth.sig.returnType = none) {K49 : Int → Int → Int → St → Prop} (hK49 : ∀ (x1 : Int) (x2 : Int) (x4 : Int) (σ : St), C32 x1 → C32 x2 → C32 x4 → CanS shR NR σ → K49 x1 x2 x4 σ → G p l e (rmL 4 0 0) s m args below meth c 6 A0 D cA ad shR NR 0 0 (MQ below (QVc D cA ad shR NR Q A0) args s 0 0 A0) σ 49 [some (.ref (ad 0)), some (vI x1), some (vI x2), none, some (vI x4), none] []) {K60 : Int → Int → Int → Int → St → Prop} (hK60 : ∀ (x1 : Int) (x2 : Int) (x4 : Int) (x5 : Int) (σ : St), C32 x1 → C32 x2 → C32 x4 → C32 x5 → CanS shR NR σ → K60 x1 x2 x4 x5 σ → G p l e (rmL 4 0 0) s m args below meth c 6 A0 D cA ad shR NR 0 0 (MQ below (QVc D cA ad shR NR Q A0) args s 0 0 A0) σ 60 [some (.ref (ad 0)), some (vI x1), some (vI x2), none, some (vI x4), some (vI x5)] []) (x1 : Int) (x2 : Int) (x4 : Int) (x5 : Int) (σ : St) (c1 : C32 x1) (c2 : C32 x2) (c4 : C32 x4) (c5 : C32 x5) (hσ : CanS shR NR σ) (h : wp_X12_laysEndlessSpan_b133 Q K49 K60 x1 x2 x4 x5 σ) : G p l e (rmL 4 0 0) s m args below meth c 6 A0 D cA ad shR NR 0 0 (MQ below (QVc D cA ad shR NR Q A0) args s 0 0 A0) σ 133 [some (.ref (ad 0)), some (vI x1), some (vI x2), none, some (vI x4), some (vI x5)] [] := by
  unfold wp_X12_laysEndlessSpan_b133 at h
  refine g_iinc_5 E rfl (by decide) dX12_laysEndlessSpan_133 (fun v16 ev16 => ?_)
  replace h := h v16 ev16
  have cv16 : C32 v16 := by rw [ev16]; exact c32_w _
  refine g_goto E djX12_laysEndlessSpan_136 ?_
  exact (hK60 x1 x2 x4 v16 σ c1 c2 c4 cv16 hσ h).weak (w_k (w_k (w_k (w_d (w_k (w_k w_n))))))
set_option maxHeartbeats 4000000 in
set_option maxRecDepth 100000 in
theorem t_X12_laysEndlessSpan_l60 (E : Ev p s m args meth c cX12_laysEndlessSpan 6 RX12 A0 D cA ad NR Z) (hr : meth.sig.returnType = none) {K49 : Int → Int → Int → St → Prop} (hK49 : ∀ (x1 : Int) (x2 : Int) (x4 : Int) (σ : St), C32 x1 → C32 x2 → C32 x4 → CanS shR NR σ → K49 x1 x2 x4 σ → G p l e (rmL 4 0 0) s m args below meth c 6 A0 D cA ad shR NR 0 0 (MQ below (QVc D cA ad shR NR Q A0) args s 0 0 A0) σ 49 [some (.ref (ad 0)), some (vI x1), some (vI x2), none, some (vI x4), none] []) : ∀ (n : Nat) (x1 : Int) (x2 : Int) (x4 : Int) (x5 : Int) (σ : St), C32 x1 → C32 x2 → C32 x4 → C32 x5 → CanS shR NR σ → wp_X12_laysEndlessSpan_l60 Q K49 n x1 x2 x4 x5 σ → G p l e (rmL 4 0 0) s m args below meth c 6 A0 D cA ad shR NR 0 0 (MQ below (QVc D cA ad shR NR Q A0) args s 0 0 A0) σ 60 [some (.ref (ad 0)), some (vI x1), some (vI x2), none, some (vI x4), some (vI x5)] [] := by
  intro n
  induction n with
  | zero => intro _ _ _ _ _ _ _ _ _ _ h; exact h.elim
  | succ n ih =>
    intro x1 x2 x4 x5 σ c1 c2 c4 c5 hσ h
    unfold wp_X12_laysEndlessSpan_l60 at h
    refine g_iload_5 E dX12_laysEndlessSpan_60 ?_
    refine g_aload_0 E dX12_laysEndlessSpan_62 ?_
    refine g_getI E fl_RX12_252 kR_0 sR_0 rfl dX12_laysEndlessSpan_63 ?_
    refine g_icmp_ge E c5 (fR_0_1 hσ) djX12_laysEndlessSpan_66 (fun hc => ?_) (fun hc => ?_)
    · replace h := h.1 hc
      refine g_goto E djX12_laysEndlessSpan_139 ?_
      exact (hK49 x1 x2 x4 σ c1 c2 c4 hσ h).weak (w_k (w_k (w_k (w_d (w_k (w_d w_n))))))
    · replace h := h.2 hc
      refine g_aload_0 E dX12_laysEndlessSpan_69 ?_
      refine g_iload_5 E dX12_laysEndlessSpan_70 ?_
      refine g_callvI E my_X12_isIn mi_X12_isIn msel_X12_isIn ml_RX12_298 (rm_ok (by decide) (by decide)) ⟨Nat.zero_le _, Nat.zero_le _⟩ kR_0 sR_0 rfl (m_X12_isIn E.2.2.1 c5 hσ h) rfl rfl (Nat.le_of_ble_eq_true rfl) dX12_laysEndlessSpan_72 (fun r7 σ8 cr7 hσ8 h => ?_)
      refine g_if_eq E cr7 djX12_laysEndlessSpan_75 (fun hc => ?_) (fun hc => ?_)
      · replace h := h.1 hc
        exact (t_X12_laysEndlessSpan_b133 E hr hK49 ih x1 x2 x4 x5 σ8 c1 c2 c4 c5 hσ8 h).weak (w_k (w_k (w_k (w_d (w_k (w_k w_n))))))
      · replace h := h.2 hc
        refine g_aload_0 E dX12_laysEndlessSpan_78 ?_
        refine g_getR E fl_RX12_63 kR_0 sR_0 rfl dX12_laysEndlessSpan_79 ?_
        refine g_aload_0 E dX12_laysEndlessSpan_82 ?_
        refine g_getR E fl_RX12_13 kR_0 sR_0 rfl dX12_laysEndlessSpan_83 ?_
        refine g_iload_5 E dX12_laysEndlessSpan_86 ?_
        refine g_iald E kR_1 sR_1 (by decide) h.1 dX12_laysEndlessSpan_88 ?_
        replace h := h.2
        refine g_iload_1 E dX12_laysEndlessSpan_89 ?_
        refine g_iload_2 E dX12_laysEndlessSpan_90 ?_
        refine g_callsI E my_X12_item ms_X12_item ml_RX12_282 (rm_ok (by decide) (by decide)) ⟨Nat.zero_le _, Nat.zero_le _⟩ (m_X12_item E.2.2.1 (aR_1 hσ8 _) c1 c2 hσ8 h) rfl rfl (Nat.le_of_ble_eq_true rfl) dX12_laysEndlessSpan_91 (fun r9 σ10 cr9 hσ10 h => ?_)
        refine g_zald E kR_16 sR_16 (by decide) h.1 dX12_laysEndlessSpan_94 ?_
        replace h := h.2
        refine g_if_ne E (aR_16 hσ10 _) djX12_laysEndlessSpan_95 (fun hc => ?_) (fun hc => ?_)
        · replace h := h.1 hc
          exact (t_X12_laysEndlessSpan_b133 E hr hK49 ih x1 x2 x4 x5 σ10 c1 c2 c4 c5 hσ10 h).weak (w_k (w_k (w_k (w_d (w_k (w_k w_n))))))
        · replace h := h.2 hc
          refine g_aload_0 E dX12_laysEndlessSpan_98 ?_
          refine g_iload_5 E dX12_laysEndlessSpan_99 ?_
          refine g_iload_1 E dX12_laysEndlessSpan_101 ?_
          refine g_iload_2 E dX12_laysEndlessSpan_102 ?_
          refine g_callvI E my_X12_goesOn mi_X12_goesOn msel_X12_goesOn ml_RX12_346 (rm_ok (by decide) (by decide)) ⟨Nat.zero_le _, Nat.zero_le _⟩ kR_0 sR_0 rfl (m_X12_goesOn E.2.2.1 c5 c1 c2 hσ10 h) rfl rfl (Nat.le_of_ble_eq_true rfl) dX12_laysEndlessSpan_103 (fun r11 σ12 cr11 hσ12 h => ?_)
          refine g_if_ne E cr11 djX12_laysEndlessSpan_106 (fun hc => ?_) (fun hc => ?_)
          · replace h := h.1 hc
            refine g_aload_0 E dX12_laysEndlessSpan_112 ?_
            refine g_getR E fl_RX12_63 kR_0 sR_0 rfl dX12_laysEndlessSpan_113 ?_
            refine g_aload_0 E dX12_laysEndlessSpan_116 ?_
            refine g_getR E fl_RX12_13 kR_0 sR_0 rfl dX12_laysEndlessSpan_117 ?_
            refine g_iload_5 E dX12_laysEndlessSpan_120 ?_
            refine g_iald E kR_1 sR_1 (by decide) h.1 dX12_laysEndlessSpan_122 ?_
            replace h := h.2
            refine g_iload_1 E dX12_laysEndlessSpan_123 ?_
            refine g_iload_2 E dX12_laysEndlessSpan_124 ?_
            refine g_callsI E my_X12_item ms_X12_item ml_RX12_282 (rm_ok (by decide) (by decide)) ⟨Nat.zero_le _, Nat.zero_le _⟩ (m_X12_item E.2.2.1 (aR_1 hσ12 _) c1 c2 hσ12 h) rfl rfl (Nat.le_of_ble_eq_true rfl) dX12_laysEndlessSpan_125 (fun r13 σ14 cr13 hσ14 h => ?_)
            refine g_iconst E dX12_laysEndlessSpan_128 ?_
            refine g_zast E kR_16 sR_16 (by decide) h.1 dX12_laysEndlessSpan_129 (g_nmS (fun σ15 eσ15 => ?_))
            replace h := h.2 σ15 eσ15
            have hσ15 : CanS shR NR σ15 := by rw [eσ15]; exact wR_16 hσ14 (c32_t _)
            refine g_iconst E dX12_laysEndlessSpan_130 ?_
            refine g_istore_4 E rfl (by decide) dX12_laysEndlessSpan_131 ?_
            exact (t_X12_laysEndlessSpan_b133 E hr hK49 ih x1 x2 1 x5 σ15 c1 c2 cl_1 c5 hσ15 h).weak (w_k (w_k (w_k (w_d (w_k (w_k w_n))))))
          · replace h := h.2 hc
            refine g_goto E djX12_laysEndlessSpan_109 ?_
            exact (t_X12_laysEndlessSpan_b133 E hr hK49 ih x1 x2 x4 x5 σ12 c1 c2 c4 c5 hσ12 h).weak (w_k (w_k (w_k (w_d (w_k (w_k w_n))))))
set_option maxHeartbeats 4000000 in
set_option maxRecDepth 100000 in
theorem t_X12_laysEndlessSpan_l49 (E : Ev p s m args meth c cX12_laysEndlessSpan 6 RX12 A0 D cA ad NR Z) (hr : meth.sig.returnType = none) : ∀ (n : Nat) (x1 : Int) (x2 : Int) (x4 : Int) (σ : St), C32 x1 → C32 x2 → C32 x4 → CanS shR NR σ → wp_X12_laysEndlessSpan_l49 Q n x1 x2 x4 σ → G p l e (rmL 4 0 0) s m args below meth c 6 A0 D cA ad shR NR 0 0 (MQ below (QVc D cA ad shR NR Q A0) args s 0 0 A0) σ 49 [some (.ref (ad 0)), some (vI x1), some (vI x2), none, some (vI x4), none] [] := by
  intro n
  induction n with
  | zero => intro _ _ _ _ _ _ _ _ h; exact h.elim
  | succ n ih =>
    intro x1 x2 x4 σ c1 c2 c4 hσ h
    unfold wp_X12_laysEndlessSpan_l49 at h
    refine g_iload_4 E dX12_laysEndlessSpan_49 ?_
    refine g_if_eq E c4 djX12_laysEndlessSpan_51 (fun hc => ?_) (fun hc => ?_)
    · replace h := h.1 hc
      exact g_vret E hr h hσ dX12_laysEndlessSpan_142
    · replace h := h.2 hc
      refine g_iconst E dX12_laysEndlessSpan_54 ?_
      refine g_istore_4 E rfl (by decide) dX12_laysEndlessSpan_55 ?_
      refine g_iconst E dX12_laysEndlessSpan_57 ?_
      refine g_istore_5 E rfl (by decide) dX12_laysEndlessSpan_58 ?_
      exact (t_X12_laysEndlessSpan_l60 E hr ih bigN x1 x2 0 0 σ c1 c2 cl_0 cl_0 hσ h).weak (w_k (w_k (w_k (w_d (w_k (w_k w_n))))))
set_option maxHeartbeats 4000000 in
set_option maxRecDepth 100000 in
theorem t_X12_laysEndlessSpan_l10 (E : Ev p s m args meth c cX12_laysEndlessSpan 6 RX12 A0 D cA ad NR Z) (hr : meth.sig.returnType = none) : ∀ (n : Nat) (x1 : Int) (x2 : Int) (x3 : Int) (x4 : Int) (σ : St), C32 x1 → C32 x2 → C32 x3 → C32 x4 → CanS shR NR σ → wp_X12_laysEndlessSpan_l10 Q n x1 x2 x3 x4 σ → G p l e (rmL 4 0 0) s m args below meth c 6 A0 D cA ad shR NR 0 0 (MQ below (QVc D cA ad shR NR Q A0) args s 0 0 A0) σ 10 [some (.ref (ad 0)), some (vI x1), some (vI x2), some (vI x3), some (vI x4), none] [] := by
  intro n
  induction n with
  | zero => intro _ _ _ _ _ _ _ _ _ _ h; exact h.elim
  | succ n ih =>
    intro x1 x2 x3 x4 σ c1 c2 c3 c4 hσ h
    unfold wp_X12_laysEndlessSpan_l10 at h
    refine g_iload_4 E dX12_laysEndlessSpan_10 ?_
    refine g_bipush E (by decide) dX12_laysEndlessSpan_12 ?_
    refine g_icmp_ge E c4 cl_12 djX12_laysEndlessSpan_14 (fun hc => ?_) (fun hc => ?_)
    · replace h := h.1 hc
      refine g_iconst E dX12_laysEndlessSpan_46 ?_
      refine g_istore_4 E rfl (by decide) dX12_laysEndlessSpan_47 ?_
      exact (t_X12_laysEndlessSpan_l49 E hr bigN x1 x2 1 σ c1 c2 cl_1 hσ h).weak (w_k (w_k (w_k (w_d (w_k (w_d w_n))))))
    · replace h := h.2 hc
      refine g_iload_3 E dX12_laysEndlessSpan_17 ?_
      refine g_iload_4 E dX12_laysEndlessSpan_18 ?_
      refine g_ishr E dX12_laysEndlessSpan_20 ?_
      refine g_iconst E dX12_laysEndlessSpan_21 ?_
      refine g_iand E dX12_laysEndlessSpan_22 ?_
      refine g_iconst E dX12_laysEndlessSpan_23 ?_
      refine g_icmp_ne E (c32_t _) cl_1 djX12_laysEndlessSpan_24 (fun hc => ?_) (fun hc => ?_)
      · replace h := h.1 hc
        exact (t_X12_laysEndlessSpan_b40 E hr ih x1 x2 x3 x4 σ c1 c2 c3 c4 hσ h).weak (w_k (w_k (w_k (w_k (w_k (w_d w_n))))))
      · replace h := h.2 hc
        refine g_aload_0 E dX12_laysEndlessSpan_27 ?_
        refine g_getR E fl_RX12_63 kR_0 sR_0 rfl dX12_laysEndlessSpan_28 ?_
        refine g_iload_4 E dX12_laysEndlessSpan_31 ?_
        refine g_iload_1 E dX12_laysEndlessSpan_33 ?_
        refine g_iload_2 E dX12_laysEndlessSpan_34 ?_
        refine g_callsI E my_X12_item ms_X12_item ml_RX12_282 (rm_ok (by decide) (by decide)) ⟨Nat.zero_le _, Nat.zero_le _⟩ (m_X12_item E.2.2.1 c4 c1 c2 hσ h) rfl rfl (Nat.le_of_ble_eq_true rfl) dX12_laysEndlessSpan_35 (fun r3 σ4 cr3 hσ4 h => ?_)
        refine g_iconst E dX12_laysEndlessSpan_38 ?_
        refine g_zast E kR_16 sR_16 (by decide) h.1 dX12_laysEndlessSpan_39 (g_nmS (fun σ5 eσ5 => ?_))
        replace h := h.2 σ5 eσ5
        have hσ5 : CanS shR NR σ5 := by rw [eσ5]; exact wR_16 hσ4 (c32_t _)
        exact (t_X12_laysEndlessSpan_b40 E hr ih x1 x2 x3 x4 σ5 c1 c2 c3 c4 hσ5 h).weak (w_k (w_k (w_k (w_k (w_k (w_d w_n))))))
set_option maxHeartbeats 4000000 in
set_option maxRecDepth 100000 in
theorem t_X12_laysEndlessSpan (E : Ev p s m args meth c cX12_laysEndlessSpan 6 RX12 A0 D cA ad NR Z) (hr : meth.sig.returnType = none) (x1 : Int) (x2 : Int) (σ : St) (c1 : C32 x1) (c2 : C32 x2) (hσ : CanS shR NR σ) (h : wp_X12_laysEndlessSpan x1 x2 σ Q) : G p l e (rmL 4 0 0) s m args below meth c 6 A0 D cA ad shR NR 0 0 (MQ below (QVc D cA ad shR NR Q A0) args s 0 0 A0) σ 0 [some (.ref (ad 0)), some (vI x1), some (vI x2), none, none, none] [] := by
  unfold wp_X12_laysEndlessSpan at h
  refine g_aload_0 E dX12_laysEndlessSpan_0 ?_
  refine g_iload_1 E dX12_laysEndlessSpan_1 ?_
  refine g_iload_2 E dX12_laysEndlessSpan_2 ?_
  refine g_callvI E my_X12_ringsAt mi_X12_ringsAt msel_X12_ringsAt ml_RX12_343 (rm_ok (by decide) (by decide)) ⟨Nat.zero_le _, Nat.zero_le _⟩ kR_0 sR_0 rfl (m_X12_ringsAt E.2.2.1 c1 c2 hσ h) rfl rfl (Nat.le_of_ble_eq_true rfl) dX12_laysEndlessSpan_3 (fun r1 σ2 cr1 hσ2 h => ?_)
  refine g_istore_3 E rfl (by decide) dX12_laysEndlessSpan_6 ?_
  refine g_iconst E dX12_laysEndlessSpan_7 ?_
  refine g_istore_4 E rfl (by decide) dX12_laysEndlessSpan_8 ?_
  exact (t_X12_laysEndlessSpan_l10 E hr bigN x1 x2 r1 0 σ2 c1 c2 cr1 cl_0 hσ2 h).weak (w_k (w_k (w_k (w_k (w_k (w_d w_n))))))
end
theorem m_X12_laysEndlessSpan {Z : (Nat → Nat) × (Nat → Nat)} {l : Launch} {D : va_G} {cA : Nat → ClassId} {ad : Nat → Nat} {x1 x2 : Int} {σ : St} {Q : Int → St → Prop} (hA : AdOk NR ad) (c1 : C32 x1) (c2 : C32 x2) (hσ : CanS shR NR σ) (h : wp_X12_laysEndlessSpan x1 x2 σ Q) : KtV Z l D cA ad shR NR yX12_laysEndlessSpan cX12_laysEndlessSpan 6 none 4 [.ref (ad 0), vI x1, vI x2] σ Q :=
  KtV.of my_X12_laysEndlessSpan hA [some (.ref (ad 0)), some (vI x1), some (vI x2), none, none, none] (Nat.le_of_ble_eq_true rfl) rfl (fun p e s m args below meth c A0 E hr => t_X12_laysEndlessSpan E hr x1 x2 σ c1 c2 hσ h)
theorem dX12_laysEndless_0 : Dc cX12_laysEndless 0 (.iconst 0) 1 1 := ⟨by decide +kernel, rfl⟩
theorem dX12_laysEndless_1 : Dc cX12_laysEndless 1 (.istore_n 1) 1 2 := ⟨by decide +kernel, rfl⟩
theorem dX12_laysEndless_2 : Dc cX12_laysEndless 2 (.iload_n 1) 1 3 := ⟨by decide +kernel, rfl⟩
theorem dX12_laysEndless_3 : Dc cX12_laysEndless 3 (.sipush 768) 3 6 := ⟨by decide +kernel, rfl⟩
theorem djX12_laysEndless_6 : Dj cX12_laysEndless 6 (.if_icmp .ge 23) 3 9 23 29 := ⟨by decide +kernel, rfl, by decide⟩
theorem dX12_laysEndless_9 : Dc cX12_laysEndless 9 (.aload_n 0) 1 10 := ⟨by decide +kernel, rfl⟩
theorem dX12_laysEndless_10 : Dc cX12_laysEndless 10 (.getfield 63) 3 13 := ⟨by decide +kernel, rfl⟩
theorem dX12_laysEndless_13 : Dc cX12_laysEndless 13 (.iload_n 1) 1 14 := ⟨by decide +kernel, rfl⟩
theorem dX12_laysEndless_14 : Dc cX12_laysEndless 14 (.iconst 0) 1 15 := ⟨by decide +kernel, rfl⟩
theorem dX12_laysEndless_15 : Dc cX12_laysEndless 15 (.bastore) 1 16 := ⟨by decide +kernel, rfl⟩
theorem dX12_laysEndless_16 : Dc cX12_laysEndless 16 (.aload_n 0) 1 17 := ⟨by decide +kernel, rfl⟩
theorem dX12_laysEndless_17 : Dc cX12_laysEndless 17 (.getfield 67) 3 20 := ⟨by decide +kernel, rfl⟩
theorem dX12_laysEndless_20 : Dc cX12_laysEndless 20 (.iload_n 1) 1 21 := ⟨by decide +kernel, rfl⟩
theorem dX12_laysEndless_21 : Dc cX12_laysEndless 21 (.iconst 0) 1 22 := ⟨by decide +kernel, rfl⟩
theorem dX12_laysEndless_22 : Dc cX12_laysEndless 22 (.bastore) 1 23 := ⟨by decide +kernel, rfl⟩
theorem dX12_laysEndless_23 : Dc cX12_laysEndless 23 (.iinc 1 1) 3 26 := ⟨by decide +kernel, rfl⟩
theorem djX12_laysEndless_26 : Dj cX12_laysEndless 26 (.goto (-24)) 3 29 (-24) 2 := ⟨by decide +kernel, rfl, by decide⟩
theorem dX12_laysEndless_29 : Dc cX12_laysEndless 29 (.iconst 1) 1 30 := ⟨by decide +kernel, rfl⟩
theorem dX12_laysEndless_30 : Dc cX12_laysEndless 30 (.istore_n 1) 1 31 := ⟨by decide +kernel, rfl⟩
theorem dX12_laysEndless_31 : Dc cX12_laysEndless 31 (.iload_n 1) 1 32 := ⟨by decide +kernel, rfl⟩
theorem dX12_laysEndless_32 : Dc cX12_laysEndless 32 (.aload_n 0) 1 33 := ⟨by decide +kernel, rfl⟩
theorem dX12_laysEndless_33 : Dc cX12_laysEndless 33 (.getfield 305) 3 36 := ⟨by decide +kernel, rfl⟩
theorem djX12_laysEndless_36 : Dj cX12_laysEndless 36 (.if_icmp .gt 35) 3 39 35 71 := ⟨by decide +kernel, rfl, by decide⟩
theorem dX12_laysEndless_39 : Dc cX12_laysEndless 39 (.iconst 0) 1 40 := ⟨by decide +kernel, rfl⟩
theorem dX12_laysEndless_40 : Dc cX12_laysEndless 40 (.istore_n 2) 1 41 := ⟨by decide +kernel, rfl⟩
theorem dX12_laysEndless_41 : Dc cX12_laysEndless 41 (.iload_n 2) 1 42 := ⟨by decide +kernel, rfl⟩
theorem dX12_laysEndless_42 : Dc cX12_laysEndless 42 (.iload_n 1) 1 43 := ⟨by decide +kernel, rfl⟩
theorem dX12_laysEndless_43 : Dc cX12_laysEndless 43 (.iadd) 1 44 := ⟨by decide +kernel, rfl⟩
theorem dX12_laysEndless_44 : Dc cX12_laysEndless 44 (.aload_n 0) 1 45 := ⟨by decide +kernel, rfl⟩
theorem dX12_laysEndless_45 : Dc cX12_laysEndless 45 (.getfield 305) 3 48 := ⟨by decide +kernel, rfl⟩
theorem djX12_laysEndless_48 : Dj cX12_laysEndless 48 (.if_icmp .gt 17) 3 51 17 65 := ⟨by decide +kernel, rfl, by decide⟩
theorem dX12_laysEndless_51 : Dc cX12_laysEndless 51 (.aload_n 0) 1 52 := ⟨by decide +kernel, rfl⟩
theorem dX12_laysEndless_52 : Dc cX12_laysEndless 52 (.iload_n 2) 1 53 := ⟨by decide +kernel, rfl⟩
theorem dX12_laysEndless_53 : Dc cX12_laysEndless 53 (.iload_n 2) 1 54 := ⟨by decide +kernel, rfl⟩
theorem dX12_laysEndless_54 : Dc cX12_laysEndless 54 (.iload_n 1) 1 55 := ⟨by decide +kernel, rfl⟩
theorem dX12_laysEndless_55 : Dc cX12_laysEndless 55 (.iadd) 1 56 := ⟨by decide +kernel, rfl⟩
theorem dX12_laysEndless_56 : Dc cX12_laysEndless 56 (.invokevirtual 340) 3 59 := ⟨by decide +kernel, rfl⟩
theorem dX12_laysEndless_59 : Dc cX12_laysEndless 59 (.iinc 2 1) 3 62 := ⟨by decide +kernel, rfl⟩
theorem djX12_laysEndless_62 : Dj cX12_laysEndless 62 (.goto (-21)) 3 65 (-21) 41 := ⟨by decide +kernel, rfl, by decide⟩
theorem dX12_laysEndless_65 : Dc cX12_laysEndless 65 (.iinc 1 1) 3 68 := ⟨by decide +kernel, rfl⟩
theorem djX12_laysEndless_68 : Dj cX12_laysEndless 68 (.goto (-37)) 3 71 (-37) 31 := ⟨by decide +kernel, rfl, by decide⟩
theorem dX12_laysEndless_71 : Dc cX12_laysEndless 71 (.return_) 1 72 := ⟨by decide +kernel, rfl⟩
section
variable {p : Program} {l : Launch} {e : Env} {s : State} {m : MethodId} {args : Array Value} {below : List Frame} {meth : Method} {c : Code} {A0 : Nat → Prop} {D : va_G} {cA : Nat → ClassId} {ad : Nat → Nat} {Z : (Nat → Nat) × (Nat → Nat)} {Q : Int → St → Prop}
set_option maxHeartbeats 4000000 in
set_option maxRecDepth 100000 in
theorem t_X12_laysEndless_l41 (E : Ev p s m args meth c cX12_laysEndless 3 RX12 A0 D cA ad NR Z) (hr : meth.sig.returnType = none) {K31 : Int → St → Prop} (hK31 : ∀ (x1 : Int) (σ : St), C32 x1 → CanS shR NR σ → K31 x1 σ → G p l e (rmL 5 0 0) s m args below meth c 3 A0 D cA ad shR NR 0 0 (MQ below (QVc D cA ad shR NR Q A0) args s 0 0 A0) σ 31 [some (.ref (ad 0)), some (vI x1), none] []) : ∀ (n : Nat) (x1 : Int) (x2 : Int) (σ : St), C32 x1 → C32 x2 → CanS shR NR σ → wp_X12_laysEndless_l41 Q K31 n x1 x2 σ → G p l e (rmL 5 0 0) s m args below meth c 3 A0 D cA ad shR NR 0 0 (MQ below (QVc D cA ad shR NR Q A0) args s 0 0 A0) σ 41 [some (.ref (ad 0)), some (vI x1), some (vI x2)] [] := by
  intro n
  induction n with
  | zero => intro _ _ _ _ _ _ h; exact h.elim
  | succ n ih =>
    intro x1 x2 σ c1 c2 hσ h
    unfold wp_X12_laysEndless_l41 at h
    refine g_iload_2 E dX12_laysEndless_41 ?_
    refine g_iload_1 E dX12_laysEndless_42 ?_
    refine g_iadd E dX12_laysEndless_43 ?_
    refine g_aload_0 E dX12_laysEndless_44 ?_
    refine g_getI E fl_RX12_305 kR_0 sR_0 rfl dX12_laysEndless_45 ?_
    refine g_icmp_gt E (c32_w _) (fR_0_27 hσ) djX12_laysEndless_48 (fun hc => ?_) (fun hc => ?_)
    · replace h := h.1 hc
      refine g_iinc_1 E rfl (by decide) dX12_laysEndless_65 (fun v4 ev4 => ?_)
      replace h := h v4 ev4
      have cv4 : C32 v4 := by rw [ev4]; exact c32_w _
      refine g_goto E djX12_laysEndless_68 ?_
      exact (hK31 v4 σ cv4 hσ h).weak (w_k (w_k (w_d w_n)))
    · replace h := h.2 hc
      refine g_aload_0 E dX12_laysEndless_51 ?_
      refine g_iload_2 E dX12_laysEndless_52 ?_
      refine g_iload_2 E dX12_laysEndless_53 ?_
      refine g_iload_1 E dX12_laysEndless_54 ?_
      refine g_iadd E dX12_laysEndless_55 ?_
      refine g_callvV E my_X12_laysEndlessSpan mi_X12_laysEndlessSpan msel_X12_laysEndlessSpan ml_RX12_340 (rm_ok (by decide) (by decide)) ⟨Nat.zero_le _, Nat.zero_le _⟩ kR_0 sR_0 rfl (m_X12_laysEndlessSpan E.2.2.1 c2 (c32_w _) hσ h) rfl rfl (Nat.le_of_ble_eq_true rfl) dX12_laysEndless_56 (fun σ6 r5 hσ6 h => ?_)
      refine g_iinc_2 E rfl (by decide) dX12_laysEndless_59 (fun v7 ev7 => ?_)
      replace h := h v7 ev7
      have cv7 : C32 v7 := by rw [ev7]; exact c32_w _
      refine g_goto E djX12_laysEndless_62 ?_
      exact (ih x1 v7 σ6 c1 cv7 hσ6 h).weak (w_k (w_k (w_k w_n)))
set_option maxHeartbeats 4000000 in
set_option maxRecDepth 100000 in
theorem t_X12_laysEndless_l31 (E : Ev p s m args meth c cX12_laysEndless 3 RX12 A0 D cA ad NR Z) (hr : meth.sig.returnType = none) : ∀ (n : Nat) (x1 : Int) (σ : St), C32 x1 → CanS shR NR σ → wp_X12_laysEndless_l31 Q n x1 σ → G p l e (rmL 5 0 0) s m args below meth c 3 A0 D cA ad shR NR 0 0 (MQ below (QVc D cA ad shR NR Q A0) args s 0 0 A0) σ 31 [some (.ref (ad 0)), some (vI x1), none] [] := by
  intro n
  induction n with
  | zero => intro _ _ _ _ h; exact h.elim
  | succ n ih =>
    intro x1 σ c1 hσ h
    unfold wp_X12_laysEndless_l31 at h
    refine g_iload_1 E dX12_laysEndless_31 ?_
    refine g_aload_0 E dX12_laysEndless_32 ?_
    refine g_getI E fl_RX12_305 kR_0 sR_0 rfl dX12_laysEndless_33 ?_
    refine g_icmp_gt E c1 (fR_0_27 hσ) djX12_laysEndless_36 (fun hc => ?_) (fun hc => ?_)
    · replace h := h.1 hc
      exact g_vret E hr h hσ dX12_laysEndless_71
    · replace h := h.2 hc
      refine g_iconst E dX12_laysEndless_39 ?_
      refine g_istore_2 E rfl (by decide) dX12_laysEndless_40 ?_
      exact (t_X12_laysEndless_l41 E hr ih bigN x1 0 σ c1 cl_0 hσ h).weak (w_k (w_k (w_k w_n)))
set_option maxHeartbeats 4000000 in
set_option maxRecDepth 100000 in
theorem t_X12_laysEndless_l2 (E : Ev p s m args meth c cX12_laysEndless 3 RX12 A0 D cA ad NR Z) (hr : meth.sig.returnType = none) : ∀ (n : Nat) (x1 : Int) (σ : St), C32 x1 → CanS shR NR σ → wp_X12_laysEndless_l2 Q n x1 σ → G p l e (rmL 5 0 0) s m args below meth c 3 A0 D cA ad shR NR 0 0 (MQ below (QVc D cA ad shR NR Q A0) args s 0 0 A0) σ 2 [some (.ref (ad 0)), some (vI x1), none] [] := by
  intro n
  induction n with
  | zero => intro _ _ _ _ h; exact h.elim
  | succ n ih =>
    intro x1 σ c1 hσ h
    unfold wp_X12_laysEndless_l2 at h
    refine g_iload_1 E dX12_laysEndless_2 ?_
    refine g_sipush E (by decide) dX12_laysEndless_3 ?_
    refine g_icmp_ge E c1 cl_768 djX12_laysEndless_6 (fun hc => ?_) (fun hc => ?_)
    · replace h := h.1 hc
      refine g_iconst E dX12_laysEndless_29 ?_
      refine g_istore_1 E rfl (by decide) dX12_laysEndless_30 ?_
      exact (t_X12_laysEndless_l31 E hr bigN 1 σ cl_1 hσ h).weak (w_k (w_k (w_d w_n)))
    · replace h := h.2 hc
      refine g_aload_0 E dX12_laysEndless_9 ?_
      refine g_getR E fl_RX12_63 kR_0 sR_0 rfl dX12_laysEndless_10 ?_
      refine g_iload_1 E dX12_laysEndless_13 ?_
      refine g_iconst E dX12_laysEndless_14 ?_
      refine g_zast E kR_16 sR_16 (by decide) h.1 dX12_laysEndless_15 (g_nmS (fun σ1 eσ1 => ?_))
      replace h := h.2 σ1 eσ1
      have hσ1 : CanS shR NR σ1 := by rw [eσ1]; exact wR_16 hσ (c32_t _)
      refine g_aload_0 E dX12_laysEndless_16 ?_
      refine g_getR E fl_RX12_67 kR_0 sR_0 rfl dX12_laysEndless_17 ?_
      refine g_iload_1 E dX12_laysEndless_20 ?_
      refine g_iconst E dX12_laysEndless_21 ?_
      refine g_zast E kR_17 sR_17 (by decide) h.1 dX12_laysEndless_22 (g_nmS (fun σ2 eσ2 => ?_))
      replace h := h.2 σ2 eσ2
      have hσ2 : CanS shR NR σ2 := by rw [eσ2]; exact wR_17 hσ1 (c32_t _)
      refine g_iinc_1 E rfl (by decide) dX12_laysEndless_23 (fun v3 ev3 => ?_)
      replace h := h v3 ev3
      have cv3 : C32 v3 := by rw [ev3]; exact c32_w _
      refine g_goto E djX12_laysEndless_26 ?_
      exact (ih v3 σ2 cv3 hσ2 h).weak (w_k (w_k (w_d w_n)))
set_option maxHeartbeats 4000000 in
set_option maxRecDepth 100000 in
theorem t_X12_laysEndless (E : Ev p s m args meth c cX12_laysEndless 3 RX12 A0 D cA ad NR Z) (hr : meth.sig.returnType = none) (σ : St) (hσ : CanS shR NR σ) (h : wp_X12_laysEndless  σ Q) : G p l e (rmL 5 0 0) s m args below meth c 3 A0 D cA ad shR NR 0 0 (MQ below (QVc D cA ad shR NR Q A0) args s 0 0 A0) σ 0 [some (.ref (ad 0)), none, none] [] := by
  unfold wp_X12_laysEndless at h
  refine g_iconst E dX12_laysEndless_0 ?_
  refine g_istore_1 E rfl (by decide) dX12_laysEndless_1 ?_
  exact (t_X12_laysEndless_l2 E hr bigN 0 σ cl_0 hσ h).weak (w_k (w_k (w_d w_n)))
end
theorem m_X12_laysEndless {Z : (Nat → Nat) × (Nat → Nat)} {l : Launch} {D : va_G} {cA : Nat → ClassId} {ad : Nat → Nat} {σ : St} {Q : Int → St → Prop} (hA : AdOk NR ad) (hσ : CanS shR NR σ) (h : wp_X12_laysEndless  σ Q) : KtV Z l D cA ad shR NR yX12_laysEndless cX12_laysEndless 3 none 5 [.ref (ad 0)] σ Q :=
  KtV.of my_X12_laysEndless hA [some (.ref (ad 0)), none, none] (Nat.le_of_ble_eq_true rfl) rfl (fun p e s m args below meth c A0 E hr => t_X12_laysEndless E hr σ hσ h)
theorem dX12_waysPart_0 : Dc cX12_waysPart 0 (.aload_n 0) 1 1 := ⟨by decide +kernel, rfl⟩
theorem dX12_waysPart_1 : Dc cX12_waysPart 1 (.iload_n 1) 1 2 := ⟨by decide +kernel, rfl⟩
theorem dX12_waysPart_2 : Dc cX12_waysPart 2 (.iload_n 2) 1 3 := ⟨by decide +kernel, rfl⟩
theorem dX12_waysPart_3 : Dc cX12_waysPart 3 (.iload_n 3) 1 4 := ⟨by decide +kernel, rfl⟩
theorem dX12_waysPart_4 : Dc cX12_waysPart 4 (.invokevirtual 287) 3 7 := ⟨by decide +kernel, rfl⟩
theorem djX12_waysPart_7 : Dj cX12_waysPart 7 (.ifCond .ne 5) 3 10 5 12 := ⟨by decide +kernel, rfl, by decide⟩
theorem dX12_waysPart_10 : Dc cX12_waysPart 10 (.lconst 0) 1 11 := ⟨by decide +kernel, rfl⟩
theorem dX12_waysPart_11 : Dc cX12_waysPart 11 (.lreturn) 1 12 := ⟨by decide +kernel, rfl⟩
theorem dX12_waysPart_12 : Dc cX12_waysPart 12 (.iload_n 1) 1 13 := ⟨by decide +kernel, rfl⟩
theorem dX12_waysPart_13 : Dc cX12_waysPart 13 (.bipush 100) 2 15 := ⟨by decide +kernel, rfl⟩
theorem djX12_waysPart_15 : Dj cX12_waysPart 15 (.if_icmp .lt 7) 3 18 7 22 := ⟨by decide +kernel, rfl, by decide⟩
theorem dX12_waysPart_18 : Dc cX12_waysPart 18 (.lconst 1) 1 19 := ⟨by decide +kernel, rfl⟩
theorem djX12_waysPart_19 : Dj cX12_waysPart 19 (.goto 10) 3 22 10 29 := ⟨by decide +kernel, rfl, by decide⟩
theorem dX12_waysPart_22 : Dc cX12_waysPart 22 (.aload_n 0) 1 23 := ⟨by decide +kernel, rfl⟩
theorem dX12_waysPart_23 : Dc cX12_waysPart 23 (.iload_n 1) 1 24 := ⟨by decide +kernel, rfl⟩
theorem dX12_waysPart_24 : Dc cX12_waysPart 24 (.iload_n 2) 1 25 := ⟨by decide +kernel, rfl⟩
theorem dX12_waysPart_25 : Dc cX12_waysPart 25 (.iload_n 3) 1 26 := ⟨by decide +kernel, rfl⟩
theorem dX12_waysPart_26 : Dc cX12_waysPart 26 (.invokevirtual 349) 3 29 := ⟨by decide +kernel, rfl⟩
theorem dX12_waysPart_29 : Dc cX12_waysPart 29 (.lreturn) 1 30 := ⟨by decide +kernel, rfl⟩
section
variable {p : Program} {l : Launch} {e : Env} {s : State} {m : MethodId} {args : Array Value} {below : List Frame} {meth : Method} {c : Code} {A0 : Nat → Prop} {D : va_G} {cA : Nat → ClassId} {ad : Nat → Nat} {Z : (Nat → Nat) × (Nat → Nat)} {Q : Int → St → Prop}
set_option maxHeartbeats 4000000 in
set_option maxRecDepth 100000 in
theorem t_X12_waysPart (E : Ev p s m args meth c cX12_waysPart 4 RX12 A0 D cA ad NR Z) (hr : meth.sig.returnType = (some .long)) {M : Int → Int → Int → St → (Int → St → Prop) → Prop} {d : Nat} (hM : ∀ (x1 : Int) (x2 : Int) (x3 : Int) (σ : St) (Q : Int → St → Prop), C32 x1 → C32 x2 → C32 x3 → CanS shR NR σ → M x1 x2 x3 σ Q → KtL Z l D cA ad shR NR yX12_waysItem cX12_waysItem 9 (some .long) (3 + 2 * d) [.ref (ad 0), vI x1, vI x2, vI x3] σ Q) (x1 : Int) (x2 : Int) (x3 : Int) (σ : St) (c1 : C32 x1) (c2 : C32 x2) (c3 : C32 x3) (hσ : CanS shR NR σ) (h : wp_X12_waysPart M x1 x2 x3 σ Q) : G p l e (rmL (3 + 2 * d + 1) 0 0) s m args below meth c 4 A0 D cA ad shR NR 0 0 (MQ below (QLc D cA ad shR NR Q A0) args s 0 0 A0) σ 0 [some (.ref (ad 0)), some (vI x1), some (vI x2), some (vI x3)] [] := by
  unfold wp_X12_waysPart at h
  refine g_aload_0 E dX12_waysPart_0 ?_
  refine g_iload_1 E dX12_waysPart_1 ?_
  refine g_iload_2 E dX12_waysPart_2 ?_
  refine g_iload_3 E dX12_waysPart_3 ?_
  refine g_callvI E my_X12_fits mi_X12_fits msel_X12_fits ml_RX12_287 (rm_ok (by omega) (by decide)) ⟨Nat.zero_le _, Nat.zero_le _⟩ kR_0 sR_0 rfl (m_X12_fits E.2.2.1 c1 c2 c3 hσ h) rfl rfl (Nat.le_of_ble_eq_true rfl) dX12_waysPart_4 (fun r1 σ2 cr1 hσ2 h => ?_)
  refine g_if_ne E cr1 djX12_waysPart_7 (fun hc => ?_) (fun hc => ?_)
  · replace h := h.1 hc
    refine g_iload_1 E dX12_waysPart_12 ?_
    refine g_bipush E (by decide) dX12_waysPart_13 ?_
    refine g_icmp_lt E c1 cl_100 djX12_waysPart_15 (fun hc => ?_) (fun hc => ?_)
    · replace h := h.1 hc
      refine g_aload_0 E dX12_waysPart_22 ?_
      refine g_iload_1 E dX12_waysPart_23 ?_
      refine g_iload_2 E dX12_waysPart_24 ?_
      refine g_iload_3 E dX12_waysPart_25 ?_
      refine g_callvL E my_X12_waysItem mi_X12_waysItem msel_X12_waysItem ml_RX12_349 (rm_ok (by omega) (by decide)) ⟨Nat.zero_le _, Nat.zero_le _⟩ kR_0 sR_0 rfl (hM x1 x2 x3 σ2 _ c1 c2 c3 hσ2 h) rfl rfl (Nat.le_of_ble_eq_true rfl) dX12_waysPart_26 (fun r3 σ4 cr3 hσ4 h => ?_)
      exact g_lret E hr cr3 h hσ4 dX12_waysPart_29
    · replace h := h.2 hc
      refine g_lconst (n := 1) E (by decide) dX12_waysPart_18 ?_
      refine g_goto E djX12_waysPart_19 ?_
      exact g_lret E hr cL_1 h hσ2 dX12_waysPart_29
  · replace h := h.2 hc
    refine g_lconst (n := 0) E (by decide) dX12_waysPart_10 ?_
    exact g_lret E hr cL_0 h hσ2 dX12_waysPart_11
end
theorem m_X12_waysPart {Z : (Nat → Nat) × (Nat → Nat)} {l : Launch} {D : va_G} {cA : Nat → ClassId} {ad : Nat → Nat} {M : Int → Int → Int → St → (Int → St → Prop) → Prop} {d : Nat} (hM : ∀ (x1 : Int) (x2 : Int) (x3 : Int) (σ : St) (Q : Int → St → Prop), C32 x1 → C32 x2 → C32 x3 → CanS shR NR σ → M x1 x2 x3 σ Q → KtL Z l D cA ad shR NR yX12_waysItem cX12_waysItem 9 (some .long) (3 + 2 * d) [.ref (ad 0), vI x1, vI x2, vI x3] σ Q) {x1 x2 x3 : Int} {σ : St} {Q : Int → St → Prop} (hA : AdOk NR ad) (c1 : C32 x1) (c2 : C32 x2) (c3 : C32 x3) (hσ : CanS shR NR σ) (h : wp_X12_waysPart M x1 x2 x3 σ Q) : KtL Z l D cA ad shR NR yX12_waysPart cX12_waysPart 4 (some .long) (3 + 2 * d + 1) [.ref (ad 0), vI x1, vI x2, vI x3] σ Q :=
  KtL.of my_X12_waysPart hA [some (.ref (ad 0)), some (vI x1), some (vI x2), some (vI x3)] (Nat.le_of_ble_eq_true rfl) rfl (fun p e s m args below meth c A0 E hr => t_X12_waysPart E hr hM x1 x2 x3 σ c1 c2 c3 hσ h)
theorem dX12_plusGreat_0 : Dc cX12_plusGreat 0 (.ldc2_w 327) 3 3 := ⟨by decide +kernel, rfl⟩
theorem dX12_plusGreat_3 : Dc cX12_plusGreat 3 (.lload_n 0) 1 4 := ⟨by decide +kernel, rfl⟩
theorem dX12_plusGreat_4 : Dc cX12_plusGreat 4 (.lload_n 2) 1 5 := ⟨by decide +kernel, rfl⟩
theorem dX12_plusGreat_5 : Dc cX12_plusGreat 5 (.ladd) 1 6 := ⟨by decide +kernel, rfl⟩
theorem dX12_plusGreat_6 : Dc cX12_plusGreat 6 (.invokestatic 329) 3 9 := ⟨by decide +kernel, rfl⟩
theorem dX12_plusGreat_9 : Dc cX12_plusGreat 9 (.lreturn) 1 10 := ⟨by decide +kernel, rfl⟩
section
variable {p : Program} {l : Launch} {e : Env} {s : State} {m : MethodId} {args : Array Value} {below : List Frame} {meth : Method} {c : Code} {A0 : Nat → Prop} {D : va_G} {cA : Nat → ClassId} {ad : Nat → Nat} {Z : (Nat → Nat) × (Nat → Nat)} {Q : Int → St → Prop}
set_option maxHeartbeats 4000000 in
set_option maxRecDepth 100000 in
theorem t_X12_plusGreat (E : Ev p s m args meth c cX12_plusGreat 4 RX12 A0 D cA ad NR Z) (hr : meth.sig.returnType = (some .long)) (x0 : Int) (x2 : Int) (σ : St) (c0 : C64 x0) (c2 : C64 x2) (hσ : CanS shR NR σ) (h : wp_X12_plusGreat x0 x2 σ Q) : G p l e (rmL 1 0 0) s m args below meth c 4 A0 D cA ad shR NR 0 0 (MQ below (QLc D cA ad shR NR Q A0) args s 0 0 A0) σ 0 [some (vL x0), none, some (vL x2), none] [] := by
  unfold wp_X12_plusGreat at h
  refine g_ldc2 (n := 1000000000000001) E wc_RX12_327 dX12_plusGreat_0 ?_
  refine g_lload_0 E dX12_plusGreat_3 ?_
  refine g_lload_2 E dX12_plusGreat_4 ?_
  refine g_ladd E dX12_plusGreat_5 ?_
  refine g_mminl E ml_RX12_329 cL_1000000000000001 (c64_w _) (Nat.le_of_ble_eq_true rfl) (rm_1 1) ⟨Nat.zero_le _, Nat.zero_le _⟩ dX12_plusGreat_6 ?_
  exact g_lret E hr (c64_min cL_1000000000000001 (c64_w _)) h hσ dX12_plusGreat_9
end
theorem m_X12_plusGreat {Z : (Nat → Nat) × (Nat → Nat)} {l : Launch} {D : va_G} {cA : Nat → ClassId} {ad : Nat → Nat} {x0 x2 : Int} {σ : St} {Q : Int → St → Prop} (hA : AdOk NR ad) (c0 : C64 x0) (c2 : C64 x2) (hσ : CanS shR NR σ) (h : wp_X12_plusGreat x0 x2 σ Q) : KtL Z l D cA ad shR NR yX12_plusGreat cX12_plusGreat 4 (some .long) 1 [vL x0, vL x2] σ Q :=
  KtL.of my_X12_plusGreat hA [some (vL x0), none, some (vL x2), none] (Nat.le_of_ble_eq_true rfl) rfl (fun p e s m args below meth c A0 E hr => t_X12_plusGreat E hr x0 x2 σ c0 c2 hσ h)
theorem dX12_timesGreat_0 : Dc cX12_timesGreat 0 (.lload_n 0) 1 1 := ⟨by decide +kernel, rfl⟩
theorem dX12_timesGreat_1 : Dc cX12_timesGreat 1 (.lconst 0) 1 2 := ⟨by decide +kernel, rfl⟩
theorem dX12_timesGreat_2 : Dc cX12_timesGreat 2 (.lcmp) 1 3 := ⟨by decide +kernel, rfl⟩
theorem djX12_timesGreat_3 : Dj cX12_timesGreat 3 (.ifCond .eq 9) 3 6 9 12 := ⟨by decide +kernel, rfl, by decide⟩
theorem dX12_timesGreat_6 : Dc cX12_timesGreat 6 (.lload_n 2) 1 7 := ⟨by decide +kernel, rfl⟩
theorem dX12_timesGreat_7 : Dc cX12_timesGreat 7 (.lconst 0) 1 8 := ⟨by decide +kernel, rfl⟩
theorem dX12_timesGreat_8 : Dc cX12_timesGreat 8 (.lcmp) 1 9 := ⟨by decide +kernel, rfl⟩
theorem djX12_timesGreat_9 : Dj cX12_timesGreat 9 (.ifCond .ne 5) 3 12 5 14 := ⟨by decide +kernel, rfl, by decide⟩
theorem dX12_timesGreat_12 : Dc cX12_timesGreat 12 (.lconst 0) 1 13 := ⟨by decide +kernel, rfl⟩
theorem dX12_timesGreat_13 : Dc cX12_timesGreat 13 (.lreturn) 1 14 := ⟨by decide +kernel, rfl⟩
theorem dX12_timesGreat_14 : Dc cX12_timesGreat 14 (.lload_n 0) 1 15 := ⟨by decide +kernel, rfl⟩
theorem dX12_timesGreat_15 : Dc cX12_timesGreat 15 (.ldc2_w 332) 3 18 := ⟨by decide +kernel, rfl⟩
theorem dX12_timesGreat_18 : Dc cX12_timesGreat 18 (.lload_n 2) 1 19 := ⟨by decide +kernel, rfl⟩
theorem dX12_timesGreat_19 : Dc cX12_timesGreat 19 (.ldiv) 1 20 := ⟨by decide +kernel, rfl⟩
theorem dX12_timesGreat_20 : Dc cX12_timesGreat 20 (.lcmp) 1 21 := ⟨by decide +kernel, rfl⟩
theorem djX12_timesGreat_21 : Dj cX12_timesGreat 21 (.ifCond .le 9) 3 24 9 30 := ⟨by decide +kernel, rfl, by decide⟩
theorem dX12_timesGreat_24 : Dc cX12_timesGreat 24 (.ldc2_w 327) 3 27 := ⟨by decide +kernel, rfl⟩
theorem djX12_timesGreat_27 : Dj cX12_timesGreat 27 (.goto 6) 3 30 6 33 := ⟨by decide +kernel, rfl, by decide⟩
theorem dX12_timesGreat_30 : Dc cX12_timesGreat 30 (.lload_n 0) 1 31 := ⟨by decide +kernel, rfl⟩
theorem dX12_timesGreat_31 : Dc cX12_timesGreat 31 (.lload_n 2) 1 32 := ⟨by decide +kernel, rfl⟩
theorem dX12_timesGreat_32 : Dc cX12_timesGreat 32 (.lmul) 1 33 := ⟨by decide +kernel, rfl⟩
theorem dX12_timesGreat_33 : Dc cX12_timesGreat 33 (.lreturn) 1 34 := ⟨by decide +kernel, rfl⟩
section
variable {p : Program} {l : Launch} {e : Env} {s : State} {m : MethodId} {args : Array Value} {below : List Frame} {meth : Method} {c : Code} {A0 : Nat → Prop} {D : va_G} {cA : Nat → ClassId} {ad : Nat → Nat} {Z : (Nat → Nat) × (Nat → Nat)} {Q : Int → St → Prop}
set_option maxHeartbeats 4000000 in
set_option maxRecDepth 100000 in
theorem t_X12_timesGreat (E : Ev p s m args meth c cX12_timesGreat 4 RX12 A0 D cA ad NR Z) (hr : meth.sig.returnType = (some .long)) (x0 : Int) (x2 : Int) (σ : St) (c0 : C64 x0) (c2 : C64 x2) (hσ : CanS shR NR σ) (h : wp_X12_timesGreat x0 x2 σ Q) : G p l e (rmL 1 0 0) s m args below meth c 4 A0 D cA ad shR NR 0 0 (MQ below (QLc D cA ad shR NR Q A0) args s 0 0 A0) σ 0 [some (vL x0), none, some (vL x2), none] [] := by
  unfold wp_X12_timesGreat at h
  refine g_lload_0 E dX12_timesGreat_0 ?_
  refine g_lconst (n := 0) E (by decide) dX12_timesGreat_1 ?_
  refine g_lcmp_eq E c0 cL_0 dX12_timesGreat_2 djX12_timesGreat_3 (fun hc => ?_) (fun hc => ?_)
  · replace h := h.1 hc
    refine g_lconst (n := 0) E (by decide) dX12_timesGreat_12 ?_
    exact g_lret E hr cL_0 h hσ dX12_timesGreat_13
  · replace h := h.2 hc
    refine g_lload_2 E dX12_timesGreat_6 ?_
    refine g_lconst (n := 0) E (by decide) dX12_timesGreat_7 ?_
    refine g_lcmp_ne E c2 cL_0 dX12_timesGreat_8 djX12_timesGreat_9 (fun hc => ?_) (fun hc => ?_)
    · replace h := h.1 hc
      refine g_lload_0 E dX12_timesGreat_14 ?_
      refine g_ldc2 (n := 1000000000000000) E wc_RX12_332 dX12_timesGreat_15 ?_
      refine g_lload_2 E dX12_timesGreat_18 ?_
      refine g_ldiv E c2 h.1 dX12_timesGreat_19 ?_
      replace h := h.2
      refine g_lcmp_le E c0 (c64_t _) dX12_timesGreat_20 djX12_timesGreat_21 (fun hc => ?_) (fun hc => ?_)
      · replace h := h.1 hc
        refine g_lload_0 E dX12_timesGreat_30 ?_
        refine g_lload_2 E dX12_timesGreat_31 ?_
        refine g_lmul E dX12_timesGreat_32 ?_
        exact g_lret E hr (c64_w _) h hσ dX12_timesGreat_33
      · replace h := h.2 hc
        refine g_ldc2 (n := 1000000000000001) E wc_RX12_327 dX12_timesGreat_24 ?_
        refine g_goto E djX12_timesGreat_27 ?_
        exact g_lret E hr cL_1000000000000001 h hσ dX12_timesGreat_33
    · replace h := h.2 hc
      refine g_lconst (n := 0) E (by decide) dX12_timesGreat_12 ?_
      exact g_lret E hr cL_0 h hσ dX12_timesGreat_13
end
theorem m_X12_timesGreat {Z : (Nat → Nat) × (Nat → Nat)} {l : Launch} {D : va_G} {cA : Nat → ClassId} {ad : Nat → Nat} {x0 x2 : Int} {σ : St} {Q : Int → St → Prop} (hA : AdOk NR ad) (c0 : C64 x0) (c2 : C64 x2) (hσ : CanS shR NR σ) (h : wp_X12_timesGreat x0 x2 σ Q) : KtL Z l D cA ad shR NR yX12_timesGreat cX12_timesGreat 4 (some .long) 1 [vL x0, vL x2] σ Q :=
  KtL.of my_X12_timesGreat hA [some (vL x0), none, some (vL x2), none] (Nat.le_of_ble_eq_true rfl) rfl (fun p e s m args below meth c A0 E hr => t_X12_timesGreat E hr x0 x2 σ c0 c2 hσ h)
theorem dX12_waysItem_0 : Dc cX12_waysItem 0 (.iload_n 1) 1 1 := ⟨by decide +kernel, rfl⟩
theorem dX12_waysItem_1 : Dc cX12_waysItem 1 (.iload_n 2) 1 2 := ⟨by decide +kernel, rfl⟩
theorem dX12_waysItem_2 : Dc cX12_waysItem 2 (.iload_n 3) 1 3 := ⟨by decide +kernel, rfl⟩
theorem dX12_waysItem_3 : Dc cX12_waysItem 3 (.invokestatic 282) 3 6 := ⟨by decide +kernel, rfl⟩
theorem dX12_waysItem_6 : Dc cX12_waysItem 6 (.istore 4) 2 8 := ⟨by decide +kernel, rfl⟩
theorem dX12_waysItem_8 : Dc cX12_waysItem 8 (.aload_n 0) 1 9 := ⟨by decide +kernel, rfl⟩
theorem dX12_waysItem_9 : Dc cX12_waysItem 9 (.getfield 67) 3 12 := ⟨by decide +kernel, rfl⟩
theorem dX12_waysItem_12 : Dc cX12_waysItem 12 (.iload 4) 2 14 := ⟨by decide +kernel, rfl⟩
theorem dX12_waysItem_14 : Dc cX12_waysItem 14 (.baload) 1 15 := ⟨by decide +kernel, rfl⟩
theorem djX12_waysItem_15 : Dj cX12_waysItem 15 (.ifCond .eq 11) 3 18 11 26 := ⟨by decide +kernel, rfl, by decide⟩
theorem dX12_waysItem_18 : Dc cX12_waysItem 18 (.aload_n 0) 1 19 := ⟨by decide +kernel, rfl⟩
theorem dX12_waysItem_19 : Dc cX12_waysItem 19 (.getfield 70) 3 22 := ⟨by decide +kernel, rfl⟩
theorem dX12_waysItem_22 : Dc cX12_waysItem 22 (.iload 4) 2 24 := ⟨by decide +kernel, rfl⟩
theorem dX12_waysItem_24 : Dc cX12_waysItem 24 (.laload) 1 25 := ⟨by decide +kernel, rfl⟩
theorem dX12_waysItem_25 : Dc cX12_waysItem 25 (.lreturn) 1 26 := ⟨by decide +kernel, rfl⟩
theorem dX12_waysItem_26 : Dc cX12_waysItem 26 (.lconst 0) 1 27 := ⟨by decide +kernel, rfl⟩
theorem dX12_waysItem_27 : Dc cX12_waysItem 27 (.lstore 5) 2 29 := ⟨by decide +kernel, rfl⟩
theorem dX12_waysItem_29 : Dc cX12_waysItem 29 (.iconst 0) 1 30 := ⟨by decide +kernel, rfl⟩
theorem dX12_waysItem_30 : Dc cX12_waysItem 30 (.istore 7) 2 32 := ⟨by decide +kernel, rfl⟩
theorem dX12_waysItem_32 : Dc cX12_waysItem 32 (.iload 7) 2 34 := ⟨by decide +kernel, rfl⟩
theorem dX12_waysItem_34 : Dc cX12_waysItem 34 (.aload_n 0) 1 35 := ⟨by decide +kernel, rfl⟩
theorem dX12_waysItem_35 : Dc cX12_waysItem 35 (.getfield 252) 3 38 := ⟨by decide +kernel, rfl⟩
theorem djX12_waysItem_38 : Dj cX12_waysItem 38 (.if_icmp .ge 163) 3 41 163 201 := ⟨by decide +kernel, rfl, by decide⟩
theorem dX12_waysItem_41 : Dc cX12_waysItem 41 (.aload_n 0) 1 42 := ⟨by decide +kernel, rfl⟩
theorem dX12_waysItem_42 : Dc cX12_waysItem 42 (.iload 7) 2 44 := ⟨by decide +kernel, rfl⟩
theorem dX12_waysItem_44 : Dc cX12_waysItem 44 (.invokevirtual 298) 3 47 := ⟨by decide +kernel, rfl⟩
theorem djX12_waysItem_47 : Dj cX12_waysItem 47 (.ifCond .eq 148) 3 50 148 195 := ⟨by decide +kernel, rfl, by decide⟩
theorem dX12_waysItem_50 : Dc cX12_waysItem 50 (.aload_n 0) 1 51 := ⟨by decide +kernel, rfl⟩
theorem dX12_waysItem_51 : Dc cX12_waysItem 51 (.getfield 13) 3 54 := ⟨by decide +kernel, rfl⟩
theorem dX12_waysItem_54 : Dc cX12_waysItem 54 (.iload 7) 2 56 := ⟨by decide +kernel, rfl⟩
theorem dX12_waysItem_56 : Dc cX12_waysItem 56 (.iaload) 1 57 := ⟨by decide +kernel, rfl⟩
theorem dX12_waysItem_57 : Dc cX12_waysItem 57 (.iload_n 1) 1 58 := ⟨by decide +kernel, rfl⟩
theorem djX12_waysItem_58 : Dj cX12_waysItem 58 (.if_icmp .eq 6) 3 61 6 64 := ⟨by decide +kernel, rfl, by decide⟩
theorem djX12_waysItem_61 : Dj cX12_waysItem 61 (.goto 134) 3 64 134 195 := ⟨by decide +kernel, rfl, by decide⟩
theorem dX12_waysItem_64 : Dc cX12_waysItem 64 (.aload_n 0) 1 65 := ⟨by decide +kernel, rfl⟩
theorem dX12_waysItem_65 : Dc cX12_waysItem 65 (.getfield 20) 3 68 := ⟨by decide +kernel, rfl⟩
theorem dX12_waysItem_68 : Dc cX12_waysItem 68 (.iload 7) 2 70 := ⟨by decide +kernel, rfl⟩
theorem dX12_waysItem_70 : Dc cX12_waysItem 70 (.iaload) 1 71 := ⟨by decide +kernel, rfl⟩
theorem dX12_waysItem_71 : Dc cX12_waysItem 71 (.iconst (-1)) 1 72 := ⟨by decide +kernel, rfl⟩
theorem djX12_waysItem_72 : Dj cX12_waysItem 72 (.if_icmp .ne 23) 3 75 23 95 := ⟨by decide +kernel, rfl, by decide⟩
theorem dX12_waysItem_75 : Dc cX12_waysItem 75 (.lload 5) 2 77 := ⟨by decide +kernel, rfl⟩
theorem dX12_waysItem_77 : Dc cX12_waysItem 77 (.aload_n 0) 1 78 := ⟨by decide +kernel, rfl⟩
theorem dX12_waysItem_78 : Dc cX12_waysItem 78 (.aload_n 0) 1 79 := ⟨by decide +kernel, rfl⟩
theorem dX12_waysItem_79 : Dc cX12_waysItem 79 (.getfield 17) 3 82 := ⟨by decide +kernel, rfl⟩
theorem dX12_waysItem_82 : Dc cX12_waysItem 82 (.iload 7) 2 84 := ⟨by decide +kernel, rfl⟩
theorem dX12_waysItem_84 : Dc cX12_waysItem 84 (.iaload) 1 85 := ⟨by decide +kernel, rfl⟩
theorem dX12_waysItem_85 : Dc cX12_waysItem 85 (.iload_n 2) 1 86 := ⟨by decide +kernel, rfl⟩
theorem dX12_waysItem_86 : Dc cX12_waysItem 86 (.iload_n 3) 1 87 := ⟨by decide +kernel, rfl⟩
theorem dX12_waysItem_87 : Dc cX12_waysItem 87 (.invokevirtual 353) 3 90 := ⟨by decide +kernel, rfl⟩
theorem dX12_waysItem_90 : Dc cX12_waysItem 90 (.invokestatic 356) 3 93 := ⟨by decide +kernel, rfl⟩
theorem dX12_waysItem_93 : Dc cX12_waysItem 93 (.lstore 5) 2 95 := ⟨by decide +kernel, rfl⟩
theorem dX12_waysItem_95 : Dc cX12_waysItem 95 (.iload_n 2) 1 96 := ⟨by decide +kernel, rfl⟩
theorem dX12_waysItem_96 : Dc cX12_waysItem 96 (.iconst 1) 1 97 := ⟨by decide +kernel, rfl⟩
theorem dX12_waysItem_97 : Dc cX12_waysItem 97 (.iadd) 1 98 := ⟨by decide +kernel, rfl⟩
theorem dX12_waysItem_98 : Dc cX12_waysItem 98 (.istore 8) 2 100 := ⟨by decide +kernel, rfl⟩
theorem dX12_waysItem_100 : Dc cX12_waysItem 100 (.iload 8) 2 102 := ⟨by decide +kernel, rfl⟩
theorem dX12_waysItem_102 : Dc cX12_waysItem 102 (.iload_n 3) 1 103 := ⟨by decide +kernel, rfl⟩
theorem djX12_waysItem_103 : Dj cX12_waysItem 103 (.if_icmp .ge 92) 3 106 92 195 := ⟨by decide +kernel, rfl, by decide⟩
theorem dX12_waysItem_106 : Dc cX12_waysItem 106 (.aload_n 0) 1 107 := ⟨by decide +kernel, rfl⟩
theorem dX12_waysItem_107 : Dc cX12_waysItem 107 (.getfield 20) 3 110 := ⟨by decide +kernel, rfl⟩
theorem dX12_waysItem_110 : Dc cX12_waysItem 110 (.iload 7) 2 112 := ⟨by decide +kernel, rfl⟩
theorem dX12_waysItem_112 : Dc cX12_waysItem 112 (.iaload) 1 113 := ⟨by decide +kernel, rfl⟩
theorem dX12_waysItem_113 : Dc cX12_waysItem 113 (.iconst (-1)) 1 114 := ⟨by decide +kernel, rfl⟩
theorem djX12_waysItem_114 : Dj cX12_waysItem 114 (.if_icmp .eq 81) 3 117 81 195 := ⟨by decide +kernel, rfl, by decide⟩
theorem dX12_waysItem_117 : Dc cX12_waysItem 117 (.aload_n 0) 1 118 := ⟨by decide +kernel, rfl⟩
theorem dX12_waysItem_118 : Dc cX12_waysItem 118 (.aload_n 0) 1 119 := ⟨by decide +kernel, rfl⟩
theorem dX12_waysItem_119 : Dc cX12_waysItem 119 (.getfield 17) 3 122 := ⟨by decide +kernel, rfl⟩
theorem dX12_waysItem_122 : Dc cX12_waysItem 122 (.iload 7) 2 124 := ⟨by decide +kernel, rfl⟩
theorem dX12_waysItem_124 : Dc cX12_waysItem 124 (.iaload) 1 125 := ⟨by decide +kernel, rfl⟩
theorem dX12_waysItem_125 : Dc cX12_waysItem 125 (.iload_n 2) 1 126 := ⟨by decide +kernel, rfl⟩
theorem dX12_waysItem_126 : Dc cX12_waysItem 126 (.iload 8) 2 128 := ⟨by decide +kernel, rfl⟩
theorem dX12_waysItem_128 : Dc cX12_waysItem 128 (.invokevirtual 287) 3 131 := ⟨by decide +kernel, rfl⟩
theorem djX12_waysItem_131 : Dj cX12_waysItem 131 (.ifCond .eq 58) 3 134 58 189 := ⟨by decide +kernel, rfl, by decide⟩
theorem dX12_waysItem_134 : Dc cX12_waysItem 134 (.aload_n 0) 1 135 := ⟨by decide +kernel, rfl⟩
theorem dX12_waysItem_135 : Dc cX12_waysItem 135 (.aload_n 0) 1 136 := ⟨by decide +kernel, rfl⟩
theorem dX12_waysItem_136 : Dc cX12_waysItem 136 (.getfield 20) 3 139 := ⟨by decide +kernel, rfl⟩
theorem dX12_waysItem_139 : Dc cX12_waysItem 139 (.iload 7) 2 141 := ⟨by decide +kernel, rfl⟩
theorem dX12_waysItem_141 : Dc cX12_waysItem 141 (.iaload) 1 142 := ⟨by decide +kernel, rfl⟩
theorem dX12_waysItem_142 : Dc cX12_waysItem 142 (.iload 8) 2 144 := ⟨by decide +kernel, rfl⟩
theorem dX12_waysItem_144 : Dc cX12_waysItem 144 (.iload_n 3) 1 145 := ⟨by decide +kernel, rfl⟩
theorem dX12_waysItem_145 : Dc cX12_waysItem 145 (.invokevirtual 287) 3 148 := ⟨by decide +kernel, rfl⟩
theorem djX12_waysItem_148 : Dj cX12_waysItem 148 (.ifCond .eq 41) 3 151 41 189 := ⟨by decide +kernel, rfl, by decide⟩
theorem dX12_waysItem_151 : Dc cX12_waysItem 151 (.lload 5) 2 153 := ⟨by decide +kernel, rfl⟩
theorem dX12_waysItem_153 : Dc cX12_waysItem 153 (.aload_n 0) 1 154 := ⟨by decide +kernel, rfl⟩
theorem dX12_waysItem_154 : Dc cX12_waysItem 154 (.aload_n 0) 1 155 := ⟨by decide +kernel, rfl⟩
theorem dX12_waysItem_155 : Dc cX12_waysItem 155 (.getfield 17) 3 158 := ⟨by decide +kernel, rfl⟩
theorem dX12_waysItem_158 : Dc cX12_waysItem 158 (.iload 7) 2 160 := ⟨by decide +kernel, rfl⟩
theorem dX12_waysItem_160 : Dc cX12_waysItem 160 (.iaload) 1 161 := ⟨by decide +kernel, rfl⟩
theorem dX12_waysItem_161 : Dc cX12_waysItem 161 (.iload_n 2) 1 162 := ⟨by decide +kernel, rfl⟩
theorem dX12_waysItem_162 : Dc cX12_waysItem 162 (.iload 8) 2 164 := ⟨by decide +kernel, rfl⟩
theorem dX12_waysItem_164 : Dc cX12_waysItem 164 (.invokevirtual 353) 3 167 := ⟨by decide +kernel, rfl⟩
theorem dX12_waysItem_167 : Dc cX12_waysItem 167 (.aload_n 0) 1 168 := ⟨by decide +kernel, rfl⟩
theorem dX12_waysItem_168 : Dc cX12_waysItem 168 (.aload_n 0) 1 169 := ⟨by decide +kernel, rfl⟩
theorem dX12_waysItem_169 : Dc cX12_waysItem 169 (.getfield 20) 3 172 := ⟨by decide +kernel, rfl⟩
theorem dX12_waysItem_172 : Dc cX12_waysItem 172 (.iload 7) 2 174 := ⟨by decide +kernel, rfl⟩
theorem dX12_waysItem_174 : Dc cX12_waysItem 174 (.iaload) 1 175 := ⟨by decide +kernel, rfl⟩
theorem dX12_waysItem_175 : Dc cX12_waysItem 175 (.iload 8) 2 177 := ⟨by decide +kernel, rfl⟩
theorem dX12_waysItem_177 : Dc cX12_waysItem 177 (.iload_n 3) 1 178 := ⟨by decide +kernel, rfl⟩
theorem dX12_waysItem_178 : Dc cX12_waysItem 178 (.invokevirtual 353) 3 181 := ⟨by decide +kernel, rfl⟩
theorem dX12_waysItem_181 : Dc cX12_waysItem 181 (.invokestatic 359) 3 184 := ⟨by decide +kernel, rfl⟩
theorem dX12_waysItem_184 : Dc cX12_waysItem 184 (.invokestatic 356) 3 187 := ⟨by decide +kernel, rfl⟩
theorem dX12_waysItem_187 : Dc cX12_waysItem 187 (.lstore 5) 2 189 := ⟨by decide +kernel, rfl⟩
theorem dX12_waysItem_189 : Dc cX12_waysItem 189 (.iinc 8 1) 3 192 := ⟨by decide +kernel, rfl⟩
theorem djX12_waysItem_192 : Dj cX12_waysItem 192 (.goto (-92)) 3 195 (-92) 100 := ⟨by decide +kernel, rfl, by decide⟩
theorem dX12_waysItem_195 : Dc cX12_waysItem 195 (.iinc 7 1) 3 198 := ⟨by decide +kernel, rfl⟩
theorem djX12_waysItem_198 : Dj cX12_waysItem 198 (.goto (-166)) 3 201 (-166) 32 := ⟨by decide +kernel, rfl, by decide⟩
theorem dX12_waysItem_201 : Dc cX12_waysItem 201 (.aload_n 0) 1 202 := ⟨by decide +kernel, rfl⟩
theorem dX12_waysItem_202 : Dc cX12_waysItem 202 (.getfield 67) 3 205 := ⟨by decide +kernel, rfl⟩
theorem dX12_waysItem_205 : Dc cX12_waysItem 205 (.iload 4) 2 207 := ⟨by decide +kernel, rfl⟩
theorem dX12_waysItem_207 : Dc cX12_waysItem 207 (.iconst 1) 1 208 := ⟨by decide +kernel, rfl⟩
theorem dX12_waysItem_208 : Dc cX12_waysItem 208 (.bastore) 1 209 := ⟨by decide +kernel, rfl⟩
theorem dX12_waysItem_209 : Dc cX12_waysItem 209 (.aload_n 0) 1 210 := ⟨by decide +kernel, rfl⟩
theorem dX12_waysItem_210 : Dc cX12_waysItem 210 (.getfield 70) 3 213 := ⟨by decide +kernel, rfl⟩
theorem dX12_waysItem_213 : Dc cX12_waysItem 213 (.iload 4) 2 215 := ⟨by decide +kernel, rfl⟩
theorem dX12_waysItem_215 : Dc cX12_waysItem 215 (.lload 5) 2 217 := ⟨by decide +kernel, rfl⟩
theorem dX12_waysItem_217 : Dc cX12_waysItem 217 (.lastore) 1 218 := ⟨by decide +kernel, rfl⟩
theorem dX12_waysItem_218 : Dc cX12_waysItem 218 (.lload 5) 2 220 := ⟨by decide +kernel, rfl⟩
theorem dX12_waysItem_220 : Dc cX12_waysItem 220 (.lreturn) 1 221 := ⟨by decide +kernel, rfl⟩
section
variable {p : Program} {l : Launch} {e : Env} {s : State} {m : MethodId} {args : Array Value} {below : List Frame} {meth : Method} {c : Code} {A0 : Nat → Prop} {D : va_G} {cA : Nat → ClassId} {ad : Nat → Nat} {Z : (Nat → Nat) × (Nat → Nat)} {Q : Int → St → Prop}
set_option maxHeartbeats 4000000 in
set_option maxRecDepth 100000 in
theorem t_X12_waysItem_b189 (E : Ev p s m args meth c cX12_waysItem 9 RX12 A0 D cA ad NR Z) (hr : meth.sig.returnType = (some .long)) {M : Int → Int → Int → St → (Int → St → Prop) → Prop} {d : Nat} (hM : ∀ (x1 : Int) (x2 : Int) (x3 : Int) (σ : St) (Q : Int → St → Prop), C32 x1 → C32 x2 → C32 x3 → CanS shR NR σ → M x1 x2 x3 σ Q → KtL Z l D cA ad shR NR yX12_waysItem cX12_waysItem 9 (some .long) (3 + 2 * d) [.ref (ad 0), vI x1, vI x2, vI x3] σ Q) {K32 : Int → Int → Int → Int → Int → Int → St → Prop} (hK32 : ∀ (x1 : Int) (x2 : Int) (x3 : Int) (x4 : Int) (x5 : Int) (x7 : Int) (σ : St), C32 x1 → C32 x2 → C32 x3 → C32 x4 → C64 x5 → C32 x7 → CanS shR NR σ → K32 x1 x2 x3 x4 x5 x7 σ → G p l e (rmL (3 + 2 * (d + 1)) 0 0) s m args below meth c 9 A0 D cA ad shR NR 0 0 (MQ below (QLc D cA ad shR NR Q A0) args s 0 0 A0) σ 32 [some (.ref (ad 0)), some (vI x1), some (vI x2), some (vI x3), some (vI x4), some (vL x5), none, some (vI x7), none] []) {K100 : Int → Int → Int → Int → Int → Int → Int → St → Prop} (hK100 : ∀ (x1 : Int) (x2 : Int) (x3 : Int) (x4 : Int) (x5 : Int) (x7 : Int) (x8 : Int) (σ : St), C32 x1 → C32 x2 → C32 x3 → C32 x4 → C64 x5 → C32 x7 → C32 x8 → CanS shR NR σ → K100 x1 x2 x3 x4 x5 x7 x8 σ → G p l e (rmL (3 + 2 * (d + 1)) 0 0) s m args below meth c 9 A0 D cA ad shR NR 0 0 (MQ below (QLc D cA ad shR NR Q A0) args s 0 0 A0) σ 100 [some (.ref (ad 0)), some (vI x1), some (vI x2), some (vI x3), some (vI x4), some (vL x5), none, some (vI x7), some (vI x8)] []) (x1 : Int) (x2 : Int) (x3 : Int) (x4 : Int) (x5 : Int) (x7 : Int) (x8 : Int) (σ : St) (c1 : C32 x1) (c2 : C32 x2) (c3 : C32 x3) (c4 : C32 x4) (c5 : C64 x5) (c7 : C32 x7) (c8 : C32 x8) (hσ : CanS shR NR σ) (h : wp_X12_waysItem_b189 M Q K32 K100 x1 x2 x3 x4 x5 x7 x8 σ) : G p l e (rmL (3 + 2 * (d + 1)) 0 0) s m args below meth c 9 A0 D cA ad shR NR 0 0 (MQ below (QLc D cA ad shR NR Q A0) args s 0 0 A0) σ 189 [some (.ref (ad 0)), some (vI x1), some (vI x2), some (vI x3), some (vI x4), some (vL x5), none, some (vI x7), some (vI x8)] [] := by
  unfold wp_X12_waysItem_b189 at h
  refine g_iinc_8 E rfl (by decide) dX12_waysItem_189 (fun v25 ev25 => ?_)
  replace h := h v25 ev25
  have cv25 : C32 v25 := by rw [ev25]; exact c32_w _
  refine g_goto E djX12_waysItem_192 ?_
  exact (hK100 x1 x2 x3 x4 x5 x7 v25 σ c1 c2 c3 c4 c5 c7 cv25 hσ h).weak (w_k (w_k (w_k (w_k (w_k (w_k (w_d (w_k (w_k w_n)))))))))
set_option maxHeartbeats 4000000 in
set_option maxRecDepth 100000 in
theorem t_X12_waysItem_b195 (E : Ev p s m args meth c cX12_waysItem 9 RX12 A0 D cA ad NR Z) (hr : meth.sig.returnType = (some .long)) {M : Int → Int → Int → St → (Int → St → Prop) → Prop} {d : Nat} (hM : ∀ (x1 : Int) (x2 : Int) (x3 : Int) (σ : St) (Q : Int → St → Prop), C32 x1 → C32 x2 → C32 x3 → CanS shR NR σ → M x1 x2 x3 σ Q → KtL Z l D cA ad shR NR yX12_waysItem cX12_waysItem 9 (some .long) (3 + 2 * d) [.ref (ad 0), vI x1, vI x2, vI x3] σ Q) {K32 : Int → Int → Int → Int → Int → Int → St → Prop} (hK32 : ∀ (x1 : Int) (x2 : Int) (x3 : Int) (x4 : Int) (x5 : Int) (x7 : Int) (σ : St), C32 x1 → C32 x2 → C32 x3 → C32 x4 → C64 x5 → C32 x7 → CanS shR NR σ → K32 x1 x2 x3 x4 x5 x7 σ → G p l e (rmL (3 + 2 * (d + 1)) 0 0) s m args below meth c 9 A0 D cA ad shR NR 0 0 (MQ below (QLc D cA ad shR NR Q A0) args s 0 0 A0) σ 32 [some (.ref (ad 0)), some (vI x1), some (vI x2), some (vI x3), some (vI x4), some (vL x5), none, some (vI x7), none] []) (x1 : Int) (x2 : Int) (x3 : Int) (x4 : Int) (x5 : Int) (x7 : Int) (σ : St) (c1 : C32 x1) (c2 : C32 x2) (c3 : C32 x3) (c4 : C32 x4) (c5 : C64 x5) (c7 : C32 x7) (hσ : CanS shR NR σ) (h : wp_X12_waysItem_b195 M Q K32 x1 x2 x3 x4 x5 x7 σ) : G p l e (rmL (3 + 2 * (d + 1)) 0 0) s m args below meth c 9 A0 D cA ad shR NR 0 0 (MQ below (QLc D cA ad shR NR Q A0) args s 0 0 A0) σ 195 [some (.ref (ad 0)), some (vI x1), some (vI x2), some (vI x3), some (vI x4), some (vL x5), none, some (vI x7), none] [] := by
  unfold wp_X12_waysItem_b195 at h
  refine g_iinc_7 E rfl (by decide) dX12_waysItem_195 (fun v11 ev11 => ?_)
  replace h := h v11 ev11
  have cv11 : C32 v11 := by rw [ev11]; exact c32_w _
  refine g_goto E djX12_waysItem_198 ?_
  exact (hK32 x1 x2 x3 x4 x5 v11 σ c1 c2 c3 c4 c5 cv11 hσ h).weak (w_k (w_k (w_k (w_k (w_k (w_k (w_d (w_k (w_d w_n)))))))))
set_option maxHeartbeats 4000000 in
set_option maxRecDepth 100000 in
theorem t_X12_waysItem_l100 (E : Ev p s m args meth c cX12_waysItem 9 RX12 A0 D cA ad NR Z) (hr : meth.sig.returnType = (some .long)) {M : Int → Int → Int → St → (Int → St → Prop) → Prop} {d : Nat} (hM : ∀ (x1 : Int) (x2 : Int) (x3 : Int) (σ : St) (Q : Int → St → Prop), C32 x1 → C32 x2 → C32 x3 → CanS shR NR σ → M x1 x2 x3 σ Q → KtL Z l D cA ad shR NR yX12_waysItem cX12_waysItem 9 (some .long) (3 + 2 * d) [.ref (ad 0), vI x1, vI x2, vI x3] σ Q) {K32 : Int → Int → Int → Int → Int → Int → St → Prop} (hK32 : ∀ (x1 : Int) (x2 : Int) (x3 : Int) (x4 : Int) (x5 : Int) (x7 : Int) (σ : St), C32 x1 → C32 x2 → C32 x3 → C32 x4 → C64 x5 → C32 x7 → CanS shR NR σ → K32 x1 x2 x3 x4 x5 x7 σ → G p l e (rmL (3 + 2 * (d + 1)) 0 0) s m args below meth c 9 A0 D cA ad shR NR 0 0 (MQ below (QLc D cA ad shR NR Q A0) args s 0 0 A0) σ 32 [some (.ref (ad 0)), some (vI x1), some (vI x2), some (vI x3), some (vI x4), some (vL x5), none, some (vI x7), none] []) : ∀ (n : Nat) (x1 : Int) (x2 : Int) (x3 : Int) (x4 : Int) (x5 : Int) (x7 : Int) (x8 : Int) (σ : St), C32 x1 → C32 x2 → C32 x3 → C32 x4 → C64 x5 → C32 x7 → C32 x8 → CanS shR NR σ → wp_X12_waysItem_l100 M Q K32 n x1 x2 x3 x4 x5 x7 x8 σ → G p l e (rmL (3 + 2 * (d + 1)) 0 0) s m args below meth c 9 A0 D cA ad shR NR 0 0 (MQ below (QLc D cA ad shR NR Q A0) args s 0 0 A0) σ 100 [some (.ref (ad 0)), some (vI x1), some (vI x2), some (vI x3), some (vI x4), some (vL x5), none, some (vI x7), some (vI x8)] [] := by
  intro n
  induction n with
  | zero => intro _ _ _ _ _ _ _ _ _ _ _ _ _ _ _ _ h; exact h.elim
  | succ n ih =>
    intro x1 x2 x3 x4 x5 x7 x8 σ c1 c2 c3 c4 c5 c7 c8 hσ h
    unfold wp_X12_waysItem_l100 at h
    refine g_iload_8 E dX12_waysItem_100 ?_
    refine g_iload_3 E dX12_waysItem_102 ?_
    refine g_icmp_ge E c8 c3 djX12_waysItem_103 (fun hc => ?_) (fun hc => ?_)
    · replace h := h.1 hc
      exact (t_X12_waysItem_b195 E hr hM hK32 x1 x2 x3 x4 x5 x7 σ c1 c2 c3 c4 c5 c7 hσ h).weak (w_k (w_k (w_k (w_k (w_k (w_k (w_d (w_k (w_d w_n)))))))))
    · replace h := h.2 hc
      refine g_aload_0 E dX12_waysItem_106 ?_
      refine g_getR E fl_RX12_20 kR_0 sR_0 rfl dX12_waysItem_107 ?_
      refine g_iload_7 E dX12_waysItem_110 ?_
      refine g_iald E kR_3 sR_3 (by decide) h.1 dX12_waysItem_112 ?_
      replace h := h.2
      refine g_iconst E dX12_waysItem_113 ?_
      refine g_icmp_eq E (aR_3 hσ _) cl_m1 djX12_waysItem_114 (fun hc => ?_) (fun hc => ?_)
      · replace h := h.1 hc
        exact (t_X12_waysItem_b195 E hr hM hK32 x1 x2 x3 x4 x5 x7 σ c1 c2 c3 c4 c5 c7 hσ h).weak (w_k (w_k (w_k (w_k (w_k (w_k (w_d (w_k (w_d w_n)))))))))
      · replace h := h.2 hc
        refine g_aload_0 E dX12_waysItem_117 ?_
        refine g_aload_0 E dX12_waysItem_118 ?_
        refine g_getR E fl_RX12_17 kR_0 sR_0 rfl dX12_waysItem_119 ?_
        refine g_iload_7 E dX12_waysItem_122 ?_
        refine g_iald E kR_2 sR_2 (by decide) h.1 dX12_waysItem_124 ?_
        replace h := h.2
        refine g_iload_2 E dX12_waysItem_125 ?_
        refine g_iload_8 E dX12_waysItem_126 ?_
        refine g_callvI E my_X12_fits mi_X12_fits msel_X12_fits ml_RX12_287 (rm_ok (by omega) (by decide)) ⟨Nat.zero_le _, Nat.zero_le _⟩ kR_0 sR_0 rfl (m_X12_fits E.2.2.1 (aR_2 hσ _) c2 c8 hσ h) rfl rfl (Nat.le_of_ble_eq_true rfl) dX12_waysItem_128 (fun r13 σ14 cr13 hσ14 h => ?_)
        refine g_if_eq E cr13 djX12_waysItem_131 (fun hc => ?_) (fun hc => ?_)
        · replace h := h.1 hc
          exact (t_X12_waysItem_b189 E hr hM hK32 ih x1 x2 x3 x4 x5 x7 x8 σ14 c1 c2 c3 c4 c5 c7 c8 hσ14 h).weak (w_k (w_k (w_k (w_k (w_k (w_k (w_d (w_k (w_k w_n)))))))))
        · replace h := h.2 hc
          refine g_aload_0 E dX12_waysItem_134 ?_
          refine g_aload_0 E dX12_waysItem_135 ?_
          refine g_getR E fl_RX12_20 kR_0 sR_0 rfl dX12_waysItem_136 ?_
          refine g_iload_7 E dX12_waysItem_139 ?_
          refine g_iald E kR_3 sR_3 (by decide) h.1 dX12_waysItem_141 ?_
          replace h := h.2
          refine g_iload_8 E dX12_waysItem_142 ?_
          refine g_iload_3 E dX12_waysItem_144 ?_
          refine g_callvI E my_X12_fits mi_X12_fits msel_X12_fits ml_RX12_287 (rm_ok (by omega) (by decide)) ⟨Nat.zero_le _, Nat.zero_le _⟩ kR_0 sR_0 rfl (m_X12_fits E.2.2.1 (aR_3 hσ14 _) c8 c3 hσ14 h) rfl rfl (Nat.le_of_ble_eq_true rfl) dX12_waysItem_145 (fun r15 σ16 cr15 hσ16 h => ?_)
          refine g_if_eq E cr15 djX12_waysItem_148 (fun hc => ?_) (fun hc => ?_)
          · replace h := h.1 hc
            exact (t_X12_waysItem_b189 E hr hM hK32 ih x1 x2 x3 x4 x5 x7 x8 σ16 c1 c2 c3 c4 c5 c7 c8 hσ16 h).weak (w_k (w_k (w_k (w_k (w_k (w_k (w_d (w_k (w_k w_n)))))))))
          · replace h := h.2 hc
            refine g_lload_5 E dX12_waysItem_151 ?_
            refine g_aload_0 E dX12_waysItem_153 ?_
            refine g_aload_0 E dX12_waysItem_154 ?_
            refine g_getR E fl_RX12_17 kR_0 sR_0 rfl dX12_waysItem_155 ?_
            refine g_iload_7 E dX12_waysItem_158 ?_
            refine g_iald E kR_2 sR_2 (by decide) h.1 dX12_waysItem_160 ?_
            replace h := h.2
            refine g_iload_2 E dX12_waysItem_161 ?_
            refine g_iload_8 E dX12_waysItem_162 ?_
            refine g_callvL E my_X12_waysPart mi_X12_waysPart msel_X12_waysPart ml_RX12_353 (rm_ok (by omega) (by decide)) ⟨Nat.zero_le _, Nat.zero_le _⟩ kR_0 sR_0 rfl (m_X12_waysPart hM E.2.2.1 (aR_2 hσ16 _) c2 c8 hσ16 h) rfl rfl (Nat.le_of_ble_eq_true rfl) dX12_waysItem_164 (fun r17 σ18 cr17 hσ18 h => ?_)
            refine g_aload_0 E dX12_waysItem_167 ?_
            refine g_aload_0 E dX12_waysItem_168 ?_
            refine g_getR E fl_RX12_20 kR_0 sR_0 rfl dX12_waysItem_169 ?_
            refine g_iload_7 E dX12_waysItem_172 ?_
            refine g_iald E kR_3 sR_3 (by decide) h.1 dX12_waysItem_174 ?_
            replace h := h.2
            refine g_iload_8 E dX12_waysItem_175 ?_
            refine g_iload_3 E dX12_waysItem_177 ?_
            refine g_callvL E my_X12_waysPart mi_X12_waysPart msel_X12_waysPart ml_RX12_353 (rm_ok (by omega) (by decide)) ⟨Nat.zero_le _, Nat.zero_le _⟩ kR_0 sR_0 rfl (m_X12_waysPart hM E.2.2.1 (aR_3 hσ18 _) c8 c3 hσ18 h) rfl rfl (Nat.le_of_ble_eq_true rfl) dX12_waysItem_178 (fun r19 σ20 cr19 hσ20 h => ?_)
            refine g_callsL E my_X12_timesGreat ms_X12_timesGreat ml_RX12_359 (rm_ok (by omega) (by decide)) ⟨Nat.zero_le _, Nat.zero_le _⟩ (m_X12_timesGreat E.2.2.1 cr17 cr19 hσ20 h) rfl rfl (Nat.le_of_ble_eq_true rfl) dX12_waysItem_181 (fun r21 σ22 cr21 hσ22 h => ?_)
            refine g_callsL E my_X12_plusGreat ms_X12_plusGreat ml_RX12_356 (rm_ok (by omega) (by decide)) ⟨Nat.zero_le _, Nat.zero_le _⟩ (m_X12_plusGreat E.2.2.1 c5 cr21 hσ22 h) rfl rfl (Nat.le_of_ble_eq_true rfl) dX12_waysItem_184 (fun r23 σ24 cr23 hσ24 h => ?_)
            refine g_lstore_5 E rfl (by decide) dX12_waysItem_187 ?_
            exact (t_X12_waysItem_b189 E hr hM hK32 ih x1 x2 x3 x4 r23 x7 x8 σ24 c1 c2 c3 c4 cr23 c7 c8 hσ24 h).weak (w_k (w_k (w_k (w_k (w_k (w_k (w_d (w_k (w_k w_n)))))))))
set_option maxHeartbeats 4000000 in
set_option maxRecDepth 100000 in
theorem t_X12_waysItem_b95 (E : Ev p s m args meth c cX12_waysItem 9 RX12 A0 D cA ad NR Z) (hr : meth.sig.returnType = (some .long)) {M : Int → Int → Int → St → (Int → St → Prop) → Prop} {d : Nat} (hM : ∀ (x1 : Int) (x2 : Int) (x3 : Int) (σ : St) (Q : Int → St → Prop), C32 x1 → C32 x2 → C32 x3 → CanS shR NR σ → M x1 x2 x3 σ Q → KtL Z l D cA ad shR NR yX12_waysItem cX12_waysItem 9 (some .long) (3 + 2 * d) [.ref (ad 0), vI x1, vI x2, vI x3] σ Q) {K32 : Int → Int → Int → Int → Int → Int → St → Prop} (hK32 : ∀ (x1 : Int) (x2 : Int) (x3 : Int) (x4 : Int) (x5 : Int) (x7 : Int) (σ : St), C32 x1 → C32 x2 → C32 x3 → C32 x4 → C64 x5 → C32 x7 → CanS shR NR σ → K32 x1 x2 x3 x4 x5 x7 σ → G p l e (rmL (3 + 2 * (d + 1)) 0 0) s m args below meth c 9 A0 D cA ad shR NR 0 0 (MQ below (QLc D cA ad shR NR Q A0) args s 0 0 A0) σ 32 [some (.ref (ad 0)), some (vI x1), some (vI x2), some (vI x3), some (vI x4), some (vL x5), none, some (vI x7), none] []) (x1 : Int) (x2 : Int) (x3 : Int) (x4 : Int) (x5 : Int) (x7 : Int) (σ : St) (c1 : C32 x1) (c2 : C32 x2) (c3 : C32 x3) (c4 : C32 x4) (c5 : C64 x5) (c7 : C32 x7) (hσ : CanS shR NR σ) (h : wp_X12_waysItem_b95 M Q K32 x1 x2 x3 x4 x5 x7 σ) : G p l e (rmL (3 + 2 * (d + 1)) 0 0) s m args below meth c 9 A0 D cA ad shR NR 0 0 (MQ below (QLc D cA ad shR NR Q A0) args s 0 0 A0) σ 95 [some (.ref (ad 0)), some (vI x1), some (vI x2), some (vI x3), some (vI x4), some (vL x5), none, some (vI x7), none] [] := by
  unfold wp_X12_waysItem_b95 at h
  refine g_iload_2 E dX12_waysItem_95 ?_
  refine g_iconst E dX12_waysItem_96 ?_
  refine g_iadd E dX12_waysItem_97 ?_
  refine g_nmI (fun v12 ev12 => ?_)
  replace h := h v12 ev12
  have cv12 : C32 v12 := by rw [ev12]; exact (c32_w _)
  refine g_istore_8 E rfl (by decide) dX12_waysItem_98 ?_
  exact (t_X12_waysItem_l100 E hr hM hK32 bigN x1 x2 x3 x4 x5 x7 v12 σ c1 c2 c3 c4 c5 c7 cv12 hσ h).weak (w_k (w_k (w_k (w_k (w_k (w_k (w_d (w_k (w_k w_n)))))))))
set_option maxHeartbeats 4000000 in
set_option maxRecDepth 100000 in
theorem t_X12_waysItem_l32 (E : Ev p s m args meth c cX12_waysItem 9 RX12 A0 D cA ad NR Z) (hr : meth.sig.returnType = (some .long)) {M : Int → Int → Int → St → (Int → St → Prop) → Prop} {d : Nat} (hM : ∀ (x1 : Int) (x2 : Int) (x3 : Int) (σ : St) (Q : Int → St → Prop), C32 x1 → C32 x2 → C32 x3 → CanS shR NR σ → M x1 x2 x3 σ Q → KtL Z l D cA ad shR NR yX12_waysItem cX12_waysItem 9 (some .long) (3 + 2 * d) [.ref (ad 0), vI x1, vI x2, vI x3] σ Q) : ∀ (n : Nat) (x1 : Int) (x2 : Int) (x3 : Int) (x4 : Int) (x5 : Int) (x7 : Int) (σ : St), C32 x1 → C32 x2 → C32 x3 → C32 x4 → C64 x5 → C32 x7 → CanS shR NR σ → wp_X12_waysItem_l32 M Q n x1 x2 x3 x4 x5 x7 σ → G p l e (rmL (3 + 2 * (d + 1)) 0 0) s m args below meth c 9 A0 D cA ad shR NR 0 0 (MQ below (QLc D cA ad shR NR Q A0) args s 0 0 A0) σ 32 [some (.ref (ad 0)), some (vI x1), some (vI x2), some (vI x3), some (vI x4), some (vL x5), none, some (vI x7), none] [] := by
  intro n
  induction n with
  | zero => intro _ _ _ _ _ _ _ _ _ _ _ _ _ _ h; exact h.elim
  | succ n ih =>
    intro x1 x2 x3 x4 x5 x7 σ c1 c2 c3 c4 c5 c7 hσ h
    unfold wp_X12_waysItem_l32 at h
    refine g_iload_7 E dX12_waysItem_32 ?_
    refine g_aload_0 E dX12_waysItem_34 ?_
    refine g_getI E fl_RX12_252 kR_0 sR_0 rfl dX12_waysItem_35 ?_
    refine g_icmp_ge E c7 (fR_0_1 hσ) djX12_waysItem_38 (fun hc => ?_) (fun hc => ?_)
    · replace h := h.1 hc
      refine g_aload_0 E dX12_waysItem_201 ?_
      refine g_getR E fl_RX12_67 kR_0 sR_0 rfl dX12_waysItem_202 ?_
      refine g_iload_4 E dX12_waysItem_205 ?_
      refine g_iconst E dX12_waysItem_207 ?_
      refine g_zast E kR_17 sR_17 (by decide) h.1 dX12_waysItem_208 (g_nmS (fun σ3 eσ3 => ?_))
      replace h := h.2 σ3 eσ3
      have hσ3 : CanS shR NR σ3 := by rw [eσ3]; exact wR_17 hσ (c32_t _)
      refine g_aload_0 E dX12_waysItem_209 ?_
      refine g_getR E fl_RX12_70 kR_0 sR_0 rfl dX12_waysItem_210 ?_
      refine g_iload_4 E dX12_waysItem_213 ?_
      refine g_lload_5 E dX12_waysItem_215 ?_
      refine g_last E kR_18 sR_18 (by decide) h.1 dX12_waysItem_217 (g_nmS (fun σ4 eσ4 => ?_))
      replace h := h.2 σ4 eσ4
      have hσ4 : CanS shR NR σ4 := by rw [eσ4]; exact wR_18 hσ3 c5
      refine g_lload_5 E dX12_waysItem_218 ?_
      exact g_lret E hr c5 h hσ4 dX12_waysItem_220
    · replace h := h.2 hc
      refine g_aload_0 E dX12_waysItem_41 ?_
      refine g_iload_7 E dX12_waysItem_42 ?_
      refine g_callvI E my_X12_isIn mi_X12_isIn msel_X12_isIn ml_RX12_298 (rm_ok (by omega) (by decide)) ⟨Nat.zero_le _, Nat.zero_le _⟩ kR_0 sR_0 rfl (m_X12_isIn E.2.2.1 c7 hσ h) rfl rfl (Nat.le_of_ble_eq_true rfl) dX12_waysItem_44 (fun r5 σ6 cr5 hσ6 h => ?_)
      refine g_if_eq E cr5 djX12_waysItem_47 (fun hc => ?_) (fun hc => ?_)
      · replace h := h.1 hc
        exact (t_X12_waysItem_b195 E hr hM ih x1 x2 x3 x4 x5 x7 σ6 c1 c2 c3 c4 c5 c7 hσ6 h).weak (w_k (w_k (w_k (w_k (w_k (w_k (w_d (w_k (w_d w_n)))))))))
      · replace h := h.2 hc
        refine g_aload_0 E dX12_waysItem_50 ?_
        refine g_getR E fl_RX12_13 kR_0 sR_0 rfl dX12_waysItem_51 ?_
        refine g_iload_7 E dX12_waysItem_54 ?_
        refine g_iald E kR_1 sR_1 (by decide) h.1 dX12_waysItem_56 ?_
        replace h := h.2
        refine g_iload_1 E dX12_waysItem_57 ?_
        refine g_icmp_eq E (aR_1 hσ6 _) c1 djX12_waysItem_58 (fun hc => ?_) (fun hc => ?_)
        · replace h := h.1 hc
          refine g_aload_0 E dX12_waysItem_64 ?_
          refine g_getR E fl_RX12_20 kR_0 sR_0 rfl dX12_waysItem_65 ?_
          refine g_iload_7 E dX12_waysItem_68 ?_
          refine g_iald E kR_3 sR_3 (by decide) h.1 dX12_waysItem_70 ?_
          replace h := h.2
          refine g_iconst E dX12_waysItem_71 ?_
          refine g_icmp_ne E (aR_3 hσ6 _) cl_m1 djX12_waysItem_72 (fun hc => ?_) (fun hc => ?_)
          · replace h := h.1 hc
            exact (t_X12_waysItem_b95 E hr hM ih x1 x2 x3 x4 x5 x7 σ6 c1 c2 c3 c4 c5 c7 hσ6 h).weak (w_k (w_k (w_k (w_k (w_k (w_k (w_d (w_k (w_d w_n)))))))))
          · replace h := h.2 hc
            refine g_lload_5 E dX12_waysItem_75 ?_
            refine g_aload_0 E dX12_waysItem_77 ?_
            refine g_aload_0 E dX12_waysItem_78 ?_
            refine g_getR E fl_RX12_17 kR_0 sR_0 rfl dX12_waysItem_79 ?_
            refine g_iload_7 E dX12_waysItem_82 ?_
            refine g_iald E kR_2 sR_2 (by decide) h.1 dX12_waysItem_84 ?_
            replace h := h.2
            refine g_iload_2 E dX12_waysItem_85 ?_
            refine g_iload_3 E dX12_waysItem_86 ?_
            refine g_callvL E my_X12_waysPart mi_X12_waysPart msel_X12_waysPart ml_RX12_353 (rm_ok (by omega) (by decide)) ⟨Nat.zero_le _, Nat.zero_le _⟩ kR_0 sR_0 rfl (m_X12_waysPart hM E.2.2.1 (aR_2 hσ6 _) c2 c3 hσ6 h) rfl rfl (Nat.le_of_ble_eq_true rfl) dX12_waysItem_87 (fun r7 σ8 cr7 hσ8 h => ?_)
            refine g_callsL E my_X12_plusGreat ms_X12_plusGreat ml_RX12_356 (rm_ok (by omega) (by decide)) ⟨Nat.zero_le _, Nat.zero_le _⟩ (m_X12_plusGreat E.2.2.1 c5 cr7 hσ8 h) rfl rfl (Nat.le_of_ble_eq_true rfl) dX12_waysItem_90 (fun r9 σ10 cr9 hσ10 h => ?_)
            refine g_lstore_5 E rfl (by decide) dX12_waysItem_93 ?_
            exact (t_X12_waysItem_b95 E hr hM ih x1 x2 x3 x4 r9 x7 σ10 c1 c2 c3 c4 cr9 c7 hσ10 h).weak (w_k (w_k (w_k (w_k (w_k (w_k (w_d (w_k (w_d w_n)))))))))
        · replace h := h.2 hc
          refine g_goto E djX12_waysItem_61 ?_
          exact (t_X12_waysItem_b195 E hr hM ih x1 x2 x3 x4 x5 x7 σ6 c1 c2 c3 c4 c5 c7 hσ6 h).weak (w_k (w_k (w_k (w_k (w_k (w_k (w_d (w_k (w_d w_n)))))))))
set_option maxHeartbeats 4000000 in
set_option maxRecDepth 100000 in
theorem t_X12_waysItem (E : Ev p s m args meth c cX12_waysItem 9 RX12 A0 D cA ad NR Z) (hr : meth.sig.returnType = (some .long)) {M : Int → Int → Int → St → (Int → St → Prop) → Prop} {d : Nat} (hM : ∀ (x1 : Int) (x2 : Int) (x3 : Int) (σ : St) (Q : Int → St → Prop), C32 x1 → C32 x2 → C32 x3 → CanS shR NR σ → M x1 x2 x3 σ Q → KtL Z l D cA ad shR NR yX12_waysItem cX12_waysItem 9 (some .long) (3 + 2 * d) [.ref (ad 0), vI x1, vI x2, vI x3] σ Q) (x1 : Int) (x2 : Int) (x3 : Int) (σ : St) (c1 : C32 x1) (c2 : C32 x2) (c3 : C32 x3) (hσ : CanS shR NR σ) (h : wp_X12_item x1 x2 x3 σ (fun r1 σ2 => (0 ≤ r1 ∧ r1 < 768) ∧ ((σ2 17 (r1.toNat) = 0) → wp_X12_waysItem_l32 M Q bigN x1 x2 x3 r1 0 0 σ2) ∧ (¬ (σ2 17 (r1.toNat) = 0) → (0 ≤ r1 ∧ r1 < 768) ∧ Q (σ2 18 (r1.toNat)) σ2))) : G p l e (rmL (3 + 2 * (d + 1)) 0 0) s m args below meth c 9 A0 D cA ad shR NR 0 0 (MQ below (QLc D cA ad shR NR Q A0) args s 0 0 A0) σ 0 [some (.ref (ad 0)), some (vI x1), some (vI x2), some (vI x3), none, none, none, none, none] [] := by
  refine g_iload_1 E dX12_waysItem_0 ?_
  refine g_iload_2 E dX12_waysItem_1 ?_
  refine g_iload_3 E dX12_waysItem_2 ?_
  refine g_callsI E my_X12_item ms_X12_item ml_RX12_282 (rm_ok (by omega) (by decide)) ⟨Nat.zero_le _, Nat.zero_le _⟩ (m_X12_item E.2.2.1 c1 c2 c3 hσ h) rfl rfl (Nat.le_of_ble_eq_true rfl) dX12_waysItem_3 (fun r1 σ2 cr1 hσ2 h => ?_)
  refine g_istore_4 E rfl (by decide) dX12_waysItem_6 ?_
  refine g_aload_0 E dX12_waysItem_8 ?_
  refine g_getR E fl_RX12_67 kR_0 sR_0 rfl dX12_waysItem_9 ?_
  refine g_iload_4 E dX12_waysItem_12 ?_
  refine g_zald E kR_17 sR_17 (by decide) h.1 dX12_waysItem_14 ?_
  replace h := h.2
  refine g_if_eq E (aR_17 hσ2 _) djX12_waysItem_15 (fun hc => ?_) (fun hc => ?_)
  · replace h := h.1 hc
    refine g_lconst (n := 0) E (by decide) dX12_waysItem_26 ?_
    refine g_lstore_5 E rfl (by decide) dX12_waysItem_27 ?_
    refine g_iconst E dX12_waysItem_29 ?_
    refine g_istore_7 E rfl (by decide) dX12_waysItem_30 ?_
    exact (t_X12_waysItem_l32 E hr hM bigN x1 x2 x3 r1 0 0 σ2 c1 c2 c3 cr1 cL_0 cl_0 hσ2 h).weak (w_k (w_k (w_k (w_k (w_k (w_k (w_d (w_k (w_d w_n)))))))))
  · replace h := h.2 hc
    refine g_aload_0 E dX12_waysItem_18 ?_
    refine g_getR E fl_RX12_70 kR_0 sR_0 rfl dX12_waysItem_19 ?_
    refine g_iload_4 E dX12_waysItem_22 ?_
    refine g_lald E kR_18 sR_18 (by decide) h.1 dX12_waysItem_24 ?_
    replace h := h.2
    exact g_lret E hr (aR_18 hσ2 _) h hσ2 dX12_waysItem_25
end
theorem m_X12_waysItem {Z : (Nat → Nat) × (Nat → Nat)} {l : Launch} {D : va_G} {cA : Nat → ClassId} {ad : Nat → Nat} (d : Nat) (hA : AdOk NR ad) : ∀ {x1 x2 x3 : Int} {σ : St} {Q : Int → St → Prop}, C32 x1 → C32 x2 → C32 x3 → CanS shR NR σ → wp_X12_waysItem d x1 x2 x3 σ Q → KtL Z l D cA ad shR NR yX12_waysItem cX12_waysItem 9 (some .long) (3 + 2 * d) [.ref (ad 0), vI x1, vI x2, vI x3] σ Q := by
  induction d with
  | zero => intro _ _ _ _ _ _ _ _ _ h; exact h.elim
  | succ d ih =>
    intro x1 x2 x3 σ Q c1 c2 c3 hσ h
    unfold wp_X12_waysItem at h
    exact KtL.of my_X12_waysItem hA [some (.ref (ad 0)), some (vI x1), some (vI x2), some (vI x3), none, none, none, none, none] (Nat.le_of_ble_eq_true rfl) rfl (fun p e s m args below meth c A0 E hr => t_X12_waysItem E hr (fun x1 x2 x3 σ Q c1 c2 c3 hσ h => ih c1 c2 c3 hσ h) x1 x2 x3 σ c1 c2 c3 hσ h)
theorem dX12_ways_0 : Dc cX12_ways 0 (.aload_n 0) 1 1 := ⟨by decide +kernel, rfl⟩
theorem dX12_ways_1 : Dc cX12_ways 1 (.iload_n 1) 1 2 := ⟨by decide +kernel, rfl⟩
theorem dX12_ways_2 : Dc cX12_ways 2 (.iload_n 2) 1 3 := ⟨by decide +kernel, rfl⟩
theorem dX12_ways_3 : Dc cX12_ways 3 (.iload_n 3) 1 4 := ⟨by decide +kernel, rfl⟩
theorem dX12_ways_4 : Dc cX12_ways 4 (.invokevirtual 318) 3 7 := ⟨by decide +kernel, rfl⟩
theorem djX12_ways_7 : Dj cX12_ways 7 (.ifCond .ne 7) 3 10 7 14 := ⟨by decide +kernel, rfl, by decide⟩
theorem dX12_ways_10 : Dc cX12_ways 10 (.ldc2_w 362) 3 13 := ⟨by decide +kernel, rfl⟩
theorem dX12_ways_13 : Dc cX12_ways 13 (.lreturn) 1 14 := ⟨by decide +kernel, rfl⟩
theorem dX12_ways_14 : Dc cX12_ways 14 (.aload_n 0) 1 15 := ⟨by decide +kernel, rfl⟩
theorem dX12_ways_15 : Dc cX12_ways 15 (.invokevirtual 321) 3 18 := ⟨by decide +kernel, rfl⟩
theorem dX12_ways_18 : Dc cX12_ways 18 (.aload_n 0) 1 19 := ⟨by decide +kernel, rfl⟩
theorem dX12_ways_19 : Dc cX12_ways 19 (.invokevirtual 364) 3 22 := ⟨by decide +kernel, rfl⟩
theorem dX12_ways_22 : Dc cX12_ways 22 (.aload_n 0) 1 23 := ⟨by decide +kernel, rfl⟩
theorem dX12_ways_23 : Dc cX12_ways 23 (.getfield 63) 3 26 := ⟨by decide +kernel, rfl⟩
theorem dX12_ways_26 : Dc cX12_ways 26 (.iload_n 1) 1 27 := ⟨by decide +kernel, rfl⟩
theorem dX12_ways_27 : Dc cX12_ways 27 (.iload_n 2) 1 28 := ⟨by decide +kernel, rfl⟩
theorem dX12_ways_28 : Dc cX12_ways 28 (.iload_n 3) 1 29 := ⟨by decide +kernel, rfl⟩
theorem dX12_ways_29 : Dc cX12_ways 29 (.invokestatic 282) 3 32 := ⟨by decide +kernel, rfl⟩
theorem dX12_ways_32 : Dc cX12_ways 32 (.baload) 1 33 := ⟨by decide +kernel, rfl⟩
theorem djX12_ways_33 : Dj cX12_ways 33 (.ifCond .eq 7) 3 36 7 40 := ⟨by decide +kernel, rfl, by decide⟩
theorem dX12_ways_36 : Dc cX12_ways 36 (.ldc2_w 367) 3 39 := ⟨by decide +kernel, rfl⟩
theorem dX12_ways_39 : Dc cX12_ways 39 (.lreturn) 1 40 := ⟨by decide +kernel, rfl⟩
theorem dX12_ways_40 : Dc cX12_ways 40 (.aload_n 0) 1 41 := ⟨by decide +kernel, rfl⟩
theorem dX12_ways_41 : Dc cX12_ways 41 (.iload_n 1) 1 42 := ⟨by decide +kernel, rfl⟩
theorem dX12_ways_42 : Dc cX12_ways 42 (.iload_n 2) 1 43 := ⟨by decide +kernel, rfl⟩
theorem dX12_ways_43 : Dc cX12_ways 43 (.iload_n 3) 1 44 := ⟨by decide +kernel, rfl⟩
theorem dX12_ways_44 : Dc cX12_ways 44 (.invokevirtual 349) 3 47 := ⟨by decide +kernel, rfl⟩
theorem dX12_ways_47 : Dc cX12_ways 47 (.lstore 4) 2 49 := ⟨by decide +kernel, rfl⟩
theorem dX12_ways_49 : Dc cX12_ways 49 (.lload 4) 2 51 := ⟨by decide +kernel, rfl⟩
theorem dX12_ways_51 : Dc cX12_ways 51 (.ldc2_w 332) 3 54 := ⟨by decide +kernel, rfl⟩
theorem dX12_ways_54 : Dc cX12_ways 54 (.lcmp) 1 55 := ⟨by decide +kernel, rfl⟩
theorem djX12_ways_55 : Dj cX12_ways 55 (.ifCond .le 9) 3 58 9 64 := ⟨by decide +kernel, rfl, by decide⟩
theorem dX12_ways_58 : Dc cX12_ways 58 (.ldc2_w 369) 3 61 := ⟨by decide +kernel, rfl⟩
theorem djX12_ways_61 : Dj cX12_ways 61 (.goto 5) 3 64 5 66 := ⟨by decide +kernel, rfl, by decide⟩
theorem dX12_ways_64 : Dc cX12_ways 64 (.lload 4) 2 66 := ⟨by decide +kernel, rfl⟩
theorem dX12_ways_66 : Dc cX12_ways 66 (.lreturn) 1 67 := ⟨by decide +kernel, rfl⟩
section
variable {p : Program} {l : Launch} {e : Env} {s : State} {m : MethodId} {args : Array Value} {below : List Frame} {meth : Method} {c : Code} {A0 : Nat → Prop} {D : va_G} {cA : Nat → ClassId} {ad : Nat → Nat} {Z : (Nat → Nat) × (Nat → Nat)} {Q : Int → St → Prop}
set_option maxHeartbeats 4000000 in
set_option maxRecDepth 100000 in
theorem t_X12_ways (E : Ev p s m args meth c cX12_ways 6 RX12 A0 D cA ad NR Z) (hr : meth.sig.returnType = (some .long)) (x1 : Int) (x2 : Int) (x3 : Int) (σ : St) (c1 : C32 x1) (c2 : C32 x2) (c3 : C32 x3) (hσ : CanS shR NR σ) (h : wp_X12_ways x1 x2 x3 σ Q) : G p l e (rmL 244 0 0) s m args below meth c 6 A0 D cA ad shR NR 0 0 (MQ below (QLc D cA ad shR NR Q A0) args s 0 0 A0) σ 0 [some (.ref (ad 0)), some (vI x1), some (vI x2), some (vI x3), none, none] [] := by
  unfold wp_X12_ways at h
  refine g_aload_0 E dX12_ways_0 ?_
  refine g_iload_1 E dX12_ways_1 ?_
  refine g_iload_2 E dX12_ways_2 ?_
  refine g_iload_3 E dX12_ways_3 ?_
  refine g_callvI E my_X12_isItem mi_X12_isItem msel_X12_isItem ml_RX12_318 (rm_ok (by decide) (by decide)) ⟨Nat.zero_le _, Nat.zero_le _⟩ kR_0 sR_0 rfl (m_X12_isItem E.2.2.1 c1 c2 c3 hσ h) rfl rfl (Nat.le_of_ble_eq_true rfl) dX12_ways_4 (fun r1 σ2 cr1 hσ2 h => ?_)
  refine g_if_ne E cr1 djX12_ways_7 (fun hc => ?_) (fun hc => ?_)
  · replace h := h.1 hc
    refine g_aload_0 E dX12_ways_14 ?_
    refine g_callvV E my_X12_looks mi_X12_looks msel_X12_looks ml_RX12_321 (rm_ok (by decide) (by decide)) ⟨Nat.zero_le _, Nat.zero_le _⟩ kR_0 sR_0 rfl (m_X12_looks E.2.2.1 hσ2 h) rfl rfl (Nat.le_of_ble_eq_true rfl) dX12_ways_15 (fun σ4 r3 hσ4 h => ?_)
    refine g_aload_0 E dX12_ways_18 ?_
    refine g_callvV E my_X12_laysEndless mi_X12_laysEndless msel_X12_laysEndless ml_RX12_364 (rm_ok (by decide) (by decide)) ⟨Nat.zero_le _, Nat.zero_le _⟩ kR_0 sR_0 rfl (m_X12_laysEndless E.2.2.1 hσ4 h) rfl rfl (Nat.le_of_ble_eq_true rfl) dX12_ways_19 (fun σ6 r5 hσ6 h => ?_)
    refine g_aload_0 E dX12_ways_22 ?_
    refine g_getR E fl_RX12_63 kR_0 sR_0 rfl dX12_ways_23 ?_
    refine g_iload_1 E dX12_ways_26 ?_
    refine g_iload_2 E dX12_ways_27 ?_
    refine g_iload_3 E dX12_ways_28 ?_
    refine g_callsI E my_X12_item ms_X12_item ml_RX12_282 (rm_ok (by decide) (by decide)) ⟨Nat.zero_le _, Nat.zero_le _⟩ (m_X12_item E.2.2.1 c1 c2 c3 hσ6 h) rfl rfl (Nat.le_of_ble_eq_true rfl) dX12_ways_29 (fun r7 σ8 cr7 hσ8 h => ?_)
    refine g_zald E kR_16 sR_16 (by decide) h.1 dX12_ways_32 ?_
    replace h := h.2
    refine g_if_eq E (aR_16 hσ8 _) djX12_ways_33 (fun hc => ?_) (fun hc => ?_)
    · replace h := h.1 hc
      refine g_aload_0 E dX12_ways_40 ?_
      refine g_iload_1 E dX12_ways_41 ?_
      refine g_iload_2 E dX12_ways_42 ?_
      refine g_iload_3 E dX12_ways_43 ?_
      refine g_callvL E my_X12_waysItem mi_X12_waysItem msel_X12_waysItem ml_RX12_349 (rm_ok (by decide) (by decide)) ⟨Nat.zero_le _, Nat.zero_le _⟩ kR_0 sR_0 rfl (m_X12_waysItem 120 E.2.2.1 c1 c2 c3 hσ8 h) rfl rfl (Nat.le_of_ble_eq_true rfl) dX12_ways_44 (fun r9 σ10 cr9 hσ10 h => ?_)
      refine g_lstore_4 E rfl (by decide) dX12_ways_47 ?_
      refine g_lload_4 E dX12_ways_49 ?_
      refine g_ldc2 (n := 1000000000000000) E wc_RX12_332 dX12_ways_51 ?_
      refine g_lcmp_le E cr9 cL_1000000000000000 dX12_ways_54 djX12_ways_55 (fun hc => ?_) (fun hc => ?_)
      · replace h := h.1 hc
        refine g_lload_4 E dX12_ways_64 ?_
        exact g_lret E hr cr9 h hσ10 dX12_ways_66
      · replace h := h.2 hc
        refine g_ldc2 (n := (-3)) E wc_RX12_369 dX12_ways_58 ?_
        refine g_goto E djX12_ways_61 ?_
        exact g_lret E hr cL_m3 h hσ10 dX12_ways_66
    · replace h := h.2 hc
      refine g_ldc2 (n := (-5)) E wc_RX12_367 dX12_ways_36 ?_
      exact g_lret E hr cL_m5 h hσ8 dX12_ways_39
  · replace h := h.2 hc
    refine g_ldc2 (n := (-2)) E wc_RX12_362 dX12_ways_10 ?_
    exact g_lret E hr cL_m2 h hσ2 dX12_ways_13
end
theorem m_X12_ways {Z : (Nat → Nat) × (Nat → Nat)} {l : Launch} {D : va_G} {cA : Nat → ClassId} {ad : Nat → Nat} {x1 x2 x3 : Int} {σ : St} {Q : Int → St → Prop} (hA : AdOk NR ad) (c1 : C32 x1) (c2 : C32 x2) (c3 : C32 x3) (hσ : CanS shR NR σ) (h : wp_X12_ways x1 x2 x3 σ Q) : KtL Z l D cA ad shR NR yX12_ways cX12_ways 6 (some .long) 244 [.ref (ad 0), vI x1, vI x2, vI x3] σ Q :=
  KtL.of my_X12_ways hA [some (.ref (ad 0)), some (vI x1), some (vI x2), some (vI x3), none, none] (Nat.le_of_ble_eq_true rfl) rfl (fun p e s m args below meth c A0 E hr => t_X12_ways E hr x1 x2 x3 σ c1 c2 c3 hσ h)
theorem dX12_dearPart_0 : Dc cX12_dearPart 0 (.iload_n 1) 1 1 := ⟨by decide +kernel, rfl⟩
theorem dX12_dearPart_1 : Dc cX12_dearPart 1 (.bipush 100) 2 3 := ⟨by decide +kernel, rfl⟩
theorem djX12_dearPart_3 : Dj cX12_dearPart 3 (.if_icmp .lt 23) 3 6 23 26 := ⟨by decide +kernel, rfl, by decide⟩
theorem dX12_dearPart_6 : Dc cX12_dearPart 6 (.aload_n 0) 1 7 := ⟨by decide +kernel, rfl⟩
theorem dX12_dearPart_7 : Dc cX12_dearPart 7 (.iload_n 1) 1 8 := ⟨by decide +kernel, rfl⟩
theorem dX12_dearPart_8 : Dc cX12_dearPart 8 (.iload_n 2) 1 9 := ⟨by decide +kernel, rfl⟩
theorem dX12_dearPart_9 : Dc cX12_dearPart 9 (.iload_n 3) 1 10 := ⟨by decide +kernel, rfl⟩
theorem dX12_dearPart_10 : Dc cX12_dearPart 10 (.invokevirtual 287) 3 13 := ⟨by decide +kernel, rfl⟩
theorem djX12_dearPart_13 : Dj cX12_dearPart 13 (.ifCond .eq 7) 3 16 7 20 := ⟨by decide +kernel, rfl, by decide⟩
theorem dX12_dearPart_16 : Dc cX12_dearPart 16 (.iconst 0) 1 17 := ⟨by decide +kernel, rfl⟩
theorem djX12_dearPart_17 : Dj cX12_dearPart 17 (.goto 20) 3 20 20 37 := ⟨by decide +kernel, rfl, by decide⟩
theorem dX12_dearPart_20 : Dc cX12_dearPart 20 (.ldc_w 286) 3 23 := ⟨by decide +kernel, rfl⟩
theorem djX12_dearPart_23 : Dj cX12_dearPart 23 (.goto 14) 3 26 14 37 := ⟨by decide +kernel, rfl, by decide⟩
theorem dX12_dearPart_26 : Dc cX12_dearPart 26 (.aload_n 0) 1 27 := ⟨by decide +kernel, rfl⟩
theorem dX12_dearPart_27 : Dc cX12_dearPart 27 (.getfield 77) 3 30 := ⟨by decide +kernel, rfl⟩
theorem dX12_dearPart_30 : Dc cX12_dearPart 30 (.iload_n 1) 1 31 := ⟨by decide +kernel, rfl⟩
theorem dX12_dearPart_31 : Dc cX12_dearPart 31 (.iload_n 2) 1 32 := ⟨by decide +kernel, rfl⟩
theorem dX12_dearPart_32 : Dc cX12_dearPart 32 (.iload_n 3) 1 33 := ⟨by decide +kernel, rfl⟩
theorem dX12_dearPart_33 : Dc cX12_dearPart 33 (.invokestatic 282) 3 36 := ⟨by decide +kernel, rfl⟩
theorem dX12_dearPart_36 : Dc cX12_dearPart 36 (.iaload) 1 37 := ⟨by decide +kernel, rfl⟩
theorem dX12_dearPart_37 : Dc cX12_dearPart 37 (.ireturn) 1 38 := ⟨by decide +kernel, rfl⟩
section
variable {p : Program} {l : Launch} {e : Env} {s : State} {m : MethodId} {args : Array Value} {below : List Frame} {meth : Method} {c : Code} {A0 : Nat → Prop} {D : va_G} {cA : Nat → ClassId} {ad : Nat → Nat} {Z : (Nat → Nat) × (Nat → Nat)} {Q : Int → St → Prop}
set_option maxHeartbeats 4000000 in
set_option maxRecDepth 100000 in
theorem t_X12_dearPart (E : Ev p s m args meth c cX12_dearPart 4 RX12 A0 D cA ad NR Z) (hr : meth.sig.returnType = (some .int)) (x1 : Int) (x2 : Int) (x3 : Int) (σ : St) (c1 : C32 x1) (c2 : C32 x2) (c3 : C32 x3) (hσ : CanS shR NR σ) (h : wp_X12_dearPart x1 x2 x3 σ Q) : G p l e (rmL 3 0 0) s m args below meth c 4 A0 D cA ad shR NR 0 0 (MQ below (QIc D cA ad shR NR Q A0) args s 0 0 A0) σ 0 [some (.ref (ad 0)), some (vI x1), some (vI x2), some (vI x3)] [] := by
  unfold wp_X12_dearPart at h
  refine g_iload_1 E dX12_dearPart_0 ?_
  refine g_bipush E (by decide) dX12_dearPart_1 ?_
  refine g_icmp_lt E c1 cl_100 djX12_dearPart_3 (fun hc => ?_) (fun hc => ?_)
  · replace h := h.1 hc
    refine g_aload_0 E dX12_dearPart_26 ?_
    refine g_getR E fl_RX12_77 kR_0 sR_0 rfl dX12_dearPart_27 ?_
    refine g_iload_1 E dX12_dearPart_30 ?_
    refine g_iload_2 E dX12_dearPart_31 ?_
    refine g_iload_3 E dX12_dearPart_32 ?_
    refine g_callsI E my_X12_item ms_X12_item ml_RX12_282 (rm_ok (by decide) (by decide)) ⟨Nat.zero_le _, Nat.zero_le _⟩ (m_X12_item E.2.2.1 c1 c2 c3 hσ h) rfl rfl (Nat.le_of_ble_eq_true rfl) dX12_dearPart_33 (fun r1 σ2 cr1 hσ2 h => ?_)
    refine g_iald E kR_20 sR_20 (by decide) h.1 dX12_dearPart_36 ?_
    replace h := h.2
    exact g_iret E hr (aR_20 hσ2 _) h hσ2 dX12_dearPart_37
  · replace h := h.2 hc
    refine g_aload_0 E dX12_dearPart_6 ?_
    refine g_iload_1 E dX12_dearPart_7 ?_
    refine g_iload_2 E dX12_dearPart_8 ?_
    refine g_iload_3 E dX12_dearPart_9 ?_
    refine g_callvI E my_X12_fits mi_X12_fits msel_X12_fits ml_RX12_287 (rm_ok (by decide) (by decide)) ⟨Nat.zero_le _, Nat.zero_le _⟩ kR_0 sR_0 rfl (m_X12_fits E.2.2.1 c1 c2 c3 hσ h) rfl rfl (Nat.le_of_ble_eq_true rfl) dX12_dearPart_10 (fun r3 σ4 cr3 hσ4 h => ?_)
    refine g_if_eq E cr3 djX12_dearPart_13 (fun hc => ?_) (fun hc => ?_)
    · replace h := h.1 hc
      refine g_ldcw (n := 1000000000) E wc_RX12_286 dX12_dearPart_20 ?_
      refine g_goto E djX12_dearPart_23 ?_
      exact g_iret E hr cl_1000000000 h hσ4 dX12_dearPart_37
    · replace h := h.2 hc
      refine g_iconst E dX12_dearPart_16 ?_
      refine g_goto E djX12_dearPart_17 ?_
      exact g_iret E hr cl_0 h hσ4 dX12_dearPart_37
end
theorem m_X12_dearPart {Z : (Nat → Nat) × (Nat → Nat)} {l : Launch} {D : va_G} {cA : Nat → ClassId} {ad : Nat → Nat} {x1 x2 x3 : Int} {σ : St} {Q : Int → St → Prop} (hA : AdOk NR ad) (c1 : C32 x1) (c2 : C32 x2) (c3 : C32 x3) (hσ : CanS shR NR σ) (h : wp_X12_dearPart x1 x2 x3 σ Q) : KtI Z l D cA ad shR NR yX12_dearPart cX12_dearPart 4 (some .int) 3 [.ref (ad 0), vI x1, vI x2, vI x3] σ Q :=
  KtI.of my_X12_dearPart hA [some (.ref (ad 0)), some (vI x1), some (vI x2), some (vI x3)] (Nat.le_of_ble_eq_true rfl) rfl (fun p e s m args below meth c A0 E hr => t_X12_dearPart E hr x1 x2 x3 σ c1 c2 c3 hσ h)
theorem dX12_lowersDear_0 : Dc cX12_lowersDear 0 (.ldc_w 286) 3 3 := ⟨by decide +kernel, rfl⟩
theorem dX12_lowersDear_3 : Dc cX12_lowersDear 3 (.istore 4) 2 5 := ⟨by decide +kernel, rfl⟩
theorem dX12_lowersDear_5 : Dc cX12_lowersDear 5 (.aload_n 0) 1 6 := ⟨by decide +kernel, rfl⟩
theorem dX12_lowersDear_6 : Dc cX12_lowersDear 6 (.getfield 20) 3 9 := ⟨by decide +kernel, rfl⟩
theorem dX12_lowersDear_9 : Dc cX12_lowersDear 9 (.iload_n 1) 1 10 := ⟨by decide +kernel, rfl⟩
theorem dX12_lowersDear_10 : Dc cX12_lowersDear 10 (.iaload) 1 11 := ⟨by decide +kernel, rfl⟩
theorem dX12_lowersDear_11 : Dc cX12_lowersDear 11 (.iconst (-1)) 1 12 := ⟨by decide +kernel, rfl⟩
theorem djX12_lowersDear_12 : Dj cX12_lowersDear 12 (.if_icmp .ne 17) 3 15 17 29 := ⟨by decide +kernel, rfl, by decide⟩
theorem dX12_lowersDear_15 : Dc cX12_lowersDear 15 (.aload_n 0) 1 16 := ⟨by decide +kernel, rfl⟩
theorem dX12_lowersDear_16 : Dc cX12_lowersDear 16 (.aload_n 0) 1 17 := ⟨by decide +kernel, rfl⟩
theorem dX12_lowersDear_17 : Dc cX12_lowersDear 17 (.getfield 17) 3 20 := ⟨by decide +kernel, rfl⟩
theorem dX12_lowersDear_20 : Dc cX12_lowersDear 20 (.iload_n 1) 1 21 := ⟨by decide +kernel, rfl⟩
theorem dX12_lowersDear_21 : Dc cX12_lowersDear 21 (.iaload) 1 22 := ⟨by decide +kernel, rfl⟩
theorem dX12_lowersDear_22 : Dc cX12_lowersDear 22 (.iload_n 2) 1 23 := ⟨by decide +kernel, rfl⟩
theorem dX12_lowersDear_23 : Dc cX12_lowersDear 23 (.iload_n 3) 1 24 := ⟨by decide +kernel, rfl⟩
theorem dX12_lowersDear_24 : Dc cX12_lowersDear 24 (.invokevirtual 371) 3 27 := ⟨by decide +kernel, rfl⟩
theorem dX12_lowersDear_27 : Dc cX12_lowersDear 27 (.istore 4) 2 29 := ⟨by decide +kernel, rfl⟩
theorem dX12_lowersDear_29 : Dc cX12_lowersDear 29 (.iload_n 2) 1 30 := ⟨by decide +kernel, rfl⟩
theorem dX12_lowersDear_30 : Dc cX12_lowersDear 30 (.iconst 1) 1 31 := ⟨by decide +kernel, rfl⟩
theorem dX12_lowersDear_31 : Dc cX12_lowersDear 31 (.iadd) 1 32 := ⟨by decide +kernel, rfl⟩
theorem dX12_lowersDear_32 : Dc cX12_lowersDear 32 (.istore 5) 2 34 := ⟨by decide +kernel, rfl⟩
theorem dX12_lowersDear_34 : Dc cX12_lowersDear 34 (.iload 5) 2 36 := ⟨by decide +kernel, rfl⟩
theorem dX12_lowersDear_36 : Dc cX12_lowersDear 36 (.iload_n 3) 1 37 := ⟨by decide +kernel, rfl⟩
theorem djX12_lowersDear_37 : Dj cX12_lowersDear 37 (.if_icmp .ge 55) 3 40 55 92 := ⟨by decide +kernel, rfl, by decide⟩
theorem dX12_lowersDear_40 : Dc cX12_lowersDear 40 (.aload_n 0) 1 41 := ⟨by decide +kernel, rfl⟩
theorem dX12_lowersDear_41 : Dc cX12_lowersDear 41 (.getfield 20) 3 44 := ⟨by decide +kernel, rfl⟩
theorem dX12_lowersDear_44 : Dc cX12_lowersDear 44 (.iload_n 1) 1 45 := ⟨by decide +kernel, rfl⟩
theorem dX12_lowersDear_45 : Dc cX12_lowersDear 45 (.iaload) 1 46 := ⟨by decide +kernel, rfl⟩
theorem dX12_lowersDear_46 : Dc cX12_lowersDear 46 (.iconst (-1)) 1 47 := ⟨by decide +kernel, rfl⟩
theorem djX12_lowersDear_47 : Dj cX12_lowersDear 47 (.if_icmp .eq 45) 3 50 45 92 := ⟨by decide +kernel, rfl, by decide⟩
theorem dX12_lowersDear_50 : Dc cX12_lowersDear 50 (.iload 4) 2 52 := ⟨by decide +kernel, rfl⟩
theorem dX12_lowersDear_52 : Dc cX12_lowersDear 52 (.aload_n 0) 1 53 := ⟨by decide +kernel, rfl⟩
theorem dX12_lowersDear_53 : Dc cX12_lowersDear 53 (.aload_n 0) 1 54 := ⟨by decide +kernel, rfl⟩
theorem dX12_lowersDear_54 : Dc cX12_lowersDear 54 (.getfield 17) 3 57 := ⟨by decide +kernel, rfl⟩
theorem dX12_lowersDear_57 : Dc cX12_lowersDear 57 (.iload_n 1) 1 58 := ⟨by decide +kernel, rfl⟩
theorem dX12_lowersDear_58 : Dc cX12_lowersDear 58 (.iaload) 1 59 := ⟨by decide +kernel, rfl⟩
theorem dX12_lowersDear_59 : Dc cX12_lowersDear 59 (.iload_n 2) 1 60 := ⟨by decide +kernel, rfl⟩
theorem dX12_lowersDear_60 : Dc cX12_lowersDear 60 (.iload 5) 2 62 := ⟨by decide +kernel, rfl⟩
theorem dX12_lowersDear_62 : Dc cX12_lowersDear 62 (.invokevirtual 371) 3 65 := ⟨by decide +kernel, rfl⟩
theorem dX12_lowersDear_65 : Dc cX12_lowersDear 65 (.aload_n 0) 1 66 := ⟨by decide +kernel, rfl⟩
theorem dX12_lowersDear_66 : Dc cX12_lowersDear 66 (.aload_n 0) 1 67 := ⟨by decide +kernel, rfl⟩
theorem dX12_lowersDear_67 : Dc cX12_lowersDear 67 (.getfield 20) 3 70 := ⟨by decide +kernel, rfl⟩
theorem dX12_lowersDear_70 : Dc cX12_lowersDear 70 (.iload_n 1) 1 71 := ⟨by decide +kernel, rfl⟩
theorem dX12_lowersDear_71 : Dc cX12_lowersDear 71 (.iaload) 1 72 := ⟨by decide +kernel, rfl⟩
theorem dX12_lowersDear_72 : Dc cX12_lowersDear 72 (.iload 5) 2 74 := ⟨by decide +kernel, rfl⟩
theorem dX12_lowersDear_74 : Dc cX12_lowersDear 74 (.iload_n 3) 1 75 := ⟨by decide +kernel, rfl⟩
theorem dX12_lowersDear_75 : Dc cX12_lowersDear 75 (.invokevirtual 371) 3 78 := ⟨by decide +kernel, rfl⟩
theorem dX12_lowersDear_78 : Dc cX12_lowersDear 78 (.invokestatic 374) 3 81 := ⟨by decide +kernel, rfl⟩
theorem dX12_lowersDear_81 : Dc cX12_lowersDear 81 (.invokestatic 179) 3 84 := ⟨by decide +kernel, rfl⟩
theorem dX12_lowersDear_84 : Dc cX12_lowersDear 84 (.istore 4) 2 86 := ⟨by decide +kernel, rfl⟩
theorem dX12_lowersDear_86 : Dc cX12_lowersDear 86 (.iinc 5 1) 3 89 := ⟨by decide +kernel, rfl⟩
theorem djX12_lowersDear_89 : Dj cX12_lowersDear 89 (.goto (-55)) 3 92 (-55) 34 := ⟨by decide +kernel, rfl, by decide⟩
theorem dX12_lowersDear_92 : Dc cX12_lowersDear 92 (.iload 4) 2 94 := ⟨by decide +kernel, rfl⟩
theorem dX12_lowersDear_94 : Dc cX12_lowersDear 94 (.aload_n 0) 1 95 := ⟨by decide +kernel, rfl⟩
theorem dX12_lowersDear_95 : Dc cX12_lowersDear 95 (.getfield 23) 3 98 := ⟨by decide +kernel, rfl⟩
theorem dX12_lowersDear_98 : Dc cX12_lowersDear 98 (.iload_n 1) 1 99 := ⟨by decide +kernel, rfl⟩
theorem dX12_lowersDear_99 : Dc cX12_lowersDear 99 (.iaload) 1 100 := ⟨by decide +kernel, rfl⟩
theorem dX12_lowersDear_100 : Dc cX12_lowersDear 100 (.invokestatic 374) 3 103 := ⟨by decide +kernel, rfl⟩
theorem dX12_lowersDear_103 : Dc cX12_lowersDear 103 (.istore 4) 2 105 := ⟨by decide +kernel, rfl⟩
theorem dX12_lowersDear_105 : Dc cX12_lowersDear 105 (.iload 4) 2 107 := ⟨by decide +kernel, rfl⟩
theorem dX12_lowersDear_107 : Dc cX12_lowersDear 107 (.aload_n 0) 1 108 := ⟨by decide +kernel, rfl⟩
theorem dX12_lowersDear_108 : Dc cX12_lowersDear 108 (.getfield 77) 3 111 := ⟨by decide +kernel, rfl⟩
theorem dX12_lowersDear_111 : Dc cX12_lowersDear 111 (.aload_n 0) 1 112 := ⟨by decide +kernel, rfl⟩
theorem dX12_lowersDear_112 : Dc cX12_lowersDear 112 (.getfield 13) 3 115 := ⟨by decide +kernel, rfl⟩
theorem dX12_lowersDear_115 : Dc cX12_lowersDear 115 (.iload_n 1) 1 116 := ⟨by decide +kernel, rfl⟩
theorem dX12_lowersDear_116 : Dc cX12_lowersDear 116 (.iaload) 1 117 := ⟨by decide +kernel, rfl⟩
theorem dX12_lowersDear_117 : Dc cX12_lowersDear 117 (.iload_n 2) 1 118 := ⟨by decide +kernel, rfl⟩
theorem dX12_lowersDear_118 : Dc cX12_lowersDear 118 (.iload_n 3) 1 119 := ⟨by decide +kernel, rfl⟩
theorem dX12_lowersDear_119 : Dc cX12_lowersDear 119 (.invokestatic 282) 3 122 := ⟨by decide +kernel, rfl⟩
theorem dX12_lowersDear_122 : Dc cX12_lowersDear 122 (.iaload) 1 123 := ⟨by decide +kernel, rfl⟩
theorem djX12_lowersDear_123 : Dj cX12_lowersDear 123 (.if_icmp .lt 5) 3 126 5 128 := ⟨by decide +kernel, rfl, by decide⟩
theorem dX12_lowersDear_126 : Dc cX12_lowersDear 126 (.iconst 0) 1 127 := ⟨by decide +kernel, rfl⟩
theorem dX12_lowersDear_127 : Dc cX12_lowersDear 127 (.ireturn) 1 128 := ⟨by decide +kernel, rfl⟩
theorem dX12_lowersDear_128 : Dc cX12_lowersDear 128 (.aload_n 0) 1 129 := ⟨by decide +kernel, rfl⟩
theorem dX12_lowersDear_129 : Dc cX12_lowersDear 129 (.getfield 77) 3 132 := ⟨by decide +kernel, rfl⟩
theorem dX12_lowersDear_132 : Dc cX12_lowersDear 132 (.aload_n 0) 1 133 := ⟨by decide +kernel, rfl⟩
theorem dX12_lowersDear_133 : Dc cX12_lowersDear 133 (.getfield 13) 3 136 := ⟨by decide +kernel, rfl⟩
theorem dX12_lowersDear_136 : Dc cX12_lowersDear 136 (.iload_n 1) 1 137 := ⟨by decide +kernel, rfl⟩
theorem dX12_lowersDear_137 : Dc cX12_lowersDear 137 (.iaload) 1 138 := ⟨by decide +kernel, rfl⟩
theorem dX12_lowersDear_138 : Dc cX12_lowersDear 138 (.iload_n 2) 1 139 := ⟨by decide +kernel, rfl⟩
theorem dX12_lowersDear_139 : Dc cX12_lowersDear 139 (.iload_n 3) 1 140 := ⟨by decide +kernel, rfl⟩
theorem dX12_lowersDear_140 : Dc cX12_lowersDear 140 (.invokestatic 282) 3 143 := ⟨by decide +kernel, rfl⟩
theorem dX12_lowersDear_143 : Dc cX12_lowersDear 143 (.iload 4) 2 145 := ⟨by decide +kernel, rfl⟩
theorem dX12_lowersDear_145 : Dc cX12_lowersDear 145 (.iastore) 1 146 := ⟨by decide +kernel, rfl⟩
theorem dX12_lowersDear_146 : Dc cX12_lowersDear 146 (.iconst 1) 1 147 := ⟨by decide +kernel, rfl⟩
theorem dX12_lowersDear_147 : Dc cX12_lowersDear 147 (.ireturn) 1 148 := ⟨by decide +kernel, rfl⟩
section
variable {p : Program} {l : Launch} {e : Env} {s : State} {m : MethodId} {args : Array Value} {below : List Frame} {meth : Method} {c : Code} {A0 : Nat → Prop} {D : va_G} {cA : Nat → ClassId} {ad : Nat → Nat} {Z : (Nat → Nat) × (Nat → Nat)} {Q : Int → St → Prop}
set_option maxHeartbeats 4000000 in
set_option maxRecDepth 100000 in
theorem t_X12_lowersDear_b92 (E : Ev p s m args meth c cX12_lowersDear 6 RX12 A0 D cA ad NR Z) (hr : meth.sig.returnType = (some .boolean)) (x1 : Int) (x2 : Int) (x3 : Int) (x4 : Int) (σ : St) (c1 : C32 x1) (c2 : C32 x2) (c3 : C32 x3) (c4 : C32 x4) (hσ : CanS shR NR σ) (h : wp_X12_lowersDear_b92 Q x1 x2 x3 x4 σ) : G p l e (rmL 4 0 0) s m args below meth c 6 A0 D cA ad shR NR 0 0 (MQ below (QIc D cA ad shR NR Q A0) args s 0 0 A0) σ 92 [some (.ref (ad 0)), some (vI x1), some (vI x2), some (vI x3), some (vI x4), none] [] := by
  unfold wp_X12_lowersDear_b92 at h
  refine g_iload_4 E dX12_lowersDear_92 ?_
  refine g_aload_0 E dX12_lowersDear_94 ?_
  refine g_getR E fl_RX12_23 kR_0 sR_0 rfl dX12_lowersDear_95 ?_
  refine g_iload_1 E dX12_lowersDear_98 ?_
  refine g_iald E kR_4 sR_4 (by decide) h.1 dX12_lowersDear_99 ?_
  replace h := h.2
  refine g_mmax E ml_RX12_374 c4 (aR_4 hσ _) (Nat.le_of_ble_eq_true rfl) (rm_1 4) ⟨Nat.zero_le _, Nat.zero_le _⟩ dX12_lowersDear_100 ?_
  refine g_nmI (fun v10 ev10 => ?_)
  replace h := h v10 ev10
  have cv10 : C32 v10 := by rw [ev10]; exact (c32_max c4 (aR_4 hσ _))
  refine g_istore_4 E rfl (by decide) dX12_lowersDear_103 ?_
  refine g_iload_4 E dX12_lowersDear_105 ?_
  refine g_aload_0 E dX12_lowersDear_107 ?_
  refine g_getR E fl_RX12_77 kR_0 sR_0 rfl dX12_lowersDear_108 ?_
  refine g_aload_0 E dX12_lowersDear_111 ?_
  refine g_getR E fl_RX12_13 kR_0 sR_0 rfl dX12_lowersDear_112 ?_
  refine g_iload_1 E dX12_lowersDear_115 ?_
  refine g_iald E kR_1 sR_1 (by decide) h.1 dX12_lowersDear_116 ?_
  replace h := h.2
  refine g_iload_2 E dX12_lowersDear_117 ?_
  refine g_iload_3 E dX12_lowersDear_118 ?_
  refine g_callsI E my_X12_item ms_X12_item ml_RX12_282 (rm_ok (by decide) (by decide)) ⟨Nat.zero_le _, Nat.zero_le _⟩ (m_X12_item E.2.2.1 (aR_1 hσ _) c2 c3 hσ h) rfl rfl (Nat.le_of_ble_eq_true rfl) dX12_lowersDear_119 (fun r11 σ12 cr11 hσ12 h => ?_)
  refine g_iald E kR_20 sR_20 (by decide) h.1 dX12_lowersDear_122 ?_
  replace h := h.2
  refine g_icmp_lt E cv10 (aR_20 hσ12 _) djX12_lowersDear_123 (fun hc => ?_) (fun hc => ?_)
  · replace h := h.1 hc
    refine g_aload_0 E dX12_lowersDear_128 ?_
    refine g_getR E fl_RX12_77 kR_0 sR_0 rfl dX12_lowersDear_129 ?_
    refine g_aload_0 E dX12_lowersDear_132 ?_
    refine g_getR E fl_RX12_13 kR_0 sR_0 rfl dX12_lowersDear_133 ?_
    refine g_iload_1 E dX12_lowersDear_136 ?_
    refine g_iald E kR_1 sR_1 (by decide) h.1 dX12_lowersDear_137 ?_
    replace h := h.2
    refine g_iload_2 E dX12_lowersDear_138 ?_
    refine g_iload_3 E dX12_lowersDear_139 ?_
    refine g_callsI E my_X12_item ms_X12_item ml_RX12_282 (rm_ok (by decide) (by decide)) ⟨Nat.zero_le _, Nat.zero_le _⟩ (m_X12_item E.2.2.1 (aR_1 hσ12 _) c2 c3 hσ12 h) rfl rfl (Nat.le_of_ble_eq_true rfl) dX12_lowersDear_140 (fun r13 σ14 cr13 hσ14 h => ?_)
    refine g_iload_4 E dX12_lowersDear_143 ?_
    refine g_iast E kR_20 sR_20 (by decide) h.1 dX12_lowersDear_145 (g_nmS (fun σ15 eσ15 => ?_))
    replace h := h.2 σ15 eσ15
    have hσ15 : CanS shR NR σ15 := by rw [eσ15]; exact wR_20 hσ14 cv10
    refine g_iconst E dX12_lowersDear_146 ?_
    exact g_zret E hr (Or.inr rfl) h hσ15 dX12_lowersDear_147
  · replace h := h.2 hc
    refine g_iconst E dX12_lowersDear_126 ?_
    exact g_zret E hr (Or.inl rfl) h hσ12 dX12_lowersDear_127
set_option maxHeartbeats 4000000 in
set_option maxRecDepth 100000 in
theorem t_X12_lowersDear_l34 (E : Ev p s m args meth c cX12_lowersDear 6 RX12 A0 D cA ad NR Z) (hr : meth.sig.returnType = (some .boolean)) : ∀ (n : Nat) (x1 : Int) (x2 : Int) (x3 : Int) (x4 : Int) (x5 : Int) (σ : St), C32 x1 → C32 x2 → C32 x3 → C32 x4 → C32 x5 → CanS shR NR σ → wp_X12_lowersDear_l34 Q n x1 x2 x3 x4 x5 σ → G p l e (rmL 4 0 0) s m args below meth c 6 A0 D cA ad shR NR 0 0 (MQ below (QIc D cA ad shR NR Q A0) args s 0 0 A0) σ 34 [some (.ref (ad 0)), some (vI x1), some (vI x2), some (vI x3), some (vI x4), some (vI x5)] [] := by
  intro n
  induction n with
  | zero => intro _ _ _ _ _ _ _ _ _ _ _ _ h; exact h.elim
  | succ n ih =>
    intro x1 x2 x3 x4 x5 σ c1 c2 c3 c4 c5 hσ h
    unfold wp_X12_lowersDear_l34 at h
    refine g_iload_5 E dX12_lowersDear_34 ?_
    refine g_iload_3 E dX12_lowersDear_36 ?_
    refine g_icmp_ge E c5 c3 djX12_lowersDear_37 (fun hc => ?_) (fun hc => ?_)
    · replace h := h.1 hc
      exact (t_X12_lowersDear_b92 E hr x1 x2 x3 x4 σ c1 c2 c3 c4 hσ h).weak (w_k (w_k (w_k (w_k (w_k (w_d w_n))))))
    · replace h := h.2 hc
      refine g_aload_0 E dX12_lowersDear_40 ?_
      refine g_getR E fl_RX12_20 kR_0 sR_0 rfl dX12_lowersDear_41 ?_
      refine g_iload_1 E dX12_lowersDear_44 ?_
      refine g_iald E kR_3 sR_3 (by decide) h.1 dX12_lowersDear_45 ?_
      replace h := h.2
      refine g_iconst E dX12_lowersDear_46 ?_
      refine g_icmp_eq E (aR_3 hσ _) cl_m1 djX12_lowersDear_47 (fun hc => ?_) (fun hc => ?_)
      · replace h := h.1 hc
        exact (t_X12_lowersDear_b92 E hr x1 x2 x3 x4 σ c1 c2 c3 c4 hσ h).weak (w_k (w_k (w_k (w_k (w_k (w_d w_n))))))
      · replace h := h.2 hc
        refine g_iload_4 E dX12_lowersDear_50 ?_
        refine g_aload_0 E dX12_lowersDear_52 ?_
        refine g_aload_0 E dX12_lowersDear_53 ?_
        refine g_getR E fl_RX12_17 kR_0 sR_0 rfl dX12_lowersDear_54 ?_
        refine g_iload_1 E dX12_lowersDear_57 ?_
        refine g_iald E kR_2 sR_2 (by decide) h.1 dX12_lowersDear_58 ?_
        replace h := h.2
        refine g_iload_2 E dX12_lowersDear_59 ?_
        refine g_iload_5 E dX12_lowersDear_60 ?_
        refine g_callvI E my_X12_dearPart mi_X12_dearPart msel_X12_dearPart ml_RX12_371 (rm_ok (by decide) (by decide)) ⟨Nat.zero_le _, Nat.zero_le _⟩ kR_0 sR_0 rfl (m_X12_dearPart E.2.2.1 (aR_2 hσ _) c2 c5 hσ h) rfl rfl (Nat.le_of_ble_eq_true rfl) dX12_lowersDear_62 (fun r4 σ5 cr4 hσ5 h => ?_)
        refine g_aload_0 E dX12_lowersDear_65 ?_
        refine g_aload_0 E dX12_lowersDear_66 ?_
        refine g_getR E fl_RX12_20 kR_0 sR_0 rfl dX12_lowersDear_67 ?_
        refine g_iload_1 E dX12_lowersDear_70 ?_
        refine g_iald E kR_3 sR_3 (by decide) h.1 dX12_lowersDear_71 ?_
        replace h := h.2
        refine g_iload_5 E dX12_lowersDear_72 ?_
        refine g_iload_3 E dX12_lowersDear_74 ?_
        refine g_callvI E my_X12_dearPart mi_X12_dearPart msel_X12_dearPart ml_RX12_371 (rm_ok (by decide) (by decide)) ⟨Nat.zero_le _, Nat.zero_le _⟩ kR_0 sR_0 rfl (m_X12_dearPart E.2.2.1 (aR_3 hσ5 _) c5 c3 hσ5 h) rfl rfl (Nat.le_of_ble_eq_true rfl) dX12_lowersDear_75 (fun r6 σ7 cr6 hσ7 h => ?_)
        refine g_mmax E ml_RX12_374 cr4 cr6 (Nat.le_of_ble_eq_true rfl) (rm_1 4) ⟨Nat.zero_le _, Nat.zero_le _⟩ dX12_lowersDear_78 ?_
        refine g_mmin E ml_RX12_179 c4 (c32_max cr4 cr6) (Nat.le_of_ble_eq_true rfl) (rm_1 4) ⟨Nat.zero_le _, Nat.zero_le _⟩ dX12_lowersDear_81 ?_
        refine g_nmI (fun v8 ev8 => ?_)
        replace h := h v8 ev8
        have cv8 : C32 v8 := by rw [ev8]; exact (c32_min c4 (c32_max cr4 cr6))
        refine g_istore_4 E rfl (by decide) dX12_lowersDear_84 ?_
        refine g_iinc_5 E rfl (by decide) dX12_lowersDear_86 (fun v9 ev9 => ?_)
        replace h := h v9 ev9
        have cv9 : C32 v9 := by rw [ev9]; exact c32_w _
        refine g_goto E djX12_lowersDear_89 ?_
        exact (ih x1 x2 x3 v8 v9 σ7 c1 c2 c3 cv8 cv9 hσ7 h).weak (w_k (w_k (w_k (w_k (w_k (w_k w_n))))))
set_option maxHeartbeats 4000000 in
set_option maxRecDepth 100000 in
theorem t_X12_lowersDear_b29 (E : Ev p s m args meth c cX12_lowersDear 6 RX12 A0 D cA ad NR Z) (hr : meth.sig.returnType = (some .boolean)) (x1 : Int) (x2 : Int) (x3 : Int) (x4 : Int) (σ : St) (c1 : C32 x1) (c2 : C32 x2) (c3 : C32 x3) (c4 : C32 x4) (hσ : CanS shR NR σ) (h : wp_X12_lowersDear_b29 Q x1 x2 x3 x4 σ) : G p l e (rmL 4 0 0) s m args below meth c 6 A0 D cA ad shR NR 0 0 (MQ below (QIc D cA ad shR NR Q A0) args s 0 0 A0) σ 29 [some (.ref (ad 0)), some (vI x1), some (vI x2), some (vI x3), some (vI x4), none] [] := by
  unfold wp_X12_lowersDear_b29 at h
  refine g_iload_2 E dX12_lowersDear_29 ?_
  refine g_iconst E dX12_lowersDear_30 ?_
  refine g_iadd E dX12_lowersDear_31 ?_
  refine g_nmI (fun v3 ev3 => ?_)
  replace h := h v3 ev3
  have cv3 : C32 v3 := by rw [ev3]; exact (c32_w _)
  refine g_istore_5 E rfl (by decide) dX12_lowersDear_32 ?_
  exact (t_X12_lowersDear_l34 E hr bigN x1 x2 x3 x4 v3 σ c1 c2 c3 c4 cv3 hσ h).weak (w_k (w_k (w_k (w_k (w_k (w_k w_n))))))
set_option maxHeartbeats 4000000 in
set_option maxRecDepth 100000 in
theorem t_X12_lowersDear (E : Ev p s m args meth c cX12_lowersDear 6 RX12 A0 D cA ad NR Z) (hr : meth.sig.returnType = (some .boolean)) (x1 : Int) (x2 : Int) (x3 : Int) (σ : St) (c1 : C32 x1) (c2 : C32 x2) (c3 : C32 x3) (hσ : CanS shR NR σ) (h : wp_X12_lowersDear x1 x2 x3 σ Q) : G p l e (rmL 4 0 0) s m args below meth c 6 A0 D cA ad shR NR 0 0 (MQ below (QIc D cA ad shR NR Q A0) args s 0 0 A0) σ 0 [some (.ref (ad 0)), some (vI x1), some (vI x2), some (vI x3), none, none] [] := by
  unfold wp_X12_lowersDear at h
  refine g_ldcw (n := 1000000000) E wc_RX12_286 dX12_lowersDear_0 ?_
  refine g_istore_4 E rfl (by decide) dX12_lowersDear_3 ?_
  refine g_aload_0 E dX12_lowersDear_5 ?_
  refine g_getR E fl_RX12_20 kR_0 sR_0 rfl dX12_lowersDear_6 ?_
  refine g_iload_1 E dX12_lowersDear_9 ?_
  refine g_iald E kR_3 sR_3 (by decide) h.1 dX12_lowersDear_10 ?_
  replace h := h.2
  refine g_iconst E dX12_lowersDear_11 ?_
  refine g_icmp_ne E (aR_3 hσ _) cl_m1 djX12_lowersDear_12 (fun hc => ?_) (fun hc => ?_)
  · replace h := h.1 hc
    exact (t_X12_lowersDear_b29 E hr x1 x2 x3 1000000000 σ c1 c2 c3 cl_1000000000 hσ h).weak (w_k (w_k (w_k (w_k (w_k (w_d w_n))))))
  · replace h := h.2 hc
    refine g_aload_0 E dX12_lowersDear_15 ?_
    refine g_aload_0 E dX12_lowersDear_16 ?_
    refine g_getR E fl_RX12_17 kR_0 sR_0 rfl dX12_lowersDear_17 ?_
    refine g_iload_1 E dX12_lowersDear_20 ?_
    refine g_iald E kR_2 sR_2 (by decide) h.1 dX12_lowersDear_21 ?_
    replace h := h.2
    refine g_iload_2 E dX12_lowersDear_22 ?_
    refine g_iload_3 E dX12_lowersDear_23 ?_
    refine g_callvI E my_X12_dearPart mi_X12_dearPart msel_X12_dearPart ml_RX12_371 (rm_ok (by decide) (by decide)) ⟨Nat.zero_le _, Nat.zero_le _⟩ kR_0 sR_0 rfl (m_X12_dearPart E.2.2.1 (aR_2 hσ _) c2 c3 hσ h) rfl rfl (Nat.le_of_ble_eq_true rfl) dX12_lowersDear_24 (fun r1 σ2 cr1 hσ2 h => ?_)
    refine g_istore_4 E rfl (by decide) dX12_lowersDear_27 ?_
    exact (t_X12_lowersDear_b29 E hr x1 x2 x3 r1 σ2 c1 c2 c3 cr1 hσ2 h).weak (w_k (w_k (w_k (w_k (w_k (w_d w_n))))))
end
theorem m_X12_lowersDear {Z : (Nat → Nat) × (Nat → Nat)} {l : Launch} {D : va_G} {cA : Nat → ClassId} {ad : Nat → Nat} {x1 x2 x3 : Int} {σ : St} {Q : Int → St → Prop} (hA : AdOk NR ad) (c1 : C32 x1) (c2 : C32 x2) (c3 : C32 x3) (hσ : CanS shR NR σ) (h : wp_X12_lowersDear x1 x2 x3 σ Q) : KtI Z l D cA ad shR NR yX12_lowersDear cX12_lowersDear 6 (some .boolean) 4 [.ref (ad 0), vI x1, vI x2, vI x3] σ Q :=
  KtI.of my_X12_lowersDear hA [some (.ref (ad 0)), some (vI x1), some (vI x2), some (vI x3), none, none] (Nat.le_of_ble_eq_true rfl) rfl (fun p e s m args below meth c A0 E hr => t_X12_lowersDear E hr x1 x2 x3 σ c1 c2 c3 hσ h)
theorem dX12_laysDear_0 : Dc cX12_laysDear 0 (.iconst 1) 1 1 := ⟨by decide +kernel, rfl⟩
theorem dX12_laysDear_1 : Dc cX12_laysDear 1 (.istore_n 3) 1 2 := ⟨by decide +kernel, rfl⟩
theorem dX12_laysDear_2 : Dc cX12_laysDear 2 (.iload_n 3) 1 3 := ⟨by decide +kernel, rfl⟩
theorem djX12_laysDear_3 : Dj cX12_laysDear 3 (.ifCond .eq 56) 3 6 56 59 := ⟨by decide +kernel, rfl, by decide⟩
theorem dX12_laysDear_6 : Dc cX12_laysDear 6 (.iconst 0) 1 7 := ⟨by decide +kernel, rfl⟩
theorem dX12_laysDear_7 : Dc cX12_laysDear 7 (.istore_n 3) 1 8 := ⟨by decide +kernel, rfl⟩
theorem dX12_laysDear_8 : Dc cX12_laysDear 8 (.iconst 0) 1 9 := ⟨by decide +kernel, rfl⟩
theorem dX12_laysDear_9 : Dc cX12_laysDear 9 (.istore 4) 2 11 := ⟨by decide +kernel, rfl⟩
theorem dX12_laysDear_11 : Dc cX12_laysDear 11 (.iload 4) 2 13 := ⟨by decide +kernel, rfl⟩
theorem dX12_laysDear_13 : Dc cX12_laysDear 13 (.aload_n 0) 1 14 := ⟨by decide +kernel, rfl⟩
theorem dX12_laysDear_14 : Dc cX12_laysDear 14 (.getfield 252) 3 17 := ⟨by decide +kernel, rfl⟩
theorem djX12_laysDear_17 : Dj cX12_laysDear 17 (.if_icmp .ge 39) 3 20 39 56 := ⟨by decide +kernel, rfl, by decide⟩
theorem dX12_laysDear_20 : Dc cX12_laysDear 20 (.aload_n 0) 1 21 := ⟨by decide +kernel, rfl⟩
theorem dX12_laysDear_21 : Dc cX12_laysDear 21 (.iload 4) 2 23 := ⟨by decide +kernel, rfl⟩
theorem dX12_laysDear_23 : Dc cX12_laysDear 23 (.invokevirtual 298) 3 26 := ⟨by decide +kernel, rfl⟩
theorem djX12_laysDear_26 : Dj cX12_laysDear 26 (.ifCond .eq 24) 3 29 24 50 := ⟨by decide +kernel, rfl, by decide⟩
theorem dX12_laysDear_29 : Dc cX12_laysDear 29 (.aload_n 0) 1 30 := ⟨by decide +kernel, rfl⟩
theorem dX12_laysDear_30 : Dc cX12_laysDear 30 (.iload 4) 2 32 := ⟨by decide +kernel, rfl⟩
theorem dX12_laysDear_32 : Dc cX12_laysDear 32 (.iload_n 1) 1 33 := ⟨by decide +kernel, rfl⟩
theorem dX12_laysDear_33 : Dc cX12_laysDear 33 (.iload_n 2) 1 34 := ⟨by decide +kernel, rfl⟩
theorem dX12_laysDear_34 : Dc cX12_laysDear 34 (.invokevirtual 377) 3 37 := ⟨by decide +kernel, rfl⟩
theorem djX12_laysDear_37 : Dj cX12_laysDear 37 (.ifCond .ne 7) 3 40 7 44 := ⟨by decide +kernel, rfl, by decide⟩
theorem dX12_laysDear_40 : Dc cX12_laysDear 40 (.iload_n 3) 1 41 := ⟨by decide +kernel, rfl⟩
theorem djX12_laysDear_41 : Dj cX12_laysDear 41 (.ifCond .eq 7) 3 44 7 48 := ⟨by decide +kernel, rfl, by decide⟩
theorem dX12_laysDear_44 : Dc cX12_laysDear 44 (.iconst 1) 1 45 := ⟨by decide +kernel, rfl⟩
theorem djX12_laysDear_45 : Dj cX12_laysDear 45 (.goto 4) 3 48 4 49 := ⟨by decide +kernel, rfl, by decide⟩
theorem dX12_laysDear_48 : Dc cX12_laysDear 48 (.iconst 0) 1 49 := ⟨by decide +kernel, rfl⟩
theorem dX12_laysDear_49 : Dc cX12_laysDear 49 (.istore_n 3) 1 50 := ⟨by decide +kernel, rfl⟩
theorem dX12_laysDear_50 : Dc cX12_laysDear 50 (.iinc 4 1) 3 53 := ⟨by decide +kernel, rfl⟩
theorem djX12_laysDear_53 : Dj cX12_laysDear 53 (.goto (-42)) 3 56 (-42) 11 := ⟨by decide +kernel, rfl, by decide⟩
theorem djX12_laysDear_56 : Dj cX12_laysDear 56 (.goto (-54)) 3 59 (-54) 2 := ⟨by decide +kernel, rfl, by decide⟩
theorem dX12_laysDear_59 : Dc cX12_laysDear 59 (.return_) 1 60 := ⟨by decide +kernel, rfl⟩
section
variable {p : Program} {l : Launch} {e : Env} {s : State} {m : MethodId} {args : Array Value} {below : List Frame} {meth : Method} {c : Code} {A0 : Nat → Prop} {D : va_G} {cA : Nat → ClassId} {ad : Nat → Nat} {Z : (Nat → Nat) × (Nat → Nat)} {Q : Int → St → Prop}
set_option maxHeartbeats 4000000 in
set_option maxRecDepth 100000 in
theorem t_X12_laysDear_b50 (E : Ev p s m args meth c cX12_laysDear 5 RX12 A0 D cA ad NR Z) (hr : meth.sig.returnType = none) {K2 : Int → Int → Int → St → Prop} (hK2 : ∀ (x1 : Int) (x2 : Int) (x3 : Int) (σ : St), C32 x1 → C32 x2 → C32 x3 → CanS shR NR σ → K2 x1 x2 x3 σ → G p l e (rmL 5 0 0) s m args below meth c 5 A0 D cA ad shR NR 0 0 (MQ below (QVc D cA ad shR NR Q A0) args s 0 0 A0) σ 2 [some (.ref (ad 0)), some (vI x1), some (vI x2), some (vI x3), none] []) {K11 : Int → Int → Int → Int → St → Prop} (hK11 : ∀ (x1 : Int) (x2 : Int) (x3 : Int) (x4 : Int) (σ : St), C32 x1 → C32 x2 → C32 x3 → C32 x4 → CanS shR NR σ → K11 x1 x2 x3 x4 σ → G p l e (rmL 5 0 0) s m args below meth c 5 A0 D cA ad shR NR 0 0 (MQ below (QVc D cA ad shR NR Q A0) args s 0 0 A0) σ 11 [some (.ref (ad 0)), some (vI x1), some (vI x2), some (vI x3), some (vI x4)] []) (x1 : Int) (x2 : Int) (x3 : Int) (x4 : Int) (σ : St) (c1 : C32 x1) (c2 : C32 x2) (c3 : C32 x3) (c4 : C32 x4) (hσ : CanS shR NR σ) (h : wp_X12_laysDear_b50 Q K2 K11 x1 x2 x3 x4 σ) : G p l e (rmL 5 0 0) s m args below meth c 5 A0 D cA ad shR NR 0 0 (MQ below (QVc D cA ad shR NR Q A0) args s 0 0 A0) σ 50 [some (.ref (ad 0)), some (vI x1), some (vI x2), some (vI x3), some (vI x4)] [] := by
  unfold wp_X12_laysDear_b50 at h
  refine g_iinc_4 E rfl (by decide) dX12_laysDear_50 (fun v5 ev5 => ?_)
  replace h := h v5 ev5
  have cv5 : C32 v5 := by rw [ev5]; exact c32_w _
  refine g_goto E djX12_laysDear_53 ?_
  exact (hK11 x1 x2 x3 v5 σ c1 c2 c3 cv5 hσ h).weak (w_k (w_k (w_k (w_k (w_k w_n)))))
set_option maxHeartbeats 4000000 in
set_option maxRecDepth 100000 in
theorem t_X12_laysDear_b49 (E : Ev p s m args meth c cX12_laysDear 5 RX12 A0 D cA ad NR Z) (hr : meth.sig.returnType = none) {K2 : Int → Int → Int → St → Prop} (hK2 : ∀ (x1 : Int) (x2 : Int) (x3 : Int) (σ : St), C32 x1 → C32 x2 → C32 x3 → CanS shR NR σ → K2 x1 x2 x3 σ → G p l e (rmL 5 0 0) s m args below meth c 5 A0 D cA ad shR NR 0 0 (MQ below (QVc D cA ad shR NR Q A0) args s 0 0 A0) σ 2 [some (.ref (ad 0)), some (vI x1), some (vI x2), some (vI x3), none] []) {K11 : Int → Int → Int → Int → St → Prop} (hK11 : ∀ (x1 : Int) (x2 : Int) (x3 : Int) (x4 : Int) (σ : St), C32 x1 → C32 x2 → C32 x3 → C32 x4 → CanS shR NR σ → K11 x1 x2 x3 x4 σ → G p l e (rmL 5 0 0) s m args below meth c 5 A0 D cA ad shR NR 0 0 (MQ below (QVc D cA ad shR NR Q A0) args s 0 0 A0) σ 11 [some (.ref (ad 0)), some (vI x1), some (vI x2), some (vI x3), some (vI x4)] []) (x1 : Int) (x2 : Int) (x4 : Int) (s0 : Int) (σ : St) (c1 : C32 x1) (c2 : C32 x2) (c4 : C32 x4) (cs0 : C32 s0) (hσ : CanS shR NR σ) (h : wp_X12_laysDear_b49 Q K2 K11 x1 x2 x4 s0 σ) : G p l e (rmL 5 0 0) s m args below meth c 5 A0 D cA ad shR NR 0 0 (MQ below (QVc D cA ad shR NR Q A0) args s 0 0 A0) σ 49 [some (.ref (ad 0)), some (vI x1), some (vI x2), none, some (vI x4)] [vI s0] := by
  unfold wp_X12_laysDear_b49 at h
  refine g_istore_3 E rfl (by decide) dX12_laysDear_49 ?_
  exact (t_X12_laysDear_b50 E hr hK2 hK11 x1 x2 s0 x4 σ c1 c2 cs0 c4 hσ h).weak (w_k (w_k (w_k (w_k (w_k w_n)))))
set_option maxHeartbeats 4000000 in
set_option maxRecDepth 100000 in
theorem t_X12_laysDear_b44 (E : Ev p s m args meth c cX12_laysDear 5 RX12 A0 D cA ad NR Z) (hr : meth.sig.returnType = none) {K2 : Int → Int → Int → St → Prop} (hK2 : ∀ (x1 : Int) (x2 : Int) (x3 : Int) (σ : St), C32 x1 → C32 x2 → C32 x3 → CanS shR NR σ → K2 x1 x2 x3 σ → G p l e (rmL 5 0 0) s m args below meth c 5 A0 D cA ad shR NR 0 0 (MQ below (QVc D cA ad shR NR Q A0) args s 0 0 A0) σ 2 [some (.ref (ad 0)), some (vI x1), some (vI x2), some (vI x3), none] []) {K11 : Int → Int → Int → Int → St → Prop} (hK11 : ∀ (x1 : Int) (x2 : Int) (x3 : Int) (x4 : Int) (σ : St), C32 x1 → C32 x2 → C32 x3 → C32 x4 → CanS shR NR σ → K11 x1 x2 x3 x4 σ → G p l e (rmL 5 0 0) s m args below meth c 5 A0 D cA ad shR NR 0 0 (MQ below (QVc D cA ad shR NR Q A0) args s 0 0 A0) σ 11 [some (.ref (ad 0)), some (vI x1), some (vI x2), some (vI x3), some (vI x4)] []) (x1 : Int) (x2 : Int) (x4 : Int) (σ : St) (c1 : C32 x1) (c2 : C32 x2) (c4 : C32 x4) (hσ : CanS shR NR σ) (h : wp_X12_laysDear_b44 Q K2 K11 x1 x2 x4 σ) : G p l e (rmL 5 0 0) s m args below meth c 5 A0 D cA ad shR NR 0 0 (MQ below (QVc D cA ad shR NR Q A0) args s 0 0 A0) σ 44 [some (.ref (ad 0)), some (vI x1), some (vI x2), none, some (vI x4)] [] := by
  unfold wp_X12_laysDear_b44 at h
  refine g_iconst E dX12_laysDear_44 ?_
  refine g_goto E djX12_laysDear_45 ?_
  exact (t_X12_laysDear_b49 E hr hK2 hK11 x1 x2 x4 1 σ c1 c2 c4 cl_1 hσ h).weak (w_k (w_k (w_k (w_d (w_k w_n)))))
set_option maxHeartbeats 4000000 in
set_option maxRecDepth 100000 in
theorem t_X12_laysDear_l11 (E : Ev p s m args meth c cX12_laysDear 5 RX12 A0 D cA ad NR Z) (hr : meth.sig.returnType = none) {K2 : Int → Int → Int → St → Prop} (hK2 : ∀ (x1 : Int) (x2 : Int) (x3 : Int) (σ : St), C32 x1 → C32 x2 → C32 x3 → CanS shR NR σ → K2 x1 x2 x3 σ → G p l e (rmL 5 0 0) s m args below meth c 5 A0 D cA ad shR NR 0 0 (MQ below (QVc D cA ad shR NR Q A0) args s 0 0 A0) σ 2 [some (.ref (ad 0)), some (vI x1), some (vI x2), some (vI x3), none] []) : ∀ (n : Nat) (x1 : Int) (x2 : Int) (x3 : Int) (x4 : Int) (σ : St), C32 x1 → C32 x2 → C32 x3 → C32 x4 → CanS shR NR σ → wp_X12_laysDear_l11 Q K2 n x1 x2 x3 x4 σ → G p l e (rmL 5 0 0) s m args below meth c 5 A0 D cA ad shR NR 0 0 (MQ below (QVc D cA ad shR NR Q A0) args s 0 0 A0) σ 11 [some (.ref (ad 0)), some (vI x1), some (vI x2), some (vI x3), some (vI x4)] [] := by
  intro n
  induction n with
  | zero => intro _ _ _ _ _ _ _ _ _ _ h; exact h.elim
  | succ n ih =>
    intro x1 x2 x3 x4 σ c1 c2 c3 c4 hσ h
    unfold wp_X12_laysDear_l11 at h
    refine g_iload_4 E dX12_laysDear_11 ?_
    refine g_aload_0 E dX12_laysDear_13 ?_
    refine g_getI E fl_RX12_252 kR_0 sR_0 rfl dX12_laysDear_14 ?_
    refine g_icmp_ge E c4 (fR_0_1 hσ) djX12_laysDear_17 (fun hc => ?_) (fun hc => ?_)
    · replace h := h.1 hc
      refine g_goto E djX12_laysDear_56 ?_
      exact (hK2 x1 x2 x3 σ c1 c2 c3 hσ h).weak (w_k (w_k (w_k (w_k (w_d w_n)))))
    · replace h := h.2 hc
      refine g_aload_0 E dX12_laysDear_20 ?_
      refine g_iload_4 E dX12_laysDear_21 ?_
      refine g_callvI E my_X12_isIn mi_X12_isIn msel_X12_isIn ml_RX12_298 (rm_ok (by decide) (by decide)) ⟨Nat.zero_le _, Nat.zero_le _⟩ kR_0 sR_0 rfl (m_X12_isIn E.2.2.1 c4 hσ h) rfl rfl (Nat.le_of_ble_eq_true rfl) dX12_laysDear_23 (fun r1 σ2 cr1 hσ2 h => ?_)
      refine g_if_eq E cr1 djX12_laysDear_26 (fun hc => ?_) (fun hc => ?_)
      · replace h := h.1 hc
        exact (t_X12_laysDear_b50 E hr hK2 ih x1 x2 x3 x4 σ2 c1 c2 c3 c4 hσ2 h).weak (w_k (w_k (w_k (w_k (w_k w_n)))))
      · replace h := h.2 hc
        refine g_aload_0 E dX12_laysDear_29 ?_
        refine g_iload_4 E dX12_laysDear_30 ?_
        refine g_iload_1 E dX12_laysDear_32 ?_
        refine g_iload_2 E dX12_laysDear_33 ?_
        refine g_callvI E my_X12_lowersDear mi_X12_lowersDear msel_X12_lowersDear ml_RX12_377 (rm_ok (by decide) (by decide)) ⟨Nat.zero_le _, Nat.zero_le _⟩ kR_0 sR_0 rfl (m_X12_lowersDear E.2.2.1 c4 c1 c2 hσ2 h) rfl rfl (Nat.le_of_ble_eq_true rfl) dX12_laysDear_34 (fun r3 σ4 cr3 hσ4 h => ?_)
        refine g_if_ne E cr3 djX12_laysDear_37 (fun hc => ?_) (fun hc => ?_)
        · replace h := h.1 hc
          exact (t_X12_laysDear_b44 E hr hK2 ih x1 x2 x4 σ4 c1 c2 c4 hσ4 h).weak (w_k (w_k (w_k (w_d (w_k w_n)))))
        · replace h := h.2 hc
          refine g_iload_3 E dX12_laysDear_40 ?_
          refine g_if_eq E c3 djX12_laysDear_41 (fun hc => ?_) (fun hc => ?_)
          · replace h := h.1 hc
            refine g_iconst E dX12_laysDear_48 ?_
            exact (t_X12_laysDear_b49 E hr hK2 ih x1 x2 x4 0 σ4 c1 c2 c4 cl_0 hσ4 h).weak (w_k (w_k (w_k (w_d (w_k w_n)))))
          · replace h := h.2 hc
            exact (t_X12_laysDear_b44 E hr hK2 ih x1 x2 x4 σ4 c1 c2 c4 hσ4 h).weak (w_k (w_k (w_k (w_d (w_k w_n)))))
set_option maxHeartbeats 4000000 in
set_option maxRecDepth 100000 in
theorem t_X12_laysDear_l2 (E : Ev p s m args meth c cX12_laysDear 5 RX12 A0 D cA ad NR Z) (hr : meth.sig.returnType = none) : ∀ (n : Nat) (x1 : Int) (x2 : Int) (x3 : Int) (σ : St), C32 x1 → C32 x2 → C32 x3 → CanS shR NR σ → wp_X12_laysDear_l2 Q n x1 x2 x3 σ → G p l e (rmL 5 0 0) s m args below meth c 5 A0 D cA ad shR NR 0 0 (MQ below (QVc D cA ad shR NR Q A0) args s 0 0 A0) σ 2 [some (.ref (ad 0)), some (vI x1), some (vI x2), some (vI x3), none] [] := by
  intro n
  induction n with
  | zero => intro _ _ _ _ _ _ _ _ h; exact h.elim
  | succ n ih =>
    intro x1 x2 x3 σ c1 c2 c3 hσ h
    unfold wp_X12_laysDear_l2 at h
    refine g_iload_3 E dX12_laysDear_2 ?_
    refine g_if_eq E c3 djX12_laysDear_3 (fun hc => ?_) (fun hc => ?_)
    · replace h := h.1 hc
      exact g_vret E hr h hσ dX12_laysDear_59
    · replace h := h.2 hc
      refine g_iconst E dX12_laysDear_6 ?_
      refine g_istore_3 E rfl (by decide) dX12_laysDear_7 ?_
      refine g_iconst E dX12_laysDear_8 ?_
      refine g_istore_4 E rfl (by decide) dX12_laysDear_9 ?_
      exact (t_X12_laysDear_l11 E hr ih bigN x1 x2 0 0 σ c1 c2 cl_0 cl_0 hσ h).weak (w_k (w_k (w_k (w_k (w_k w_n)))))
set_option maxHeartbeats 4000000 in
set_option maxRecDepth 100000 in
theorem t_X12_laysDear (E : Ev p s m args meth c cX12_laysDear 5 RX12 A0 D cA ad NR Z) (hr : meth.sig.returnType = none) (x1 : Int) (x2 : Int) (σ : St) (c1 : C32 x1) (c2 : C32 x2) (hσ : CanS shR NR σ) (h : wp_X12_laysDear x1 x2 σ Q) : G p l e (rmL 5 0 0) s m args below meth c 5 A0 D cA ad shR NR 0 0 (MQ below (QVc D cA ad shR NR Q A0) args s 0 0 A0) σ 0 [some (.ref (ad 0)), some (vI x1), some (vI x2), none, none] [] := by
  unfold wp_X12_laysDear at h
  refine g_iconst E dX12_laysDear_0 ?_
  refine g_istore_3 E rfl (by decide) dX12_laysDear_1 ?_
  exact (t_X12_laysDear_l2 E hr bigN x1 x2 1 σ c1 c2 cl_1 hσ h).weak (w_k (w_k (w_k (w_k (w_d w_n)))))
end
theorem m_X12_laysDear {Z : (Nat → Nat) × (Nat → Nat)} {l : Launch} {D : va_G} {cA : Nat → ClassId} {ad : Nat → Nat} {x1 x2 : Int} {σ : St} {Q : Int → St → Prop} (hA : AdOk NR ad) (c1 : C32 x1) (c2 : C32 x2) (hσ : CanS shR NR σ) (h : wp_X12_laysDear x1 x2 σ Q) : KtV Z l D cA ad shR NR yX12_laysDear cX12_laysDear 5 none 5 [.ref (ad 0), vI x1, vI x2] σ Q :=
  KtV.of my_X12_laysDear hA [some (.ref (ad 0)), some (vI x1), some (vI x2), none, none] (Nat.le_of_ble_eq_true rfl) rfl (fun p e s m args below meth c A0 E hr => t_X12_laysDear E hr x1 x2 σ c1 c2 hσ h)
theorem dX12_dearest_0 : Dc cX12_dearest 0 (.aload_n 0) 1 1 := ⟨by decide +kernel, rfl⟩
theorem dX12_dearest_1 : Dc cX12_dearest 1 (.iload_n 1) 1 2 := ⟨by decide +kernel, rfl⟩
theorem dX12_dearest_2 : Dc cX12_dearest 2 (.iload_n 2) 1 3 := ⟨by decide +kernel, rfl⟩
theorem dX12_dearest_3 : Dc cX12_dearest 3 (.iload_n 3) 1 4 := ⟨by decide +kernel, rfl⟩
theorem dX12_dearest_4 : Dc cX12_dearest 4 (.invokevirtual 318) 3 7 := ⟨by decide +kernel, rfl⟩
theorem djX12_dearest_7 : Dj cX12_dearest 7 (.ifCond .ne 6) 3 10 6 13 := ⟨by decide +kernel, rfl, by decide⟩
theorem dX12_dearest_10 : Dc cX12_dearest 10 (.bipush (-2)) 2 12 := ⟨by decide +kernel, rfl⟩
theorem dX12_dearest_12 : Dc cX12_dearest 12 (.ireturn) 1 13 := ⟨by decide +kernel, rfl⟩
theorem dX12_dearest_13 : Dc cX12_dearest 13 (.aload_n 0) 1 14 := ⟨by decide +kernel, rfl⟩
theorem dX12_dearest_14 : Dc cX12_dearest 14 (.invokevirtual 321) 3 17 := ⟨by decide +kernel, rfl⟩
theorem dX12_dearest_17 : Dc cX12_dearest 17 (.iconst 0) 1 18 := ⟨by decide +kernel, rfl⟩
theorem dX12_dearest_18 : Dc cX12_dearest 18 (.istore 4) 2 20 := ⟨by decide +kernel, rfl⟩
theorem dX12_dearest_20 : Dc cX12_dearest 20 (.iload 4) 2 22 := ⟨by decide +kernel, rfl⟩
theorem dX12_dearest_22 : Dc cX12_dearest 22 (.sipush 768) 3 25 := ⟨by decide +kernel, rfl⟩
theorem djX12_dearest_25 : Dj cX12_dearest 25 (.if_icmp .ge 19) 3 28 19 44 := ⟨by decide +kernel, rfl, by decide⟩
theorem dX12_dearest_28 : Dc cX12_dearest 28 (.aload_n 0) 1 29 := ⟨by decide +kernel, rfl⟩
theorem dX12_dearest_29 : Dc cX12_dearest 29 (.getfield 77) 3 32 := ⟨by decide +kernel, rfl⟩
theorem dX12_dearest_32 : Dc cX12_dearest 32 (.iload 4) 2 34 := ⟨by decide +kernel, rfl⟩
theorem dX12_dearest_34 : Dc cX12_dearest 34 (.ldc_w 286) 3 37 := ⟨by decide +kernel, rfl⟩
theorem dX12_dearest_37 : Dc cX12_dearest 37 (.iastore) 1 38 := ⟨by decide +kernel, rfl⟩
theorem dX12_dearest_38 : Dc cX12_dearest 38 (.iinc 4 1) 3 41 := ⟨by decide +kernel, rfl⟩
theorem djX12_dearest_41 : Dj cX12_dearest 41 (.goto (-21)) 3 44 (-21) 20 := ⟨by decide +kernel, rfl, by decide⟩
theorem dX12_dearest_44 : Dc cX12_dearest 44 (.iconst 1) 1 45 := ⟨by decide +kernel, rfl⟩
theorem dX12_dearest_45 : Dc cX12_dearest 45 (.istore 4) 2 47 := ⟨by decide +kernel, rfl⟩
theorem dX12_dearest_47 : Dc cX12_dearest 47 (.iload 4) 2 49 := ⟨by decide +kernel, rfl⟩
theorem dX12_dearest_49 : Dc cX12_dearest 49 (.aload_n 0) 1 50 := ⟨by decide +kernel, rfl⟩
theorem dX12_dearest_50 : Dc cX12_dearest 50 (.getfield 305) 3 53 := ⟨by decide +kernel, rfl⟩
theorem djX12_dearest_53 : Dj cX12_dearest 53 (.if_icmp .gt 41) 3 56 41 94 := ⟨by decide +kernel, rfl, by decide⟩
theorem dX12_dearest_56 : Dc cX12_dearest 56 (.iconst 0) 1 57 := ⟨by decide +kernel, rfl⟩
theorem dX12_dearest_57 : Dc cX12_dearest 57 (.istore 5) 2 59 := ⟨by decide +kernel, rfl⟩
theorem dX12_dearest_59 : Dc cX12_dearest 59 (.iload 5) 2 61 := ⟨by decide +kernel, rfl⟩
theorem dX12_dearest_61 : Dc cX12_dearest 61 (.iload 4) 2 63 := ⟨by decide +kernel, rfl⟩
theorem dX12_dearest_63 : Dc cX12_dearest 63 (.iadd) 1 64 := ⟨by decide +kernel, rfl⟩
theorem dX12_dearest_64 : Dc cX12_dearest 64 (.aload_n 0) 1 65 := ⟨by decide +kernel, rfl⟩
theorem dX12_dearest_65 : Dc cX12_dearest 65 (.getfield 305) 3 68 := ⟨by decide +kernel, rfl⟩
theorem djX12_dearest_68 : Dj cX12_dearest 68 (.if_icmp .gt 20) 3 71 20 88 := ⟨by decide +kernel, rfl, by decide⟩
theorem dX12_dearest_71 : Dc cX12_dearest 71 (.aload_n 0) 1 72 := ⟨by decide +kernel, rfl⟩
theorem dX12_dearest_72 : Dc cX12_dearest 72 (.iload 5) 2 74 := ⟨by decide +kernel, rfl⟩
theorem dX12_dearest_74 : Dc cX12_dearest 74 (.iload 5) 2 76 := ⟨by decide +kernel, rfl⟩
theorem dX12_dearest_76 : Dc cX12_dearest 76 (.iload 4) 2 78 := ⟨by decide +kernel, rfl⟩
theorem dX12_dearest_78 : Dc cX12_dearest 78 (.iadd) 1 79 := ⟨by decide +kernel, rfl⟩
theorem dX12_dearest_79 : Dc cX12_dearest 79 (.invokevirtual 380) 3 82 := ⟨by decide +kernel, rfl⟩
theorem dX12_dearest_82 : Dc cX12_dearest 82 (.iinc 5 1) 3 85 := ⟨by decide +kernel, rfl⟩
theorem djX12_dearest_85 : Dj cX12_dearest 85 (.goto (-26)) 3 88 (-26) 59 := ⟨by decide +kernel, rfl, by decide⟩
theorem dX12_dearest_88 : Dc cX12_dearest 88 (.iinc 4 1) 3 91 := ⟨by decide +kernel, rfl⟩
theorem djX12_dearest_91 : Dj cX12_dearest 91 (.goto (-44)) 3 94 (-44) 47 := ⟨by decide +kernel, rfl, by decide⟩
theorem dX12_dearest_94 : Dc cX12_dearest 94 (.aload_n 0) 1 95 := ⟨by decide +kernel, rfl⟩
theorem dX12_dearest_95 : Dc cX12_dearest 95 (.iload_n 1) 1 96 := ⟨by decide +kernel, rfl⟩
theorem dX12_dearest_96 : Dc cX12_dearest 96 (.iload_n 2) 1 97 := ⟨by decide +kernel, rfl⟩
theorem dX12_dearest_97 : Dc cX12_dearest 97 (.iload_n 3) 1 98 := ⟨by decide +kernel, rfl⟩
theorem dX12_dearest_98 : Dc cX12_dearest 98 (.invokevirtual 324) 3 101 := ⟨by decide +kernel, rfl⟩
theorem djX12_dearest_101 : Dj cX12_dearest 101 (.ifCond .eq 17) 3 104 17 118 := ⟨by decide +kernel, rfl, by decide⟩
theorem dX12_dearest_104 : Dc cX12_dearest 104 (.aload_n 0) 1 105 := ⟨by decide +kernel, rfl⟩
theorem dX12_dearest_105 : Dc cX12_dearest 105 (.getfield 77) 3 108 := ⟨by decide +kernel, rfl⟩
theorem dX12_dearest_108 : Dc cX12_dearest 108 (.iload_n 1) 1 109 := ⟨by decide +kernel, rfl⟩
theorem dX12_dearest_109 : Dc cX12_dearest 109 (.iload_n 2) 1 110 := ⟨by decide +kernel, rfl⟩
theorem dX12_dearest_110 : Dc cX12_dearest 110 (.iload_n 3) 1 111 := ⟨by decide +kernel, rfl⟩
theorem dX12_dearest_111 : Dc cX12_dearest 111 (.invokestatic 282) 3 114 := ⟨by decide +kernel, rfl⟩
theorem dX12_dearest_114 : Dc cX12_dearest 114 (.iaload) 1 115 := ⟨by decide +kernel, rfl⟩
theorem djX12_dearest_115 : Dj cX12_dearest 115 (.goto 4) 3 118 4 119 := ⟨by decide +kernel, rfl, by decide⟩
theorem dX12_dearest_118 : Dc cX12_dearest 118 (.iconst (-1)) 1 119 := ⟨by decide +kernel, rfl⟩
theorem dX12_dearest_119 : Dc cX12_dearest 119 (.ireturn) 1 120 := ⟨by decide +kernel, rfl⟩
section
variable {p : Program} {l : Launch} {e : Env} {s : State} {m : MethodId} {args : Array Value} {below : List Frame} {meth : Method} {c : Code} {A0 : Nat → Prop} {D : va_G} {cA : Nat → ClassId} {ad : Nat → Nat} {Z : (Nat → Nat) × (Nat → Nat)} {Q : Int → St → Prop}
set_option maxHeartbeats 4000000 in
set_option maxRecDepth 100000 in
theorem t_X12_dearest_l59 (E : Ev p s m args meth c cX12_dearest 6 RX12 A0 D cA ad NR Z) (hr : meth.sig.returnType = (some .int)) {K47 : Int → Int → Int → Int → St → Prop} (hK47 : ∀ (x1 : Int) (x2 : Int) (x3 : Int) (x4 : Int) (σ : St), C32 x1 → C32 x2 → C32 x3 → C32 x4 → CanS shR NR σ → K47 x1 x2 x3 x4 σ → G p l e (rmL 7 0 0) s m args below meth c 6 A0 D cA ad shR NR 0 0 (MQ below (QIc D cA ad shR NR Q A0) args s 0 0 A0) σ 47 [some (.ref (ad 0)), some (vI x1), some (vI x2), some (vI x3), some (vI x4), none] []) : ∀ (n : Nat) (x1 : Int) (x2 : Int) (x3 : Int) (x4 : Int) (x5 : Int) (σ : St), C32 x1 → C32 x2 → C32 x3 → C32 x4 → C32 x5 → CanS shR NR σ → wp_X12_dearest_l59 Q K47 n x1 x2 x3 x4 x5 σ → G p l e (rmL 7 0 0) s m args below meth c 6 A0 D cA ad shR NR 0 0 (MQ below (QIc D cA ad shR NR Q A0) args s 0 0 A0) σ 59 [some (.ref (ad 0)), some (vI x1), some (vI x2), some (vI x3), some (vI x4), some (vI x5)] [] := by
  intro n
  induction n with
  | zero => intro _ _ _ _ _ _ _ _ _ _ _ _ h; exact h.elim
  | succ n ih =>
    intro x1 x2 x3 x4 x5 σ c1 c2 c3 c4 c5 hσ h
    unfold wp_X12_dearest_l59 at h
    refine g_iload_5 E dX12_dearest_59 ?_
    refine g_iload_4 E dX12_dearest_61 ?_
    refine g_iadd E dX12_dearest_63 ?_
    refine g_aload_0 E dX12_dearest_64 ?_
    refine g_getI E fl_RX12_305 kR_0 sR_0 rfl dX12_dearest_65 ?_
    refine g_icmp_gt E (c32_w _) (fR_0_27 hσ) djX12_dearest_68 (fun hc => ?_) (fun hc => ?_)
    · replace h := h.1 hc
      refine g_iinc_4 E rfl (by decide) dX12_dearest_88 (fun v11 ev11 => ?_)
      replace h := h v11 ev11
      have cv11 : C32 v11 := by rw [ev11]; exact c32_w _
      refine g_goto E djX12_dearest_91 ?_
      exact (hK47 x1 x2 x3 v11 σ c1 c2 c3 cv11 hσ h).weak (w_k (w_k (w_k (w_k (w_k (w_d w_n))))))
    · replace h := h.2 hc
      refine g_aload_0 E dX12_dearest_71 ?_
      refine g_iload_5 E dX12_dearest_72 ?_
      refine g_iload_5 E dX12_dearest_74 ?_
      refine g_iload_4 E dX12_dearest_76 ?_
      refine g_iadd E dX12_dearest_78 ?_
      refine g_callvV E my_X12_laysDear mi_X12_laysDear msel_X12_laysDear ml_RX12_380 (rm_ok (by decide) (by decide)) ⟨Nat.zero_le _, Nat.zero_le _⟩ kR_0 sR_0 rfl (m_X12_laysDear E.2.2.1 c5 (c32_w _) hσ h) rfl rfl (Nat.le_of_ble_eq_true rfl) dX12_dearest_79 (fun σ13 r12 hσ13 h => ?_)
      refine g_iinc_5 E rfl (by decide) dX12_dearest_82 (fun v14 ev14 => ?_)
      replace h := h v14 ev14
      have cv14 : C32 v14 := by rw [ev14]; exact c32_w _
      refine g_goto E djX12_dearest_85 ?_
      exact (ih x1 x2 x3 x4 v14 σ13 c1 c2 c3 c4 cv14 hσ13 h).weak (w_k (w_k (w_k (w_k (w_k (w_k w_n))))))
set_option maxHeartbeats 4000000 in
set_option maxRecDepth 100000 in
theorem t_X12_dearest_l47 (E : Ev p s m args meth c cX12_dearest 6 RX12 A0 D cA ad NR Z) (hr : meth.sig.returnType = (some .int)) : ∀ (n : Nat) (x1 : Int) (x2 : Int) (x3 : Int) (x4 : Int) (σ : St), C32 x1 → C32 x2 → C32 x3 → C32 x4 → CanS shR NR σ → wp_X12_dearest_l47 Q n x1 x2 x3 x4 σ → G p l e (rmL 7 0 0) s m args below meth c 6 A0 D cA ad shR NR 0 0 (MQ below (QIc D cA ad shR NR Q A0) args s 0 0 A0) σ 47 [some (.ref (ad 0)), some (vI x1), some (vI x2), some (vI x3), some (vI x4), none] [] := by
  intro n
  induction n with
  | zero => intro _ _ _ _ _ _ _ _ _ _ h; exact h.elim
  | succ n ih =>
    intro x1 x2 x3 x4 σ c1 c2 c3 c4 hσ h
    unfold wp_X12_dearest_l47 at h
    refine g_iload_4 E dX12_dearest_47 ?_
    refine g_aload_0 E dX12_dearest_49 ?_
    refine g_getI E fl_RX12_305 kR_0 sR_0 rfl dX12_dearest_50 ?_
    refine g_icmp_gt E c4 (fR_0_27 hσ) djX12_dearest_53 (fun hc => ?_) (fun hc => ?_)
    · replace h := h.1 hc
      refine g_aload_0 E dX12_dearest_94 ?_
      refine g_iload_1 E dX12_dearest_95 ?_
      refine g_iload_2 E dX12_dearest_96 ?_
      refine g_iload_3 E dX12_dearest_97 ?_
      refine g_callvI E my_X12_has mi_X12_has msel_X12_has ml_RX12_324 (rm_ok (by decide) (by decide)) ⟨Nat.zero_le _, Nat.zero_le _⟩ kR_0 sR_0 rfl (m_X12_has E.2.2.1 c1 c2 c3 hσ h) rfl rfl (Nat.le_of_ble_eq_true rfl) dX12_dearest_98 (fun r7 σ8 cr7 hσ8 h => ?_)
      refine g_if_eq E cr7 djX12_dearest_101 (fun hc => ?_) (fun hc => ?_)
      · replace h := h.1 hc
        refine g_iconst E dX12_dearest_118 ?_
        exact g_iret E hr cl_m1 h hσ8 dX12_dearest_119
      · replace h := h.2 hc
        refine g_aload_0 E dX12_dearest_104 ?_
        refine g_getR E fl_RX12_77 kR_0 sR_0 rfl dX12_dearest_105 ?_
        refine g_iload_1 E dX12_dearest_108 ?_
        refine g_iload_2 E dX12_dearest_109 ?_
        refine g_iload_3 E dX12_dearest_110 ?_
        refine g_callsI E my_X12_item ms_X12_item ml_RX12_282 (rm_ok (by decide) (by decide)) ⟨Nat.zero_le _, Nat.zero_le _⟩ (m_X12_item E.2.2.1 c1 c2 c3 hσ8 h) rfl rfl (Nat.le_of_ble_eq_true rfl) dX12_dearest_111 (fun r9 σ10 cr9 hσ10 h => ?_)
        refine g_iald E kR_20 sR_20 (by decide) h.1 dX12_dearest_114 ?_
        replace h := h.2
        refine g_goto E djX12_dearest_115 ?_
        exact g_iret E hr (aR_20 hσ10 _) h hσ10 dX12_dearest_119
    · replace h := h.2 hc
      refine g_iconst E dX12_dearest_56 ?_
      refine g_istore_5 E rfl (by decide) dX12_dearest_57 ?_
      exact (t_X12_dearest_l59 E hr ih bigN x1 x2 x3 x4 0 σ c1 c2 c3 c4 cl_0 hσ h).weak (w_k (w_k (w_k (w_k (w_k (w_k w_n))))))
set_option maxHeartbeats 4000000 in
set_option maxRecDepth 100000 in
theorem t_X12_dearest_l20 (E : Ev p s m args meth c cX12_dearest 6 RX12 A0 D cA ad NR Z) (hr : meth.sig.returnType = (some .int)) : ∀ (n : Nat) (x1 : Int) (x2 : Int) (x3 : Int) (x4 : Int) (σ : St), C32 x1 → C32 x2 → C32 x3 → C32 x4 → CanS shR NR σ → wp_X12_dearest_l20 Q n x1 x2 x3 x4 σ → G p l e (rmL 7 0 0) s m args below meth c 6 A0 D cA ad shR NR 0 0 (MQ below (QIc D cA ad shR NR Q A0) args s 0 0 A0) σ 20 [some (.ref (ad 0)), some (vI x1), some (vI x2), some (vI x3), some (vI x4), none] [] := by
  intro n
  induction n with
  | zero => intro _ _ _ _ _ _ _ _ _ _ h; exact h.elim
  | succ n ih =>
    intro x1 x2 x3 x4 σ c1 c2 c3 c4 hσ h
    unfold wp_X12_dearest_l20 at h
    refine g_iload_4 E dX12_dearest_20 ?_
    refine g_sipush E (by decide) dX12_dearest_22 ?_
    refine g_icmp_ge E c4 cl_768 djX12_dearest_25 (fun hc => ?_) (fun hc => ?_)
    · replace h := h.1 hc
      refine g_iconst E dX12_dearest_44 ?_
      refine g_istore_4 E rfl (by decide) dX12_dearest_45 ?_
      exact (t_X12_dearest_l47 E hr bigN x1 x2 x3 1 σ c1 c2 c3 cl_1 hσ h).weak (w_k (w_k (w_k (w_k (w_k (w_d w_n))))))
    · replace h := h.2 hc
      refine g_aload_0 E dX12_dearest_28 ?_
      refine g_getR E fl_RX12_77 kR_0 sR_0 rfl dX12_dearest_29 ?_
      refine g_iload_4 E dX12_dearest_32 ?_
      refine g_ldcw (n := 1000000000) E wc_RX12_286 dX12_dearest_34 ?_
      refine g_iast E kR_20 sR_20 (by decide) h.1 dX12_dearest_37 (g_nmS (fun σ5 eσ5 => ?_))
      replace h := h.2 σ5 eσ5
      have hσ5 : CanS shR NR σ5 := by rw [eσ5]; exact wR_20 hσ cl_1000000000
      refine g_iinc_4 E rfl (by decide) dX12_dearest_38 (fun v6 ev6 => ?_)
      replace h := h v6 ev6
      have cv6 : C32 v6 := by rw [ev6]; exact c32_w _
      refine g_goto E djX12_dearest_41 ?_
      exact (ih x1 x2 x3 v6 σ5 c1 c2 c3 cv6 hσ5 h).weak (w_k (w_k (w_k (w_k (w_k (w_d w_n))))))
set_option maxHeartbeats 4000000 in
set_option maxRecDepth 100000 in
theorem t_X12_dearest (E : Ev p s m args meth c cX12_dearest 6 RX12 A0 D cA ad NR Z) (hr : meth.sig.returnType = (some .int)) (x1 : Int) (x2 : Int) (x3 : Int) (σ : St) (c1 : C32 x1) (c2 : C32 x2) (c3 : C32 x3) (hσ : CanS shR NR σ) (h : wp_X12_dearest x1 x2 x3 σ Q) : G p l e (rmL 7 0 0) s m args below meth c 6 A0 D cA ad shR NR 0 0 (MQ below (QIc D cA ad shR NR Q A0) args s 0 0 A0) σ 0 [some (.ref (ad 0)), some (vI x1), some (vI x2), some (vI x3), none, none] [] := by
  unfold wp_X12_dearest at h
  refine g_aload_0 E dX12_dearest_0 ?_
  refine g_iload_1 E dX12_dearest_1 ?_
  refine g_iload_2 E dX12_dearest_2 ?_
  refine g_iload_3 E dX12_dearest_3 ?_
  refine g_callvI E my_X12_isItem mi_X12_isItem msel_X12_isItem ml_RX12_318 (rm_ok (by decide) (by decide)) ⟨Nat.zero_le _, Nat.zero_le _⟩ kR_0 sR_0 rfl (m_X12_isItem E.2.2.1 c1 c2 c3 hσ h) rfl rfl (Nat.le_of_ble_eq_true rfl) dX12_dearest_4 (fun r1 σ2 cr1 hσ2 h => ?_)
  refine g_if_ne E cr1 djX12_dearest_7 (fun hc => ?_) (fun hc => ?_)
  · replace h := h.1 hc
    refine g_aload_0 E dX12_dearest_13 ?_
    refine g_callvV E my_X12_looks mi_X12_looks msel_X12_looks ml_RX12_321 (rm_ok (by decide) (by decide)) ⟨Nat.zero_le _, Nat.zero_le _⟩ kR_0 sR_0 rfl (m_X12_looks E.2.2.1 hσ2 h) rfl rfl (Nat.le_of_ble_eq_true rfl) dX12_dearest_14 (fun σ4 r3 hσ4 h => ?_)
    refine g_iconst E dX12_dearest_17 ?_
    refine g_istore_4 E rfl (by decide) dX12_dearest_18 ?_
    exact (t_X12_dearest_l20 E hr bigN x1 x2 x3 0 σ4 c1 c2 c3 cl_0 hσ4 h).weak (w_k (w_k (w_k (w_k (w_k (w_d w_n))))))
  · replace h := h.2 hc
    refine g_bipush E (by decide) dX12_dearest_10 ?_
    exact g_iret E hr cl_m2 h hσ2 dX12_dearest_12
end
theorem m_X12_dearest {Z : (Nat → Nat) × (Nat → Nat)} {l : Launch} {D : va_G} {cA : Nat → ClassId} {ad : Nat → Nat} {x1 x2 x3 : Int} {σ : St} {Q : Int → St → Prop} (hA : AdOk NR ad) (c1 : C32 x1) (c2 : C32 x2) (c3 : C32 x3) (hσ : CanS shR NR σ) (h : wp_X12_dearest x1 x2 x3 σ Q) : KtI Z l D cA ad shR NR yX12_dearest cX12_dearest 6 (some .int) 7 [.ref (ad 0), vI x1, vI x2, vI x3] σ Q :=
  KtI.of my_X12_dearest hA [some (.ref (ad 0)), some (vI x1), some (vI x2), some (vI x3), none, none] (Nat.le_of_ble_eq_true rfl) rfl (fun p e s m args below meth c A0 E hr => t_X12_dearest E hr x1 x2 x3 σ c1 c2 c3 hσ h)
theorem dX12_meetsPart_0 : Dc cX12_meetsPart 0 (.iload_n 1) 1 1 := ⟨by decide +kernel, rfl⟩
theorem dX12_meetsPart_1 : Dc cX12_meetsPart 1 (.bipush 100) 2 3 := ⟨by decide +kernel, rfl⟩
theorem djX12_meetsPart_3 : Dj cX12_meetsPart 3 (.if_icmp .ge 10) 3 6 10 13 := ⟨by decide +kernel, rfl, by decide⟩
theorem dX12_meetsPart_6 : Dc cX12_meetsPart 6 (.aload_n 0) 1 7 := ⟨by decide +kernel, rfl⟩
theorem dX12_meetsPart_7 : Dc cX12_meetsPart 7 (.iload_n 1) 1 8 := ⟨by decide +kernel, rfl⟩
theorem dX12_meetsPart_8 : Dc cX12_meetsPart 8 (.iload_n 2) 1 9 := ⟨by decide +kernel, rfl⟩
theorem dX12_meetsPart_9 : Dc cX12_meetsPart 9 (.iload_n 3) 1 10 := ⟨by decide +kernel, rfl⟩
theorem dX12_meetsPart_10 : Dc cX12_meetsPart 10 (.invokevirtual 383) 3 13 := ⟨by decide +kernel, rfl⟩
theorem dX12_meetsPart_13 : Dc cX12_meetsPart 13 (.return_) 1 14 := ⟨by decide +kernel, rfl⟩
section
variable {p : Program} {l : Launch} {e : Env} {s : State} {m : MethodId} {args : Array Value} {below : List Frame} {meth : Method} {c : Code} {A0 : Nat → Prop} {D : va_G} {cA : Nat → ClassId} {ad : Nat → Nat} {Z : (Nat → Nat) × (Nat → Nat)} {Q : Int → St → Prop}
set_option maxHeartbeats 4000000 in
set_option maxRecDepth 100000 in
theorem t_X12_meetsPart (E : Ev p s m args meth c cX12_meetsPart 4 RX12 A0 D cA ad NR Z) (hr : meth.sig.returnType = none) {M : Int → Int → Int → St → (Int → St → Prop) → Prop} {d : Nat} (hM : ∀ (x1 : Int) (x2 : Int) (x3 : Int) (σ : St) (Q : Int → St → Prop), C32 x1 → C32 x2 → C32 x3 → CanS shR NR σ → M x1 x2 x3 σ Q → KtV Z l D cA ad shR NR yX12_meets cX12_meets 7 none (3 + 2 * d) [.ref (ad 0), vI x1, vI x2, vI x3] σ Q) (x1 : Int) (x2 : Int) (x3 : Int) (σ : St) (c1 : C32 x1) (c2 : C32 x2) (c3 : C32 x3) (hσ : CanS shR NR σ) (h : wp_X12_meetsPart M x1 x2 x3 σ Q) : G p l e (rmL (3 + 2 * d + 1) 0 0) s m args below meth c 4 A0 D cA ad shR NR 0 0 (MQ below (QVc D cA ad shR NR Q A0) args s 0 0 A0) σ 0 [some (.ref (ad 0)), some (vI x1), some (vI x2), some (vI x3)] [] := by
  unfold wp_X12_meetsPart at h
  refine g_iload_1 E dX12_meetsPart_0 ?_
  refine g_bipush E (by decide) dX12_meetsPart_1 ?_
  refine g_icmp_ge E c1 cl_100 djX12_meetsPart_3 (fun hc => ?_) (fun hc => ?_)
  · replace h := h.1 hc
    exact g_vret E hr h hσ dX12_meetsPart_13
  · replace h := h.2 hc
    refine g_aload_0 E dX12_meetsPart_6 ?_
    refine g_iload_1 E dX12_meetsPart_7 ?_
    refine g_iload_2 E dX12_meetsPart_8 ?_
    refine g_iload_3 E dX12_meetsPart_9 ?_
    refine g_callvV E my_X12_meets mi_X12_meets msel_X12_meets ml_RX12_383 (rm_ok (by omega) (by decide)) ⟨Nat.zero_le _, Nat.zero_le _⟩ kR_0 sR_0 rfl (hM x1 x2 x3 σ _ c1 c2 c3 hσ h) rfl rfl (Nat.le_of_ble_eq_true rfl) dX12_meetsPart_10 (fun σ2 r1 hσ2 h => ?_)
    exact g_vret E hr h hσ2 dX12_meetsPart_13
end
theorem m_X12_meetsPart {Z : (Nat → Nat) × (Nat → Nat)} {l : Launch} {D : va_G} {cA : Nat → ClassId} {ad : Nat → Nat} {M : Int → Int → Int → St → (Int → St → Prop) → Prop} {d : Nat} (hM : ∀ (x1 : Int) (x2 : Int) (x3 : Int) (σ : St) (Q : Int → St → Prop), C32 x1 → C32 x2 → C32 x3 → CanS shR NR σ → M x1 x2 x3 σ Q → KtV Z l D cA ad shR NR yX12_meets cX12_meets 7 none (3 + 2 * d) [.ref (ad 0), vI x1, vI x2, vI x3] σ Q) {x1 x2 x3 : Int} {σ : St} {Q : Int → St → Prop} (hA : AdOk NR ad) (c1 : C32 x1) (c2 : C32 x2) (c3 : C32 x3) (hσ : CanS shR NR σ) (h : wp_X12_meetsPart M x1 x2 x3 σ Q) : KtV Z l D cA ad shR NR yX12_meetsPart cX12_meetsPart 4 none (3 + 2 * d + 1) [.ref (ad 0), vI x1, vI x2, vI x3] σ Q :=
  KtV.of my_X12_meetsPart hA [some (.ref (ad 0)), some (vI x1), some (vI x2), some (vI x3)] (Nat.le_of_ble_eq_true rfl) rfl (fun p e s m args below meth c A0 E hr => t_X12_meetsPart E hr hM x1 x2 x3 σ c1 c2 c3 hσ h)
theorem dX12_meets_0 : Dc cX12_meets 0 (.iload_n 1) 1 1 := ⟨by decide +kernel, rfl⟩
theorem dX12_meets_1 : Dc cX12_meets 1 (.iload_n 2) 1 2 := ⟨by decide +kernel, rfl⟩
theorem dX12_meets_2 : Dc cX12_meets 2 (.iload_n 3) 1 3 := ⟨by decide +kernel, rfl⟩
theorem dX12_meets_3 : Dc cX12_meets 3 (.invokestatic 282) 3 6 := ⟨by decide +kernel, rfl⟩
theorem dX12_meets_6 : Dc cX12_meets 6 (.istore 4) 2 8 := ⟨by decide +kernel, rfl⟩
theorem dX12_meets_8 : Dc cX12_meets 8 (.aload_n 0) 1 9 := ⟨by decide +kernel, rfl⟩
theorem dX12_meets_9 : Dc cX12_meets 9 (.getfield 80) 3 12 := ⟨by decide +kernel, rfl⟩
theorem dX12_meets_12 : Dc cX12_meets 12 (.iload 4) 2 14 := ⟨by decide +kernel, rfl⟩
theorem dX12_meets_14 : Dc cX12_meets 14 (.baload) 1 15 := ⟨by decide +kernel, rfl⟩
theorem djX12_meets_15 : Dj cX12_meets 15 (.ifCond .eq 4) 3 18 4 19 := ⟨by decide +kernel, rfl, by decide⟩
theorem dX12_meets_18 : Dc cX12_meets 18 (.return_) 1 19 := ⟨by decide +kernel, rfl⟩
theorem dX12_meets_19 : Dc cX12_meets 19 (.aload_n 0) 1 20 := ⟨by decide +kernel, rfl⟩
theorem dX12_meets_20 : Dc cX12_meets 20 (.getfield 80) 3 23 := ⟨by decide +kernel, rfl⟩
theorem dX12_meets_23 : Dc cX12_meets 23 (.iload 4) 2 25 := ⟨by decide +kernel, rfl⟩
theorem dX12_meets_25 : Dc cX12_meets 25 (.iconst 1) 1 26 := ⟨by decide +kernel, rfl⟩
theorem dX12_meets_26 : Dc cX12_meets 26 (.bastore) 1 27 := ⟨by decide +kernel, rfl⟩
theorem dX12_meets_27 : Dc cX12_meets 27 (.iconst 0) 1 28 := ⟨by decide +kernel, rfl⟩
theorem dX12_meets_28 : Dc cX12_meets 28 (.istore 5) 2 30 := ⟨by decide +kernel, rfl⟩
theorem dX12_meets_30 : Dc cX12_meets 30 (.iload 5) 2 32 := ⟨by decide +kernel, rfl⟩
theorem dX12_meets_32 : Dc cX12_meets 32 (.aload_n 0) 1 33 := ⟨by decide +kernel, rfl⟩
theorem dX12_meets_33 : Dc cX12_meets 33 (.getfield 252) 3 36 := ⟨by decide +kernel, rfl⟩
theorem djX12_meets_36 : Dj cX12_meets 36 (.if_icmp .ge 191) 3 39 191 227 := ⟨by decide +kernel, rfl, by decide⟩
theorem dX12_meets_39 : Dc cX12_meets 39 (.aload_n 0) 1 40 := ⟨by decide +kernel, rfl⟩
theorem dX12_meets_40 : Dc cX12_meets 40 (.iload 5) 2 42 := ⟨by decide +kernel, rfl⟩
theorem dX12_meets_42 : Dc cX12_meets 42 (.invokevirtual 298) 3 45 := ⟨by decide +kernel, rfl⟩
theorem djX12_meets_45 : Dj cX12_meets 45 (.ifCond .eq 176) 3 48 176 221 := ⟨by decide +kernel, rfl, by decide⟩
theorem dX12_meets_48 : Dc cX12_meets 48 (.aload_n 0) 1 49 := ⟨by decide +kernel, rfl⟩
theorem dX12_meets_49 : Dc cX12_meets 49 (.getfield 13) 3 52 := ⟨by decide +kernel, rfl⟩
theorem dX12_meets_52 : Dc cX12_meets 52 (.iload 5) 2 54 := ⟨by decide +kernel, rfl⟩
theorem dX12_meets_54 : Dc cX12_meets 54 (.iaload) 1 55 := ⟨by decide +kernel, rfl⟩
theorem dX12_meets_55 : Dc cX12_meets 55 (.iload_n 1) 1 56 := ⟨by decide +kernel, rfl⟩
theorem djX12_meets_56 : Dj cX12_meets 56 (.if_icmp .eq 6) 3 59 6 62 := ⟨by decide +kernel, rfl, by decide⟩
theorem djX12_meets_59 : Dj cX12_meets 59 (.goto 162) 3 62 162 221 := ⟨by decide +kernel, rfl, by decide⟩
theorem dX12_meets_62 : Dc cX12_meets 62 (.aload_n 0) 1 63 := ⟨by decide +kernel, rfl⟩
theorem dX12_meets_63 : Dc cX12_meets 63 (.getfield 20) 3 66 := ⟨by decide +kernel, rfl⟩
theorem dX12_meets_66 : Dc cX12_meets 66 (.iload 5) 2 68 := ⟨by decide +kernel, rfl⟩
theorem dX12_meets_68 : Dc cX12_meets 68 (.iaload) 1 69 := ⟨by decide +kernel, rfl⟩
theorem dX12_meets_69 : Dc cX12_meets 69 (.iconst (-1)) 1 70 := ⟨by decide +kernel, rfl⟩
theorem djX12_meets_70 : Dj cX12_meets 70 (.if_icmp .ne 45) 3 73 45 115 := ⟨by decide +kernel, rfl, by decide⟩
theorem dX12_meets_73 : Dc cX12_meets 73 (.aload_n 0) 1 74 := ⟨by decide +kernel, rfl⟩
theorem dX12_meets_74 : Dc cX12_meets 74 (.aload_n 0) 1 75 := ⟨by decide +kernel, rfl⟩
theorem dX12_meets_75 : Dc cX12_meets 75 (.getfield 17) 3 78 := ⟨by decide +kernel, rfl⟩
theorem dX12_meets_78 : Dc cX12_meets 78 (.iload 5) 2 80 := ⟨by decide +kernel, rfl⟩
theorem dX12_meets_80 : Dc cX12_meets 80 (.iaload) 1 81 := ⟨by decide +kernel, rfl⟩
theorem dX12_meets_81 : Dc cX12_meets 81 (.iload_n 2) 1 82 := ⟨by decide +kernel, rfl⟩
theorem dX12_meets_82 : Dc cX12_meets 82 (.iload_n 3) 1 83 := ⟨by decide +kernel, rfl⟩
theorem dX12_meets_83 : Dc cX12_meets 83 (.invokevirtual 287) 3 86 := ⟨by decide +kernel, rfl⟩
theorem djX12_meets_86 : Dj cX12_meets 86 (.ifCond .eq 29) 3 89 29 115 := ⟨by decide +kernel, rfl, by decide⟩
theorem dX12_meets_89 : Dc cX12_meets 89 (.aload_n 0) 1 90 := ⟨by decide +kernel, rfl⟩
theorem dX12_meets_90 : Dc cX12_meets 90 (.dup) 1 91 := ⟨by decide +kernel, rfl⟩
theorem dX12_meets_91 : Dc cX12_meets 91 (.getfield 386) 3 94 := ⟨by decide +kernel, rfl⟩
theorem dX12_meets_94 : Dc cX12_meets 94 (.lconst 1) 1 95 := ⟨by decide +kernel, rfl⟩
theorem dX12_meets_95 : Dc cX12_meets 95 (.iload 5) 2 97 := ⟨by decide +kernel, rfl⟩
theorem dX12_meets_97 : Dc cX12_meets 97 (.lshl) 1 98 := ⟨by decide +kernel, rfl⟩
theorem dX12_meets_98 : Dc cX12_meets 98 (.lor) 1 99 := ⟨by decide +kernel, rfl⟩
theorem dX12_meets_99 : Dc cX12_meets 99 (.putfield 386) 3 102 := ⟨by decide +kernel, rfl⟩
theorem dX12_meets_102 : Dc cX12_meets 102 (.aload_n 0) 1 103 := ⟨by decide +kernel, rfl⟩
theorem dX12_meets_103 : Dc cX12_meets 103 (.aload_n 0) 1 104 := ⟨by decide +kernel, rfl⟩
theorem dX12_meets_104 : Dc cX12_meets 104 (.getfield 17) 3 107 := ⟨by decide +kernel, rfl⟩
theorem dX12_meets_107 : Dc cX12_meets 107 (.iload 5) 2 109 := ⟨by decide +kernel, rfl⟩
theorem dX12_meets_109 : Dc cX12_meets 109 (.iaload) 1 110 := ⟨by decide +kernel, rfl⟩
theorem dX12_meets_110 : Dc cX12_meets 110 (.iload_n 2) 1 111 := ⟨by decide +kernel, rfl⟩
theorem dX12_meets_111 : Dc cX12_meets 111 (.iload_n 3) 1 112 := ⟨by decide +kernel, rfl⟩
theorem dX12_meets_112 : Dc cX12_meets 112 (.invokevirtual 389) 3 115 := ⟨by decide +kernel, rfl⟩
theorem dX12_meets_115 : Dc cX12_meets 115 (.iload_n 2) 1 116 := ⟨by decide +kernel, rfl⟩
theorem dX12_meets_116 : Dc cX12_meets 116 (.iconst 1) 1 117 := ⟨by decide +kernel, rfl⟩
theorem dX12_meets_117 : Dc cX12_meets 117 (.iadd) 1 118 := ⟨by decide +kernel, rfl⟩
theorem dX12_meets_118 : Dc cX12_meets 118 (.istore 6) 2 120 := ⟨by decide +kernel, rfl⟩
theorem dX12_meets_120 : Dc cX12_meets 120 (.iload 6) 2 122 := ⟨by decide +kernel, rfl⟩
theorem dX12_meets_122 : Dc cX12_meets 122 (.iload_n 3) 1 123 := ⟨by decide +kernel, rfl⟩
theorem djX12_meets_123 : Dj cX12_meets 123 (.if_icmp .ge 98) 3 126 98 221 := ⟨by decide +kernel, rfl, by decide⟩
theorem dX12_meets_126 : Dc cX12_meets 126 (.aload_n 0) 1 127 := ⟨by decide +kernel, rfl⟩
theorem dX12_meets_127 : Dc cX12_meets 127 (.getfield 20) 3 130 := ⟨by decide +kernel, rfl⟩
theorem dX12_meets_130 : Dc cX12_meets 130 (.iload 5) 2 132 := ⟨by decide +kernel, rfl⟩
theorem dX12_meets_132 : Dc cX12_meets 132 (.iaload) 1 133 := ⟨by decide +kernel, rfl⟩
theorem dX12_meets_133 : Dc cX12_meets 133 (.iconst (-1)) 1 134 := ⟨by decide +kernel, rfl⟩
theorem djX12_meets_134 : Dj cX12_meets 134 (.if_icmp .eq 87) 3 137 87 221 := ⟨by decide +kernel, rfl, by decide⟩
theorem dX12_meets_137 : Dc cX12_meets 137 (.aload_n 0) 1 138 := ⟨by decide +kernel, rfl⟩
theorem dX12_meets_138 : Dc cX12_meets 138 (.aload_n 0) 1 139 := ⟨by decide +kernel, rfl⟩
theorem dX12_meets_139 : Dc cX12_meets 139 (.getfield 17) 3 142 := ⟨by decide +kernel, rfl⟩
theorem dX12_meets_142 : Dc cX12_meets 142 (.iload 5) 2 144 := ⟨by decide +kernel, rfl⟩
theorem dX12_meets_144 : Dc cX12_meets 144 (.iaload) 1 145 := ⟨by decide +kernel, rfl⟩
theorem dX12_meets_145 : Dc cX12_meets 145 (.iload_n 2) 1 146 := ⟨by decide +kernel, rfl⟩
theorem dX12_meets_146 : Dc cX12_meets 146 (.iload 6) 2 148 := ⟨by decide +kernel, rfl⟩
theorem dX12_meets_148 : Dc cX12_meets 148 (.invokevirtual 287) 3 151 := ⟨by decide +kernel, rfl⟩
theorem djX12_meets_151 : Dj cX12_meets 151 (.ifCond .eq 64) 3 154 64 215 := ⟨by decide +kernel, rfl, by decide⟩
theorem dX12_meets_154 : Dc cX12_meets 154 (.aload_n 0) 1 155 := ⟨by decide +kernel, rfl⟩
theorem dX12_meets_155 : Dc cX12_meets 155 (.aload_n 0) 1 156 := ⟨by decide +kernel, rfl⟩
theorem dX12_meets_156 : Dc cX12_meets 156 (.getfield 20) 3 159 := ⟨by decide +kernel, rfl⟩
theorem dX12_meets_159 : Dc cX12_meets 159 (.iload 5) 2 161 := ⟨by decide +kernel, rfl⟩
theorem dX12_meets_161 : Dc cX12_meets 161 (.iaload) 1 162 := ⟨by decide +kernel, rfl⟩
theorem dX12_meets_162 : Dc cX12_meets 162 (.iload 6) 2 164 := ⟨by decide +kernel, rfl⟩
theorem dX12_meets_164 : Dc cX12_meets 164 (.iload_n 3) 1 165 := ⟨by decide +kernel, rfl⟩
theorem dX12_meets_165 : Dc cX12_meets 165 (.invokevirtual 287) 3 168 := ⟨by decide +kernel, rfl⟩
theorem djX12_meets_168 : Dj cX12_meets 168 (.ifCond .ne 6) 3 171 6 174 := ⟨by decide +kernel, rfl, by decide⟩
theorem djX12_meets_171 : Dj cX12_meets 171 (.goto 44) 3 174 44 215 := ⟨by decide +kernel, rfl, by decide⟩
theorem dX12_meets_174 : Dc cX12_meets 174 (.aload_n 0) 1 175 := ⟨by decide +kernel, rfl⟩
theorem dX12_meets_175 : Dc cX12_meets 175 (.dup) 1 176 := ⟨by decide +kernel, rfl⟩
theorem dX12_meets_176 : Dc cX12_meets 176 (.getfield 386) 3 179 := ⟨by decide +kernel, rfl⟩
theorem dX12_meets_179 : Dc cX12_meets 179 (.lconst 1) 1 180 := ⟨by decide +kernel, rfl⟩
theorem dX12_meets_180 : Dc cX12_meets 180 (.iload 5) 2 182 := ⟨by decide +kernel, rfl⟩
theorem dX12_meets_182 : Dc cX12_meets 182 (.lshl) 1 183 := ⟨by decide +kernel, rfl⟩
theorem dX12_meets_183 : Dc cX12_meets 183 (.lor) 1 184 := ⟨by decide +kernel, rfl⟩
theorem dX12_meets_184 : Dc cX12_meets 184 (.putfield 386) 3 187 := ⟨by decide +kernel, rfl⟩
theorem dX12_meets_187 : Dc cX12_meets 187 (.aload_n 0) 1 188 := ⟨by decide +kernel, rfl⟩
theorem dX12_meets_188 : Dc cX12_meets 188 (.aload_n 0) 1 189 := ⟨by decide +kernel, rfl⟩
theorem dX12_meets_189 : Dc cX12_meets 189 (.getfield 17) 3 192 := ⟨by decide +kernel, rfl⟩
theorem dX12_meets_192 : Dc cX12_meets 192 (.iload 5) 2 194 := ⟨by decide +kernel, rfl⟩
theorem dX12_meets_194 : Dc cX12_meets 194 (.iaload) 1 195 := ⟨by decide +kernel, rfl⟩
theorem dX12_meets_195 : Dc cX12_meets 195 (.iload_n 2) 1 196 := ⟨by decide +kernel, rfl⟩
theorem dX12_meets_196 : Dc cX12_meets 196 (.iload 6) 2 198 := ⟨by decide +kernel, rfl⟩
theorem dX12_meets_198 : Dc cX12_meets 198 (.invokevirtual 389) 3 201 := ⟨by decide +kernel, rfl⟩
theorem dX12_meets_201 : Dc cX12_meets 201 (.aload_n 0) 1 202 := ⟨by decide +kernel, rfl⟩
theorem dX12_meets_202 : Dc cX12_meets 202 (.aload_n 0) 1 203 := ⟨by decide +kernel, rfl⟩
theorem dX12_meets_203 : Dc cX12_meets 203 (.getfield 20) 3 206 := ⟨by decide +kernel, rfl⟩
theorem dX12_meets_206 : Dc cX12_meets 206 (.iload 5) 2 208 := ⟨by decide +kernel, rfl⟩
theorem dX12_meets_208 : Dc cX12_meets 208 (.iaload) 1 209 := ⟨by decide +kernel, rfl⟩
theorem dX12_meets_209 : Dc cX12_meets 209 (.iload 6) 2 211 := ⟨by decide +kernel, rfl⟩
theorem dX12_meets_211 : Dc cX12_meets 211 (.iload_n 3) 1 212 := ⟨by decide +kernel, rfl⟩
theorem dX12_meets_212 : Dc cX12_meets 212 (.invokevirtual 389) 3 215 := ⟨by decide +kernel, rfl⟩
theorem dX12_meets_215 : Dc cX12_meets 215 (.iinc 6 1) 3 218 := ⟨by decide +kernel, rfl⟩
theorem djX12_meets_218 : Dj cX12_meets 218 (.goto (-98)) 3 221 (-98) 120 := ⟨by decide +kernel, rfl, by decide⟩
theorem dX12_meets_221 : Dc cX12_meets 221 (.iinc 5 1) 3 224 := ⟨by decide +kernel, rfl⟩
theorem djX12_meets_224 : Dj cX12_meets 224 (.goto (-194)) 3 227 (-194) 30 := ⟨by decide +kernel, rfl, by decide⟩
theorem dX12_meets_227 : Dc cX12_meets 227 (.return_) 1 228 := ⟨by decide +kernel, rfl⟩
section
variable {p : Program} {l : Launch} {e : Env} {s : State} {m : MethodId} {args : Array Value} {below : List Frame} {meth : Method} {c : Code} {A0 : Nat → Prop} {D : va_G} {cA : Nat → ClassId} {ad : Nat → Nat} {Z : (Nat → Nat) × (Nat → Nat)} {Q : Int → St → Prop}
set_option maxHeartbeats 4000000 in
set_option maxRecDepth 100000 in
theorem t_X12_meets_b215 (E : Ev p s m args meth c cX12_meets 7 RX12 A0 D cA ad NR Z) (hr : meth.sig.returnType = none) {M : Int → Int → Int → St → (Int → St → Prop) → Prop} {d : Nat} (hM : ∀ (x1 : Int) (x2 : Int) (x3 : Int) (σ : St) (Q : Int → St → Prop), C32 x1 → C32 x2 → C32 x3 → CanS shR NR σ → M x1 x2 x3 σ Q → KtV Z l D cA ad shR NR yX12_meets cX12_meets 7 none (3 + 2 * d) [.ref (ad 0), vI x1, vI x2, vI x3] σ Q) {K30 : Int → Int → Int → Int → St → Prop} (hK30 : ∀ (x1 : Int) (x2 : Int) (x3 : Int) (x5 : Int) (σ : St), C32 x1 → C32 x2 → C32 x3 → C32 x5 → CanS shR NR σ → K30 x1 x2 x3 x5 σ → G p l e (rmL (3 + 2 * (d + 1)) 0 0) s m args below meth c 7 A0 D cA ad shR NR 0 0 (MQ below (QVc D cA ad shR NR Q A0) args s 0 0 A0) σ 30 [some (.ref (ad 0)), some (vI x1), some (vI x2), some (vI x3), none, some (vI x5), none] []) {K120 : Int → Int → Int → Int → Int → St → Prop} (hK120 : ∀ (x1 : Int) (x2 : Int) (x3 : Int) (x5 : Int) (x6 : Int) (σ : St), C32 x1 → C32 x2 → C32 x3 → C32 x5 → C32 x6 → CanS shR NR σ → K120 x1 x2 x3 x5 x6 σ → G p l e (rmL (3 + 2 * (d + 1)) 0 0) s m args below meth c 7 A0 D cA ad shR NR 0 0 (MQ below (QVc D cA ad shR NR Q A0) args s 0 0 A0) σ 120 [some (.ref (ad 0)), some (vI x1), some (vI x2), some (vI x3), none, some (vI x5), some (vI x6)] []) (x1 : Int) (x2 : Int) (x3 : Int) (x5 : Int) (x6 : Int) (σ : St) (c1 : C32 x1) (c2 : C32 x2) (c3 : C32 x3) (c5 : C32 x5) (c6 : C32 x6) (hσ : CanS shR NR σ) (h : wp_X12_meets_b215 M Q K30 K120 x1 x2 x3 x5 x6 σ) : G p l e (rmL (3 + 2 * (d + 1)) 0 0) s m args below meth c 7 A0 D cA ad shR NR 0 0 (MQ below (QVc D cA ad shR NR Q A0) args s 0 0 A0) σ 215 [some (.ref (ad 0)), some (vI x1), some (vI x2), some (vI x3), none, some (vI x5), some (vI x6)] [] := by
  unfold wp_X12_meets_b215 at h
  refine g_iinc_6 E rfl (by decide) dX12_meets_215 (fun v22 ev22 => ?_)
  replace h := h v22 ev22
  have cv22 : C32 v22 := by rw [ev22]; exact c32_w _
  refine g_goto E djX12_meets_218 ?_
  exact (hK120 x1 x2 x3 x5 v22 σ c1 c2 c3 c5 cv22 hσ h).weak (w_k (w_k (w_k (w_k (w_d (w_k (w_k w_n)))))))
set_option maxHeartbeats 4000000 in
set_option maxRecDepth 100000 in
theorem t_X12_meets_b221 (E : Ev p s m args meth c cX12_meets 7 RX12 A0 D cA ad NR Z) (hr : meth.sig.returnType = none) {M : Int → Int → Int → St → (Int → St → Prop) → Prop} {d : Nat} (hM : ∀ (x1 : Int) (x2 : Int) (x3 : Int) (σ : St) (Q : Int → St → Prop), C32 x1 → C32 x2 → C32 x3 → CanS shR NR σ → M x1 x2 x3 σ Q → KtV Z l D cA ad shR NR yX12_meets cX12_meets 7 none (3 + 2 * d) [.ref (ad 0), vI x1, vI x2, vI x3] σ Q) {K30 : Int → Int → Int → Int → St → Prop} (hK30 : ∀ (x1 : Int) (x2 : Int) (x3 : Int) (x5 : Int) (σ : St), C32 x1 → C32 x2 → C32 x3 → C32 x5 → CanS shR NR σ → K30 x1 x2 x3 x5 σ → G p l e (rmL (3 + 2 * (d + 1)) 0 0) s m args below meth c 7 A0 D cA ad shR NR 0 0 (MQ below (QVc D cA ad shR NR Q A0) args s 0 0 A0) σ 30 [some (.ref (ad 0)), some (vI x1), some (vI x2), some (vI x3), none, some (vI x5), none] []) (x1 : Int) (x2 : Int) (x3 : Int) (x5 : Int) (σ : St) (c1 : C32 x1) (c2 : C32 x2) (c3 : C32 x3) (c5 : C32 x5) (hσ : CanS shR NR σ) (h : wp_X12_meets_b221 M Q K30 x1 x2 x3 x5 σ) : G p l e (rmL (3 + 2 * (d + 1)) 0 0) s m args below meth c 7 A0 D cA ad shR NR 0 0 (MQ below (QVc D cA ad shR NR Q A0) args s 0 0 A0) σ 221 [some (.ref (ad 0)), some (vI x1), some (vI x2), some (vI x3), none, some (vI x5), none] [] := by
  unfold wp_X12_meets_b221 at h
  refine g_iinc_5 E rfl (by decide) dX12_meets_221 (fun v11 ev11 => ?_)
  replace h := h v11 ev11
  have cv11 : C32 v11 := by rw [ev11]; exact c32_w _
  refine g_goto E djX12_meets_224 ?_
  exact (hK30 x1 x2 x3 v11 σ c1 c2 c3 cv11 hσ h).weak (w_k (w_k (w_k (w_k (w_d (w_k (w_d w_n)))))))
set_option maxHeartbeats 4000000 in
set_option maxRecDepth 100000 in
theorem t_X12_meets_l120 (E : Ev p s m args meth c cX12_meets 7 RX12 A0 D cA ad NR Z) (hr : meth.sig.returnType = none) {M : Int → Int → Int → St → (Int → St → Prop) → Prop} {d : Nat} (hM : ∀ (x1 : Int) (x2 : Int) (x3 : Int) (σ : St) (Q : Int → St → Prop), C32 x1 → C32 x2 → C32 x3 → CanS shR NR σ → M x1 x2 x3 σ Q → KtV Z l D cA ad shR NR yX12_meets cX12_meets 7 none (3 + 2 * d) [.ref (ad 0), vI x1, vI x2, vI x3] σ Q) {K30 : Int → Int → Int → Int → St → Prop} (hK30 : ∀ (x1 : Int) (x2 : Int) (x3 : Int) (x5 : Int) (σ : St), C32 x1 → C32 x2 → C32 x3 → C32 x5 → CanS shR NR σ → K30 x1 x2 x3 x5 σ → G p l e (rmL (3 + 2 * (d + 1)) 0 0) s m args below meth c 7 A0 D cA ad shR NR 0 0 (MQ below (QVc D cA ad shR NR Q A0) args s 0 0 A0) σ 30 [some (.ref (ad 0)), some (vI x1), some (vI x2), some (vI x3), none, some (vI x5), none] []) : ∀ (n : Nat) (x1 : Int) (x2 : Int) (x3 : Int) (x5 : Int) (x6 : Int) (σ : St), C32 x1 → C32 x2 → C32 x3 → C32 x5 → C32 x6 → CanS shR NR σ → wp_X12_meets_l120 M Q K30 n x1 x2 x3 x5 x6 σ → G p l e (rmL (3 + 2 * (d + 1)) 0 0) s m args below meth c 7 A0 D cA ad shR NR 0 0 (MQ below (QVc D cA ad shR NR Q A0) args s 0 0 A0) σ 120 [some (.ref (ad 0)), some (vI x1), some (vI x2), some (vI x3), none, some (vI x5), some (vI x6)] [] := by
  intro n
  induction n with
  | zero => intro _ _ _ _ _ _ _ _ _ _ _ _ h; exact h.elim
  | succ n ih =>
    intro x1 x2 x3 x5 x6 σ c1 c2 c3 c5 c6 hσ h
    unfold wp_X12_meets_l120 at h
    refine g_iload_6 E dX12_meets_120 ?_
    refine g_iload_3 E dX12_meets_122 ?_
    refine g_icmp_ge E c6 c3 djX12_meets_123 (fun hc => ?_) (fun hc => ?_)
    · replace h := h.1 hc
      exact (t_X12_meets_b221 E hr hM hK30 x1 x2 x3 x5 σ c1 c2 c3 c5 hσ h).weak (w_k (w_k (w_k (w_k (w_d (w_k (w_d w_n)))))))
    · replace h := h.2 hc
      refine g_aload_0 E dX12_meets_126 ?_
      refine g_getR E fl_RX12_20 kR_0 sR_0 rfl dX12_meets_127 ?_
      refine g_iload_5 E dX12_meets_130 ?_
      refine g_iald E kR_3 sR_3 (by decide) h.1 dX12_meets_132 ?_
      replace h := h.2
      refine g_iconst E dX12_meets_133 ?_
      refine g_icmp_eq E (aR_3 hσ _) cl_m1 djX12_meets_134 (fun hc => ?_) (fun hc => ?_)
      · replace h := h.1 hc
        exact (t_X12_meets_b221 E hr hM hK30 x1 x2 x3 x5 σ c1 c2 c3 c5 hσ h).weak (w_k (w_k (w_k (w_k (w_d (w_k (w_d w_n)))))))
      · replace h := h.2 hc
        refine g_aload_0 E dX12_meets_137 ?_
        refine g_aload_0 E dX12_meets_138 ?_
        refine g_getR E fl_RX12_17 kR_0 sR_0 rfl dX12_meets_139 ?_
        refine g_iload_5 E dX12_meets_142 ?_
        refine g_iald E kR_2 sR_2 (by decide) h.1 dX12_meets_144 ?_
        replace h := h.2
        refine g_iload_2 E dX12_meets_145 ?_
        refine g_iload_6 E dX12_meets_146 ?_
        refine g_callvI E my_X12_fits mi_X12_fits msel_X12_fits ml_RX12_287 (rm_ok (by omega) (by decide)) ⟨Nat.zero_le _, Nat.zero_le _⟩ kR_0 sR_0 rfl (m_X12_fits E.2.2.1 (aR_2 hσ _) c2 c6 hσ h) rfl rfl (Nat.le_of_ble_eq_true rfl) dX12_meets_148 (fun r13 σ14 cr13 hσ14 h => ?_)
        refine g_if_eq E cr13 djX12_meets_151 (fun hc => ?_) (fun hc => ?_)
        · replace h := h.1 hc
          exact (t_X12_meets_b215 E hr hM hK30 ih x1 x2 x3 x5 x6 σ14 c1 c2 c3 c5 c6 hσ14 h).weak (w_k (w_k (w_k (w_k (w_d (w_k (w_k w_n)))))))
        · replace h := h.2 hc
          refine g_aload_0 E dX12_meets_154 ?_
          refine g_aload_0 E dX12_meets_155 ?_
          refine g_getR E fl_RX12_20 kR_0 sR_0 rfl dX12_meets_156 ?_
          refine g_iload_5 E dX12_meets_159 ?_
          refine g_iald E kR_3 sR_3 (by decide) h.1 dX12_meets_161 ?_
          replace h := h.2
          refine g_iload_6 E dX12_meets_162 ?_
          refine g_iload_3 E dX12_meets_164 ?_
          refine g_callvI E my_X12_fits mi_X12_fits msel_X12_fits ml_RX12_287 (rm_ok (by omega) (by decide)) ⟨Nat.zero_le _, Nat.zero_le _⟩ kR_0 sR_0 rfl (m_X12_fits E.2.2.1 (aR_3 hσ14 _) c6 c3 hσ14 h) rfl rfl (Nat.le_of_ble_eq_true rfl) dX12_meets_165 (fun r15 σ16 cr15 hσ16 h => ?_)
          refine g_if_ne E cr15 djX12_meets_168 (fun hc => ?_) (fun hc => ?_)
          · replace h := h.1 hc
            refine g_aload_0 E dX12_meets_174 ?_
            refine g_dup E rfl dX12_meets_175 ?_
            refine g_getL E fl_RX12_386 kR_0 sR_0 rfl dX12_meets_176 ?_
            refine g_lconst (n := 1) E (by decide) dX12_meets_179 ?_
            refine g_iload_5 E dX12_meets_180 ?_
            refine g_lshl E dX12_meets_182 ?_
            refine g_lor E dX12_meets_183 ?_
            refine g_putL E fl_RX12_386 rfl rfl kR_0 sR_0 rfl dX12_meets_184 (g_nmS (fun σ17 eσ17 => ?_))
            replace h := h σ17 eσ17
            have hσ17 : CanS shR NR σ17 := by rw [eσ17]; exact uR_0_36 hσ16 (c64_t _)
            refine g_aload_0 E dX12_meets_187 ?_
            refine g_aload_0 E dX12_meets_188 ?_
            refine g_getR E fl_RX12_17 kR_0 sR_0 rfl dX12_meets_189 ?_
            refine g_iload_5 E dX12_meets_192 ?_
            refine g_iald E kR_2 sR_2 (by decide) h.1 dX12_meets_194 ?_
            replace h := h.2
            refine g_iload_2 E dX12_meets_195 ?_
            refine g_iload_6 E dX12_meets_196 ?_
            refine g_callvV E my_X12_meetsPart mi_X12_meetsPart msel_X12_meetsPart ml_RX12_389 (rm_ok (by omega) (by decide)) ⟨Nat.zero_le _, Nat.zero_le _⟩ kR_0 sR_0 rfl (m_X12_meetsPart hM E.2.2.1 (aR_2 hσ17 _) c2 c6 hσ17 h) rfl rfl (Nat.le_of_ble_eq_true rfl) dX12_meets_198 (fun σ19 r18 hσ19 h => ?_)
            refine g_aload_0 E dX12_meets_201 ?_
            refine g_aload_0 E dX12_meets_202 ?_
            refine g_getR E fl_RX12_20 kR_0 sR_0 rfl dX12_meets_203 ?_
            refine g_iload_5 E dX12_meets_206 ?_
            refine g_iald E kR_3 sR_3 (by decide) h.1 dX12_meets_208 ?_
            replace h := h.2
            refine g_iload_6 E dX12_meets_209 ?_
            refine g_iload_3 E dX12_meets_211 ?_
            refine g_callvV E my_X12_meetsPart mi_X12_meetsPart msel_X12_meetsPart ml_RX12_389 (rm_ok (by omega) (by decide)) ⟨Nat.zero_le _, Nat.zero_le _⟩ kR_0 sR_0 rfl (m_X12_meetsPart hM E.2.2.1 (aR_3 hσ19 _) c6 c3 hσ19 h) rfl rfl (Nat.le_of_ble_eq_true rfl) dX12_meets_212 (fun σ21 r20 hσ21 h => ?_)
            exact (t_X12_meets_b215 E hr hM hK30 ih x1 x2 x3 x5 x6 σ21 c1 c2 c3 c5 c6 hσ21 h).weak (w_k (w_k (w_k (w_k (w_d (w_k (w_k w_n)))))))
          · replace h := h.2 hc
            refine g_goto E djX12_meets_171 ?_
            exact (t_X12_meets_b215 E hr hM hK30 ih x1 x2 x3 x5 x6 σ16 c1 c2 c3 c5 c6 hσ16 h).weak (w_k (w_k (w_k (w_k (w_d (w_k (w_k w_n)))))))
set_option maxHeartbeats 4000000 in
set_option maxRecDepth 100000 in
theorem t_X12_meets_b115 (E : Ev p s m args meth c cX12_meets 7 RX12 A0 D cA ad NR Z) (hr : meth.sig.returnType = none) {M : Int → Int → Int → St → (Int → St → Prop) → Prop} {d : Nat} (hM : ∀ (x1 : Int) (x2 : Int) (x3 : Int) (σ : St) (Q : Int → St → Prop), C32 x1 → C32 x2 → C32 x3 → CanS shR NR σ → M x1 x2 x3 σ Q → KtV Z l D cA ad shR NR yX12_meets cX12_meets 7 none (3 + 2 * d) [.ref (ad 0), vI x1, vI x2, vI x3] σ Q) {K30 : Int → Int → Int → Int → St → Prop} (hK30 : ∀ (x1 : Int) (x2 : Int) (x3 : Int) (x5 : Int) (σ : St), C32 x1 → C32 x2 → C32 x3 → C32 x5 → CanS shR NR σ → K30 x1 x2 x3 x5 σ → G p l e (rmL (3 + 2 * (d + 1)) 0 0) s m args below meth c 7 A0 D cA ad shR NR 0 0 (MQ below (QVc D cA ad shR NR Q A0) args s 0 0 A0) σ 30 [some (.ref (ad 0)), some (vI x1), some (vI x2), some (vI x3), none, some (vI x5), none] []) (x1 : Int) (x2 : Int) (x3 : Int) (x5 : Int) (σ : St) (c1 : C32 x1) (c2 : C32 x2) (c3 : C32 x3) (c5 : C32 x5) (hσ : CanS shR NR σ) (h : wp_X12_meets_b115 M Q K30 x1 x2 x3 x5 σ) : G p l e (rmL (3 + 2 * (d + 1)) 0 0) s m args below meth c 7 A0 D cA ad shR NR 0 0 (MQ below (QVc D cA ad shR NR Q A0) args s 0 0 A0) σ 115 [some (.ref (ad 0)), some (vI x1), some (vI x2), some (vI x3), none, some (vI x5), none] [] := by
  unfold wp_X12_meets_b115 at h
  refine g_iload_2 E dX12_meets_115 ?_
  refine g_iconst E dX12_meets_116 ?_
  refine g_iadd E dX12_meets_117 ?_
  refine g_nmI (fun v12 ev12 => ?_)
  replace h := h v12 ev12
  have cv12 : C32 v12 := by rw [ev12]; exact (c32_w _)
  refine g_istore_6 E rfl (by decide) dX12_meets_118 ?_
  exact (t_X12_meets_l120 E hr hM hK30 bigN x1 x2 x3 x5 v12 σ c1 c2 c3 c5 cv12 hσ h).weak (w_k (w_k (w_k (w_k (w_d (w_k (w_k w_n)))))))
set_option maxHeartbeats 4000000 in
set_option maxRecDepth 100000 in
theorem t_X12_meets_l30 (E : Ev p s m args meth c cX12_meets 7 RX12 A0 D cA ad NR Z) (hr : meth.sig.returnType = none) {M : Int → Int → Int → St → (Int → St → Prop) → Prop} {d : Nat} (hM : ∀ (x1 : Int) (x2 : Int) (x3 : Int) (σ : St) (Q : Int → St → Prop), C32 x1 → C32 x2 → C32 x3 → CanS shR NR σ → M x1 x2 x3 σ Q → KtV Z l D cA ad shR NR yX12_meets cX12_meets 7 none (3 + 2 * d) [.ref (ad 0), vI x1, vI x2, vI x3] σ Q) : ∀ (n : Nat) (x1 : Int) (x2 : Int) (x3 : Int) (x5 : Int) (σ : St), C32 x1 → C32 x2 → C32 x3 → C32 x5 → CanS shR NR σ → wp_X12_meets_l30 M Q n x1 x2 x3 x5 σ → G p l e (rmL (3 + 2 * (d + 1)) 0 0) s m args below meth c 7 A0 D cA ad shR NR 0 0 (MQ below (QVc D cA ad shR NR Q A0) args s 0 0 A0) σ 30 [some (.ref (ad 0)), some (vI x1), some (vI x2), some (vI x3), none, some (vI x5), none] [] := by
  intro n
  induction n with
  | zero => intro _ _ _ _ _ _ _ _ _ _ h; exact h.elim
  | succ n ih =>
    intro x1 x2 x3 x5 σ c1 c2 c3 c5 hσ h
    unfold wp_X12_meets_l30 at h
    refine g_iload_5 E dX12_meets_30 ?_
    refine g_aload_0 E dX12_meets_32 ?_
    refine g_getI E fl_RX12_252 kR_0 sR_0 rfl dX12_meets_33 ?_
    refine g_icmp_ge E c5 (fR_0_1 hσ) djX12_meets_36 (fun hc => ?_) (fun hc => ?_)
    · replace h := h.1 hc
      exact g_vret E hr h hσ dX12_meets_227
    · replace h := h.2 hc
      refine g_aload_0 E dX12_meets_39 ?_
      refine g_iload_5 E dX12_meets_40 ?_
      refine g_callvI E my_X12_isIn mi_X12_isIn msel_X12_isIn ml_RX12_298 (rm_ok (by omega) (by decide)) ⟨Nat.zero_le _, Nat.zero_le _⟩ kR_0 sR_0 rfl (m_X12_isIn E.2.2.1 c5 hσ h) rfl rfl (Nat.le_of_ble_eq_true rfl) dX12_meets_42 (fun r4 σ5 cr4 hσ5 h => ?_)
      refine g_if_eq E cr4 djX12_meets_45 (fun hc => ?_) (fun hc => ?_)
      · replace h := h.1 hc
        exact (t_X12_meets_b221 E hr hM ih x1 x2 x3 x5 σ5 c1 c2 c3 c5 hσ5 h).weak (w_k (w_k (w_k (w_k (w_d (w_k (w_d w_n)))))))
      · replace h := h.2 hc
        refine g_aload_0 E dX12_meets_48 ?_
        refine g_getR E fl_RX12_13 kR_0 sR_0 rfl dX12_meets_49 ?_
        refine g_iload_5 E dX12_meets_52 ?_
        refine g_iald E kR_1 sR_1 (by decide) h.1 dX12_meets_54 ?_
        replace h := h.2
        refine g_iload_1 E dX12_meets_55 ?_
        refine g_icmp_eq E (aR_1 hσ5 _) c1 djX12_meets_56 (fun hc => ?_) (fun hc => ?_)
        · replace h := h.1 hc
          refine g_aload_0 E dX12_meets_62 ?_
          refine g_getR E fl_RX12_20 kR_0 sR_0 rfl dX12_meets_63 ?_
          refine g_iload_5 E dX12_meets_66 ?_
          refine g_iald E kR_3 sR_3 (by decide) h.1 dX12_meets_68 ?_
          replace h := h.2
          refine g_iconst E dX12_meets_69 ?_
          refine g_icmp_ne E (aR_3 hσ5 _) cl_m1 djX12_meets_70 (fun hc => ?_) (fun hc => ?_)
          · replace h := h.1 hc
            exact (t_X12_meets_b115 E hr hM ih x1 x2 x3 x5 σ5 c1 c2 c3 c5 hσ5 h).weak (w_k (w_k (w_k (w_k (w_d (w_k (w_d w_n)))))))
          · replace h := h.2 hc
            refine g_aload_0 E dX12_meets_73 ?_
            refine g_aload_0 E dX12_meets_74 ?_
            refine g_getR E fl_RX12_17 kR_0 sR_0 rfl dX12_meets_75 ?_
            refine g_iload_5 E dX12_meets_78 ?_
            refine g_iald E kR_2 sR_2 (by decide) h.1 dX12_meets_80 ?_
            replace h := h.2
            refine g_iload_2 E dX12_meets_81 ?_
            refine g_iload_3 E dX12_meets_82 ?_
            refine g_callvI E my_X12_fits mi_X12_fits msel_X12_fits ml_RX12_287 (rm_ok (by omega) (by decide)) ⟨Nat.zero_le _, Nat.zero_le _⟩ kR_0 sR_0 rfl (m_X12_fits E.2.2.1 (aR_2 hσ5 _) c2 c3 hσ5 h) rfl rfl (Nat.le_of_ble_eq_true rfl) dX12_meets_83 (fun r6 σ7 cr6 hσ7 h => ?_)
            refine g_if_eq E cr6 djX12_meets_86 (fun hc => ?_) (fun hc => ?_)
            · replace h := h.1 hc
              exact (t_X12_meets_b115 E hr hM ih x1 x2 x3 x5 σ7 c1 c2 c3 c5 hσ7 h).weak (w_k (w_k (w_k (w_k (w_d (w_k (w_d w_n)))))))
            · replace h := h.2 hc
              refine g_aload_0 E dX12_meets_89 ?_
              refine g_dup E rfl dX12_meets_90 ?_
              refine g_getL E fl_RX12_386 kR_0 sR_0 rfl dX12_meets_91 ?_
              refine g_lconst (n := 1) E (by decide) dX12_meets_94 ?_
              refine g_iload_5 E dX12_meets_95 ?_
              refine g_lshl E dX12_meets_97 ?_
              refine g_lor E dX12_meets_98 ?_
              refine g_putL E fl_RX12_386 rfl rfl kR_0 sR_0 rfl dX12_meets_99 (g_nmS (fun σ8 eσ8 => ?_))
              replace h := h σ8 eσ8
              have hσ8 : CanS shR NR σ8 := by rw [eσ8]; exact uR_0_36 hσ7 (c64_t _)
              refine g_aload_0 E dX12_meets_102 ?_
              refine g_aload_0 E dX12_meets_103 ?_
              refine g_getR E fl_RX12_17 kR_0 sR_0 rfl dX12_meets_104 ?_
              refine g_iload_5 E dX12_meets_107 ?_
              refine g_iald E kR_2 sR_2 (by decide) h.1 dX12_meets_109 ?_
              replace h := h.2
              refine g_iload_2 E dX12_meets_110 ?_
              refine g_iload_3 E dX12_meets_111 ?_
              refine g_callvV E my_X12_meetsPart mi_X12_meetsPart msel_X12_meetsPart ml_RX12_389 (rm_ok (by omega) (by decide)) ⟨Nat.zero_le _, Nat.zero_le _⟩ kR_0 sR_0 rfl (m_X12_meetsPart hM E.2.2.1 (aR_2 hσ8 _) c2 c3 hσ8 h) rfl rfl (Nat.le_of_ble_eq_true rfl) dX12_meets_112 (fun σ10 r9 hσ10 h => ?_)
              exact (t_X12_meets_b115 E hr hM ih x1 x2 x3 x5 σ10 c1 c2 c3 c5 hσ10 h).weak (w_k (w_k (w_k (w_k (w_d (w_k (w_d w_n)))))))
        · replace h := h.2 hc
          refine g_goto E djX12_meets_59 ?_
          exact (t_X12_meets_b221 E hr hM ih x1 x2 x3 x5 σ5 c1 c2 c3 c5 hσ5 h).weak (w_k (w_k (w_k (w_k (w_d (w_k (w_d w_n)))))))
set_option maxHeartbeats 4000000 in
set_option maxRecDepth 100000 in
theorem t_X12_meets (E : Ev p s m args meth c cX12_meets 7 RX12 A0 D cA ad NR Z) (hr : meth.sig.returnType = none) {M : Int → Int → Int → St → (Int → St → Prop) → Prop} {d : Nat} (hM : ∀ (x1 : Int) (x2 : Int) (x3 : Int) (σ : St) (Q : Int → St → Prop), C32 x1 → C32 x2 → C32 x3 → CanS shR NR σ → M x1 x2 x3 σ Q → KtV Z l D cA ad shR NR yX12_meets cX12_meets 7 none (3 + 2 * d) [.ref (ad 0), vI x1, vI x2, vI x3] σ Q) (x1 : Int) (x2 : Int) (x3 : Int) (σ : St) (c1 : C32 x1) (c2 : C32 x2) (c3 : C32 x3) (hσ : CanS shR NR σ) (h : wp_X12_item x1 x2 x3 σ (fun r1 σ2 => (0 ≤ r1 ∧ r1 < 768) ∧ ((σ2 21 (r1.toNat) = 0) → (0 ≤ r1 ∧ r1 < 768) ∧ ∀ σ3 : St, σ3 = upS σ2 21 r1.toNat (b_and 1 1) → wp_X12_meets_l30 M Q bigN x1 x2 x3 0 σ3) ∧ (¬ (σ2 21 (r1.toNat) = 0) → Q 0 σ2))) : G p l e (rmL (3 + 2 * (d + 1)) 0 0) s m args below meth c 7 A0 D cA ad shR NR 0 0 (MQ below (QVc D cA ad shR NR Q A0) args s 0 0 A0) σ 0 [some (.ref (ad 0)), some (vI x1), some (vI x2), some (vI x3), none, none, none] [] := by
  refine g_iload_1 E dX12_meets_0 ?_
  refine g_iload_2 E dX12_meets_1 ?_
  refine g_iload_3 E dX12_meets_2 ?_
  refine g_callsI E my_X12_item ms_X12_item ml_RX12_282 (rm_ok (by omega) (by decide)) ⟨Nat.zero_le _, Nat.zero_le _⟩ (m_X12_item E.2.2.1 c1 c2 c3 hσ h) rfl rfl (Nat.le_of_ble_eq_true rfl) dX12_meets_3 (fun r1 σ2 cr1 hσ2 h => ?_)
  refine g_istore_4 E rfl (by decide) dX12_meets_6 ?_
  refine g_aload_0 E dX12_meets_8 ?_
  refine g_getR E fl_RX12_80 kR_0 sR_0 rfl dX12_meets_9 ?_
  refine g_iload_4 E dX12_meets_12 ?_
  refine g_zald E kR_21 sR_21 (by decide) h.1 dX12_meets_14 ?_
  replace h := h.2
  refine g_if_eq E (aR_21 hσ2 _) djX12_meets_15 (fun hc => ?_) (fun hc => ?_)
  · replace h := h.1 hc
    refine g_aload_0 E dX12_meets_19 ?_
    refine g_getR E fl_RX12_80 kR_0 sR_0 rfl dX12_meets_20 ?_
    refine g_iload_4 E dX12_meets_23 ?_
    refine g_iconst E dX12_meets_25 ?_
    refine g_zast E kR_21 sR_21 (by decide) h.1 dX12_meets_26 (g_nmS (fun σ3 eσ3 => ?_))
    replace h := h.2 σ3 eσ3
    have hσ3 : CanS shR NR σ3 := by rw [eσ3]; exact wR_21 hσ2 (c32_t _)
    refine g_iconst E dX12_meets_27 ?_
    refine g_istore_5 E rfl (by decide) dX12_meets_28 ?_
    exact (t_X12_meets_l30 E hr hM bigN x1 x2 x3 0 σ3 c1 c2 c3 cl_0 hσ3 h).weak (w_k (w_k (w_k (w_k (w_d (w_k (w_d w_n)))))))
  · replace h := h.2 hc
    exact g_vret E hr h hσ2 dX12_meets_18
end
theorem m_X12_meets {Z : (Nat → Nat) × (Nat → Nat)} {l : Launch} {D : va_G} {cA : Nat → ClassId} {ad : Nat → Nat} (d : Nat) (hA : AdOk NR ad) : ∀ {x1 x2 x3 : Int} {σ : St} {Q : Int → St → Prop}, C32 x1 → C32 x2 → C32 x3 → CanS shR NR σ → wp_X12_meets d x1 x2 x3 σ Q → KtV Z l D cA ad shR NR yX12_meets cX12_meets 7 none (3 + 2 * d) [.ref (ad 0), vI x1, vI x2, vI x3] σ Q := by
  induction d with
  | zero => intro _ _ _ _ _ _ _ _ _ h; exact h.elim
  | succ d ih =>
    intro x1 x2 x3 σ Q c1 c2 c3 hσ h
    unfold wp_X12_meets at h
    exact KtV.of my_X12_meets hA [some (.ref (ad 0)), some (vI x1), some (vI x2), some (vI x3), none, none, none] (Nat.le_of_ble_eq_true rfl) rfl (fun p e s m args below meth c A0 E hr => t_X12_meets E hr (fun x1 x2 x3 σ Q c1 c2 c3 hσ h => ih c1 c2 c3 hσ h) x1 x2 x3 σ c1 c2 c3 hσ h)
