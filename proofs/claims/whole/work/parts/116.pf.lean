theorem dX12_valuePart_0 : Dc cX12_valuePart 0 (.iload_n 1) 1 1 := ⟨by decide +kernel, rfl⟩
theorem dX12_valuePart_1 : Dc cX12_valuePart 1 (.bipush 100) 2 3 := ⟨by decide +kernel, rfl⟩
theorem djX12_valuePart_3 : Dj cX12_valuePart 3 (.if_icmp .lt 12) 3 6 12 15 := ⟨by decide +kernel, rfl, by decide⟩
theorem dX12_valuePart_6 : Dc cX12_valuePart 6 (.aload_n 0) 1 7 := ⟨by decide +kernel, rfl⟩
theorem dX12_valuePart_7 : Dc cX12_valuePart 7 (.getfield 35) 3 10 := ⟨by decide +kernel, rfl⟩
theorem dX12_valuePart_10 : Dc cX12_valuePart 10 (.iconst 0) 1 11 := ⟨by decide +kernel, rfl⟩
theorem dX12_valuePart_11 : Dc cX12_valuePart 11 (.iaload) 1 12 := ⟨by decide +kernel, rfl⟩
theorem djX12_valuePart_12 : Dj cX12_valuePart 12 (.goto 14) 3 15 14 26 := ⟨by decide +kernel, rfl, by decide⟩
theorem dX12_valuePart_15 : Dc cX12_valuePart 15 (.aload_n 0) 1 16 := ⟨by decide +kernel, rfl⟩
theorem dX12_valuePart_16 : Dc cX12_valuePart 16 (.getfield 95) 3 19 := ⟨by decide +kernel, rfl⟩
theorem dX12_valuePart_19 : Dc cX12_valuePart 19 (.iload_n 1) 1 20 := ⟨by decide +kernel, rfl⟩
theorem dX12_valuePart_20 : Dc cX12_valuePart 20 (.iload_n 2) 1 21 := ⟨by decide +kernel, rfl⟩
theorem dX12_valuePart_21 : Dc cX12_valuePart 21 (.iload_n 3) 1 22 := ⟨by decide +kernel, rfl⟩
theorem dX12_valuePart_22 : Dc cX12_valuePart 22 (.invokestatic 282) 3 25 := ⟨by decide +kernel, rfl⟩
theorem dX12_valuePart_25 : Dc cX12_valuePart 25 (.iaload) 1 26 := ⟨by decide +kernel, rfl⟩
theorem dX12_valuePart_26 : Dc cX12_valuePart 26 (.ireturn) 1 27 := ⟨by decide +kernel, rfl⟩
section
variable {p : Program} {l : Launch} {e : Env} {s : State} {m : MethodId} {args : Array Value} {below : List Frame} {meth : Method} {c : Code} {A0 : Nat → Prop} {D : va_G} {cA : Nat → ClassId} {ad : Nat → Nat} {Z : (Nat → Nat) × (Nat → Nat)} {Q : Int → St → Prop}
set_option maxHeartbeats 4000000 in
set_option maxRecDepth 100000 in
theorem t_X12_valuePart (E : Ev p s m args meth c cX12_valuePart 4 RX12 A0 D cA ad NR Z) (hr : meth.sig.returnType = (some .int)) (x1 : Int) (x2 : Int) (x3 : Int) (σ : St) (c1 : C32 x1) (c2 : C32 x2) (c3 : C32 x3) (hσ : CanS shR NR σ) (h : wp_X12_valuePart x1 x2 x3 σ Q) : G p l e (rmL 2 0 0) s m args below meth c 4 A0 D cA ad shR NR 0 0 (MQ below (QIc D cA ad shR NR Q A0) args s 0 0 A0) σ 0 [some (.ref (ad 0)), some (vI x1), some (vI x2), some (vI x3)] [] := by
  unfold wp_X12_valuePart at h
  refine g_iload_1 E dX12_valuePart_0 ?_
  refine g_bipush E (by decide) dX12_valuePart_1 ?_
  refine g_icmp_lt E c1 cl_100 djX12_valuePart_3 (fun hc => ?_) (fun hc => ?_)
  · replace h := h.1 hc
    refine g_aload_0 E dX12_valuePart_15 ?_
    refine g_getR E fl_RX12_95 kR_0 sR_0 rfl dX12_valuePart_16 ?_
    refine g_iload_1 E dX12_valuePart_19 ?_
    refine g_iload_2 E dX12_valuePart_20 ?_
    refine g_iload_3 E dX12_valuePart_21 ?_
    refine g_callsI E my_X12_item ms_X12_item ml_RX12_282 (rm_ok (by decide) (by decide)) ⟨Nat.zero_le _, Nat.zero_le _⟩ (m_X12_item E.2.2.1 c1 c2 c3 hσ h) rfl rfl (Nat.le_of_ble_eq_true rfl) dX12_valuePart_22 (fun r1 σ2 cr1 hσ2 h => ?_)
    refine g_iald E kR_26 sR_26 (by decide) h.1 dX12_valuePart_25 ?_
    replace h := h.2
    exact g_iret E hr (aR_26 hσ2 _) h hσ2 dX12_valuePart_26
  · replace h := h.2 hc
    refine g_aload_0 E dX12_valuePart_6 ?_
    refine g_getR E fl_RX12_35 kR_0 sR_0 rfl dX12_valuePart_7 ?_
    refine g_iconst E dX12_valuePart_10 ?_
    refine g_iald E kR_8 sR_8 (by decide) (by decide) dX12_valuePart_11 ?_
    refine g_goto E djX12_valuePart_12 ?_
    exact g_iret E hr (aR_8 hσ _) h hσ dX12_valuePart_26
end
theorem m_X12_valuePart {Z : (Nat → Nat) × (Nat → Nat)} {l : Launch} {D : va_G} {cA : Nat → ClassId} {ad : Nat → Nat} {x1 x2 x3 : Int} {σ : St} {Q : Int → St → Prop} (hA : AdOk NR ad) (c1 : C32 x1) (c2 : C32 x2) (c3 : C32 x3) (hσ : CanS shR NR σ) (h : wp_X12_valuePart x1 x2 x3 σ Q) : KtI Z l D cA ad shR NR yX12_valuePart cX12_valuePart 4 (some .int) 2 [.ref (ad 0), vI x1, vI x2, vI x3] σ Q :=
  KtI.of my_X12_valuePart hA [some (.ref (ad 0)), some (vI x1), some (vI x2), some (vI x3)] (Nat.le_of_ble_eq_true rfl) rfl (fun p e s m args below meth c A0 E hr => t_X12_valuePart E hr x1 x2 x3 σ c1 c2 c3 hσ h)
theorem dX12_valueAnew_0 : Dc cX12_valueAnew 0 (.aload_n 0) 1 1 := ⟨by decide +kernel, rfl⟩
theorem dX12_valueAnew_1 : Dc cX12_valueAnew 1 (.getfield 32) 3 4 := ⟨by decide +kernel, rfl⟩
theorem dX12_valueAnew_4 : Dc cX12_valueAnew 4 (.iconst 0) 1 5 := ⟨by decide +kernel, rfl⟩
theorem dX12_valueAnew_5 : Dc cX12_valueAnew 5 (.iaload) 1 6 := ⟨by decide +kernel, rfl⟩
theorem dX12_valueAnew_6 : Dc cX12_valueAnew 6 (.istore 4) 2 8 := ⟨by decide +kernel, rfl⟩
theorem dX12_valueAnew_8 : Dc cX12_valueAnew 8 (.iconst 0) 1 9 := ⟨by decide +kernel, rfl⟩
theorem dX12_valueAnew_9 : Dc cX12_valueAnew 9 (.istore 5) 2 11 := ⟨by decide +kernel, rfl⟩
theorem dX12_valueAnew_11 : Dc cX12_valueAnew 11 (.iload 5) 2 13 := ⟨by decide +kernel, rfl⟩
theorem dX12_valueAnew_13 : Dc cX12_valueAnew 13 (.aload_n 0) 1 14 := ⟨by decide +kernel, rfl⟩
theorem dX12_valueAnew_14 : Dc cX12_valueAnew 14 (.getfield 252) 3 17 := ⟨by decide +kernel, rfl⟩
theorem djX12_valueAnew_17 : Dj cX12_valueAnew 17 (.if_icmp .ge 204) 3 20 204 221 := ⟨by decide +kernel, rfl, by decide⟩
theorem dX12_valueAnew_20 : Dc cX12_valueAnew 20 (.aload_n 0) 1 21 := ⟨by decide +kernel, rfl⟩
theorem dX12_valueAnew_21 : Dc cX12_valueAnew 21 (.iload 5) 2 23 := ⟨by decide +kernel, rfl⟩
theorem dX12_valueAnew_23 : Dc cX12_valueAnew 23 (.invokevirtual 298) 3 26 := ⟨by decide +kernel, rfl⟩
theorem djX12_valueAnew_26 : Dj cX12_valueAnew 26 (.ifCond .eq 189) 3 29 189 215 := ⟨by decide +kernel, rfl, by decide⟩
theorem dX12_valueAnew_29 : Dc cX12_valueAnew 29 (.aload_n 0) 1 30 := ⟨by decide +kernel, rfl⟩
theorem dX12_valueAnew_30 : Dc cX12_valueAnew 30 (.getfield 13) 3 33 := ⟨by decide +kernel, rfl⟩
theorem dX12_valueAnew_33 : Dc cX12_valueAnew 33 (.iload 5) 2 35 := ⟨by decide +kernel, rfl⟩
theorem dX12_valueAnew_35 : Dc cX12_valueAnew 35 (.iaload) 1 36 := ⟨by decide +kernel, rfl⟩
theorem dX12_valueAnew_36 : Dc cX12_valueAnew 36 (.iload_n 1) 1 37 := ⟨by decide +kernel, rfl⟩
theorem djX12_valueAnew_37 : Dj cX12_valueAnew 37 (.if_icmp .eq 6) 3 40 6 43 := ⟨by decide +kernel, rfl, by decide⟩
theorem djX12_valueAnew_40 : Dj cX12_valueAnew 40 (.goto 175) 3 43 175 215 := ⟨by decide +kernel, rfl, by decide⟩
theorem dX12_valueAnew_43 : Dc cX12_valueAnew 43 (.aload_n 0) 1 44 := ⟨by decide +kernel, rfl⟩
theorem dX12_valueAnew_44 : Dc cX12_valueAnew 44 (.getfield 20) 3 47 := ⟨by decide +kernel, rfl⟩
theorem dX12_valueAnew_47 : Dc cX12_valueAnew 47 (.iload 5) 2 49 := ⟨by decide +kernel, rfl⟩
theorem dX12_valueAnew_49 : Dc cX12_valueAnew 49 (.iaload) 1 50 := ⟨by decide +kernel, rfl⟩
theorem dX12_valueAnew_50 : Dc cX12_valueAnew 50 (.iconst (-1)) 1 51 := ⟨by decide +kernel, rfl⟩
theorem djX12_valueAnew_51 : Dj cX12_valueAnew 51 (.if_icmp .ne 51) 3 54 51 102 := ⟨by decide +kernel, rfl, by decide⟩
theorem dX12_valueAnew_54 : Dc cX12_valueAnew 54 (.aload_n 0) 1 55 := ⟨by decide +kernel, rfl⟩
theorem dX12_valueAnew_55 : Dc cX12_valueAnew 55 (.aload_n 0) 1 56 := ⟨by decide +kernel, rfl⟩
theorem dX12_valueAnew_56 : Dc cX12_valueAnew 56 (.getfield 17) 3 59 := ⟨by decide +kernel, rfl⟩
theorem dX12_valueAnew_59 : Dc cX12_valueAnew 59 (.iload 5) 2 61 := ⟨by decide +kernel, rfl⟩
theorem dX12_valueAnew_61 : Dc cX12_valueAnew 61 (.iaload) 1 62 := ⟨by decide +kernel, rfl⟩
theorem dX12_valueAnew_62 : Dc cX12_valueAnew 62 (.iload_n 2) 1 63 := ⟨by decide +kernel, rfl⟩
theorem dX12_valueAnew_63 : Dc cX12_valueAnew 63 (.iload_n 3) 1 64 := ⟨by decide +kernel, rfl⟩
theorem dX12_valueAnew_64 : Dc cX12_valueAnew 64 (.invokevirtual 422) 3 67 := ⟨by decide +kernel, rfl⟩
theorem djX12_valueAnew_67 : Dj cX12_valueAnew 67 (.ifCond .eq 35) 3 70 35 102 := ⟨by decide +kernel, rfl, by decide⟩
theorem dX12_valueAnew_70 : Dc cX12_valueAnew 70 (.aload_n 0) 1 71 := ⟨by decide +kernel, rfl⟩
theorem dX12_valueAnew_71 : Dc cX12_valueAnew 71 (.iload 4) 2 73 := ⟨by decide +kernel, rfl⟩
theorem dX12_valueAnew_73 : Dc cX12_valueAnew 73 (.aload_n 0) 1 74 := ⟨by decide +kernel, rfl⟩
theorem dX12_valueAnew_74 : Dc cX12_valueAnew 74 (.aload_n 0) 1 75 := ⟨by decide +kernel, rfl⟩
theorem dX12_valueAnew_75 : Dc cX12_valueAnew 75 (.getfield 26) 3 78 := ⟨by decide +kernel, rfl⟩
theorem dX12_valueAnew_78 : Dc cX12_valueAnew 78 (.iload 5) 2 80 := ⟨by decide +kernel, rfl⟩
theorem dX12_valueAnew_80 : Dc cX12_valueAnew 80 (.iaload) 1 81 := ⟨by decide +kernel, rfl⟩
theorem dX12_valueAnew_81 : Dc cX12_valueAnew 81 (.aload_n 0) 1 82 := ⟨by decide +kernel, rfl⟩
theorem dX12_valueAnew_82 : Dc cX12_valueAnew 82 (.aload_n 0) 1 83 := ⟨by decide +kernel, rfl⟩
theorem dX12_valueAnew_83 : Dc cX12_valueAnew 83 (.getfield 17) 3 86 := ⟨by decide +kernel, rfl⟩
theorem dX12_valueAnew_86 : Dc cX12_valueAnew 86 (.iload 5) 2 88 := ⟨by decide +kernel, rfl⟩
theorem dX12_valueAnew_88 : Dc cX12_valueAnew 88 (.iaload) 1 89 := ⟨by decide +kernel, rfl⟩
theorem dX12_valueAnew_89 : Dc cX12_valueAnew 89 (.iload_n 2) 1 90 := ⟨by decide +kernel, rfl⟩
theorem dX12_valueAnew_90 : Dc cX12_valueAnew 90 (.iload_n 3) 1 91 := ⟨by decide +kernel, rfl⟩
theorem dX12_valueAnew_91 : Dc cX12_valueAnew 91 (.invokevirtual 425) 3 94 := ⟨by decide +kernel, rfl⟩
theorem dX12_valueAnew_94 : Dc cX12_valueAnew 94 (.invokevirtual 272) 3 97 := ⟨by decide +kernel, rfl⟩
theorem dX12_valueAnew_97 : Dc cX12_valueAnew 97 (.invokevirtual 269) 3 100 := ⟨by decide +kernel, rfl⟩
theorem dX12_valueAnew_100 : Dc cX12_valueAnew 100 (.istore 4) 2 102 := ⟨by decide +kernel, rfl⟩
theorem dX12_valueAnew_102 : Dc cX12_valueAnew 102 (.iload_n 2) 1 103 := ⟨by decide +kernel, rfl⟩
theorem dX12_valueAnew_103 : Dc cX12_valueAnew 103 (.iconst 1) 1 104 := ⟨by decide +kernel, rfl⟩
theorem dX12_valueAnew_104 : Dc cX12_valueAnew 104 (.iadd) 1 105 := ⟨by decide +kernel, rfl⟩
theorem dX12_valueAnew_105 : Dc cX12_valueAnew 105 (.istore 6) 2 107 := ⟨by decide +kernel, rfl⟩
theorem dX12_valueAnew_107 : Dc cX12_valueAnew 107 (.iload 6) 2 109 := ⟨by decide +kernel, rfl⟩
theorem dX12_valueAnew_109 : Dc cX12_valueAnew 109 (.iload_n 3) 1 110 := ⟨by decide +kernel, rfl⟩
theorem djX12_valueAnew_110 : Dj cX12_valueAnew 110 (.if_icmp .ge 105) 3 113 105 215 := ⟨by decide +kernel, rfl, by decide⟩
theorem dX12_valueAnew_113 : Dc cX12_valueAnew 113 (.aload_n 0) 1 114 := ⟨by decide +kernel, rfl⟩
theorem dX12_valueAnew_114 : Dc cX12_valueAnew 114 (.getfield 20) 3 117 := ⟨by decide +kernel, rfl⟩
theorem dX12_valueAnew_117 : Dc cX12_valueAnew 117 (.iload 5) 2 119 := ⟨by decide +kernel, rfl⟩
theorem dX12_valueAnew_119 : Dc cX12_valueAnew 119 (.iaload) 1 120 := ⟨by decide +kernel, rfl⟩
theorem dX12_valueAnew_120 : Dc cX12_valueAnew 120 (.iconst (-1)) 1 121 := ⟨by decide +kernel, rfl⟩
theorem djX12_valueAnew_121 : Dj cX12_valueAnew 121 (.if_icmp .eq 94) 3 124 94 215 := ⟨by decide +kernel, rfl, by decide⟩
theorem dX12_valueAnew_124 : Dc cX12_valueAnew 124 (.aload_n 0) 1 125 := ⟨by decide +kernel, rfl⟩
theorem dX12_valueAnew_125 : Dc cX12_valueAnew 125 (.aload_n 0) 1 126 := ⟨by decide +kernel, rfl⟩
theorem dX12_valueAnew_126 : Dc cX12_valueAnew 126 (.getfield 17) 3 129 := ⟨by decide +kernel, rfl⟩
theorem dX12_valueAnew_129 : Dc cX12_valueAnew 129 (.iload 5) 2 131 := ⟨by decide +kernel, rfl⟩
theorem dX12_valueAnew_131 : Dc cX12_valueAnew 131 (.iaload) 1 132 := ⟨by decide +kernel, rfl⟩
theorem dX12_valueAnew_132 : Dc cX12_valueAnew 132 (.iload_n 2) 1 133 := ⟨by decide +kernel, rfl⟩
theorem dX12_valueAnew_133 : Dc cX12_valueAnew 133 (.iload 6) 2 135 := ⟨by decide +kernel, rfl⟩
theorem dX12_valueAnew_135 : Dc cX12_valueAnew 135 (.invokevirtual 422) 3 138 := ⟨by decide +kernel, rfl⟩
theorem djX12_valueAnew_138 : Dj cX12_valueAnew 138 (.ifCond .eq 71) 3 141 71 209 := ⟨by decide +kernel, rfl, by decide⟩
theorem dX12_valueAnew_141 : Dc cX12_valueAnew 141 (.aload_n 0) 1 142 := ⟨by decide +kernel, rfl⟩
theorem dX12_valueAnew_142 : Dc cX12_valueAnew 142 (.aload_n 0) 1 143 := ⟨by decide +kernel, rfl⟩
theorem dX12_valueAnew_143 : Dc cX12_valueAnew 143 (.getfield 20) 3 146 := ⟨by decide +kernel, rfl⟩
theorem dX12_valueAnew_146 : Dc cX12_valueAnew 146 (.iload 5) 2 148 := ⟨by decide +kernel, rfl⟩
theorem dX12_valueAnew_148 : Dc cX12_valueAnew 148 (.iaload) 1 149 := ⟨by decide +kernel, rfl⟩
theorem dX12_valueAnew_149 : Dc cX12_valueAnew 149 (.iload 6) 2 151 := ⟨by decide +kernel, rfl⟩
theorem dX12_valueAnew_151 : Dc cX12_valueAnew 151 (.iload_n 3) 1 152 := ⟨by decide +kernel, rfl⟩
theorem dX12_valueAnew_152 : Dc cX12_valueAnew 152 (.invokevirtual 422) 3 155 := ⟨by decide +kernel, rfl⟩
theorem djX12_valueAnew_155 : Dj cX12_valueAnew 155 (.ifCond .eq 54) 3 158 54 209 := ⟨by decide +kernel, rfl, by decide⟩
theorem dX12_valueAnew_158 : Dc cX12_valueAnew 158 (.aload_n 0) 1 159 := ⟨by decide +kernel, rfl⟩
theorem dX12_valueAnew_159 : Dc cX12_valueAnew 159 (.iload 4) 2 161 := ⟨by decide +kernel, rfl⟩
theorem dX12_valueAnew_161 : Dc cX12_valueAnew 161 (.aload_n 0) 1 162 := ⟨by decide +kernel, rfl⟩
theorem dX12_valueAnew_162 : Dc cX12_valueAnew 162 (.aload_n 0) 1 163 := ⟨by decide +kernel, rfl⟩
theorem dX12_valueAnew_163 : Dc cX12_valueAnew 163 (.aload_n 0) 1 164 := ⟨by decide +kernel, rfl⟩
theorem dX12_valueAnew_164 : Dc cX12_valueAnew 164 (.getfield 26) 3 167 := ⟨by decide +kernel, rfl⟩
theorem dX12_valueAnew_167 : Dc cX12_valueAnew 167 (.iload 5) 2 169 := ⟨by decide +kernel, rfl⟩
theorem dX12_valueAnew_169 : Dc cX12_valueAnew 169 (.iaload) 1 170 := ⟨by decide +kernel, rfl⟩
theorem dX12_valueAnew_170 : Dc cX12_valueAnew 170 (.aload_n 0) 1 171 := ⟨by decide +kernel, rfl⟩
theorem dX12_valueAnew_171 : Dc cX12_valueAnew 171 (.aload_n 0) 1 172 := ⟨by decide +kernel, rfl⟩
theorem dX12_valueAnew_172 : Dc cX12_valueAnew 172 (.getfield 17) 3 175 := ⟨by decide +kernel, rfl⟩
theorem dX12_valueAnew_175 : Dc cX12_valueAnew 175 (.iload 5) 2 177 := ⟨by decide +kernel, rfl⟩
theorem dX12_valueAnew_177 : Dc cX12_valueAnew 177 (.iaload) 1 178 := ⟨by decide +kernel, rfl⟩
theorem dX12_valueAnew_178 : Dc cX12_valueAnew 178 (.iload_n 2) 1 179 := ⟨by decide +kernel, rfl⟩
theorem dX12_valueAnew_179 : Dc cX12_valueAnew 179 (.iload 6) 2 181 := ⟨by decide +kernel, rfl⟩
theorem dX12_valueAnew_181 : Dc cX12_valueAnew 181 (.invokevirtual 425) 3 184 := ⟨by decide +kernel, rfl⟩
theorem dX12_valueAnew_184 : Dc cX12_valueAnew 184 (.invokevirtual 272) 3 187 := ⟨by decide +kernel, rfl⟩
theorem dX12_valueAnew_187 : Dc cX12_valueAnew 187 (.aload_n 0) 1 188 := ⟨by decide +kernel, rfl⟩
theorem dX12_valueAnew_188 : Dc cX12_valueAnew 188 (.aload_n 0) 1 189 := ⟨by decide +kernel, rfl⟩
theorem dX12_valueAnew_189 : Dc cX12_valueAnew 189 (.getfield 20) 3 192 := ⟨by decide +kernel, rfl⟩
theorem dX12_valueAnew_192 : Dc cX12_valueAnew 192 (.iload 5) 2 194 := ⟨by decide +kernel, rfl⟩
theorem dX12_valueAnew_194 : Dc cX12_valueAnew 194 (.iaload) 1 195 := ⟨by decide +kernel, rfl⟩
theorem dX12_valueAnew_195 : Dc cX12_valueAnew 195 (.iload 6) 2 197 := ⟨by decide +kernel, rfl⟩
theorem dX12_valueAnew_197 : Dc cX12_valueAnew 197 (.iload_n 3) 1 198 := ⟨by decide +kernel, rfl⟩
theorem dX12_valueAnew_198 : Dc cX12_valueAnew 198 (.invokevirtual 425) 3 201 := ⟨by decide +kernel, rfl⟩
theorem dX12_valueAnew_201 : Dc cX12_valueAnew 201 (.invokevirtual 272) 3 204 := ⟨by decide +kernel, rfl⟩
theorem dX12_valueAnew_204 : Dc cX12_valueAnew 204 (.invokevirtual 269) 3 207 := ⟨by decide +kernel, rfl⟩
theorem dX12_valueAnew_207 : Dc cX12_valueAnew 207 (.istore 4) 2 209 := ⟨by decide +kernel, rfl⟩
theorem dX12_valueAnew_209 : Dc cX12_valueAnew 209 (.iinc 6 1) 3 212 := ⟨by decide +kernel, rfl⟩
theorem djX12_valueAnew_212 : Dj cX12_valueAnew 212 (.goto (-105)) 3 215 (-105) 107 := ⟨by decide +kernel, rfl, by decide⟩
theorem dX12_valueAnew_215 : Dc cX12_valueAnew 215 (.iinc 5 1) 3 218 := ⟨by decide +kernel, rfl⟩
theorem djX12_valueAnew_218 : Dj cX12_valueAnew 218 (.goto (-207)) 3 221 (-207) 11 := ⟨by decide +kernel, rfl, by decide⟩
theorem dX12_valueAnew_221 : Dc cX12_valueAnew 221 (.iload 4) 2 223 := ⟨by decide +kernel, rfl⟩
theorem dX12_valueAnew_223 : Dc cX12_valueAnew 223 (.ireturn) 1 224 := ⟨by decide +kernel, rfl⟩
section
variable {p : Program} {l : Launch} {e : Env} {s : State} {m : MethodId} {args : Array Value} {below : List Frame} {meth : Method} {c : Code} {A0 : Nat → Prop} {D : va_G} {cA : Nat → ClassId} {ad : Nat → Nat} {Z : (Nat → Nat) × (Nat → Nat)} {Q : Int → St → Prop}
set_option maxHeartbeats 4000000 in
set_option maxRecDepth 100000 in
theorem t_X12_valueAnew_b209 (E : Ev p s m args meth c cX12_valueAnew 7 RX12 A0 D cA ad NR Z) (hr : meth.sig.returnType = (some .int)) {K11 : Int → Int → Int → Int → Int → St → Prop} (hK11 : ∀ (x1 : Int) (x2 : Int) (x3 : Int) (x4 : Int) (x5 : Int) (σ : St), C32 x1 → C32 x2 → C32 x3 → C32 x4 → C32 x5 → CanS shR NR σ → K11 x1 x2 x3 x4 x5 σ → G p l e (rmL 3 0 0) s m args below meth c 7 A0 D cA ad shR NR 0 0 (MQ below (QIc D cA ad shR NR Q A0) args s 0 0 A0) σ 11 [some (.ref (ad 0)), some (vI x1), some (vI x2), some (vI x3), some (vI x4), some (vI x5), none] []) {K107 : Int → Int → Int → Int → Int → Int → St → Prop} (hK107 : ∀ (x1 : Int) (x2 : Int) (x3 : Int) (x4 : Int) (x5 : Int) (x6 : Int) (σ : St), C32 x1 → C32 x2 → C32 x3 → C32 x4 → C32 x5 → C32 x6 → CanS shR NR σ → K107 x1 x2 x3 x4 x5 x6 σ → G p l e (rmL 3 0 0) s m args below meth c 7 A0 D cA ad shR NR 0 0 (MQ below (QIc D cA ad shR NR Q A0) args s 0 0 A0) σ 107 [some (.ref (ad 0)), some (vI x1), some (vI x2), some (vI x3), some (vI x4), some (vI x5), some (vI x6)] []) (x1 : Int) (x2 : Int) (x3 : Int) (x4 : Int) (x5 : Int) (x6 : Int) (σ : St) (c1 : C32 x1) (c2 : C32 x2) (c3 : C32 x3) (c4 : C32 x4) (c5 : C32 x5) (c6 : C32 x6) (hσ : CanS shR NR σ) (h : wp_X12_valueAnew_b209 Q K11 K107 x1 x2 x3 x4 x5 x6 σ) : G p l e (rmL 3 0 0) s m args below meth c 7 A0 D cA ad shR NR 0 0 (MQ below (QIc D cA ad shR NR Q A0) args s 0 0 A0) σ 209 [some (.ref (ad 0)), some (vI x1), some (vI x2), some (vI x3), some (vI x4), some (vI x5), some (vI x6)] [] := by
  unfold wp_X12_valueAnew_b209 at h
  refine g_iinc_6 E rfl (by decide) dX12_valueAnew_209 (fun v28 ev28 => ?_)
  replace h := h v28 ev28
  have cv28 : C32 v28 := by rw [ev28]; exact c32_w _
  refine g_goto E djX12_valueAnew_212 ?_
  exact (hK107 x1 x2 x3 x4 x5 v28 σ c1 c2 c3 c4 c5 cv28 hσ h).weak (w_k (w_k (w_k (w_k (w_k (w_k (w_k w_n)))))))
set_option maxHeartbeats 4000000 in
set_option maxRecDepth 100000 in
theorem t_X12_valueAnew_b215 (E : Ev p s m args meth c cX12_valueAnew 7 RX12 A0 D cA ad NR Z) (hr : meth.sig.returnType = (some .int)) {K11 : Int → Int → Int → Int → Int → St → Prop} (hK11 : ∀ (x1 : Int) (x2 : Int) (x3 : Int) (x4 : Int) (x5 : Int) (σ : St), C32 x1 → C32 x2 → C32 x3 → C32 x4 → C32 x5 → CanS shR NR σ → K11 x1 x2 x3 x4 x5 σ → G p l e (rmL 3 0 0) s m args below meth c 7 A0 D cA ad shR NR 0 0 (MQ below (QIc D cA ad shR NR Q A0) args s 0 0 A0) σ 11 [some (.ref (ad 0)), some (vI x1), some (vI x2), some (vI x3), some (vI x4), some (vI x5), none] []) (x1 : Int) (x2 : Int) (x3 : Int) (x4 : Int) (x5 : Int) (σ : St) (c1 : C32 x1) (c2 : C32 x2) (c3 : C32 x3) (c4 : C32 x4) (c5 : C32 x5) (hσ : CanS shR NR σ) (h : wp_X12_valueAnew_b215 Q K11 x1 x2 x3 x4 x5 σ) : G p l e (rmL 3 0 0) s m args below meth c 7 A0 D cA ad shR NR 0 0 (MQ below (QIc D cA ad shR NR Q A0) args s 0 0 A0) σ 215 [some (.ref (ad 0)), some (vI x1), some (vI x2), some (vI x3), some (vI x4), some (vI x5), none] [] := by
  unfold wp_X12_valueAnew_b215 at h
  refine g_iinc_5 E rfl (by decide) dX12_valueAnew_215 (fun v12 ev12 => ?_)
  replace h := h v12 ev12
  have cv12 : C32 v12 := by rw [ev12]; exact c32_w _
  refine g_goto E djX12_valueAnew_218 ?_
  exact (hK11 x1 x2 x3 x4 v12 σ c1 c2 c3 c4 cv12 hσ h).weak (w_k (w_k (w_k (w_k (w_k (w_k (w_d w_n)))))))
set_option maxHeartbeats 4000000 in
set_option maxRecDepth 100000 in
theorem t_X12_valueAnew_l107 (E : Ev p s m args meth c cX12_valueAnew 7 RX12 A0 D cA ad NR Z) (hr : meth.sig.returnType = (some .int)) {K11 : Int → Int → Int → Int → Int → St → Prop} (hK11 : ∀ (x1 : Int) (x2 : Int) (x3 : Int) (x4 : Int) (x5 : Int) (σ : St), C32 x1 → C32 x2 → C32 x3 → C32 x4 → C32 x5 → CanS shR NR σ → K11 x1 x2 x3 x4 x5 σ → G p l e (rmL 3 0 0) s m args below meth c 7 A0 D cA ad shR NR 0 0 (MQ below (QIc D cA ad shR NR Q A0) args s 0 0 A0) σ 11 [some (.ref (ad 0)), some (vI x1), some (vI x2), some (vI x3), some (vI x4), some (vI x5), none] []) : ∀ (n : Nat) (x1 : Int) (x2 : Int) (x3 : Int) (x4 : Int) (x5 : Int) (x6 : Int) (σ : St), C32 x1 → C32 x2 → C32 x3 → C32 x4 → C32 x5 → C32 x6 → CanS shR NR σ → wp_X12_valueAnew_l107 Q K11 n x1 x2 x3 x4 x5 x6 σ → G p l e (rmL 3 0 0) s m args below meth c 7 A0 D cA ad shR NR 0 0 (MQ below (QIc D cA ad shR NR Q A0) args s 0 0 A0) σ 107 [some (.ref (ad 0)), some (vI x1), some (vI x2), some (vI x3), some (vI x4), some (vI x5), some (vI x6)] [] := by
  intro n
  induction n with
  | zero => intro _ _ _ _ _ _ _ _ _ _ _ _ _ _ h; exact h.elim
  | succ n ih =>
    intro x1 x2 x3 x4 x5 x6 σ c1 c2 c3 c4 c5 c6 hσ h
    unfold wp_X12_valueAnew_l107 at h
    refine g_iload_6 E dX12_valueAnew_107 ?_
    refine g_iload_3 E dX12_valueAnew_109 ?_
    refine g_icmp_ge E c6 c3 djX12_valueAnew_110 (fun hc => ?_) (fun hc => ?_)
    · replace h := h.1 hc
      exact (t_X12_valueAnew_b215 E hr hK11 x1 x2 x3 x4 x5 σ c1 c2 c3 c4 c5 hσ h).weak (w_k (w_k (w_k (w_k (w_k (w_k (w_d w_n)))))))
    · replace h := h.2 hc
      refine g_aload_0 E dX12_valueAnew_113 ?_
      refine g_getR E fl_RX12_20 kR_0 sR_0 rfl dX12_valueAnew_114 ?_
      refine g_iload_5 E dX12_valueAnew_117 ?_
      refine g_iald E kR_3 sR_3 (by decide) h.1 dX12_valueAnew_119 ?_
      replace h := h.2
      refine g_iconst E dX12_valueAnew_120 ?_
      refine g_icmp_eq E (aR_3 hσ _) cl_m1 djX12_valueAnew_121 (fun hc => ?_) (fun hc => ?_)
      · replace h := h.1 hc
        exact (t_X12_valueAnew_b215 E hr hK11 x1 x2 x3 x4 x5 σ c1 c2 c3 c4 c5 hσ h).weak (w_k (w_k (w_k (w_k (w_k (w_k (w_d w_n)))))))
      · replace h := h.2 hc
        refine g_aload_0 E dX12_valueAnew_124 ?_
        refine g_aload_0 E dX12_valueAnew_125 ?_
        refine g_getR E fl_RX12_17 kR_0 sR_0 rfl dX12_valueAnew_126 ?_
        refine g_iload_5 E dX12_valueAnew_129 ?_
        refine g_iald E kR_2 sR_2 (by decide) h.1 dX12_valueAnew_131 ?_
        replace h := h.2
        refine g_iload_2 E dX12_valueAnew_132 ?_
        refine g_iload_6 E dX12_valueAnew_133 ?_
        refine g_callvI E my_X12_isLetterAt mi_X12_isLetterAt msel_X12_isLetterAt ml_RX12_422 (rm_ok (by decide) (by decide)) ⟨Nat.zero_le _, Nat.zero_le _⟩ kR_0 sR_0 rfl (m_X12_isLetterAt E.2.2.1 (aR_2 hσ _) c2 c6 hσ h) rfl rfl (Nat.le_of_ble_eq_true rfl) dX12_valueAnew_135 (fun r14 σ15 cr14 hσ15 h => ?_)
        refine g_if_eq E cr14 djX12_valueAnew_138 (fun hc => ?_) (fun hc => ?_)
        · replace h := h.1 hc
          exact (t_X12_valueAnew_b209 E hr hK11 ih x1 x2 x3 x4 x5 x6 σ15 c1 c2 c3 c4 c5 c6 hσ15 h).weak (w_k (w_k (w_k (w_k (w_k (w_k (w_k w_n)))))))
        · replace h := h.2 hc
          refine g_aload_0 E dX12_valueAnew_141 ?_
          refine g_aload_0 E dX12_valueAnew_142 ?_
          refine g_getR E fl_RX12_20 kR_0 sR_0 rfl dX12_valueAnew_143 ?_
          refine g_iload_5 E dX12_valueAnew_146 ?_
          refine g_iald E kR_3 sR_3 (by decide) h.1 dX12_valueAnew_148 ?_
          replace h := h.2
          refine g_iload_6 E dX12_valueAnew_149 ?_
          refine g_iload_3 E dX12_valueAnew_151 ?_
          refine g_callvI E my_X12_isLetterAt mi_X12_isLetterAt msel_X12_isLetterAt ml_RX12_422 (rm_ok (by decide) (by decide)) ⟨Nat.zero_le _, Nat.zero_le _⟩ kR_0 sR_0 rfl (m_X12_isLetterAt E.2.2.1 (aR_3 hσ15 _) c6 c3 hσ15 h) rfl rfl (Nat.le_of_ble_eq_true rfl) dX12_valueAnew_152 (fun r16 σ17 cr16 hσ17 h => ?_)
          refine g_if_eq E cr16 djX12_valueAnew_155 (fun hc => ?_) (fun hc => ?_)
          · replace h := h.1 hc
            exact (t_X12_valueAnew_b209 E hr hK11 ih x1 x2 x3 x4 x5 x6 σ17 c1 c2 c3 c4 c5 c6 hσ17 h).weak (w_k (w_k (w_k (w_k (w_k (w_k (w_k w_n)))))))
          · replace h := h.2 hc
            refine g_aload_0 E dX12_valueAnew_158 ?_
            refine g_iload_4 E dX12_valueAnew_159 ?_
            refine g_aload_0 E dX12_valueAnew_161 ?_
            refine g_aload_0 E dX12_valueAnew_162 ?_
            refine g_aload_0 E dX12_valueAnew_163 ?_
            refine g_getR E fl_RX12_26 kR_0 sR_0 rfl dX12_valueAnew_164 ?_
            refine g_iload_5 E dX12_valueAnew_167 ?_
            refine g_iald E kR_5 sR_5 (by decide) h.1 dX12_valueAnew_169 ?_
            replace h := h.2
            refine g_aload_0 E dX12_valueAnew_170 ?_
            refine g_aload_0 E dX12_valueAnew_171 ?_
            refine g_getR E fl_RX12_17 kR_0 sR_0 rfl dX12_valueAnew_172 ?_
            refine g_iload_5 E dX12_valueAnew_175 ?_
            refine g_iald E kR_2 sR_2 (by decide) h.1 dX12_valueAnew_177 ?_
            replace h := h.2
            refine g_iload_2 E dX12_valueAnew_178 ?_
            refine g_iload_6 E dX12_valueAnew_179 ?_
            refine g_callvI E my_X12_valuePart mi_X12_valuePart msel_X12_valuePart ml_RX12_425 (rm_ok (by decide) (by decide)) ⟨Nat.zero_le _, Nat.zero_le _⟩ kR_0 sR_0 rfl (m_X12_valuePart E.2.2.1 (aR_2 hσ17 _) c2 c6 hσ17 h) rfl rfl (Nat.le_of_ble_eq_true rfl) dX12_valueAnew_181 (fun r18 σ19 cr18 hσ19 h => ?_)
            refine g_callvI E my_X12_product2 mi_X12_product2 msel_X12_product2 ml_RX12_272 (rm_ok (by decide) (by decide)) ⟨Nat.zero_le _, Nat.zero_le _⟩ kR_0 sR_0 rfl (m_X12_product2 E.2.2.1 (aR_5 hσ17 _) cr18 hσ19 h) rfl rfl (Nat.le_of_ble_eq_true rfl) dX12_valueAnew_184 (fun r20 σ21 cr20 hσ21 h => ?_)
            refine g_aload_0 E dX12_valueAnew_187 ?_
            refine g_aload_0 E dX12_valueAnew_188 ?_
            refine g_getR E fl_RX12_20 kR_0 sR_0 rfl dX12_valueAnew_189 ?_
            refine g_iload_5 E dX12_valueAnew_192 ?_
            refine g_iald E kR_3 sR_3 (by decide) h.1 dX12_valueAnew_194 ?_
            replace h := h.2
            refine g_iload_6 E dX12_valueAnew_195 ?_
            refine g_iload_3 E dX12_valueAnew_197 ?_
            refine g_callvI E my_X12_valuePart mi_X12_valuePart msel_X12_valuePart ml_RX12_425 (rm_ok (by decide) (by decide)) ⟨Nat.zero_le _, Nat.zero_le _⟩ kR_0 sR_0 rfl (m_X12_valuePart E.2.2.1 (aR_3 hσ21 _) c6 c3 hσ21 h) rfl rfl (Nat.le_of_ble_eq_true rfl) dX12_valueAnew_198 (fun r22 σ23 cr22 hσ23 h => ?_)
            refine g_callvI E my_X12_product2 mi_X12_product2 msel_X12_product2 ml_RX12_272 (rm_ok (by decide) (by decide)) ⟨Nat.zero_le _, Nat.zero_le _⟩ kR_0 sR_0 rfl (m_X12_product2 E.2.2.1 cr20 cr22 hσ23 h) rfl rfl (Nat.le_of_ble_eq_true rfl) dX12_valueAnew_201 (fun r24 σ25 cr24 hσ25 h => ?_)
            refine g_callvI E my_X12_sum2 mi_X12_sum2 msel_X12_sum2 ml_RX12_269 (rm_ok (by decide) (by decide)) ⟨Nat.zero_le _, Nat.zero_le _⟩ kR_0 sR_0 rfl (m_X12_sum2 E.2.2.1 c4 cr24 hσ25 h) rfl rfl (Nat.le_of_ble_eq_true rfl) dX12_valueAnew_204 (fun r26 σ27 cr26 hσ27 h => ?_)
            refine g_istore_4 E rfl (by decide) dX12_valueAnew_207 ?_
            exact (t_X12_valueAnew_b209 E hr hK11 ih x1 x2 x3 r26 x5 x6 σ27 c1 c2 c3 cr26 c5 c6 hσ27 h).weak (w_k (w_k (w_k (w_k (w_k (w_k (w_k w_n)))))))
set_option maxHeartbeats 4000000 in
set_option maxRecDepth 100000 in
theorem t_X12_valueAnew_b102 (E : Ev p s m args meth c cX12_valueAnew 7 RX12 A0 D cA ad NR Z) (hr : meth.sig.returnType = (some .int)) {K11 : Int → Int → Int → Int → Int → St → Prop} (hK11 : ∀ (x1 : Int) (x2 : Int) (x3 : Int) (x4 : Int) (x5 : Int) (σ : St), C32 x1 → C32 x2 → C32 x3 → C32 x4 → C32 x5 → CanS shR NR σ → K11 x1 x2 x3 x4 x5 σ → G p l e (rmL 3 0 0) s m args below meth c 7 A0 D cA ad shR NR 0 0 (MQ below (QIc D cA ad shR NR Q A0) args s 0 0 A0) σ 11 [some (.ref (ad 0)), some (vI x1), some (vI x2), some (vI x3), some (vI x4), some (vI x5), none] []) (x1 : Int) (x2 : Int) (x3 : Int) (x4 : Int) (x5 : Int) (σ : St) (c1 : C32 x1) (c2 : C32 x2) (c3 : C32 x3) (c4 : C32 x4) (c5 : C32 x5) (hσ : CanS shR NR σ) (h : wp_X12_valueAnew_b102 Q K11 x1 x2 x3 x4 x5 σ) : G p l e (rmL 3 0 0) s m args below meth c 7 A0 D cA ad shR NR 0 0 (MQ below (QIc D cA ad shR NR Q A0) args s 0 0 A0) σ 102 [some (.ref (ad 0)), some (vI x1), some (vI x2), some (vI x3), some (vI x4), some (vI x5), none] [] := by
  unfold wp_X12_valueAnew_b102 at h
  refine g_iload_2 E dX12_valueAnew_102 ?_
  refine g_iconst E dX12_valueAnew_103 ?_
  refine g_iadd E dX12_valueAnew_104 ?_
  refine g_nmI (fun v13 ev13 => ?_)
  replace h := h v13 ev13
  have cv13 : C32 v13 := by rw [ev13]; exact (c32_w _)
  refine g_istore_6 E rfl (by decide) dX12_valueAnew_105 ?_
  exact (t_X12_valueAnew_l107 E hr hK11 bigN x1 x2 x3 x4 x5 v13 σ c1 c2 c3 c4 c5 cv13 hσ h).weak (w_k (w_k (w_k (w_k (w_k (w_k (w_k w_n)))))))
set_option maxHeartbeats 4000000 in
set_option maxRecDepth 100000 in
theorem t_X12_valueAnew_l11 (E : Ev p s m args meth c cX12_valueAnew 7 RX12 A0 D cA ad NR Z) (hr : meth.sig.returnType = (some .int)) : ∀ (n : Nat) (x1 : Int) (x2 : Int) (x3 : Int) (x4 : Int) (x5 : Int) (σ : St), C32 x1 → C32 x2 → C32 x3 → C32 x4 → C32 x5 → CanS shR NR σ → wp_X12_valueAnew_l11 Q n x1 x2 x3 x4 x5 σ → G p l e (rmL 3 0 0) s m args below meth c 7 A0 D cA ad shR NR 0 0 (MQ below (QIc D cA ad shR NR Q A0) args s 0 0 A0) σ 11 [some (.ref (ad 0)), some (vI x1), some (vI x2), some (vI x3), some (vI x4), some (vI x5), none] [] := by
  intro n
  induction n with
  | zero => intro _ _ _ _ _ _ _ _ _ _ _ _ h; exact h.elim
  | succ n ih =>
    intro x1 x2 x3 x4 x5 σ c1 c2 c3 c4 c5 hσ h
    unfold wp_X12_valueAnew_l11 at h
    refine g_iload_5 E dX12_valueAnew_11 ?_
    refine g_aload_0 E dX12_valueAnew_13 ?_
    refine g_getI E fl_RX12_252 kR_0 sR_0 rfl dX12_valueAnew_14 ?_
    refine g_icmp_ge E c5 (fR_0_1 hσ) djX12_valueAnew_17 (fun hc => ?_) (fun hc => ?_)
    · replace h := h.1 hc
      refine g_iload_4 E dX12_valueAnew_221 ?_
      exact g_iret E hr c4 h hσ dX12_valueAnew_223
    · replace h := h.2 hc
      refine g_aload_0 E dX12_valueAnew_20 ?_
      refine g_iload_5 E dX12_valueAnew_21 ?_
      refine g_callvI E my_X12_isIn mi_X12_isIn msel_X12_isIn ml_RX12_298 (rm_ok (by decide) (by decide)) ⟨Nat.zero_le _, Nat.zero_le _⟩ kR_0 sR_0 rfl (m_X12_isIn E.2.2.1 c5 hσ h) rfl rfl (Nat.le_of_ble_eq_true rfl) dX12_valueAnew_23 (fun r2 σ3 cr2 hσ3 h => ?_)
      refine g_if_eq E cr2 djX12_valueAnew_26 (fun hc => ?_) (fun hc => ?_)
      · replace h := h.1 hc
        exact (t_X12_valueAnew_b215 E hr ih x1 x2 x3 x4 x5 σ3 c1 c2 c3 c4 c5 hσ3 h).weak (w_k (w_k (w_k (w_k (w_k (w_k (w_d w_n)))))))
      · replace h := h.2 hc
        refine g_aload_0 E dX12_valueAnew_29 ?_
        refine g_getR E fl_RX12_13 kR_0 sR_0 rfl dX12_valueAnew_30 ?_
        refine g_iload_5 E dX12_valueAnew_33 ?_
        refine g_iald E kR_1 sR_1 (by decide) h.1 dX12_valueAnew_35 ?_
        replace h := h.2
        refine g_iload_1 E dX12_valueAnew_36 ?_
        refine g_icmp_eq E (aR_1 hσ3 _) c1 djX12_valueAnew_37 (fun hc => ?_) (fun hc => ?_)
        · replace h := h.1 hc
          refine g_aload_0 E dX12_valueAnew_43 ?_
          refine g_getR E fl_RX12_20 kR_0 sR_0 rfl dX12_valueAnew_44 ?_
          refine g_iload_5 E dX12_valueAnew_47 ?_
          refine g_iald E kR_3 sR_3 (by decide) h.1 dX12_valueAnew_49 ?_
          replace h := h.2
          refine g_iconst E dX12_valueAnew_50 ?_
          refine g_icmp_ne E (aR_3 hσ3 _) cl_m1 djX12_valueAnew_51 (fun hc => ?_) (fun hc => ?_)
          · replace h := h.1 hc
            exact (t_X12_valueAnew_b102 E hr ih x1 x2 x3 x4 x5 σ3 c1 c2 c3 c4 c5 hσ3 h).weak (w_k (w_k (w_k (w_k (w_k (w_k (w_d w_n)))))))
          · replace h := h.2 hc
            refine g_aload_0 E dX12_valueAnew_54 ?_
            refine g_aload_0 E dX12_valueAnew_55 ?_
            refine g_getR E fl_RX12_17 kR_0 sR_0 rfl dX12_valueAnew_56 ?_
            refine g_iload_5 E dX12_valueAnew_59 ?_
            refine g_iald E kR_2 sR_2 (by decide) h.1 dX12_valueAnew_61 ?_
            replace h := h.2
            refine g_iload_2 E dX12_valueAnew_62 ?_
            refine g_iload_3 E dX12_valueAnew_63 ?_
            refine g_callvI E my_X12_isLetterAt mi_X12_isLetterAt msel_X12_isLetterAt ml_RX12_422 (rm_ok (by decide) (by decide)) ⟨Nat.zero_le _, Nat.zero_le _⟩ kR_0 sR_0 rfl (m_X12_isLetterAt E.2.2.1 (aR_2 hσ3 _) c2 c3 hσ3 h) rfl rfl (Nat.le_of_ble_eq_true rfl) dX12_valueAnew_64 (fun r4 σ5 cr4 hσ5 h => ?_)
            refine g_if_eq E cr4 djX12_valueAnew_67 (fun hc => ?_) (fun hc => ?_)
            · replace h := h.1 hc
              exact (t_X12_valueAnew_b102 E hr ih x1 x2 x3 x4 x5 σ5 c1 c2 c3 c4 c5 hσ5 h).weak (w_k (w_k (w_k (w_k (w_k (w_k (w_d w_n)))))))
            · replace h := h.2 hc
              refine g_aload_0 E dX12_valueAnew_70 ?_
              refine g_iload_4 E dX12_valueAnew_71 ?_
              refine g_aload_0 E dX12_valueAnew_73 ?_
              refine g_aload_0 E dX12_valueAnew_74 ?_
              refine g_getR E fl_RX12_26 kR_0 sR_0 rfl dX12_valueAnew_75 ?_
              refine g_iload_5 E dX12_valueAnew_78 ?_
              refine g_iald E kR_5 sR_5 (by decide) h.1 dX12_valueAnew_80 ?_
              replace h := h.2
              refine g_aload_0 E dX12_valueAnew_81 ?_
              refine g_aload_0 E dX12_valueAnew_82 ?_
              refine g_getR E fl_RX12_17 kR_0 sR_0 rfl dX12_valueAnew_83 ?_
              refine g_iload_5 E dX12_valueAnew_86 ?_
              refine g_iald E kR_2 sR_2 (by decide) h.1 dX12_valueAnew_88 ?_
              replace h := h.2
              refine g_iload_2 E dX12_valueAnew_89 ?_
              refine g_iload_3 E dX12_valueAnew_90 ?_
              refine g_callvI E my_X12_valuePart mi_X12_valuePart msel_X12_valuePart ml_RX12_425 (rm_ok (by decide) (by decide)) ⟨Nat.zero_le _, Nat.zero_le _⟩ kR_0 sR_0 rfl (m_X12_valuePart E.2.2.1 (aR_2 hσ5 _) c2 c3 hσ5 h) rfl rfl (Nat.le_of_ble_eq_true rfl) dX12_valueAnew_91 (fun r6 σ7 cr6 hσ7 h => ?_)
              refine g_callvI E my_X12_product2 mi_X12_product2 msel_X12_product2 ml_RX12_272 (rm_ok (by decide) (by decide)) ⟨Nat.zero_le _, Nat.zero_le _⟩ kR_0 sR_0 rfl (m_X12_product2 E.2.2.1 (aR_5 hσ5 _) cr6 hσ7 h) rfl rfl (Nat.le_of_ble_eq_true rfl) dX12_valueAnew_94 (fun r8 σ9 cr8 hσ9 h => ?_)
              refine g_callvI E my_X12_sum2 mi_X12_sum2 msel_X12_sum2 ml_RX12_269 (rm_ok (by decide) (by decide)) ⟨Nat.zero_le _, Nat.zero_le _⟩ kR_0 sR_0 rfl (m_X12_sum2 E.2.2.1 c4 cr8 hσ9 h) rfl rfl (Nat.le_of_ble_eq_true rfl) dX12_valueAnew_97 (fun r10 σ11 cr10 hσ11 h => ?_)
              refine g_istore_4 E rfl (by decide) dX12_valueAnew_100 ?_
              exact (t_X12_valueAnew_b102 E hr ih x1 x2 x3 r10 x5 σ11 c1 c2 c3 cr10 c5 hσ11 h).weak (w_k (w_k (w_k (w_k (w_k (w_k (w_d w_n)))))))
        · replace h := h.2 hc
          refine g_goto E djX12_valueAnew_40 ?_
          exact (t_X12_valueAnew_b215 E hr ih x1 x2 x3 x4 x5 σ3 c1 c2 c3 c4 c5 hσ3 h).weak (w_k (w_k (w_k (w_k (w_k (w_k (w_d w_n)))))))
set_option maxHeartbeats 4000000 in
set_option maxRecDepth 100000 in
theorem t_X12_valueAnew (E : Ev p s m args meth c cX12_valueAnew 7 RX12 A0 D cA ad NR Z) (hr : meth.sig.returnType = (some .int)) (x1 : Int) (x2 : Int) (x3 : Int) (σ : St) (c1 : C32 x1) (c2 : C32 x2) (c3 : C32 x3) (hσ : CanS shR NR σ) (h : wp_X12_valueAnew x1 x2 x3 σ Q) : G p l e (rmL 3 0 0) s m args below meth c 7 A0 D cA ad shR NR 0 0 (MQ below (QIc D cA ad shR NR Q A0) args s 0 0 A0) σ 0 [some (.ref (ad 0)), some (vI x1), some (vI x2), some (vI x3), none, none, none] [] := by
  unfold wp_X12_valueAnew at h
  refine g_aload_0 E dX12_valueAnew_0 ?_
  refine g_getR E fl_RX12_32 kR_0 sR_0 rfl dX12_valueAnew_1 ?_
  refine g_iconst E dX12_valueAnew_4 ?_
  refine g_iald E kR_7 sR_7 (by decide) (by decide) dX12_valueAnew_5 ?_
  refine g_nmI (fun v1 ev1 => ?_)
  replace h := h v1 ev1
  have cv1 : C32 v1 := by rw [ev1]; exact (aR_7 hσ _)
  refine g_istore_4 E rfl (by decide) dX12_valueAnew_6 ?_
  refine g_iconst E dX12_valueAnew_8 ?_
  refine g_istore_5 E rfl (by decide) dX12_valueAnew_9 ?_
  exact (t_X12_valueAnew_l11 E hr bigN x1 x2 x3 v1 0 σ c1 c2 c3 cv1 cl_0 hσ h).weak (w_k (w_k (w_k (w_k (w_k (w_k (w_d w_n)))))))
end
theorem m_X12_valueAnew {Z : (Nat → Nat) × (Nat → Nat)} {l : Launch} {D : va_G} {cA : Nat → ClassId} {ad : Nat → Nat} {x1 x2 x3 : Int} {σ : St} {Q : Int → St → Prop} (hA : AdOk NR ad) (c1 : C32 x1) (c2 : C32 x2) (c3 : C32 x3) (hσ : CanS shR NR σ) (h : wp_X12_valueAnew x1 x2 x3 σ Q) : KtI Z l D cA ad shR NR yX12_valueAnew cX12_valueAnew 7 (some .int) 3 [.ref (ad 0), vI x1, vI x2, vI x3] σ Q :=
  KtI.of my_X12_valueAnew hA [some (.ref (ad 0)), some (vI x1), some (vI x2), some (vI x3), none, none, none] (Nat.le_of_ble_eq_true rfl) rfl (fun p e s m args below meth c A0 E hr => t_X12_valueAnew E hr x1 x2 x3 σ c1 c2 c3 hσ h)
theorem dX12_turnsOnce_0 : Dc cX12_turnsOnce 0 (.iconst 0) 1 1 := ⟨by decide +kernel, rfl⟩
theorem dX12_turnsOnce_1 : Dc cX12_turnsOnce 1 (.istore_n 1) 1 2 := ⟨by decide +kernel, rfl⟩
theorem dX12_turnsOnce_2 : Dc cX12_turnsOnce 2 (.iconst 0) 1 3 := ⟨by decide +kernel, rfl⟩
theorem dX12_turnsOnce_3 : Dc cX12_turnsOnce 3 (.istore_n 2) 1 4 := ⟨by decide +kernel, rfl⟩
theorem dX12_turnsOnce_4 : Dc cX12_turnsOnce 4 (.iload_n 2) 1 5 := ⟨by decide +kernel, rfl⟩
theorem dX12_turnsOnce_5 : Dc cX12_turnsOnce 5 (.aload_n 0) 1 6 := ⟨by decide +kernel, rfl⟩
theorem dX12_turnsOnce_6 : Dc cX12_turnsOnce 6 (.getfield 305) 3 9 := ⟨by decide +kernel, rfl⟩
theorem djX12_turnsOnce_9 : Dj cX12_turnsOnce 9 (.if_icmp .ge 63) 3 12 63 72 := ⟨by decide +kernel, rfl, by decide⟩
theorem dX12_turnsOnce_12 : Dc cX12_turnsOnce 12 (.iload_n 2) 1 13 := ⟨by decide +kernel, rfl⟩
theorem dX12_turnsOnce_13 : Dc cX12_turnsOnce 13 (.iconst 1) 1 14 := ⟨by decide +kernel, rfl⟩
theorem dX12_turnsOnce_14 : Dc cX12_turnsOnce 14 (.iadd) 1 15 := ⟨by decide +kernel, rfl⟩
theorem dX12_turnsOnce_15 : Dc cX12_turnsOnce 15 (.istore_n 3) 1 16 := ⟨by decide +kernel, rfl⟩
theorem dX12_turnsOnce_16 : Dc cX12_turnsOnce 16 (.iload_n 3) 1 17 := ⟨by decide +kernel, rfl⟩
theorem dX12_turnsOnce_17 : Dc cX12_turnsOnce 17 (.aload_n 0) 1 18 := ⟨by decide +kernel, rfl⟩
theorem dX12_turnsOnce_18 : Dc cX12_turnsOnce 18 (.getfield 305) 3 21 := ⟨by decide +kernel, rfl⟩
theorem djX12_turnsOnce_21 : Dj cX12_turnsOnce 21 (.if_icmp .gt 45) 3 24 45 66 := ⟨by decide +kernel, rfl, by decide⟩
theorem dX12_turnsOnce_24 : Dc cX12_turnsOnce 24 (.iconst 0) 1 25 := ⟨by decide +kernel, rfl⟩
theorem dX12_turnsOnce_25 : Dc cX12_turnsOnce 25 (.istore 4) 2 27 := ⟨by decide +kernel, rfl⟩
theorem dX12_turnsOnce_27 : Dc cX12_turnsOnce 27 (.iload 4) 2 29 := ⟨by decide +kernel, rfl⟩
theorem dX12_turnsOnce_29 : Dc cX12_turnsOnce 29 (.bipush 12) 2 31 := ⟨by decide +kernel, rfl⟩
theorem djX12_turnsOnce_31 : Dj cX12_turnsOnce 31 (.if_icmp .ge 29) 3 34 29 60 := ⟨by decide +kernel, rfl, by decide⟩
theorem dX12_turnsOnce_34 : Dc cX12_turnsOnce 34 (.aload_n 0) 1 35 := ⟨by decide +kernel, rfl⟩
theorem dX12_turnsOnce_35 : Dc cX12_turnsOnce 35 (.getfield 98) 3 38 := ⟨by decide +kernel, rfl⟩
theorem dX12_turnsOnce_38 : Dc cX12_turnsOnce 38 (.iload 4) 2 40 := ⟨by decide +kernel, rfl⟩
theorem dX12_turnsOnce_40 : Dc cX12_turnsOnce 40 (.iload_n 2) 1 41 := ⟨by decide +kernel, rfl⟩
theorem dX12_turnsOnce_41 : Dc cX12_turnsOnce 41 (.iload_n 3) 1 42 := ⟨by decide +kernel, rfl⟩
theorem dX12_turnsOnce_42 : Dc cX12_turnsOnce 42 (.invokestatic 282) 3 45 := ⟨by decide +kernel, rfl⟩
theorem dX12_turnsOnce_45 : Dc cX12_turnsOnce 45 (.aload_n 0) 1 46 := ⟨by decide +kernel, rfl⟩
theorem dX12_turnsOnce_46 : Dc cX12_turnsOnce 46 (.iload 4) 2 48 := ⟨by decide +kernel, rfl⟩
theorem dX12_turnsOnce_48 : Dc cX12_turnsOnce 48 (.iload_n 2) 1 49 := ⟨by decide +kernel, rfl⟩
theorem dX12_turnsOnce_49 : Dc cX12_turnsOnce 49 (.iload_n 3) 1 50 := ⟨by decide +kernel, rfl⟩
theorem dX12_turnsOnce_50 : Dc cX12_turnsOnce 50 (.invokevirtual 428) 3 53 := ⟨by decide +kernel, rfl⟩
theorem dX12_turnsOnce_53 : Dc cX12_turnsOnce 53 (.iastore) 1 54 := ⟨by decide +kernel, rfl⟩
theorem dX12_turnsOnce_54 : Dc cX12_turnsOnce 54 (.iinc 4 1) 3 57 := ⟨by decide +kernel, rfl⟩
theorem djX12_turnsOnce_57 : Dj cX12_turnsOnce 57 (.goto (-30)) 3 60 (-30) 27 := ⟨by decide +kernel, rfl, by decide⟩
theorem dX12_turnsOnce_60 : Dc cX12_turnsOnce 60 (.iinc 3 1) 3 63 := ⟨by decide +kernel, rfl⟩
theorem djX12_turnsOnce_63 : Dj cX12_turnsOnce 63 (.goto (-47)) 3 66 (-47) 16 := ⟨by decide +kernel, rfl, by decide⟩
theorem dX12_turnsOnce_66 : Dc cX12_turnsOnce 66 (.iinc 2 1) 3 69 := ⟨by decide +kernel, rfl⟩
theorem djX12_turnsOnce_69 : Dj cX12_turnsOnce 69 (.goto (-65)) 3 72 (-65) 4 := ⟨by decide +kernel, rfl, by decide⟩
theorem dX12_turnsOnce_72 : Dc cX12_turnsOnce 72 (.iconst 0) 1 73 := ⟨by decide +kernel, rfl⟩
theorem dX12_turnsOnce_73 : Dc cX12_turnsOnce 73 (.istore_n 2) 1 74 := ⟨by decide +kernel, rfl⟩
theorem dX12_turnsOnce_74 : Dc cX12_turnsOnce 74 (.iload_n 2) 1 75 := ⟨by decide +kernel, rfl⟩
theorem dX12_turnsOnce_75 : Dc cX12_turnsOnce 75 (.aload_n 0) 1 76 := ⟨by decide +kernel, rfl⟩
theorem dX12_turnsOnce_76 : Dc cX12_turnsOnce 76 (.getfield 305) 3 79 := ⟨by decide +kernel, rfl⟩
theorem djX12_turnsOnce_79 : Dj cX12_turnsOnce 79 (.if_icmp .ge 93) 3 82 93 172 := ⟨by decide +kernel, rfl, by decide⟩
theorem dX12_turnsOnce_82 : Dc cX12_turnsOnce 82 (.iload_n 2) 1 83 := ⟨by decide +kernel, rfl⟩
theorem dX12_turnsOnce_83 : Dc cX12_turnsOnce 83 (.iconst 1) 1 84 := ⟨by decide +kernel, rfl⟩
theorem dX12_turnsOnce_84 : Dc cX12_turnsOnce 84 (.iadd) 1 85 := ⟨by decide +kernel, rfl⟩
theorem dX12_turnsOnce_85 : Dc cX12_turnsOnce 85 (.istore_n 3) 1 86 := ⟨by decide +kernel, rfl⟩
theorem dX12_turnsOnce_86 : Dc cX12_turnsOnce 86 (.iload_n 3) 1 87 := ⟨by decide +kernel, rfl⟩
theorem dX12_turnsOnce_87 : Dc cX12_turnsOnce 87 (.aload_n 0) 1 88 := ⟨by decide +kernel, rfl⟩
theorem dX12_turnsOnce_88 : Dc cX12_turnsOnce 88 (.getfield 305) 3 91 := ⟨by decide +kernel, rfl⟩
theorem djX12_turnsOnce_91 : Dj cX12_turnsOnce 91 (.if_icmp .gt 75) 3 94 75 166 := ⟨by decide +kernel, rfl, by decide⟩
theorem dX12_turnsOnce_94 : Dc cX12_turnsOnce 94 (.iconst 0) 1 95 := ⟨by decide +kernel, rfl⟩
theorem dX12_turnsOnce_95 : Dc cX12_turnsOnce 95 (.istore 4) 2 97 := ⟨by decide +kernel, rfl⟩
theorem dX12_turnsOnce_97 : Dc cX12_turnsOnce 97 (.iload 4) 2 99 := ⟨by decide +kernel, rfl⟩
theorem dX12_turnsOnce_99 : Dc cX12_turnsOnce 99 (.bipush 12) 2 101 := ⟨by decide +kernel, rfl⟩
theorem djX12_turnsOnce_101 : Dj cX12_turnsOnce 101 (.if_icmp .ge 59) 3 104 59 160 := ⟨by decide +kernel, rfl, by decide⟩
theorem dX12_turnsOnce_104 : Dc cX12_turnsOnce 104 (.iload 4) 2 106 := ⟨by decide +kernel, rfl⟩
theorem dX12_turnsOnce_106 : Dc cX12_turnsOnce 106 (.iload_n 2) 1 107 := ⟨by decide +kernel, rfl⟩
theorem dX12_turnsOnce_107 : Dc cX12_turnsOnce 107 (.iload_n 3) 1 108 := ⟨by decide +kernel, rfl⟩
theorem dX12_turnsOnce_108 : Dc cX12_turnsOnce 108 (.invokestatic 282) 3 111 := ⟨by decide +kernel, rfl⟩
theorem dX12_turnsOnce_111 : Dc cX12_turnsOnce 111 (.istore 5) 2 113 := ⟨by decide +kernel, rfl⟩
theorem dX12_turnsOnce_113 : Dc cX12_turnsOnce 113 (.iload_n 1) 1 114 := ⟨by decide +kernel, rfl⟩
theorem djX12_turnsOnce_114 : Dj cX12_turnsOnce 114 (.ifCond .ne 20) 3 117 20 134 := ⟨by decide +kernel, rfl, by decide⟩
theorem dX12_turnsOnce_117 : Dc cX12_turnsOnce 117 (.aload_n 0) 1 118 := ⟨by decide +kernel, rfl⟩
theorem dX12_turnsOnce_118 : Dc cX12_turnsOnce 118 (.getfield 98) 3 121 := ⟨by decide +kernel, rfl⟩
theorem dX12_turnsOnce_121 : Dc cX12_turnsOnce 121 (.iload 5) 2 123 := ⟨by decide +kernel, rfl⟩
theorem dX12_turnsOnce_123 : Dc cX12_turnsOnce 123 (.iaload) 1 124 := ⟨by decide +kernel, rfl⟩
theorem dX12_turnsOnce_124 : Dc cX12_turnsOnce 124 (.aload_n 0) 1 125 := ⟨by decide +kernel, rfl⟩
theorem dX12_turnsOnce_125 : Dc cX12_turnsOnce 125 (.getfield 95) 3 128 := ⟨by decide +kernel, rfl⟩
theorem dX12_turnsOnce_128 : Dc cX12_turnsOnce 128 (.iload 5) 2 130 := ⟨by decide +kernel, rfl⟩
theorem dX12_turnsOnce_130 : Dc cX12_turnsOnce 130 (.iaload) 1 131 := ⟨by decide +kernel, rfl⟩
theorem djX12_turnsOnce_131 : Dj cX12_turnsOnce 131 (.if_icmp .eq 7) 3 134 7 138 := ⟨by decide +kernel, rfl, by decide⟩
theorem dX12_turnsOnce_134 : Dc cX12_turnsOnce 134 (.iconst 1) 1 135 := ⟨by decide +kernel, rfl⟩
theorem djX12_turnsOnce_135 : Dj cX12_turnsOnce 135 (.goto 4) 3 138 4 139 := ⟨by decide +kernel, rfl, by decide⟩
theorem dX12_turnsOnce_138 : Dc cX12_turnsOnce 138 (.iconst 0) 1 139 := ⟨by decide +kernel, rfl⟩
theorem dX12_turnsOnce_139 : Dc cX12_turnsOnce 139 (.istore_n 1) 1 140 := ⟨by decide +kernel, rfl⟩
theorem dX12_turnsOnce_140 : Dc cX12_turnsOnce 140 (.aload_n 0) 1 141 := ⟨by decide +kernel, rfl⟩
theorem dX12_turnsOnce_141 : Dc cX12_turnsOnce 141 (.getfield 95) 3 144 := ⟨by decide +kernel, rfl⟩
theorem dX12_turnsOnce_144 : Dc cX12_turnsOnce 144 (.iload 5) 2 146 := ⟨by decide +kernel, rfl⟩
theorem dX12_turnsOnce_146 : Dc cX12_turnsOnce 146 (.aload_n 0) 1 147 := ⟨by decide +kernel, rfl⟩
theorem dX12_turnsOnce_147 : Dc cX12_turnsOnce 147 (.getfield 98) 3 150 := ⟨by decide +kernel, rfl⟩
theorem dX12_turnsOnce_150 : Dc cX12_turnsOnce 150 (.iload 5) 2 152 := ⟨by decide +kernel, rfl⟩
theorem dX12_turnsOnce_152 : Dc cX12_turnsOnce 152 (.iaload) 1 153 := ⟨by decide +kernel, rfl⟩
theorem dX12_turnsOnce_153 : Dc cX12_turnsOnce 153 (.iastore) 1 154 := ⟨by decide +kernel, rfl⟩
theorem dX12_turnsOnce_154 : Dc cX12_turnsOnce 154 (.iinc 4 1) 3 157 := ⟨by decide +kernel, rfl⟩
theorem djX12_turnsOnce_157 : Dj cX12_turnsOnce 157 (.goto (-60)) 3 160 (-60) 97 := ⟨by decide +kernel, rfl, by decide⟩
theorem dX12_turnsOnce_160 : Dc cX12_turnsOnce 160 (.iinc 3 1) 3 163 := ⟨by decide +kernel, rfl⟩
theorem djX12_turnsOnce_163 : Dj cX12_turnsOnce 163 (.goto (-77)) 3 166 (-77) 86 := ⟨by decide +kernel, rfl, by decide⟩
theorem dX12_turnsOnce_166 : Dc cX12_turnsOnce 166 (.iinc 2 1) 3 169 := ⟨by decide +kernel, rfl⟩
theorem djX12_turnsOnce_169 : Dj cX12_turnsOnce 169 (.goto (-95)) 3 172 (-95) 74 := ⟨by decide +kernel, rfl, by decide⟩
theorem dX12_turnsOnce_172 : Dc cX12_turnsOnce 172 (.iload_n 1) 1 173 := ⟨by decide +kernel, rfl⟩
theorem dX12_turnsOnce_173 : Dc cX12_turnsOnce 173 (.ireturn) 1 174 := ⟨by decide +kernel, rfl⟩
section
variable {p : Program} {l : Launch} {e : Env} {s : State} {m : MethodId} {args : Array Value} {below : List Frame} {meth : Method} {c : Code} {A0 : Nat → Prop} {D : va_G} {cA : Nat → ClassId} {ad : Nat → Nat} {Z : (Nat → Nat) × (Nat → Nat)} {Q : Int → St → Prop}
set_option maxHeartbeats 4000000 in
set_option maxRecDepth 100000 in
theorem t_X12_turnsOnce_l27 (E : Ev p s m args meth c cX12_turnsOnce 6 RX12 A0 D cA ad NR Z) (hr : meth.sig.returnType = (some .boolean)) {K4 : Int → Int → St → Prop} (hK4 : ∀ (x1 : Int) (x2 : Int) (σ : St), C32 x1 → C32 x2 → CanS shR NR σ → K4 x1 x2 σ → G p l e (rmL 4 0 0) s m args below meth c 6 A0 D cA ad shR NR 0 0 (MQ below (QIc D cA ad shR NR Q A0) args s 0 0 A0) σ 4 [some (.ref (ad 0)), some (vI x1), some (vI x2), none, none, none] []) {K16 : Int → Int → Int → St → Prop} (hK16 : ∀ (x1 : Int) (x2 : Int) (x3 : Int) (σ : St), C32 x1 → C32 x2 → C32 x3 → CanS shR NR σ → K16 x1 x2 x3 σ → G p l e (rmL 4 0 0) s m args below meth c 6 A0 D cA ad shR NR 0 0 (MQ below (QIc D cA ad shR NR Q A0) args s 0 0 A0) σ 16 [some (.ref (ad 0)), some (vI x1), some (vI x2), some (vI x3), none, none] []) : ∀ (n : Nat) (x1 : Int) (x2 : Int) (x3 : Int) (x4 : Int) (σ : St), C32 x1 → C32 x2 → C32 x3 → C32 x4 → CanS shR NR σ → wp_X12_turnsOnce_l27 Q K4 K16 n x1 x2 x3 x4 σ → G p l e (rmL 4 0 0) s m args below meth c 6 A0 D cA ad shR NR 0 0 (MQ below (QIc D cA ad shR NR Q A0) args s 0 0 A0) σ 27 [some (.ref (ad 0)), some (vI x1), some (vI x2), some (vI x3), some (vI x4), none] [] := by
  intro n
  induction n with
  | zero => intro _ _ _ _ _ _ _ _ _ _ h; exact h.elim
  | succ n ih =>
    intro x1 x2 x3 x4 σ c1 c2 c3 c4 hσ h
    unfold wp_X12_turnsOnce_l27 at h
    refine g_iload_4 E dX12_turnsOnce_27 ?_
    refine g_bipush E (by decide) dX12_turnsOnce_29 ?_
    refine g_icmp_ge E c4 cl_12 djX12_turnsOnce_31 (fun hc => ?_) (fun hc => ?_)
    · replace h := h.1 hc
      refine g_iinc_3 E rfl (by decide) dX12_turnsOnce_60 (fun v5 ev5 => ?_)
      replace h := h v5 ev5
      have cv5 : C32 v5 := by rw [ev5]; exact c32_w _
      refine g_goto E djX12_turnsOnce_63 ?_
      exact (hK16 x1 x2 v5 σ c1 c2 cv5 hσ h).weak (w_k (w_k (w_k (w_k (w_d (w_d w_n))))))
    · replace h := h.2 hc
      refine g_aload_0 E dX12_turnsOnce_34 ?_
      refine g_getR E fl_RX12_98 kR_0 sR_0 rfl dX12_turnsOnce_35 ?_
      refine g_iload_4 E dX12_turnsOnce_38 ?_
      refine g_iload_2 E dX12_turnsOnce_40 ?_
      refine g_iload_3 E dX12_turnsOnce_41 ?_
      refine g_callsI E my_X12_item ms_X12_item ml_RX12_282 (rm_ok (by decide) (by decide)) ⟨Nat.zero_le _, Nat.zero_le _⟩ (m_X12_item E.2.2.1 c4 c2 c3 hσ h) rfl rfl (Nat.le_of_ble_eq_true rfl) dX12_turnsOnce_42 (fun r6 σ7 cr6 hσ7 h => ?_)
      refine g_aload_0 E dX12_turnsOnce_45 ?_
      refine g_iload_4 E dX12_turnsOnce_46 ?_
      refine g_iload_2 E dX12_turnsOnce_48 ?_
      refine g_iload_3 E dX12_turnsOnce_49 ?_
      refine g_callvI E my_X12_valueAnew mi_X12_valueAnew msel_X12_valueAnew ml_RX12_428 (rm_ok (by decide) (by decide)) ⟨Nat.zero_le _, Nat.zero_le _⟩ kR_0 sR_0 rfl (m_X12_valueAnew E.2.2.1 c4 c2 c3 hσ7 h) rfl rfl (Nat.le_of_ble_eq_true rfl) dX12_turnsOnce_50 (fun r8 σ9 cr8 hσ9 h => ?_)
      refine g_iast E kR_27 sR_27 (by decide) h.1 dX12_turnsOnce_53 (g_nmS (fun σ10 eσ10 => ?_))
      replace h := h.2 σ10 eσ10
      have hσ10 : CanS shR NR σ10 := by rw [eσ10]; exact wR_27 hσ9 cr8
      refine g_iinc_4 E rfl (by decide) dX12_turnsOnce_54 (fun v11 ev11 => ?_)
      replace h := h v11 ev11
      have cv11 : C32 v11 := by rw [ev11]; exact c32_w _
      refine g_goto E djX12_turnsOnce_57 ?_
      exact (ih x1 x2 x3 v11 σ10 c1 c2 c3 cv11 hσ10 h).weak (w_k (w_k (w_k (w_k (w_k (w_d w_n))))))
set_option maxHeartbeats 4000000 in
set_option maxRecDepth 100000 in
theorem t_X12_turnsOnce_l16 (E : Ev p s m args meth c cX12_turnsOnce 6 RX12 A0 D cA ad NR Z) (hr : meth.sig.returnType = (some .boolean)) {K4 : Int → Int → St → Prop} (hK4 : ∀ (x1 : Int) (x2 : Int) (σ : St), C32 x1 → C32 x2 → CanS shR NR σ → K4 x1 x2 σ → G p l e (rmL 4 0 0) s m args below meth c 6 A0 D cA ad shR NR 0 0 (MQ below (QIc D cA ad shR NR Q A0) args s 0 0 A0) σ 4 [some (.ref (ad 0)), some (vI x1), some (vI x2), none, none, none] []) : ∀ (n : Nat) (x1 : Int) (x2 : Int) (x3 : Int) (σ : St), C32 x1 → C32 x2 → C32 x3 → CanS shR NR σ → wp_X12_turnsOnce_l16 Q K4 n x1 x2 x3 σ → G p l e (rmL 4 0 0) s m args below meth c 6 A0 D cA ad shR NR 0 0 (MQ below (QIc D cA ad shR NR Q A0) args s 0 0 A0) σ 16 [some (.ref (ad 0)), some (vI x1), some (vI x2), some (vI x3), none, none] [] := by
  intro n
  induction n with
  | zero => intro _ _ _ _ _ _ _ _ h; exact h.elim
  | succ n ih =>
    intro x1 x2 x3 σ c1 c2 c3 hσ h
    unfold wp_X12_turnsOnce_l16 at h
    refine g_iload_3 E dX12_turnsOnce_16 ?_
    refine g_aload_0 E dX12_turnsOnce_17 ?_
    refine g_getI E fl_RX12_305 kR_0 sR_0 rfl dX12_turnsOnce_18 ?_
    refine g_icmp_gt E c3 (fR_0_27 hσ) djX12_turnsOnce_21 (fun hc => ?_) (fun hc => ?_)
    · replace h := h.1 hc
      refine g_iinc_2 E rfl (by decide) dX12_turnsOnce_66 (fun v3 ev3 => ?_)
      replace h := h v3 ev3
      have cv3 : C32 v3 := by rw [ev3]; exact c32_w _
      refine g_goto E djX12_turnsOnce_69 ?_
      exact (hK4 x1 v3 σ c1 cv3 hσ h).weak (w_k (w_k (w_k (w_d (w_d (w_d w_n))))))
    · replace h := h.2 hc
      refine g_iconst E dX12_turnsOnce_24 ?_
      refine g_istore_4 E rfl (by decide) dX12_turnsOnce_25 ?_
      exact (t_X12_turnsOnce_l27 E hr hK4 ih bigN x1 x2 x3 0 σ c1 c2 c3 cl_0 hσ h).weak (w_k (w_k (w_k (w_k (w_k (w_d w_n))))))
set_option maxHeartbeats 4000000 in
set_option maxRecDepth 100000 in
theorem t_X12_turnsOnce_b139 (E : Ev p s m args meth c cX12_turnsOnce 6 RX12 A0 D cA ad NR Z) (hr : meth.sig.returnType = (some .boolean)) {K74 : Int → Int → St → Prop} (hK74 : ∀ (x1 : Int) (x2 : Int) (σ : St), C32 x1 → C32 x2 → CanS shR NR σ → K74 x1 x2 σ → G p l e (rmL 4 0 0) s m args below meth c 6 A0 D cA ad shR NR 0 0 (MQ below (QIc D cA ad shR NR Q A0) args s 0 0 A0) σ 74 [some (.ref (ad 0)), some (vI x1), some (vI x2), none, none, none] []) {K86 : Int → Int → Int → St → Prop} (hK86 : ∀ (x1 : Int) (x2 : Int) (x3 : Int) (σ : St), C32 x1 → C32 x2 → C32 x3 → CanS shR NR σ → K86 x1 x2 x3 σ → G p l e (rmL 4 0 0) s m args below meth c 6 A0 D cA ad shR NR 0 0 (MQ below (QIc D cA ad shR NR Q A0) args s 0 0 A0) σ 86 [some (.ref (ad 0)), some (vI x1), some (vI x2), some (vI x3), none, none] []) {K97 : Int → Int → Int → Int → St → Prop} (hK97 : ∀ (x1 : Int) (x2 : Int) (x3 : Int) (x4 : Int) (σ : St), C32 x1 → C32 x2 → C32 x3 → C32 x4 → CanS shR NR σ → K97 x1 x2 x3 x4 σ → G p l e (rmL 4 0 0) s m args below meth c 6 A0 D cA ad shR NR 0 0 (MQ below (QIc D cA ad shR NR Q A0) args s 0 0 A0) σ 97 [some (.ref (ad 0)), some (vI x1), some (vI x2), some (vI x3), some (vI x4), none] []) (x2 : Int) (x3 : Int) (x4 : Int) (x5 : Int) (s0 : Int) (σ : St) (c2 : C32 x2) (c3 : C32 x3) (c4 : C32 x4) (c5 : C32 x5) (cs0 : C32 s0) (hσ : CanS shR NR σ) (h : wp_X12_turnsOnce_b139 Q K74 K86 K97 x2 x3 x4 x5 s0 σ) : G p l e (rmL 4 0 0) s m args below meth c 6 A0 D cA ad shR NR 0 0 (MQ below (QIc D cA ad shR NR Q A0) args s 0 0 A0) σ 139 [some (.ref (ad 0)), none, some (vI x2), some (vI x3), some (vI x4), some (vI x5)] [vI s0] := by
  unfold wp_X12_turnsOnce_b139 at h
  refine g_istore_1 E rfl (by decide) dX12_turnsOnce_139 ?_
  refine g_aload_0 E dX12_turnsOnce_140 ?_
  refine g_getR E fl_RX12_95 kR_0 sR_0 rfl dX12_turnsOnce_141 ?_
  refine g_iload_5 E dX12_turnsOnce_144 ?_
  refine g_aload_0 E dX12_turnsOnce_146 ?_
  refine g_getR E fl_RX12_98 kR_0 sR_0 rfl dX12_turnsOnce_147 ?_
  refine g_iload_5 E dX12_turnsOnce_150 ?_
  refine g_iald E kR_27 sR_27 (by decide) h.1 dX12_turnsOnce_152 ?_
  replace h := h.2
  refine g_iast E kR_26 sR_26 (by decide) h.1 dX12_turnsOnce_153 (g_nmS (fun σ15 eσ15 => ?_))
  replace h := h.2 σ15 eσ15
  have hσ15 : CanS shR NR σ15 := by rw [eσ15]; exact wR_26 hσ (aR_27 hσ _)
  refine g_iinc_4 E rfl (by decide) dX12_turnsOnce_154 (fun v16 ev16 => ?_)
  replace h := h v16 ev16
  have cv16 : C32 v16 := by rw [ev16]; exact c32_w _
  refine g_goto E djX12_turnsOnce_157 ?_
  exact (hK97 s0 x2 x3 v16 σ15 cs0 c2 c3 cv16 hσ15 h).weak (w_k (w_k (w_k (w_k (w_k (w_d w_n))))))
set_option maxHeartbeats 4000000 in
set_option maxRecDepth 100000 in
theorem t_X12_turnsOnce_b134 (E : Ev p s m args meth c cX12_turnsOnce 6 RX12 A0 D cA ad NR Z) (hr : meth.sig.returnType = (some .boolean)) {K74 : Int → Int → St → Prop} (hK74 : ∀ (x1 : Int) (x2 : Int) (σ : St), C32 x1 → C32 x2 → CanS shR NR σ → K74 x1 x2 σ → G p l e (rmL 4 0 0) s m args below meth c 6 A0 D cA ad shR NR 0 0 (MQ below (QIc D cA ad shR NR Q A0) args s 0 0 A0) σ 74 [some (.ref (ad 0)), some (vI x1), some (vI x2), none, none, none] []) {K86 : Int → Int → Int → St → Prop} (hK86 : ∀ (x1 : Int) (x2 : Int) (x3 : Int) (σ : St), C32 x1 → C32 x2 → C32 x3 → CanS shR NR σ → K86 x1 x2 x3 σ → G p l e (rmL 4 0 0) s m args below meth c 6 A0 D cA ad shR NR 0 0 (MQ below (QIc D cA ad shR NR Q A0) args s 0 0 A0) σ 86 [some (.ref (ad 0)), some (vI x1), some (vI x2), some (vI x3), none, none] []) {K97 : Int → Int → Int → Int → St → Prop} (hK97 : ∀ (x1 : Int) (x2 : Int) (x3 : Int) (x4 : Int) (σ : St), C32 x1 → C32 x2 → C32 x3 → C32 x4 → CanS shR NR σ → K97 x1 x2 x3 x4 σ → G p l e (rmL 4 0 0) s m args below meth c 6 A0 D cA ad shR NR 0 0 (MQ below (QIc D cA ad shR NR Q A0) args s 0 0 A0) σ 97 [some (.ref (ad 0)), some (vI x1), some (vI x2), some (vI x3), some (vI x4), none] []) (x2 : Int) (x3 : Int) (x4 : Int) (x5 : Int) (σ : St) (c2 : C32 x2) (c3 : C32 x3) (c4 : C32 x4) (c5 : C32 x5) (hσ : CanS shR NR σ) (h : wp_X12_turnsOnce_b134 Q K74 K86 K97 x2 x3 x4 x5 σ) : G p l e (rmL 4 0 0) s m args below meth c 6 A0 D cA ad shR NR 0 0 (MQ below (QIc D cA ad shR NR Q A0) args s 0 0 A0) σ 134 [some (.ref (ad 0)), none, some (vI x2), some (vI x3), some (vI x4), some (vI x5)] [] := by
  unfold wp_X12_turnsOnce_b134 at h
  refine g_iconst E dX12_turnsOnce_134 ?_
  refine g_goto E djX12_turnsOnce_135 ?_
  exact (t_X12_turnsOnce_b139 E hr hK74 hK86 hK97 x2 x3 x4 x5 1 σ c2 c3 c4 c5 cl_1 hσ h).weak (w_k (w_d (w_k (w_k (w_k (w_k w_n))))))
set_option maxHeartbeats 4000000 in
set_option maxRecDepth 100000 in
theorem t_X12_turnsOnce_l97 (E : Ev p s m args meth c cX12_turnsOnce 6 RX12 A0 D cA ad NR Z) (hr : meth.sig.returnType = (some .boolean)) {K74 : Int → Int → St → Prop} (hK74 : ∀ (x1 : Int) (x2 : Int) (σ : St), C32 x1 → C32 x2 → CanS shR NR σ → K74 x1 x2 σ → G p l e (rmL 4 0 0) s m args below meth c 6 A0 D cA ad shR NR 0 0 (MQ below (QIc D cA ad shR NR Q A0) args s 0 0 A0) σ 74 [some (.ref (ad 0)), some (vI x1), some (vI x2), none, none, none] []) {K86 : Int → Int → Int → St → Prop} (hK86 : ∀ (x1 : Int) (x2 : Int) (x3 : Int) (σ : St), C32 x1 → C32 x2 → C32 x3 → CanS shR NR σ → K86 x1 x2 x3 σ → G p l e (rmL 4 0 0) s m args below meth c 6 A0 D cA ad shR NR 0 0 (MQ below (QIc D cA ad shR NR Q A0) args s 0 0 A0) σ 86 [some (.ref (ad 0)), some (vI x1), some (vI x2), some (vI x3), none, none] []) : ∀ (n : Nat) (x1 : Int) (x2 : Int) (x3 : Int) (x4 : Int) (σ : St), C32 x1 → C32 x2 → C32 x3 → C32 x4 → CanS shR NR σ → wp_X12_turnsOnce_l97 Q K74 K86 n x1 x2 x3 x4 σ → G p l e (rmL 4 0 0) s m args below meth c 6 A0 D cA ad shR NR 0 0 (MQ below (QIc D cA ad shR NR Q A0) args s 0 0 A0) σ 97 [some (.ref (ad 0)), some (vI x1), some (vI x2), some (vI x3), some (vI x4), none] [] := by
  intro n
  induction n with
  | zero => intro _ _ _ _ _ _ _ _ _ _ h; exact h.elim
  | succ n ih =>
    intro x1 x2 x3 x4 σ c1 c2 c3 c4 hσ h
    unfold wp_X12_turnsOnce_l97 at h
    refine g_iload_4 E dX12_turnsOnce_97 ?_
    refine g_bipush E (by decide) dX12_turnsOnce_99 ?_
    refine g_icmp_ge E c4 cl_12 djX12_turnsOnce_101 (fun hc => ?_) (fun hc => ?_)
    · replace h := h.1 hc
      refine g_iinc_3 E rfl (by decide) dX12_turnsOnce_160 (fun v12 ev12 => ?_)
      replace h := h v12 ev12
      have cv12 : C32 v12 := by rw [ev12]; exact c32_w _
      refine g_goto E djX12_turnsOnce_163 ?_
      exact (hK86 x1 x2 v12 σ c1 c2 cv12 hσ h).weak (w_k (w_k (w_k (w_k (w_d (w_d w_n))))))
    · replace h := h.2 hc
      refine g_iload_4 E dX12_turnsOnce_104 ?_
      refine g_iload_2 E dX12_turnsOnce_106 ?_
      refine g_iload_3 E dX12_turnsOnce_107 ?_
      refine g_callsI E my_X12_item ms_X12_item ml_RX12_282 (rm_ok (by decide) (by decide)) ⟨Nat.zero_le _, Nat.zero_le _⟩ (m_X12_item E.2.2.1 c4 c2 c3 hσ h) rfl rfl (Nat.le_of_ble_eq_true rfl) dX12_turnsOnce_108 (fun r13 σ14 cr13 hσ14 h => ?_)
      refine g_istore_5 E rfl (by decide) dX12_turnsOnce_111 ?_
      refine g_iload_1 E dX12_turnsOnce_113 ?_
      refine g_if_ne E c1 djX12_turnsOnce_114 (fun hc => ?_) (fun hc => ?_)
      · replace h := h.1 hc
        exact (t_X12_turnsOnce_b134 E hr hK74 hK86 ih x2 x3 x4 r13 σ14 c2 c3 c4 cr13 hσ14 h).weak (w_k (w_d (w_k (w_k (w_k (w_k w_n))))))
      · replace h := h.2 hc
        refine g_aload_0 E dX12_turnsOnce_117 ?_
        refine g_getR E fl_RX12_98 kR_0 sR_0 rfl dX12_turnsOnce_118 ?_
        refine g_iload_5 E dX12_turnsOnce_121 ?_
        refine g_iald E kR_27 sR_27 (by decide) h.1 dX12_turnsOnce_123 ?_
        replace h := h.2
        refine g_aload_0 E dX12_turnsOnce_124 ?_
        refine g_getR E fl_RX12_95 kR_0 sR_0 rfl dX12_turnsOnce_125 ?_
        refine g_iload_5 E dX12_turnsOnce_128 ?_
        refine g_iald E kR_26 sR_26 (by decide) h.1 dX12_turnsOnce_130 ?_
        replace h := h.2
        refine g_icmp_eq E (aR_27 hσ14 _) (aR_26 hσ14 _) djX12_turnsOnce_131 (fun hc => ?_) (fun hc => ?_)
        · replace h := h.1 hc
          refine g_iconst E dX12_turnsOnce_138 ?_
          exact (t_X12_turnsOnce_b139 E hr hK74 hK86 ih x2 x3 x4 r13 0 σ14 c2 c3 c4 cr13 cl_0 hσ14 h).weak (w_k (w_d (w_k (w_k (w_k (w_k w_n))))))
        · replace h := h.2 hc
          exact (t_X12_turnsOnce_b134 E hr hK74 hK86 ih x2 x3 x4 r13 σ14 c2 c3 c4 cr13 hσ14 h).weak (w_k (w_d (w_k (w_k (w_k (w_k w_n))))))
set_option maxHeartbeats 4000000 in
set_option maxRecDepth 100000 in
theorem t_X12_turnsOnce_l86 (E : Ev p s m args meth c cX12_turnsOnce 6 RX12 A0 D cA ad NR Z) (hr : meth.sig.returnType = (some .boolean)) {K74 : Int → Int → St → Prop} (hK74 : ∀ (x1 : Int) (x2 : Int) (σ : St), C32 x1 → C32 x2 → CanS shR NR σ → K74 x1 x2 σ → G p l e (rmL 4 0 0) s m args below meth c 6 A0 D cA ad shR NR 0 0 (MQ below (QIc D cA ad shR NR Q A0) args s 0 0 A0) σ 74 [some (.ref (ad 0)), some (vI x1), some (vI x2), none, none, none] []) : ∀ (n : Nat) (x1 : Int) (x2 : Int) (x3 : Int) (σ : St), C32 x1 → C32 x2 → C32 x3 → CanS shR NR σ → wp_X12_turnsOnce_l86 Q K74 n x1 x2 x3 σ → G p l e (rmL 4 0 0) s m args below meth c 6 A0 D cA ad shR NR 0 0 (MQ below (QIc D cA ad shR NR Q A0) args s 0 0 A0) σ 86 [some (.ref (ad 0)), some (vI x1), some (vI x2), some (vI x3), none, none] [] := by
  intro n
  induction n with
  | zero => intro _ _ _ _ _ _ _ _ h; exact h.elim
  | succ n ih =>
    intro x1 x2 x3 σ c1 c2 c3 hσ h
    unfold wp_X12_turnsOnce_l86 at h
    refine g_iload_3 E dX12_turnsOnce_86 ?_
    refine g_aload_0 E dX12_turnsOnce_87 ?_
    refine g_getI E fl_RX12_305 kR_0 sR_0 rfl dX12_turnsOnce_88 ?_
    refine g_icmp_gt E c3 (fR_0_27 hσ) djX12_turnsOnce_91 (fun hc => ?_) (fun hc => ?_)
    · replace h := h.1 hc
      refine g_iinc_2 E rfl (by decide) dX12_turnsOnce_166 (fun v4 ev4 => ?_)
      replace h := h v4 ev4
      have cv4 : C32 v4 := by rw [ev4]; exact c32_w _
      refine g_goto E djX12_turnsOnce_169 ?_
      exact (hK74 x1 v4 σ c1 cv4 hσ h).weak (w_k (w_k (w_k (w_d (w_d (w_d w_n))))))
    · replace h := h.2 hc
      refine g_iconst E dX12_turnsOnce_94 ?_
      refine g_istore_4 E rfl (by decide) dX12_turnsOnce_95 ?_
      exact (t_X12_turnsOnce_l97 E hr hK74 ih bigN x1 x2 x3 0 σ c1 c2 c3 cl_0 hσ h).weak (w_k (w_k (w_k (w_k (w_k (w_d w_n))))))
set_option maxHeartbeats 4000000 in
set_option maxRecDepth 100000 in
theorem t_X12_turnsOnce_l74 (E : Ev p s m args meth c cX12_turnsOnce 6 RX12 A0 D cA ad NR Z) (hr : meth.sig.returnType = (some .boolean)) : ∀ (n : Nat) (x1 : Int) (x2 : Int) (σ : St), C32 x1 → C32 x2 → CanS shR NR σ → wp_X12_turnsOnce_l74 Q n x1 x2 σ → G p l e (rmL 4 0 0) s m args below meth c 6 A0 D cA ad shR NR 0 0 (MQ below (QIc D cA ad shR NR Q A0) args s 0 0 A0) σ 74 [some (.ref (ad 0)), some (vI x1), some (vI x2), none, none, none] [] := by
  intro n
  induction n with
  | zero => intro _ _ _ _ _ _ h; exact h.elim
  | succ n ih =>
    intro x1 x2 σ c1 c2 hσ h
    unfold wp_X12_turnsOnce_l74 at h
    refine g_iload_2 E dX12_turnsOnce_74 ?_
    refine g_aload_0 E dX12_turnsOnce_75 ?_
    refine g_getI E fl_RX12_305 kR_0 sR_0 rfl dX12_turnsOnce_76 ?_
    refine g_icmp_ge E c2 (fR_0_27 hσ) djX12_turnsOnce_79 (fun hc => ?_) (fun hc => ?_)
    · replace h := h.1 hc
      refine g_iload_1 E dX12_turnsOnce_172 ?_
      exact g_zret E hr h.1 h.2 hσ dX12_turnsOnce_173
    · replace h := h.2 hc
      refine g_iload_2 E dX12_turnsOnce_82 ?_
      refine g_iconst E dX12_turnsOnce_83 ?_
      refine g_iadd E dX12_turnsOnce_84 ?_
      refine g_nmI (fun v2 ev2 => ?_)
      replace h := h v2 ev2
      have cv2 : C32 v2 := by rw [ev2]; exact (c32_w _)
      refine g_istore_3 E rfl (by decide) dX12_turnsOnce_85 ?_
      exact (t_X12_turnsOnce_l86 E hr ih bigN x1 x2 v2 σ c1 c2 cv2 hσ h).weak (w_k (w_k (w_k (w_k (w_d (w_d w_n))))))
set_option maxHeartbeats 4000000 in
set_option maxRecDepth 100000 in
theorem t_X12_turnsOnce_l4 (E : Ev p s m args meth c cX12_turnsOnce 6 RX12 A0 D cA ad NR Z) (hr : meth.sig.returnType = (some .boolean)) : ∀ (n : Nat) (x1 : Int) (x2 : Int) (σ : St), C32 x1 → C32 x2 → CanS shR NR σ → wp_X12_turnsOnce_l4 Q n x1 x2 σ → G p l e (rmL 4 0 0) s m args below meth c 6 A0 D cA ad shR NR 0 0 (MQ below (QIc D cA ad shR NR Q A0) args s 0 0 A0) σ 4 [some (.ref (ad 0)), some (vI x1), some (vI x2), none, none, none] [] := by
  intro n
  induction n with
  | zero => intro _ _ _ _ _ _ h; exact h.elim
  | succ n ih =>
    intro x1 x2 σ c1 c2 hσ h
    unfold wp_X12_turnsOnce_l4 at h
    refine g_iload_2 E dX12_turnsOnce_4 ?_
    refine g_aload_0 E dX12_turnsOnce_5 ?_
    refine g_getI E fl_RX12_305 kR_0 sR_0 rfl dX12_turnsOnce_6 ?_
    refine g_icmp_ge E c2 (fR_0_27 hσ) djX12_turnsOnce_9 (fun hc => ?_) (fun hc => ?_)
    · replace h := h.1 hc
      refine g_iconst E dX12_turnsOnce_72 ?_
      refine g_istore_2 E rfl (by decide) dX12_turnsOnce_73 ?_
      exact (t_X12_turnsOnce_l74 E hr bigN x1 0 σ c1 cl_0 hσ h).weak (w_k (w_k (w_k (w_d (w_d (w_d w_n))))))
    · replace h := h.2 hc
      refine g_iload_2 E dX12_turnsOnce_12 ?_
      refine g_iconst E dX12_turnsOnce_13 ?_
      refine g_iadd E dX12_turnsOnce_14 ?_
      refine g_nmI (fun v1 ev1 => ?_)
      replace h := h v1 ev1
      have cv1 : C32 v1 := by rw [ev1]; exact (c32_w _)
      refine g_istore_3 E rfl (by decide) dX12_turnsOnce_15 ?_
      exact (t_X12_turnsOnce_l16 E hr ih bigN x1 x2 v1 σ c1 c2 cv1 hσ h).weak (w_k (w_k (w_k (w_k (w_d (w_d w_n))))))
set_option maxHeartbeats 4000000 in
set_option maxRecDepth 100000 in
theorem t_X12_turnsOnce (E : Ev p s m args meth c cX12_turnsOnce 6 RX12 A0 D cA ad NR Z) (hr : meth.sig.returnType = (some .boolean)) (σ : St) (hσ : CanS shR NR σ) (h : wp_X12_turnsOnce  σ Q) : G p l e (rmL 4 0 0) s m args below meth c 6 A0 D cA ad shR NR 0 0 (MQ below (QIc D cA ad shR NR Q A0) args s 0 0 A0) σ 0 [some (.ref (ad 0)), none, none, none, none, none] [] := by
  unfold wp_X12_turnsOnce at h
  refine g_iconst E dX12_turnsOnce_0 ?_
  refine g_istore_1 E rfl (by decide) dX12_turnsOnce_1 ?_
  refine g_iconst E dX12_turnsOnce_2 ?_
  refine g_istore_2 E rfl (by decide) dX12_turnsOnce_3 ?_
  exact (t_X12_turnsOnce_l4 E hr bigN 0 0 σ cl_0 cl_0 hσ h).weak (w_k (w_k (w_k (w_d (w_d (w_d w_n))))))
end
theorem m_X12_turnsOnce {Z : (Nat → Nat) × (Nat → Nat)} {l : Launch} {D : va_G} {cA : Nat → ClassId} {ad : Nat → Nat} {σ : St} {Q : Int → St → Prop} (hA : AdOk NR ad) (hσ : CanS shR NR σ) (h : wp_X12_turnsOnce  σ Q) : KtI Z l D cA ad shR NR yX12_turnsOnce cX12_turnsOnce 6 (some .boolean) 4 [.ref (ad 0)] σ Q :=
  KtI.of my_X12_turnsOnce hA [some (.ref (ad 0)), none, none, none, none, none] (Nat.le_of_ble_eq_true rfl) rfl (fun p e s m args below meth c A0 E hr => t_X12_turnsOnce E hr σ hσ h)
theorem dX12_settles_0 : Dc cX12_settles 0 (.aload_n 0) 1 1 := ⟨by decide +kernel, rfl⟩
theorem dX12_settles_1 : Dc cX12_settles 1 (.invokevirtual 321) 3 4 := ⟨by decide +kernel, rfl⟩
theorem dX12_settles_4 : Dc cX12_settles 4 (.iconst 0) 1 5 := ⟨by decide +kernel, rfl⟩
theorem dX12_settles_5 : Dc cX12_settles 5 (.istore_n 1) 1 6 := ⟨by decide +kernel, rfl⟩
theorem dX12_settles_6 : Dc cX12_settles 6 (.iload_n 1) 1 7 := ⟨by decide +kernel, rfl⟩
theorem dX12_settles_7 : Dc cX12_settles 7 (.sipush 768) 3 10 := ⟨by decide +kernel, rfl⟩
theorem djX12_settles_10 : Dj cX12_settles 10 (.if_icmp .ge 21) 3 13 21 31 := ⟨by decide +kernel, rfl, by decide⟩
theorem dX12_settles_13 : Dc cX12_settles 13 (.aload_n 0) 1 14 := ⟨by decide +kernel, rfl⟩
theorem dX12_settles_14 : Dc cX12_settles 14 (.getfield 95) 3 17 := ⟨by decide +kernel, rfl⟩
theorem dX12_settles_17 : Dc cX12_settles 17 (.iload_n 1) 1 18 := ⟨by decide +kernel, rfl⟩
theorem dX12_settles_18 : Dc cX12_settles 18 (.aload_n 0) 1 19 := ⟨by decide +kernel, rfl⟩
theorem dX12_settles_19 : Dc cX12_settles 19 (.getfield 32) 3 22 := ⟨by decide +kernel, rfl⟩
theorem dX12_settles_22 : Dc cX12_settles 22 (.iconst 0) 1 23 := ⟨by decide +kernel, rfl⟩
theorem dX12_settles_23 : Dc cX12_settles 23 (.iaload) 1 24 := ⟨by decide +kernel, rfl⟩
theorem dX12_settles_24 : Dc cX12_settles 24 (.iastore) 1 25 := ⟨by decide +kernel, rfl⟩
theorem dX12_settles_25 : Dc cX12_settles 25 (.iinc 1 1) 3 28 := ⟨by decide +kernel, rfl⟩
theorem djX12_settles_28 : Dj cX12_settles 28 (.goto (-22)) 3 31 (-22) 6 := ⟨by decide +kernel, rfl, by decide⟩
theorem dX12_settles_31 : Dc cX12_settles 31 (.aload_n 0) 1 32 := ⟨by decide +kernel, rfl⟩
theorem dX12_settles_32 : Dc cX12_settles 32 (.iconst 1) 1 33 := ⟨by decide +kernel, rfl⟩
theorem dX12_settles_33 : Dc cX12_settles 33 (.putfield 431) 3 36 := ⟨by decide +kernel, rfl⟩
theorem dX12_settles_36 : Dc cX12_settles 36 (.aload_n 0) 1 37 := ⟨by decide +kernel, rfl⟩
theorem dX12_settles_37 : Dc cX12_settles 37 (.getfield 431) 3 40 := ⟨by decide +kernel, rfl⟩
theorem dX12_settles_40 : Dc cX12_settles 40 (.bipush 100) 2 42 := ⟨by decide +kernel, rfl⟩
theorem djX12_settles_42 : Dj cX12_settles 42 (.if_icmp .gt 25) 3 45 25 67 := ⟨by decide +kernel, rfl, by decide⟩
theorem dX12_settles_45 : Dc cX12_settles 45 (.aload_n 0) 1 46 := ⟨by decide +kernel, rfl⟩
theorem dX12_settles_46 : Dc cX12_settles 46 (.invokevirtual 434) 3 49 := ⟨by decide +kernel, rfl⟩
theorem djX12_settles_49 : Dj cX12_settles 49 (.ifCond .ne 5) 3 52 5 54 := ⟨by decide +kernel, rfl, by decide⟩
theorem dX12_settles_52 : Dc cX12_settles 52 (.iconst 1) 1 53 := ⟨by decide +kernel, rfl⟩
theorem dX12_settles_53 : Dc cX12_settles 53 (.ireturn) 1 54 := ⟨by decide +kernel, rfl⟩
theorem dX12_settles_54 : Dc cX12_settles 54 (.aload_n 0) 1 55 := ⟨by decide +kernel, rfl⟩
theorem dX12_settles_55 : Dc cX12_settles 55 (.dup) 1 56 := ⟨by decide +kernel, rfl⟩
theorem dX12_settles_56 : Dc cX12_settles 56 (.getfield 431) 3 59 := ⟨by decide +kernel, rfl⟩
theorem dX12_settles_59 : Dc cX12_settles 59 (.iconst 1) 1 60 := ⟨by decide +kernel, rfl⟩
theorem dX12_settles_60 : Dc cX12_settles 60 (.iadd) 1 61 := ⟨by decide +kernel, rfl⟩
theorem dX12_settles_61 : Dc cX12_settles 61 (.putfield 431) 3 64 := ⟨by decide +kernel, rfl⟩
theorem djX12_settles_64 : Dj cX12_settles 64 (.goto (-28)) 3 67 (-28) 36 := ⟨by decide +kernel, rfl, by decide⟩
theorem dX12_settles_67 : Dc cX12_settles 67 (.iconst 0) 1 68 := ⟨by decide +kernel, rfl⟩
theorem dX12_settles_68 : Dc cX12_settles 68 (.ireturn) 1 69 := ⟨by decide +kernel, rfl⟩
section
variable {p : Program} {l : Launch} {e : Env} {s : State} {m : MethodId} {args : Array Value} {below : List Frame} {meth : Method} {c : Code} {A0 : Nat → Prop} {D : va_G} {cA : Nat → ClassId} {ad : Nat → Nat} {Z : (Nat → Nat) × (Nat → Nat)} {Q : Int → St → Prop}
set_option maxHeartbeats 4000000 in
set_option maxRecDepth 100000 in
theorem t_X12_settles_l36 (E : Ev p s m args meth c cX12_settles 2 RX12 A0 D cA ad NR Z) (hr : meth.sig.returnType = (some .boolean)) : ∀ (n : Nat) (σ : St), CanS shR NR σ → wp_X12_settles_l36 Q n  σ → G p l e (rmL 7 0 0) s m args below meth c 2 A0 D cA ad shR NR 0 0 (MQ below (QIc D cA ad shR NR Q A0) args s 0 0 A0) σ 36 [some (.ref (ad 0)), none] [] := by
  intro n
  induction n with
  | zero => intro _ _ h; exact h.elim
  | succ n ih =>
    intro σ hσ h
    unfold wp_X12_settles_l36 at h
    refine g_aload_0 E dX12_settles_36 ?_
    refine g_getI E fl_RX12_431 kR_0 sR_0 rfl dX12_settles_37 ?_
    refine g_bipush E (by decide) dX12_settles_40 ?_
    refine g_icmp_gt E (fR_0_44 hσ) cl_100 djX12_settles_42 (fun hc => ?_) (fun hc => ?_)
    · replace h := h.1 hc
      refine g_iconst E dX12_settles_67 ?_
      exact g_zret E hr (Or.inl rfl) h hσ dX12_settles_68
    · replace h := h.2 hc
      refine g_aload_0 E dX12_settles_45 ?_
      refine g_callvI E my_X12_turnsOnce mi_X12_turnsOnce msel_X12_turnsOnce ml_RX12_434 (rm_ok (by decide) (by decide)) ⟨Nat.zero_le _, Nat.zero_le _⟩ kR_0 sR_0 rfl (m_X12_turnsOnce E.2.2.1 hσ h) rfl rfl (Nat.le_of_ble_eq_true rfl) dX12_settles_46 (fun r6 σ7 cr6 hσ7 h => ?_)
      refine g_if_ne E cr6 djX12_settles_49 (fun hc => ?_) (fun hc => ?_)
      · replace h := h.1 hc
        refine g_aload_0 E dX12_settles_54 ?_
        refine g_dup E rfl dX12_settles_55 ?_
        refine g_getI E fl_RX12_431 kR_0 sR_0 rfl dX12_settles_56 ?_
        refine g_iconst E dX12_settles_59 ?_
        refine g_iadd E dX12_settles_60 ?_
        refine g_putI E fl_RX12_431 rfl rfl kR_0 sR_0 rfl dX12_settles_61 (g_nmS (fun σ8 eσ8 => ?_))
        replace h := h σ8 eσ8
        have hσ8 : CanS shR NR σ8 := by rw [eσ8]; exact uR_0_44 hσ7 (c32_w _)
        refine g_goto E djX12_settles_64 ?_
        exact (ih σ8 hσ8 h).weak (w_k (w_d w_n))
      · replace h := h.2 hc
        refine g_iconst E dX12_settles_52 ?_
        exact g_zret E hr (Or.inr rfl) h hσ7 dX12_settles_53
set_option maxHeartbeats 4000000 in
set_option maxRecDepth 100000 in
theorem t_X12_settles_l6 (E : Ev p s m args meth c cX12_settles 2 RX12 A0 D cA ad NR Z) (hr : meth.sig.returnType = (some .boolean)) : ∀ (n : Nat) (x1 : Int) (σ : St), C32 x1 → CanS shR NR σ → wp_X12_settles_l6 Q n x1 σ → G p l e (rmL 7 0 0) s m args below meth c 2 A0 D cA ad shR NR 0 0 (MQ below (QIc D cA ad shR NR Q A0) args s 0 0 A0) σ 6 [some (.ref (ad 0)), some (vI x1)] [] := by
  intro n
  induction n with
  | zero => intro _ _ _ _ h; exact h.elim
  | succ n ih =>
    intro x1 σ c1 hσ h
    unfold wp_X12_settles_l6 at h
    refine g_iload_1 E dX12_settles_6 ?_
    refine g_sipush E (by decide) dX12_settles_7 ?_
    refine g_icmp_ge E c1 cl_768 djX12_settles_10 (fun hc => ?_) (fun hc => ?_)
    · replace h := h.1 hc
      refine g_aload_0 E dX12_settles_31 ?_
      refine g_iconst E dX12_settles_32 ?_
      refine g_putI E fl_RX12_431 rfl rfl kR_0 sR_0 rfl dX12_settles_33 (g_nmS (fun σ3 eσ3 => ?_))
      replace h := h σ3 eσ3
      have hσ3 : CanS shR NR σ3 := by rw [eσ3]; exact uR_0_44 hσ cl_1
      exact (t_X12_settles_l36 E hr bigN σ3 hσ3 h).weak (w_k (w_d w_n))
    · replace h := h.2 hc
      refine g_aload_0 E dX12_settles_13 ?_
      refine g_getR E fl_RX12_95 kR_0 sR_0 rfl dX12_settles_14 ?_
      refine g_iload_1 E dX12_settles_17 ?_
      refine g_aload_0 E dX12_settles_18 ?_
      refine g_getR E fl_RX12_32 kR_0 sR_0 rfl dX12_settles_19 ?_
      refine g_iconst E dX12_settles_22 ?_
      refine g_iald E kR_7 sR_7 (by decide) (by decide) dX12_settles_23 ?_
      refine g_iast E kR_26 sR_26 (by decide) h.1 dX12_settles_24 (g_nmS (fun σ4 eσ4 => ?_))
      replace h := h.2 σ4 eσ4
      have hσ4 : CanS shR NR σ4 := by rw [eσ4]; exact wR_26 hσ (aR_7 hσ _)
      refine g_iinc_1 E rfl (by decide) dX12_settles_25 (fun v5 ev5 => ?_)
      replace h := h v5 ev5
      have cv5 : C32 v5 := by rw [ev5]; exact c32_w _
      refine g_goto E djX12_settles_28 ?_
      exact (ih v5 σ4 cv5 hσ4 h).weak (w_k (w_k w_n))
set_option maxHeartbeats 4000000 in
set_option maxRecDepth 100000 in
theorem t_X12_settles (E : Ev p s m args meth c cX12_settles 2 RX12 A0 D cA ad NR Z) (hr : meth.sig.returnType = (some .boolean)) (σ : St) (hσ : CanS shR NR σ) (h : wp_X12_settles  σ Q) : G p l e (rmL 7 0 0) s m args below meth c 2 A0 D cA ad shR NR 0 0 (MQ below (QIc D cA ad shR NR Q A0) args s 0 0 A0) σ 0 [some (.ref (ad 0)), none] [] := by
  unfold wp_X12_settles at h
  refine g_aload_0 E dX12_settles_0 ?_
  refine g_callvV E my_X12_looks mi_X12_looks msel_X12_looks ml_RX12_321 (rm_ok (by decide) (by decide)) ⟨Nat.zero_le _, Nat.zero_le _⟩ kR_0 sR_0 rfl (m_X12_looks E.2.2.1 hσ h) rfl rfl (Nat.le_of_ble_eq_true rfl) dX12_settles_1 (fun σ2 r1 hσ2 h => ?_)
  refine g_iconst E dX12_settles_4 ?_
  refine g_istore_1 E rfl (by decide) dX12_settles_5 ?_
  exact (t_X12_settles_l6 E hr bigN 0 σ2 cl_0 hσ2 h).weak (w_k (w_k w_n))
end
theorem m_X12_settles {Z : (Nat → Nat) × (Nat → Nat)} {l : Launch} {D : va_G} {cA : Nat → ClassId} {ad : Nat → Nat} {σ : St} {Q : Int → St → Prop} (hA : AdOk NR ad) (hσ : CanS shR NR σ) (h : wp_X12_settles  σ Q) : KtI Z l D cA ad shR NR yX12_settles cX12_settles 2 (some .boolean) 7 [.ref (ad 0)] σ Q :=
  KtI.of my_X12_settles hA [some (.ref (ad 0)), none] (Nat.le_of_ble_eq_true rfl) rfl (fun p e s m args below meth c A0 E hr => t_X12_settles E hr σ hσ h)
theorem dX12_value_0 : Dc cX12_value 0 (.aload_n 0) 1 1 := ⟨by decide +kernel, rfl⟩
theorem dX12_value_1 : Dc cX12_value 1 (.iload_n 1) 1 2 := ⟨by decide +kernel, rfl⟩
theorem dX12_value_2 : Dc cX12_value 2 (.iload_n 2) 1 3 := ⟨by decide +kernel, rfl⟩
theorem dX12_value_3 : Dc cX12_value 3 (.iload_n 3) 1 4 := ⟨by decide +kernel, rfl⟩
theorem dX12_value_4 : Dc cX12_value 4 (.invokevirtual 318) 3 7 := ⟨by decide +kernel, rfl⟩
theorem djX12_value_7 : Dj cX12_value 7 (.ifCond .ne 6) 3 10 6 13 := ⟨by decide +kernel, rfl, by decide⟩
theorem dX12_value_10 : Dc cX12_value 10 (.bipush (-2)) 2 12 := ⟨by decide +kernel, rfl⟩
theorem dX12_value_12 : Dc cX12_value 12 (.ireturn) 1 13 := ⟨by decide +kernel, rfl⟩
theorem dX12_value_13 : Dc cX12_value 13 (.aload_n 0) 1 14 := ⟨by decide +kernel, rfl⟩
theorem dX12_value_14 : Dc cX12_value 14 (.invokevirtual 437) 3 17 := ⟨by decide +kernel, rfl⟩
theorem djX12_value_17 : Dj cX12_value 17 (.ifCond .eq 17) 3 20 17 34 := ⟨by decide +kernel, rfl, by decide⟩
theorem dX12_value_20 : Dc cX12_value 20 (.aload_n 0) 1 21 := ⟨by decide +kernel, rfl⟩
theorem dX12_value_21 : Dc cX12_value 21 (.getfield 95) 3 24 := ⟨by decide +kernel, rfl⟩
theorem dX12_value_24 : Dc cX12_value 24 (.iload_n 1) 1 25 := ⟨by decide +kernel, rfl⟩
theorem dX12_value_25 : Dc cX12_value 25 (.iload_n 2) 1 26 := ⟨by decide +kernel, rfl⟩
theorem dX12_value_26 : Dc cX12_value 26 (.iload_n 3) 1 27 := ⟨by decide +kernel, rfl⟩
theorem dX12_value_27 : Dc cX12_value 27 (.invokestatic 282) 3 30 := ⟨by decide +kernel, rfl⟩
theorem dX12_value_30 : Dc cX12_value 30 (.iaload) 1 31 := ⟨by decide +kernel, rfl⟩
theorem djX12_value_31 : Dj cX12_value 31 (.goto 5) 3 34 5 36 := ⟨by decide +kernel, rfl, by decide⟩
theorem dX12_value_34 : Dc cX12_value 34 (.bipush (-6)) 2 36 := ⟨by decide +kernel, rfl⟩
theorem dX12_value_36 : Dc cX12_value 36 (.ireturn) 1 37 := ⟨by decide +kernel, rfl⟩
section
variable {p : Program} {l : Launch} {e : Env} {s : State} {m : MethodId} {args : Array Value} {below : List Frame} {meth : Method} {c : Code} {A0 : Nat → Prop} {D : va_G} {cA : Nat → ClassId} {ad : Nat → Nat} {Z : (Nat → Nat) × (Nat → Nat)} {Q : Int → St → Prop}
set_option maxHeartbeats 4000000 in
set_option maxRecDepth 100000 in
theorem t_X12_value (E : Ev p s m args meth c cX12_value 4 RX12 A0 D cA ad NR Z) (hr : meth.sig.returnType = (some .int)) (x1 : Int) (x2 : Int) (x3 : Int) (σ : St) (c1 : C32 x1) (c2 : C32 x2) (c3 : C32 x3) (hσ : CanS shR NR σ) (h : wp_X12_value x1 x2 x3 σ Q) : G p l e (rmL 8 0 0) s m args below meth c 4 A0 D cA ad shR NR 0 0 (MQ below (QIc D cA ad shR NR Q A0) args s 0 0 A0) σ 0 [some (.ref (ad 0)), some (vI x1), some (vI x2), some (vI x3)] [] := by
  unfold wp_X12_value at h
  refine g_aload_0 E dX12_value_0 ?_
  refine g_iload_1 E dX12_value_1 ?_
  refine g_iload_2 E dX12_value_2 ?_
  refine g_iload_3 E dX12_value_3 ?_
  refine g_callvI E my_X12_isItem mi_X12_isItem msel_X12_isItem ml_RX12_318 (rm_ok (by decide) (by decide)) ⟨Nat.zero_le _, Nat.zero_le _⟩ kR_0 sR_0 rfl (m_X12_isItem E.2.2.1 c1 c2 c3 hσ h) rfl rfl (Nat.le_of_ble_eq_true rfl) dX12_value_4 (fun r1 σ2 cr1 hσ2 h => ?_)
  refine g_if_ne E cr1 djX12_value_7 (fun hc => ?_) (fun hc => ?_)
  · replace h := h.1 hc
    refine g_aload_0 E dX12_value_13 ?_
    refine g_callvI E my_X12_settles mi_X12_settles msel_X12_settles ml_RX12_437 (rm_ok (by decide) (by decide)) ⟨Nat.zero_le _, Nat.zero_le _⟩ kR_0 sR_0 rfl (m_X12_settles E.2.2.1 hσ2 h) rfl rfl (Nat.le_of_ble_eq_true rfl) dX12_value_14 (fun r3 σ4 cr3 hσ4 h => ?_)
    refine g_if_eq E cr3 djX12_value_17 (fun hc => ?_) (fun hc => ?_)
    · replace h := h.1 hc
      refine g_bipush E (by decide) dX12_value_34 ?_
      exact g_iret E hr cl_m6 h hσ4 dX12_value_36
    · replace h := h.2 hc
      refine g_aload_0 E dX12_value_20 ?_
      refine g_getR E fl_RX12_95 kR_0 sR_0 rfl dX12_value_21 ?_
      refine g_iload_1 E dX12_value_24 ?_
      refine g_iload_2 E dX12_value_25 ?_
      refine g_iload_3 E dX12_value_26 ?_
      refine g_callsI E my_X12_item ms_X12_item ml_RX12_282 (rm_ok (by decide) (by decide)) ⟨Nat.zero_le _, Nat.zero_le _⟩ (m_X12_item E.2.2.1 c1 c2 c3 hσ4 h) rfl rfl (Nat.le_of_ble_eq_true rfl) dX12_value_27 (fun r5 σ6 cr5 hσ6 h => ?_)
      refine g_iald E kR_26 sR_26 (by decide) h.1 dX12_value_30 ?_
      replace h := h.2
      refine g_goto E djX12_value_31 ?_
      exact g_iret E hr (aR_26 hσ6 _) h hσ6 dX12_value_36
  · replace h := h.2 hc
    refine g_bipush E (by decide) dX12_value_10 ?_
    exact g_iret E hr cl_m2 h hσ2 dX12_value_12
end
theorem m_X12_value {Z : (Nat → Nat) × (Nat → Nat)} {l : Launch} {D : va_G} {cA : Nat → ClassId} {ad : Nat → Nat} {x1 x2 x3 : Int} {σ : St} {Q : Int → St → Prop} (hA : AdOk NR ad) (c1 : C32 x1) (c2 : C32 x2) (c3 : C32 x3) (hσ : CanS shR NR σ) (h : wp_X12_value x1 x2 x3 σ Q) : KtI Z l D cA ad shR NR yX12_value cX12_value 4 (some .int) 8 [.ref (ad 0), vI x1, vI x2, vI x3] σ Q :=
  KtI.of my_X12_value hA [some (.ref (ad 0)), some (vI x1), some (vI x2), some (vI x3)] (Nat.le_of_ble_eq_true rfl) rfl (fun p e s m args below meth c A0 E hr => t_X12_value E hr x1 x2 x3 σ c1 c2 c3 hσ h)
theorem dX12_rounds_0 : Dc cX12_rounds 0 (.aload_n 0) 1 1 := ⟨by decide +kernel, rfl⟩
theorem dX12_rounds_1 : Dc cX12_rounds 1 (.invokevirtual 437) 3 4 := ⟨by decide +kernel, rfl⟩
theorem djX12_rounds_4 : Dj cX12_rounds 4 (.ifCond .eq 10) 3 7 10 14 := ⟨by decide +kernel, rfl, by decide⟩
theorem dX12_rounds_7 : Dc cX12_rounds 7 (.aload_n 0) 1 8 := ⟨by decide +kernel, rfl⟩
theorem dX12_rounds_8 : Dc cX12_rounds 8 (.getfield 431) 3 11 := ⟨by decide +kernel, rfl⟩
theorem djX12_rounds_11 : Dj cX12_rounds 11 (.goto 5) 3 14 5 16 := ⟨by decide +kernel, rfl, by decide⟩
theorem dX12_rounds_14 : Dc cX12_rounds 14 (.bipush (-6)) 2 16 := ⟨by decide +kernel, rfl⟩
theorem dX12_rounds_16 : Dc cX12_rounds 16 (.ireturn) 1 17 := ⟨by decide +kernel, rfl⟩
section
variable {p : Program} {l : Launch} {e : Env} {s : State} {m : MethodId} {args : Array Value} {below : List Frame} {meth : Method} {c : Code} {A0 : Nat → Prop} {D : va_G} {cA : Nat → ClassId} {ad : Nat → Nat} {Z : (Nat → Nat) × (Nat → Nat)} {Q : Int → St → Prop}
set_option maxHeartbeats 4000000 in
set_option maxRecDepth 100000 in
theorem t_X12_rounds (E : Ev p s m args meth c cX12_rounds 1 RX12 A0 D cA ad NR Z) (hr : meth.sig.returnType = (some .int)) (σ : St) (hσ : CanS shR NR σ) (h : wp_X12_rounds  σ Q) : G p l e (rmL 8 0 0) s m args below meth c 1 A0 D cA ad shR NR 0 0 (MQ below (QIc D cA ad shR NR Q A0) args s 0 0 A0) σ 0 [some (.ref (ad 0))] [] := by
  unfold wp_X12_rounds at h
  refine g_aload_0 E dX12_rounds_0 ?_
  refine g_callvI E my_X12_settles mi_X12_settles msel_X12_settles ml_RX12_437 (rm_ok (by decide) (by decide)) ⟨Nat.zero_le _, Nat.zero_le _⟩ kR_0 sR_0 rfl (m_X12_settles E.2.2.1 hσ h) rfl rfl (Nat.le_of_ble_eq_true rfl) dX12_rounds_1 (fun r1 σ2 cr1 hσ2 h => ?_)
  refine g_if_eq E cr1 djX12_rounds_4 (fun hc => ?_) (fun hc => ?_)
  · replace h := h.1 hc
    refine g_bipush E (by decide) dX12_rounds_14 ?_
    exact g_iret E hr cl_m6 h hσ2 dX12_rounds_16
  · replace h := h.2 hc
    refine g_aload_0 E dX12_rounds_7 ?_
    refine g_getI E fl_RX12_431 kR_0 sR_0 rfl dX12_rounds_8 ?_
    refine g_goto E djX12_rounds_11 ?_
    exact g_iret E hr (fR_0_44 hσ2) h hσ2 dX12_rounds_16
end
theorem m_X12_rounds {Z : (Nat → Nat) × (Nat → Nat)} {l : Launch} {D : va_G} {cA : Nat → ClassId} {ad : Nat → Nat} {σ : St} {Q : Int → St → Prop} (hA : AdOk NR ad) (hσ : CanS shR NR σ) (h : wp_X12_rounds  σ Q) : KtI Z l D cA ad shR NR yX12_rounds cX12_rounds 1 (some .int) 8 [.ref (ad 0)] σ Q :=
  KtI.of my_X12_rounds hA [some (.ref (ad 0))] (Nat.le_of_ble_eq_true rfl) rfl (fun p e s m args below meth c A0 E hr => t_X12_rounds E hr σ hσ h)
theorem dX12_keeps_0 : Dc cX12_keeps 0 (.iload_n 1) 1 1 := ⟨by decide +kernel, rfl⟩
theorem dX12_keeps_1 : Dc cX12_keeps 1 (.tableswitch 163 0 5 #[39, 163, 60, 163, 81, 117]) 39 40 := ⟨by decide +kernel, rfl⟩
theorem dX12_keeps_40 : Dc cX12_keeps 40 (.aload_n 0) 1 41 := ⟨by decide +kernel, rfl⟩
theorem dX12_keeps_41 : Dc cX12_keeps 41 (.iload_n 2) 1 42 := ⟨by decide +kernel, rfl⟩
theorem dX12_keeps_42 : Dc cX12_keeps 42 (.iload_n 3) 1 43 := ⟨by decide +kernel, rfl⟩
theorem dX12_keeps_43 : Dc cX12_keeps 43 (.invokevirtual 269) 3 46 := ⟨by decide +kernel, rfl⟩
theorem dX12_keeps_46 : Dc cX12_keeps 46 (.aload_n 0) 1 47 := ⟨by decide +kernel, rfl⟩
theorem dX12_keeps_47 : Dc cX12_keeps 47 (.iload_n 3) 1 48 := ⟨by decide +kernel, rfl⟩
theorem dX12_keeps_48 : Dc cX12_keeps 48 (.iload_n 2) 1 49 := ⟨by decide +kernel, rfl⟩
theorem dX12_keeps_49 : Dc cX12_keeps 49 (.invokevirtual 269) 3 52 := ⟨by decide +kernel, rfl⟩
theorem djX12_keeps_52 : Dj cX12_keeps 52 (.if_icmp .ne 7) 3 55 7 59 := ⟨by decide +kernel, rfl, by decide⟩
theorem dX12_keeps_55 : Dc cX12_keeps 55 (.iconst 1) 1 56 := ⟨by decide +kernel, rfl⟩
theorem djX12_keeps_56 : Dj cX12_keeps 56 (.goto 4) 3 59 4 60 := ⟨by decide +kernel, rfl, by decide⟩
theorem dX12_keeps_59 : Dc cX12_keeps 59 (.iconst 0) 1 60 := ⟨by decide +kernel, rfl⟩
theorem dX12_keeps_60 : Dc cX12_keeps 60 (.ireturn) 1 61 := ⟨by decide +kernel, rfl⟩
theorem dX12_keeps_61 : Dc cX12_keeps 61 (.aload_n 0) 1 62 := ⟨by decide +kernel, rfl⟩
theorem dX12_keeps_62 : Dc cX12_keeps 62 (.iload_n 2) 1 63 := ⟨by decide +kernel, rfl⟩
theorem dX12_keeps_63 : Dc cX12_keeps 63 (.aload_n 0) 1 64 := ⟨by decide +kernel, rfl⟩
theorem dX12_keeps_64 : Dc cX12_keeps 64 (.getfield 32) 3 67 := ⟨by decide +kernel, rfl⟩
theorem dX12_keeps_67 : Dc cX12_keeps 67 (.iconst 0) 1 68 := ⟨by decide +kernel, rfl⟩
theorem dX12_keeps_68 : Dc cX12_keeps 68 (.iaload) 1 69 := ⟨by decide +kernel, rfl⟩
theorem dX12_keeps_69 : Dc cX12_keeps 69 (.invokevirtual 269) 3 72 := ⟨by decide +kernel, rfl⟩
theorem dX12_keeps_72 : Dc cX12_keeps 72 (.iload_n 2) 1 73 := ⟨by decide +kernel, rfl⟩
theorem djX12_keeps_73 : Dj cX12_keeps 73 (.if_icmp .ne 7) 3 76 7 80 := ⟨by decide +kernel, rfl, by decide⟩
theorem dX12_keeps_76 : Dc cX12_keeps 76 (.iconst 1) 1 77 := ⟨by decide +kernel, rfl⟩
theorem djX12_keeps_77 : Dj cX12_keeps 77 (.goto 4) 3 80 4 81 := ⟨by decide +kernel, rfl, by decide⟩
theorem dX12_keeps_80 : Dc cX12_keeps 80 (.iconst 0) 1 81 := ⟨by decide +kernel, rfl⟩
theorem dX12_keeps_81 : Dc cX12_keeps 81 (.ireturn) 1 82 := ⟨by decide +kernel, rfl⟩
theorem dX12_keeps_82 : Dc cX12_keeps 82 (.aload_n 0) 1 83 := ⟨by decide +kernel, rfl⟩
theorem dX12_keeps_83 : Dc cX12_keeps 83 (.aload_n 0) 1 84 := ⟨by decide +kernel, rfl⟩
theorem dX12_keeps_84 : Dc cX12_keeps 84 (.getfield 35) 3 87 := ⟨by decide +kernel, rfl⟩
theorem dX12_keeps_87 : Dc cX12_keeps 87 (.iconst 0) 1 88 := ⟨by decide +kernel, rfl⟩
theorem dX12_keeps_88 : Dc cX12_keeps 88 (.iaload) 1 89 := ⟨by decide +kernel, rfl⟩
theorem dX12_keeps_89 : Dc cX12_keeps 89 (.iload_n 2) 1 90 := ⟨by decide +kernel, rfl⟩
theorem dX12_keeps_90 : Dc cX12_keeps 90 (.invokevirtual 272) 3 93 := ⟨by decide +kernel, rfl⟩
theorem dX12_keeps_93 : Dc cX12_keeps 93 (.iload_n 2) 1 94 := ⟨by decide +kernel, rfl⟩
theorem djX12_keeps_94 : Dj cX12_keeps 94 (.if_icmp .ne 22) 3 97 22 116 := ⟨by decide +kernel, rfl, by decide⟩
theorem dX12_keeps_97 : Dc cX12_keeps 97 (.aload_n 0) 1 98 := ⟨by decide +kernel, rfl⟩
theorem dX12_keeps_98 : Dc cX12_keeps 98 (.iload_n 2) 1 99 := ⟨by decide +kernel, rfl⟩
theorem dX12_keeps_99 : Dc cX12_keeps 99 (.aload_n 0) 1 100 := ⟨by decide +kernel, rfl⟩
theorem dX12_keeps_100 : Dc cX12_keeps 100 (.getfield 35) 3 103 := ⟨by decide +kernel, rfl⟩
theorem dX12_keeps_103 : Dc cX12_keeps 103 (.iconst 0) 1 104 := ⟨by decide +kernel, rfl⟩
theorem dX12_keeps_104 : Dc cX12_keeps 104 (.iaload) 1 105 := ⟨by decide +kernel, rfl⟩
theorem dX12_keeps_105 : Dc cX12_keeps 105 (.invokevirtual 272) 3 108 := ⟨by decide +kernel, rfl⟩
theorem dX12_keeps_108 : Dc cX12_keeps 108 (.iload_n 2) 1 109 := ⟨by decide +kernel, rfl⟩
theorem djX12_keeps_109 : Dj cX12_keeps 109 (.if_icmp .ne 7) 3 112 7 116 := ⟨by decide +kernel, rfl, by decide⟩
theorem dX12_keeps_112 : Dc cX12_keeps 112 (.iconst 1) 1 113 := ⟨by decide +kernel, rfl⟩
theorem djX12_keeps_113 : Dj cX12_keeps 113 (.goto 4) 3 116 4 117 := ⟨by decide +kernel, rfl, by decide⟩
theorem dX12_keeps_116 : Dc cX12_keeps 116 (.iconst 0) 1 117 := ⟨by decide +kernel, rfl⟩
theorem dX12_keeps_117 : Dc cX12_keeps 117 (.ireturn) 1 118 := ⟨by decide +kernel, rfl⟩
theorem dX12_keeps_118 : Dc cX12_keeps 118 (.aload_n 0) 1 119 := ⟨by decide +kernel, rfl⟩
theorem dX12_keeps_119 : Dc cX12_keeps 119 (.aload_n 0) 1 120 := ⟨by decide +kernel, rfl⟩
theorem dX12_keeps_120 : Dc cX12_keeps 120 (.getfield 32) 3 123 := ⟨by decide +kernel, rfl⟩
theorem dX12_keeps_123 : Dc cX12_keeps 123 (.iconst 0) 1 124 := ⟨by decide +kernel, rfl⟩
theorem dX12_keeps_124 : Dc cX12_keeps 124 (.iaload) 1 125 := ⟨by decide +kernel, rfl⟩
theorem dX12_keeps_125 : Dc cX12_keeps 125 (.iload_n 2) 1 126 := ⟨by decide +kernel, rfl⟩
theorem dX12_keeps_126 : Dc cX12_keeps 126 (.invokevirtual 272) 3 129 := ⟨by decide +kernel, rfl⟩
theorem dX12_keeps_129 : Dc cX12_keeps 129 (.aload_n 0) 1 130 := ⟨by decide +kernel, rfl⟩
theorem dX12_keeps_130 : Dc cX12_keeps 130 (.getfield 32) 3 133 := ⟨by decide +kernel, rfl⟩
theorem dX12_keeps_133 : Dc cX12_keeps 133 (.iconst 0) 1 134 := ⟨by decide +kernel, rfl⟩
theorem dX12_keeps_134 : Dc cX12_keeps 134 (.iaload) 1 135 := ⟨by decide +kernel, rfl⟩
theorem djX12_keeps_135 : Dj cX12_keeps 135 (.if_icmp .ne 27) 3 138 27 162 := ⟨by decide +kernel, rfl, by decide⟩
theorem dX12_keeps_138 : Dc cX12_keeps 138 (.aload_n 0) 1 139 := ⟨by decide +kernel, rfl⟩
theorem dX12_keeps_139 : Dc cX12_keeps 139 (.iload_n 2) 1 140 := ⟨by decide +kernel, rfl⟩
theorem dX12_keeps_140 : Dc cX12_keeps 140 (.aload_n 0) 1 141 := ⟨by decide +kernel, rfl⟩
theorem dX12_keeps_141 : Dc cX12_keeps 141 (.getfield 32) 3 144 := ⟨by decide +kernel, rfl⟩
theorem dX12_keeps_144 : Dc cX12_keeps 144 (.iconst 0) 1 145 := ⟨by decide +kernel, rfl⟩
theorem dX12_keeps_145 : Dc cX12_keeps 145 (.iaload) 1 146 := ⟨by decide +kernel, rfl⟩
theorem dX12_keeps_146 : Dc cX12_keeps 146 (.invokevirtual 272) 3 149 := ⟨by decide +kernel, rfl⟩
theorem dX12_keeps_149 : Dc cX12_keeps 149 (.aload_n 0) 1 150 := ⟨by decide +kernel, rfl⟩
theorem dX12_keeps_150 : Dc cX12_keeps 150 (.getfield 32) 3 153 := ⟨by decide +kernel, rfl⟩
theorem dX12_keeps_153 : Dc cX12_keeps 153 (.iconst 0) 1 154 := ⟨by decide +kernel, rfl⟩
theorem dX12_keeps_154 : Dc cX12_keeps 154 (.iaload) 1 155 := ⟨by decide +kernel, rfl⟩
theorem djX12_keeps_155 : Dj cX12_keeps 155 (.if_icmp .ne 7) 3 158 7 162 := ⟨by decide +kernel, rfl, by decide⟩
theorem dX12_keeps_158 : Dc cX12_keeps 158 (.iconst 1) 1 159 := ⟨by decide +kernel, rfl⟩
theorem djX12_keeps_159 : Dj cX12_keeps 159 (.goto 4) 3 162 4 163 := ⟨by decide +kernel, rfl, by decide⟩
theorem dX12_keeps_162 : Dc cX12_keeps 162 (.iconst 0) 1 163 := ⟨by decide +kernel, rfl⟩
theorem dX12_keeps_163 : Dc cX12_keeps 163 (.ireturn) 1 164 := ⟨by decide +kernel, rfl⟩
theorem dX12_keeps_164 : Dc cX12_keeps 164 (.aload_n 0) 1 165 := ⟨by decide +kernel, rfl⟩
theorem dX12_keeps_165 : Dc cX12_keeps 165 (.iload_n 2) 1 166 := ⟨by decide +kernel, rfl⟩
theorem dX12_keeps_166 : Dc cX12_keeps 166 (.iload_n 2) 1 167 := ⟨by decide +kernel, rfl⟩
theorem dX12_keeps_167 : Dc cX12_keeps 167 (.invokevirtual 269) 3 170 := ⟨by decide +kernel, rfl⟩
theorem dX12_keeps_170 : Dc cX12_keeps 170 (.iload_n 2) 1 171 := ⟨by decide +kernel, rfl⟩
theorem djX12_keeps_171 : Dj cX12_keeps 171 (.if_icmp .ne 7) 3 174 7 178 := ⟨by decide +kernel, rfl, by decide⟩
theorem dX12_keeps_174 : Dc cX12_keeps 174 (.iconst 1) 1 175 := ⟨by decide +kernel, rfl⟩
theorem djX12_keeps_175 : Dj cX12_keeps 175 (.goto 4) 3 178 4 179 := ⟨by decide +kernel, rfl, by decide⟩
theorem dX12_keeps_178 : Dc cX12_keeps 178 (.iconst 0) 1 179 := ⟨by decide +kernel, rfl⟩
theorem dX12_keeps_179 : Dc cX12_keeps 179 (.ireturn) 1 180 := ⟨by decide +kernel, rfl⟩
section
variable {p : Program} {l : Launch} {e : Env} {s : State} {m : MethodId} {args : Array Value} {below : List Frame} {meth : Method} {c : Code} {A0 : Nat → Prop} {D : va_G} {cA : Nat → ClassId} {ad : Nat → Nat} {Z : (Nat → Nat) × (Nat → Nat)} {Q : Int → St → Prop}
set_option maxHeartbeats 4000000 in
set_option maxRecDepth 100000 in
theorem t_X12_keeps_b116 (E : Ev p s m args meth c cX12_keeps 4 RX12 A0 D cA ad NR Z) (hr : meth.sig.returnType = (some .boolean)) (σ : St) (hσ : CanS shR NR σ) (h : wp_X12_keeps_b116 Q  σ) : G p l e (rmL 2 0 0) s m args below meth c 4 A0 D cA ad shR NR 0 0 (MQ below (QIc D cA ad shR NR Q A0) args s 0 0 A0) σ 116 [none, none, none, none] [] := by
  unfold wp_X12_keeps_b116 at h
  refine g_iconst E dX12_keeps_116 ?_
  exact g_zret E hr (Or.inl rfl) h hσ dX12_keeps_117
set_option maxHeartbeats 4000000 in
set_option maxRecDepth 100000 in
theorem t_X12_keeps_b162 (E : Ev p s m args meth c cX12_keeps 4 RX12 A0 D cA ad NR Z) (hr : meth.sig.returnType = (some .boolean)) (σ : St) (hσ : CanS shR NR σ) (h : wp_X12_keeps_b162 Q  σ) : G p l e (rmL 2 0 0) s m args below meth c 4 A0 D cA ad shR NR 0 0 (MQ below (QIc D cA ad shR NR Q A0) args s 0 0 A0) σ 162 [none, none, none, none] [] := by
  unfold wp_X12_keeps_b162 at h
  refine g_iconst E dX12_keeps_162 ?_
  exact g_zret E hr (Or.inl rfl) h hσ dX12_keeps_163
set_option maxHeartbeats 4000000 in
set_option maxRecDepth 100000 in
theorem t_X12_keeps_b164 (E : Ev p s m args meth c cX12_keeps 4 RX12 A0 D cA ad NR Z) (hr : meth.sig.returnType = (some .boolean)) (x2 : Int) (σ : St) (c2 : C32 x2) (hσ : CanS shR NR σ) (h : wp_X12_keeps_b164 Q x2 σ) : G p l e (rmL 2 0 0) s m args below meth c 4 A0 D cA ad shR NR 0 0 (MQ below (QIc D cA ad shR NR Q A0) args s 0 0 A0) σ 164 [some (.ref (ad 0)), none, some (vI x2), none] [] := by
  unfold wp_X12_keeps_b164 at h
  refine g_aload_0 E dX12_keeps_164 ?_
  refine g_iload_2 E dX12_keeps_165 ?_
  refine g_iload_2 E dX12_keeps_166 ?_
  refine g_callvI E my_X12_sum2 mi_X12_sum2 msel_X12_sum2 ml_RX12_269 (rm_ok (by decide) (by decide)) ⟨Nat.zero_le _, Nat.zero_le _⟩ kR_0 sR_0 rfl (m_X12_sum2 E.2.2.1 c2 c2 hσ h) rfl rfl (Nat.le_of_ble_eq_true rfl) dX12_keeps_167 (fun r15 σ16 cr15 hσ16 h => ?_)
  refine g_iload_2 E dX12_keeps_170 ?_
  refine g_icmp_ne E cr15 c2 djX12_keeps_171 (fun hc => ?_) (fun hc => ?_)
  · replace h := h.1 hc
    refine g_iconst E dX12_keeps_178 ?_
    exact g_zret E hr (Or.inl rfl) h hσ16 dX12_keeps_179
  · replace h := h.2 hc
    refine g_iconst E dX12_keeps_174 ?_
    refine g_goto E djX12_keeps_175 ?_
    exact g_zret E hr (Or.inr rfl) h hσ16 dX12_keeps_179
set_option maxHeartbeats 4000000 in
set_option maxRecDepth 100000 in
theorem t_X12_keeps (E : Ev p s m args meth c cX12_keeps 4 RX12 A0 D cA ad NR Z) (hr : meth.sig.returnType = (some .boolean)) (x1 : Int) (x2 : Int) (x3 : Int) (σ : St) (c1 : C32 x1) (c2 : C32 x2) (c3 : C32 x3) (hσ : CanS shR NR σ) (h : wp_X12_keeps x1 x2 x3 σ Q) : G p l e (rmL 2 0 0) s m args below meth c 4 A0 D cA ad shR NR 0 0 (MQ below (QIc D cA ad shR NR Q A0) args s 0 0 A0) σ 0 [some (.ref (ad 0)), some (vI x1), some (vI x2), some (vI x3)] [] := by
  unfold wp_X12_keeps at h
  refine g_iload_1 E dX12_keeps_0 ?_
  by_cases hs0 : x1 = 0
  · refine g_tableIn (v := 0) (i := 0) E c1 hs0 (by decide) (by decide) dX12_keeps_1 rfl (tgt := 40) (by decide) ?_
    replace h := h.1 hs0
    refine g_aload_0 E dX12_keeps_40 ?_
    refine g_iload_2 E dX12_keeps_41 ?_
    refine g_iload_3 E dX12_keeps_42 ?_
    refine g_callvI E my_X12_sum2 mi_X12_sum2 msel_X12_sum2 ml_RX12_269 (rm_ok (by decide) (by decide)) ⟨Nat.zero_le _, Nat.zero_le _⟩ kR_0 sR_0 rfl (m_X12_sum2 E.2.2.1 c2 c3 hσ h) rfl rfl (Nat.le_of_ble_eq_true rfl) dX12_keeps_43 (fun r1 σ2 cr1 hσ2 h => ?_)
    refine g_aload_0 E dX12_keeps_46 ?_
    refine g_iload_3 E dX12_keeps_47 ?_
    refine g_iload_2 E dX12_keeps_48 ?_
    refine g_callvI E my_X12_sum2 mi_X12_sum2 msel_X12_sum2 ml_RX12_269 (rm_ok (by decide) (by decide)) ⟨Nat.zero_le _, Nat.zero_le _⟩ kR_0 sR_0 rfl (m_X12_sum2 E.2.2.1 c3 c2 hσ2 h) rfl rfl (Nat.le_of_ble_eq_true rfl) dX12_keeps_49 (fun r3 σ4 cr3 hσ4 h => ?_)
    refine g_icmp_ne E cr1 cr3 djX12_keeps_52 (fun hc => ?_) (fun hc => ?_)
    · replace h := h.1 hc
      refine g_iconst E dX12_keeps_59 ?_
      exact g_zret E hr (Or.inl rfl) h hσ4 dX12_keeps_60
    · replace h := h.2 hc
      refine g_iconst E dX12_keeps_55 ?_
      refine g_goto E djX12_keeps_56 ?_
      exact g_zret E hr (Or.inr rfl) h hσ4 dX12_keeps_60
  by_cases hs1 : x1 = 1
  · refine g_tableIn (v := 1) (i := 1) E c1 hs1 (by decide) (by decide) dX12_keeps_1 rfl (tgt := 164) (by decide) ?_
    replace h := h.2.1 hs1
    exact (t_X12_keeps_b164 E hr x2 σ c2 hσ h).weak (w_k (w_d (w_k (w_d w_n))))
  by_cases hs2 : x1 = 2
  · refine g_tableIn (v := 2) (i := 2) E c1 hs2 (by decide) (by decide) dX12_keeps_1 rfl (tgt := 61) (by decide) ?_
    replace h := h.2.2.1 hs2
    refine g_aload_0 E dX12_keeps_61 ?_
    refine g_iload_2 E dX12_keeps_62 ?_
    refine g_aload_0 E dX12_keeps_63 ?_
    refine g_getR E fl_RX12_32 kR_0 sR_0 rfl dX12_keeps_64 ?_
    refine g_iconst E dX12_keeps_67 ?_
    refine g_iald E kR_7 sR_7 (by decide) (by decide) dX12_keeps_68 ?_
    refine g_callvI E my_X12_sum2 mi_X12_sum2 msel_X12_sum2 ml_RX12_269 (rm_ok (by decide) (by decide)) ⟨Nat.zero_le _, Nat.zero_le _⟩ kR_0 sR_0 rfl (m_X12_sum2 E.2.2.1 c2 (aR_7 hσ _) hσ h) rfl rfl (Nat.le_of_ble_eq_true rfl) dX12_keeps_69 (fun r5 σ6 cr5 hσ6 h => ?_)
    refine g_iload_2 E dX12_keeps_72 ?_
    refine g_icmp_ne E cr5 c2 djX12_keeps_73 (fun hc => ?_) (fun hc => ?_)
    · replace h := h.1 hc
      refine g_iconst E dX12_keeps_80 ?_
      exact g_zret E hr (Or.inl rfl) h hσ6 dX12_keeps_81
    · replace h := h.2 hc
      refine g_iconst E dX12_keeps_76 ?_
      refine g_goto E djX12_keeps_77 ?_
      exact g_zret E hr (Or.inr rfl) h hσ6 dX12_keeps_81
  by_cases hs3 : x1 = 3
  · refine g_tableIn (v := 3) (i := 3) E c1 hs3 (by decide) (by decide) dX12_keeps_1 rfl (tgt := 164) (by decide) ?_
    replace h := h.2.2.2.1 hs3
    exact (t_X12_keeps_b164 E hr x2 σ c2 hσ h).weak (w_k (w_d (w_k (w_d w_n))))
  by_cases hs4 : x1 = 4
  · refine g_tableIn (v := 4) (i := 4) E c1 hs4 (by decide) (by decide) dX12_keeps_1 rfl (tgt := 82) (by decide) ?_
    replace h := h.2.2.2.2.1 hs4
    refine g_aload_0 E dX12_keeps_82 ?_
    refine g_aload_0 E dX12_keeps_83 ?_
    refine g_getR E fl_RX12_35 kR_0 sR_0 rfl dX12_keeps_84 ?_
    refine g_iconst E dX12_keeps_87 ?_
    refine g_iald E kR_8 sR_8 (by decide) (by decide) dX12_keeps_88 ?_
    refine g_iload_2 E dX12_keeps_89 ?_
    refine g_callvI E my_X12_product2 mi_X12_product2 msel_X12_product2 ml_RX12_272 (rm_ok (by decide) (by decide)) ⟨Nat.zero_le _, Nat.zero_le _⟩ kR_0 sR_0 rfl (m_X12_product2 E.2.2.1 (aR_8 hσ _) c2 hσ h) rfl rfl (Nat.le_of_ble_eq_true rfl) dX12_keeps_90 (fun r7 σ8 cr7 hσ8 h => ?_)
    refine g_iload_2 E dX12_keeps_93 ?_
    refine g_icmp_ne E cr7 c2 djX12_keeps_94 (fun hc => ?_) (fun hc => ?_)
    · replace h := h.1 hc
      exact (t_X12_keeps_b116 E hr σ8 hσ8 h).weak (w_d (w_d (w_d (w_d w_n))))
    · replace h := h.2 hc
      refine g_aload_0 E dX12_keeps_97 ?_
      refine g_iload_2 E dX12_keeps_98 ?_
      refine g_aload_0 E dX12_keeps_99 ?_
      refine g_getR E fl_RX12_35 kR_0 sR_0 rfl dX12_keeps_100 ?_
      refine g_iconst E dX12_keeps_103 ?_
      refine g_iald E kR_8 sR_8 (by decide) (by decide) dX12_keeps_104 ?_
      refine g_callvI E my_X12_product2 mi_X12_product2 msel_X12_product2 ml_RX12_272 (rm_ok (by decide) (by decide)) ⟨Nat.zero_le _, Nat.zero_le _⟩ kR_0 sR_0 rfl (m_X12_product2 E.2.2.1 c2 (aR_8 hσ8 _) hσ8 h) rfl rfl (Nat.le_of_ble_eq_true rfl) dX12_keeps_105 (fun r9 σ10 cr9 hσ10 h => ?_)
      refine g_iload_2 E dX12_keeps_108 ?_
      refine g_icmp_ne E cr9 c2 djX12_keeps_109 (fun hc => ?_) (fun hc => ?_)
      · replace h := h.1 hc
        exact (t_X12_keeps_b116 E hr σ10 hσ10 h).weak (w_d (w_d (w_d (w_d w_n))))
      · replace h := h.2 hc
        refine g_iconst E dX12_keeps_112 ?_
        refine g_goto E djX12_keeps_113 ?_
        exact g_zret E hr (Or.inr rfl) h hσ10 dX12_keeps_117
  by_cases hs5 : x1 = 5
  · refine g_tableIn (v := 5) (i := 5) E c1 hs5 (by decide) (by decide) dX12_keeps_1 rfl (tgt := 118) (by decide) ?_
    replace h := h.2.2.2.2.2.1 hs5
    refine g_aload_0 E dX12_keeps_118 ?_
    refine g_aload_0 E dX12_keeps_119 ?_
    refine g_getR E fl_RX12_32 kR_0 sR_0 rfl dX12_keeps_120 ?_
    refine g_iconst E dX12_keeps_123 ?_
    refine g_iald E kR_7 sR_7 (by decide) (by decide) dX12_keeps_124 ?_
    refine g_iload_2 E dX12_keeps_125 ?_
    refine g_callvI E my_X12_product2 mi_X12_product2 msel_X12_product2 ml_RX12_272 (rm_ok (by decide) (by decide)) ⟨Nat.zero_le _, Nat.zero_le _⟩ kR_0 sR_0 rfl (m_X12_product2 E.2.2.1 (aR_7 hσ _) c2 hσ h) rfl rfl (Nat.le_of_ble_eq_true rfl) dX12_keeps_126 (fun r11 σ12 cr11 hσ12 h => ?_)
    refine g_aload_0 E dX12_keeps_129 ?_
    refine g_getR E fl_RX12_32 kR_0 sR_0 rfl dX12_keeps_130 ?_
    refine g_iconst E dX12_keeps_133 ?_
    refine g_iald E kR_7 sR_7 (by decide) (by decide) dX12_keeps_134 ?_
    refine g_icmp_ne E cr11 (aR_7 hσ12 _) djX12_keeps_135 (fun hc => ?_) (fun hc => ?_)
    · replace h := h.1 hc
      exact (t_X12_keeps_b162 E hr σ12 hσ12 h).weak (w_d (w_d (w_d (w_d w_n))))
    · replace h := h.2 hc
      refine g_aload_0 E dX12_keeps_138 ?_
      refine g_iload_2 E dX12_keeps_139 ?_
      refine g_aload_0 E dX12_keeps_140 ?_
      refine g_getR E fl_RX12_32 kR_0 sR_0 rfl dX12_keeps_141 ?_
      refine g_iconst E dX12_keeps_144 ?_
      refine g_iald E kR_7 sR_7 (by decide) (by decide) dX12_keeps_145 ?_
      refine g_callvI E my_X12_product2 mi_X12_product2 msel_X12_product2 ml_RX12_272 (rm_ok (by decide) (by decide)) ⟨Nat.zero_le _, Nat.zero_le _⟩ kR_0 sR_0 rfl (m_X12_product2 E.2.2.1 c2 (aR_7 hσ12 _) hσ12 h) rfl rfl (Nat.le_of_ble_eq_true rfl) dX12_keeps_146 (fun r13 σ14 cr13 hσ14 h => ?_)
      refine g_aload_0 E dX12_keeps_149 ?_
      refine g_getR E fl_RX12_32 kR_0 sR_0 rfl dX12_keeps_150 ?_
      refine g_iconst E dX12_keeps_153 ?_
      refine g_iald E kR_7 sR_7 (by decide) (by decide) dX12_keeps_154 ?_
      refine g_icmp_ne E cr13 (aR_7 hσ14 _) djX12_keeps_155 (fun hc => ?_) (fun hc => ?_)
      · replace h := h.1 hc
        exact (t_X12_keeps_b162 E hr σ14 hσ14 h).weak (w_d (w_d (w_d (w_d w_n))))
      · replace h := h.2 hc
        refine g_iconst E dX12_keeps_158 ?_
        refine g_goto E djX12_keeps_159 ?_
        exact g_zret E hr (Or.inr rfl) h hσ14 dX12_keeps_163
  replace h := h.2.2.2.2.2.2 ⟨hs0, hs1, hs2, hs3, hs4, hs5⟩
  refine g_tableOut E c1 (by omega) dX12_keeps_1 (tgt := 164) (by decide) ?_
  exact (t_X12_keeps_b164 E hr x2 σ c2 hσ h).weak (w_k (w_d (w_k (w_d w_n))))
end
theorem m_X12_keeps {Z : (Nat → Nat) × (Nat → Nat)} {l : Launch} {D : va_G} {cA : Nat → ClassId} {ad : Nat → Nat} {x1 x2 x3 : Int} {σ : St} {Q : Int → St → Prop} (hA : AdOk NR ad) (c1 : C32 x1) (c2 : C32 x2) (c3 : C32 x3) (hσ : CanS shR NR σ) (h : wp_X12_keeps x1 x2 x3 σ Q) : KtI Z l D cA ad shR NR yX12_keeps cX12_keeps 4 (some .boolean) 2 [.ref (ad 0), vI x1, vI x2, vI x3] σ Q :=
  KtI.of my_X12_keeps hA [some (.ref (ad 0)), some (vI x1), some (vI x2), some (vI x3)] (Nat.le_of_ble_eq_true rfl) rfl (fun p e s m args below meth c A0 E hr => t_X12_keeps E hr x1 x2 x3 σ c1 c2 c3 hσ h)
theorem dX12_keepsThree_0 : Dc cX12_keepsThree 0 (.iload_n 1) 1 1 := ⟨by decide +kernel, rfl⟩
theorem dX12_keepsThree_1 : Dc cX12_keepsThree 1 (.lookupswitch 139 #[(1, 35), (3, 68), (6, 101)]) 35 36 := ⟨by decide +kernel, rfl⟩
theorem dX12_keepsThree_36 : Dc cX12_keepsThree 36 (.aload_n 0) 1 37 := ⟨by decide +kernel, rfl⟩
theorem dX12_keepsThree_37 : Dc cX12_keepsThree 37 (.aload_n 0) 1 38 := ⟨by decide +kernel, rfl⟩
theorem dX12_keepsThree_38 : Dc cX12_keepsThree 38 (.iload_n 2) 1 39 := ⟨by decide +kernel, rfl⟩
theorem dX12_keepsThree_39 : Dc cX12_keepsThree 39 (.iload_n 3) 1 40 := ⟨by decide +kernel, rfl⟩
theorem dX12_keepsThree_40 : Dc cX12_keepsThree 40 (.invokevirtual 269) 3 43 := ⟨by decide +kernel, rfl⟩
theorem dX12_keepsThree_43 : Dc cX12_keepsThree 43 (.iload 4) 2 45 := ⟨by decide +kernel, rfl⟩
theorem dX12_keepsThree_45 : Dc cX12_keepsThree 45 (.invokevirtual 269) 3 48 := ⟨by decide +kernel, rfl⟩
theorem dX12_keepsThree_48 : Dc cX12_keepsThree 48 (.aload_n 0) 1 49 := ⟨by decide +kernel, rfl⟩
theorem dX12_keepsThree_49 : Dc cX12_keepsThree 49 (.iload_n 2) 1 50 := ⟨by decide +kernel, rfl⟩
theorem dX12_keepsThree_50 : Dc cX12_keepsThree 50 (.aload_n 0) 1 51 := ⟨by decide +kernel, rfl⟩
theorem dX12_keepsThree_51 : Dc cX12_keepsThree 51 (.iload_n 3) 1 52 := ⟨by decide +kernel, rfl⟩
theorem dX12_keepsThree_52 : Dc cX12_keepsThree 52 (.iload 4) 2 54 := ⟨by decide +kernel, rfl⟩
theorem dX12_keepsThree_54 : Dc cX12_keepsThree 54 (.invokevirtual 269) 3 57 := ⟨by decide +kernel, rfl⟩
theorem dX12_keepsThree_57 : Dc cX12_keepsThree 57 (.invokevirtual 269) 3 60 := ⟨by decide +kernel, rfl⟩
theorem djX12_keepsThree_60 : Dj cX12_keepsThree 60 (.if_icmp .ne 7) 3 63 7 67 := ⟨by decide +kernel, rfl, by decide⟩
theorem dX12_keepsThree_63 : Dc cX12_keepsThree 63 (.iconst 1) 1 64 := ⟨by decide +kernel, rfl⟩
theorem djX12_keepsThree_64 : Dj cX12_keepsThree 64 (.goto 4) 3 67 4 68 := ⟨by decide +kernel, rfl, by decide⟩
theorem dX12_keepsThree_67 : Dc cX12_keepsThree 67 (.iconst 0) 1 68 := ⟨by decide +kernel, rfl⟩
theorem dX12_keepsThree_68 : Dc cX12_keepsThree 68 (.ireturn) 1 69 := ⟨by decide +kernel, rfl⟩
theorem dX12_keepsThree_69 : Dc cX12_keepsThree 69 (.aload_n 0) 1 70 := ⟨by decide +kernel, rfl⟩
theorem dX12_keepsThree_70 : Dc cX12_keepsThree 70 (.aload_n 0) 1 71 := ⟨by decide +kernel, rfl⟩
theorem dX12_keepsThree_71 : Dc cX12_keepsThree 71 (.iload_n 2) 1 72 := ⟨by decide +kernel, rfl⟩
theorem dX12_keepsThree_72 : Dc cX12_keepsThree 72 (.iload_n 3) 1 73 := ⟨by decide +kernel, rfl⟩
theorem dX12_keepsThree_73 : Dc cX12_keepsThree 73 (.invokevirtual 272) 3 76 := ⟨by decide +kernel, rfl⟩
theorem dX12_keepsThree_76 : Dc cX12_keepsThree 76 (.iload 4) 2 78 := ⟨by decide +kernel, rfl⟩
theorem dX12_keepsThree_78 : Dc cX12_keepsThree 78 (.invokevirtual 272) 3 81 := ⟨by decide +kernel, rfl⟩
theorem dX12_keepsThree_81 : Dc cX12_keepsThree 81 (.aload_n 0) 1 82 := ⟨by decide +kernel, rfl⟩
theorem dX12_keepsThree_82 : Dc cX12_keepsThree 82 (.iload_n 2) 1 83 := ⟨by decide +kernel, rfl⟩
theorem dX12_keepsThree_83 : Dc cX12_keepsThree 83 (.aload_n 0) 1 84 := ⟨by decide +kernel, rfl⟩
theorem dX12_keepsThree_84 : Dc cX12_keepsThree 84 (.iload_n 3) 1 85 := ⟨by decide +kernel, rfl⟩
theorem dX12_keepsThree_85 : Dc cX12_keepsThree 85 (.iload 4) 2 87 := ⟨by decide +kernel, rfl⟩
theorem dX12_keepsThree_87 : Dc cX12_keepsThree 87 (.invokevirtual 272) 3 90 := ⟨by decide +kernel, rfl⟩
theorem dX12_keepsThree_90 : Dc cX12_keepsThree 90 (.invokevirtual 272) 3 93 := ⟨by decide +kernel, rfl⟩
theorem djX12_keepsThree_93 : Dj cX12_keepsThree 93 (.if_icmp .ne 7) 3 96 7 100 := ⟨by decide +kernel, rfl, by decide⟩
theorem dX12_keepsThree_96 : Dc cX12_keepsThree 96 (.iconst 1) 1 97 := ⟨by decide +kernel, rfl⟩
theorem djX12_keepsThree_97 : Dj cX12_keepsThree 97 (.goto 4) 3 100 4 101 := ⟨by decide +kernel, rfl, by decide⟩
theorem dX12_keepsThree_100 : Dc cX12_keepsThree 100 (.iconst 0) 1 101 := ⟨by decide +kernel, rfl⟩
theorem dX12_keepsThree_101 : Dc cX12_keepsThree 101 (.ireturn) 1 102 := ⟨by decide +kernel, rfl⟩
theorem dX12_keepsThree_102 : Dc cX12_keepsThree 102 (.aload_n 0) 1 103 := ⟨by decide +kernel, rfl⟩
theorem dX12_keepsThree_103 : Dc cX12_keepsThree 103 (.iload_n 2) 1 104 := ⟨by decide +kernel, rfl⟩
theorem dX12_keepsThree_104 : Dc cX12_keepsThree 104 (.aload_n 0) 1 105 := ⟨by decide +kernel, rfl⟩
theorem dX12_keepsThree_105 : Dc cX12_keepsThree 105 (.iload_n 3) 1 106 := ⟨by decide +kernel, rfl⟩
theorem dX12_keepsThree_106 : Dc cX12_keepsThree 106 (.iload 4) 2 108 := ⟨by decide +kernel, rfl⟩
theorem dX12_keepsThree_108 : Dc cX12_keepsThree 108 (.invokevirtual 269) 3 111 := ⟨by decide +kernel, rfl⟩
theorem dX12_keepsThree_111 : Dc cX12_keepsThree 111 (.invokevirtual 272) 3 114 := ⟨by decide +kernel, rfl⟩
theorem dX12_keepsThree_114 : Dc cX12_keepsThree 114 (.aload_n 0) 1 115 := ⟨by decide +kernel, rfl⟩
theorem dX12_keepsThree_115 : Dc cX12_keepsThree 115 (.aload_n 0) 1 116 := ⟨by decide +kernel, rfl⟩
theorem dX12_keepsThree_116 : Dc cX12_keepsThree 116 (.iload_n 2) 1 117 := ⟨by decide +kernel, rfl⟩
theorem dX12_keepsThree_117 : Dc cX12_keepsThree 117 (.iload_n 3) 1 118 := ⟨by decide +kernel, rfl⟩
theorem dX12_keepsThree_118 : Dc cX12_keepsThree 118 (.invokevirtual 272) 3 121 := ⟨by decide +kernel, rfl⟩
theorem dX12_keepsThree_121 : Dc cX12_keepsThree 121 (.aload_n 0) 1 122 := ⟨by decide +kernel, rfl⟩
theorem dX12_keepsThree_122 : Dc cX12_keepsThree 122 (.iload_n 2) 1 123 := ⟨by decide +kernel, rfl⟩
theorem dX12_keepsThree_123 : Dc cX12_keepsThree 123 (.iload 4) 2 125 := ⟨by decide +kernel, rfl⟩
theorem dX12_keepsThree_125 : Dc cX12_keepsThree 125 (.invokevirtual 272) 3 128 := ⟨by decide +kernel, rfl⟩
theorem dX12_keepsThree_128 : Dc cX12_keepsThree 128 (.invokevirtual 269) 3 131 := ⟨by decide +kernel, rfl⟩
theorem djX12_keepsThree_131 : Dj cX12_keepsThree 131 (.if_icmp .ne 7) 3 134 7 138 := ⟨by decide +kernel, rfl, by decide⟩
theorem dX12_keepsThree_134 : Dc cX12_keepsThree 134 (.iconst 1) 1 135 := ⟨by decide +kernel, rfl⟩
theorem djX12_keepsThree_135 : Dj cX12_keepsThree 135 (.goto 4) 3 138 4 139 := ⟨by decide +kernel, rfl, by decide⟩
theorem dX12_keepsThree_138 : Dc cX12_keepsThree 138 (.iconst 0) 1 139 := ⟨by decide +kernel, rfl⟩
theorem dX12_keepsThree_139 : Dc cX12_keepsThree 139 (.ireturn) 1 140 := ⟨by decide +kernel, rfl⟩
theorem dX12_keepsThree_140 : Dc cX12_keepsThree 140 (.aload_n 0) 1 141 := ⟨by decide +kernel, rfl⟩
theorem dX12_keepsThree_141 : Dc cX12_keepsThree 141 (.aload_n 0) 1 142 := ⟨by decide +kernel, rfl⟩
theorem dX12_keepsThree_142 : Dc cX12_keepsThree 142 (.iload_n 2) 1 143 := ⟨by decide +kernel, rfl⟩
theorem dX12_keepsThree_143 : Dc cX12_keepsThree 143 (.iload_n 3) 1 144 := ⟨by decide +kernel, rfl⟩
theorem dX12_keepsThree_144 : Dc cX12_keepsThree 144 (.invokevirtual 269) 3 147 := ⟨by decide +kernel, rfl⟩
theorem dX12_keepsThree_147 : Dc cX12_keepsThree 147 (.iload 4) 2 149 := ⟨by decide +kernel, rfl⟩
theorem dX12_keepsThree_149 : Dc cX12_keepsThree 149 (.invokevirtual 272) 3 152 := ⟨by decide +kernel, rfl⟩
theorem dX12_keepsThree_152 : Dc cX12_keepsThree 152 (.aload_n 0) 1 153 := ⟨by decide +kernel, rfl⟩
theorem dX12_keepsThree_153 : Dc cX12_keepsThree 153 (.aload_n 0) 1 154 := ⟨by decide +kernel, rfl⟩
theorem dX12_keepsThree_154 : Dc cX12_keepsThree 154 (.iload_n 2) 1 155 := ⟨by decide +kernel, rfl⟩
theorem dX12_keepsThree_155 : Dc cX12_keepsThree 155 (.iload 4) 2 157 := ⟨by decide +kernel, rfl⟩
theorem dX12_keepsThree_157 : Dc cX12_keepsThree 157 (.invokevirtual 272) 3 160 := ⟨by decide +kernel, rfl⟩
theorem dX12_keepsThree_160 : Dc cX12_keepsThree 160 (.aload_n 0) 1 161 := ⟨by decide +kernel, rfl⟩
theorem dX12_keepsThree_161 : Dc cX12_keepsThree 161 (.iload_n 3) 1 162 := ⟨by decide +kernel, rfl⟩
theorem dX12_keepsThree_162 : Dc cX12_keepsThree 162 (.iload 4) 2 164 := ⟨by decide +kernel, rfl⟩
theorem dX12_keepsThree_164 : Dc cX12_keepsThree 164 (.invokevirtual 272) 3 167 := ⟨by decide +kernel, rfl⟩
theorem dX12_keepsThree_167 : Dc cX12_keepsThree 167 (.invokevirtual 269) 3 170 := ⟨by decide +kernel, rfl⟩
theorem djX12_keepsThree_170 : Dj cX12_keepsThree 170 (.if_icmp .ne 7) 3 173 7 177 := ⟨by decide +kernel, rfl, by decide⟩
theorem dX12_keepsThree_173 : Dc cX12_keepsThree 173 (.iconst 1) 1 174 := ⟨by decide +kernel, rfl⟩
theorem djX12_keepsThree_174 : Dj cX12_keepsThree 174 (.goto 4) 3 177 4 178 := ⟨by decide +kernel, rfl, by decide⟩
theorem dX12_keepsThree_177 : Dc cX12_keepsThree 177 (.iconst 0) 1 178 := ⟨by decide +kernel, rfl⟩
theorem dX12_keepsThree_178 : Dc cX12_keepsThree 178 (.ireturn) 1 179 := ⟨by decide +kernel, rfl⟩
section
variable {p : Program} {l : Launch} {e : Env} {s : State} {m : MethodId} {args : Array Value} {below : List Frame} {meth : Method} {c : Code} {A0 : Nat → Prop} {D : va_G} {cA : Nat → ClassId} {ad : Nat → Nat} {Z : (Nat → Nat) × (Nat → Nat)} {Q : Int → St → Prop}
set_option maxHeartbeats 4000000 in
set_option maxRecDepth 100000 in
theorem t_X12_keepsThree (E : Ev p s m args meth c cX12_keepsThree 5 RX12 A0 D cA ad NR Z) (hr : meth.sig.returnType = (some .boolean)) (x1 : Int) (x2 : Int) (x3 : Int) (x4 : Int) (σ : St) (c1 : C32 x1) (c2 : C32 x2) (c3 : C32 x3) (c4 : C32 x4) (hσ : CanS shR NR σ) (h : wp_X12_keepsThree x1 x2 x3 x4 σ Q) : G p l e (rmL 2 0 0) s m args below meth c 5 A0 D cA ad shR NR 0 0 (MQ below (QIc D cA ad shR NR Q A0) args s 0 0 A0) σ 0 [some (.ref (ad 0)), some (vI x1), some (vI x2), some (vI x3), some (vI x4)] [] := by
  unfold wp_X12_keepsThree at h
  refine g_iload_1 E dX12_keepsThree_0 ?_
  by_cases hs0 : x1 = 1
  · refine g_lookup (v := 1) E c1 hs0 dX12_keepsThree_1 rfl rfl (tgt := 36) (by decide) ?_
    replace h := h.1 hs0
    refine g_aload_0 E dX12_keepsThree_36 ?_
    refine g_aload_0 E dX12_keepsThree_37 ?_
    refine g_iload_2 E dX12_keepsThree_38 ?_
    refine g_iload_3 E dX12_keepsThree_39 ?_
    refine g_callvI E my_X12_sum2 mi_X12_sum2 msel_X12_sum2 ml_RX12_269 (rm_ok (by decide) (by decide)) ⟨Nat.zero_le _, Nat.zero_le _⟩ kR_0 sR_0 rfl (m_X12_sum2 E.2.2.1 c2 c3 hσ h) rfl rfl (Nat.le_of_ble_eq_true rfl) dX12_keepsThree_40 (fun r1 σ2 cr1 hσ2 h => ?_)
    refine g_iload_4 E dX12_keepsThree_43 ?_
    refine g_callvI E my_X12_sum2 mi_X12_sum2 msel_X12_sum2 ml_RX12_269 (rm_ok (by decide) (by decide)) ⟨Nat.zero_le _, Nat.zero_le _⟩ kR_0 sR_0 rfl (m_X12_sum2 E.2.2.1 cr1 c4 hσ2 h) rfl rfl (Nat.le_of_ble_eq_true rfl) dX12_keepsThree_45 (fun r3 σ4 cr3 hσ4 h => ?_)
    refine g_aload_0 E dX12_keepsThree_48 ?_
    refine g_iload_2 E dX12_keepsThree_49 ?_
    refine g_aload_0 E dX12_keepsThree_50 ?_
    refine g_iload_3 E dX12_keepsThree_51 ?_
    refine g_iload_4 E dX12_keepsThree_52 ?_
    refine g_callvI E my_X12_sum2 mi_X12_sum2 msel_X12_sum2 ml_RX12_269 (rm_ok (by decide) (by decide)) ⟨Nat.zero_le _, Nat.zero_le _⟩ kR_0 sR_0 rfl (m_X12_sum2 E.2.2.1 c3 c4 hσ4 h) rfl rfl (Nat.le_of_ble_eq_true rfl) dX12_keepsThree_54 (fun r5 σ6 cr5 hσ6 h => ?_)
    refine g_callvI E my_X12_sum2 mi_X12_sum2 msel_X12_sum2 ml_RX12_269 (rm_ok (by decide) (by decide)) ⟨Nat.zero_le _, Nat.zero_le _⟩ kR_0 sR_0 rfl (m_X12_sum2 E.2.2.1 c2 cr5 hσ6 h) rfl rfl (Nat.le_of_ble_eq_true rfl) dX12_keepsThree_57 (fun r7 σ8 cr7 hσ8 h => ?_)
    refine g_icmp_ne E cr3 cr7 djX12_keepsThree_60 (fun hc => ?_) (fun hc => ?_)
    · replace h := h.1 hc
      refine g_iconst E dX12_keepsThree_67 ?_
      exact g_zret E hr (Or.inl rfl) h hσ8 dX12_keepsThree_68
    · replace h := h.2 hc
      refine g_iconst E dX12_keepsThree_63 ?_
      refine g_goto E djX12_keepsThree_64 ?_
      exact g_zret E hr (Or.inr rfl) h hσ8 dX12_keepsThree_68
  by_cases hs1 : x1 = 3
  · refine g_lookup (v := 3) E c1 hs1 dX12_keepsThree_1 rfl rfl (tgt := 69) (by decide) ?_
    replace h := h.2.1 hs1
    refine g_aload_0 E dX12_keepsThree_69 ?_
    refine g_aload_0 E dX12_keepsThree_70 ?_
    refine g_iload_2 E dX12_keepsThree_71 ?_
    refine g_iload_3 E dX12_keepsThree_72 ?_
    refine g_callvI E my_X12_product2 mi_X12_product2 msel_X12_product2 ml_RX12_272 (rm_ok (by decide) (by decide)) ⟨Nat.zero_le _, Nat.zero_le _⟩ kR_0 sR_0 rfl (m_X12_product2 E.2.2.1 c2 c3 hσ h) rfl rfl (Nat.le_of_ble_eq_true rfl) dX12_keepsThree_73 (fun r9 σ10 cr9 hσ10 h => ?_)
    refine g_iload_4 E dX12_keepsThree_76 ?_
    refine g_callvI E my_X12_product2 mi_X12_product2 msel_X12_product2 ml_RX12_272 (rm_ok (by decide) (by decide)) ⟨Nat.zero_le _, Nat.zero_le _⟩ kR_0 sR_0 rfl (m_X12_product2 E.2.2.1 cr9 c4 hσ10 h) rfl rfl (Nat.le_of_ble_eq_true rfl) dX12_keepsThree_78 (fun r11 σ12 cr11 hσ12 h => ?_)
    refine g_aload_0 E dX12_keepsThree_81 ?_
    refine g_iload_2 E dX12_keepsThree_82 ?_
    refine g_aload_0 E dX12_keepsThree_83 ?_
    refine g_iload_3 E dX12_keepsThree_84 ?_
    refine g_iload_4 E dX12_keepsThree_85 ?_
    refine g_callvI E my_X12_product2 mi_X12_product2 msel_X12_product2 ml_RX12_272 (rm_ok (by decide) (by decide)) ⟨Nat.zero_le _, Nat.zero_le _⟩ kR_0 sR_0 rfl (m_X12_product2 E.2.2.1 c3 c4 hσ12 h) rfl rfl (Nat.le_of_ble_eq_true rfl) dX12_keepsThree_87 (fun r13 σ14 cr13 hσ14 h => ?_)
    refine g_callvI E my_X12_product2 mi_X12_product2 msel_X12_product2 ml_RX12_272 (rm_ok (by decide) (by decide)) ⟨Nat.zero_le _, Nat.zero_le _⟩ kR_0 sR_0 rfl (m_X12_product2 E.2.2.1 c2 cr13 hσ14 h) rfl rfl (Nat.le_of_ble_eq_true rfl) dX12_keepsThree_90 (fun r15 σ16 cr15 hσ16 h => ?_)
    refine g_icmp_ne E cr11 cr15 djX12_keepsThree_93 (fun hc => ?_) (fun hc => ?_)
    · replace h := h.1 hc
      refine g_iconst E dX12_keepsThree_100 ?_
      exact g_zret E hr (Or.inl rfl) h hσ16 dX12_keepsThree_101
    · replace h := h.2 hc
      refine g_iconst E dX12_keepsThree_96 ?_
      refine g_goto E djX12_keepsThree_97 ?_
      exact g_zret E hr (Or.inr rfl) h hσ16 dX12_keepsThree_101
  by_cases hs2 : x1 = 6
  · refine g_lookup (v := 6) E c1 hs2 dX12_keepsThree_1 rfl rfl (tgt := 102) (by decide) ?_
    replace h := h.2.2.1 hs2
    refine g_aload_0 E dX12_keepsThree_102 ?_
    refine g_iload_2 E dX12_keepsThree_103 ?_
    refine g_aload_0 E dX12_keepsThree_104 ?_
    refine g_iload_3 E dX12_keepsThree_105 ?_
    refine g_iload_4 E dX12_keepsThree_106 ?_
    refine g_callvI E my_X12_sum2 mi_X12_sum2 msel_X12_sum2 ml_RX12_269 (rm_ok (by decide) (by decide)) ⟨Nat.zero_le _, Nat.zero_le _⟩ kR_0 sR_0 rfl (m_X12_sum2 E.2.2.1 c3 c4 hσ h) rfl rfl (Nat.le_of_ble_eq_true rfl) dX12_keepsThree_108 (fun r17 σ18 cr17 hσ18 h => ?_)
    refine g_callvI E my_X12_product2 mi_X12_product2 msel_X12_product2 ml_RX12_272 (rm_ok (by decide) (by decide)) ⟨Nat.zero_le _, Nat.zero_le _⟩ kR_0 sR_0 rfl (m_X12_product2 E.2.2.1 c2 cr17 hσ18 h) rfl rfl (Nat.le_of_ble_eq_true rfl) dX12_keepsThree_111 (fun r19 σ20 cr19 hσ20 h => ?_)
    refine g_aload_0 E dX12_keepsThree_114 ?_
    refine g_aload_0 E dX12_keepsThree_115 ?_
    refine g_iload_2 E dX12_keepsThree_116 ?_
    refine g_iload_3 E dX12_keepsThree_117 ?_
    refine g_callvI E my_X12_product2 mi_X12_product2 msel_X12_product2 ml_RX12_272 (rm_ok (by decide) (by decide)) ⟨Nat.zero_le _, Nat.zero_le _⟩ kR_0 sR_0 rfl (m_X12_product2 E.2.2.1 c2 c3 hσ20 h) rfl rfl (Nat.le_of_ble_eq_true rfl) dX12_keepsThree_118 (fun r21 σ22 cr21 hσ22 h => ?_)
    refine g_aload_0 E dX12_keepsThree_121 ?_
    refine g_iload_2 E dX12_keepsThree_122 ?_
    refine g_iload_4 E dX12_keepsThree_123 ?_
    refine g_callvI E my_X12_product2 mi_X12_product2 msel_X12_product2 ml_RX12_272 (rm_ok (by decide) (by decide)) ⟨Nat.zero_le _, Nat.zero_le _⟩ kR_0 sR_0 rfl (m_X12_product2 E.2.2.1 c2 c4 hσ22 h) rfl rfl (Nat.le_of_ble_eq_true rfl) dX12_keepsThree_125 (fun r23 σ24 cr23 hσ24 h => ?_)
    refine g_callvI E my_X12_sum2 mi_X12_sum2 msel_X12_sum2 ml_RX12_269 (rm_ok (by decide) (by decide)) ⟨Nat.zero_le _, Nat.zero_le _⟩ kR_0 sR_0 rfl (m_X12_sum2 E.2.2.1 cr21 cr23 hσ24 h) rfl rfl (Nat.le_of_ble_eq_true rfl) dX12_keepsThree_128 (fun r25 σ26 cr25 hσ26 h => ?_)
    refine g_icmp_ne E cr19 cr25 djX12_keepsThree_131 (fun hc => ?_) (fun hc => ?_)
    · replace h := h.1 hc
      refine g_iconst E dX12_keepsThree_138 ?_
      exact g_zret E hr (Or.inl rfl) h hσ26 dX12_keepsThree_139
    · replace h := h.2 hc
      refine g_iconst E dX12_keepsThree_134 ?_
      refine g_goto E djX12_keepsThree_135 ?_
      exact g_zret E hr (Or.inr rfl) h hσ26 dX12_keepsThree_139
  replace h := h.2.2.2 ⟨hs0, hs1, hs2⟩
  refine g_lookupD E c1 dX12_keepsThree_1 rfl (by intro q hq; simp only [List.mem_cons, List.not_mem_nil, or_false] at hq; rcases hq with rfl | rfl | rfl <;> omega) (tgt := 140) (by decide) ?_
  refine g_aload_0 E dX12_keepsThree_140 ?_
  refine g_aload_0 E dX12_keepsThree_141 ?_
  refine g_iload_2 E dX12_keepsThree_142 ?_
  refine g_iload_3 E dX12_keepsThree_143 ?_
  refine g_callvI E my_X12_sum2 mi_X12_sum2 msel_X12_sum2 ml_RX12_269 (rm_ok (by decide) (by decide)) ⟨Nat.zero_le _, Nat.zero_le _⟩ kR_0 sR_0 rfl (m_X12_sum2 E.2.2.1 c2 c3 hσ h) rfl rfl (Nat.le_of_ble_eq_true rfl) dX12_keepsThree_144 (fun r27 σ28 cr27 hσ28 h => ?_)
  refine g_iload_4 E dX12_keepsThree_147 ?_
  refine g_callvI E my_X12_product2 mi_X12_product2 msel_X12_product2 ml_RX12_272 (rm_ok (by decide) (by decide)) ⟨Nat.zero_le _, Nat.zero_le _⟩ kR_0 sR_0 rfl (m_X12_product2 E.2.2.1 cr27 c4 hσ28 h) rfl rfl (Nat.le_of_ble_eq_true rfl) dX12_keepsThree_149 (fun r29 σ30 cr29 hσ30 h => ?_)
  refine g_aload_0 E dX12_keepsThree_152 ?_
  refine g_aload_0 E dX12_keepsThree_153 ?_
  refine g_iload_2 E dX12_keepsThree_154 ?_
  refine g_iload_4 E dX12_keepsThree_155 ?_
  refine g_callvI E my_X12_product2 mi_X12_product2 msel_X12_product2 ml_RX12_272 (rm_ok (by decide) (by decide)) ⟨Nat.zero_le _, Nat.zero_le _⟩ kR_0 sR_0 rfl (m_X12_product2 E.2.2.1 c2 c4 hσ30 h) rfl rfl (Nat.le_of_ble_eq_true rfl) dX12_keepsThree_157 (fun r31 σ32 cr31 hσ32 h => ?_)
  refine g_aload_0 E dX12_keepsThree_160 ?_
  refine g_iload_3 E dX12_keepsThree_161 ?_
  refine g_iload_4 E dX12_keepsThree_162 ?_
  refine g_callvI E my_X12_product2 mi_X12_product2 msel_X12_product2 ml_RX12_272 (rm_ok (by decide) (by decide)) ⟨Nat.zero_le _, Nat.zero_le _⟩ kR_0 sR_0 rfl (m_X12_product2 E.2.2.1 c3 c4 hσ32 h) rfl rfl (Nat.le_of_ble_eq_true rfl) dX12_keepsThree_164 (fun r33 σ34 cr33 hσ34 h => ?_)
  refine g_callvI E my_X12_sum2 mi_X12_sum2 msel_X12_sum2 ml_RX12_269 (rm_ok (by decide) (by decide)) ⟨Nat.zero_le _, Nat.zero_le _⟩ kR_0 sR_0 rfl (m_X12_sum2 E.2.2.1 cr31 cr33 hσ34 h) rfl rfl (Nat.le_of_ble_eq_true rfl) dX12_keepsThree_167 (fun r35 σ36 cr35 hσ36 h => ?_)
  refine g_icmp_ne E cr29 cr35 djX12_keepsThree_170 (fun hc => ?_) (fun hc => ?_)
  · replace h := h.1 hc
    refine g_iconst E dX12_keepsThree_177 ?_
    exact g_zret E hr (Or.inl rfl) h hσ36 dX12_keepsThree_178
  · replace h := h.2 hc
    refine g_iconst E dX12_keepsThree_173 ?_
    refine g_goto E djX12_keepsThree_174 ?_
    exact g_zret E hr (Or.inr rfl) h hσ36 dX12_keepsThree_178
end
theorem m_X12_keepsThree {Z : (Nat → Nat) × (Nat → Nat)} {l : Launch} {D : va_G} {cA : Nat → ClassId} {ad : Nat → Nat} {x1 x2 x3 x4 : Int} {σ : St} {Q : Int → St → Prop} (hA : AdOk NR ad) (c1 : C32 x1) (c2 : C32 x2) (c3 : C32 x3) (c4 : C32 x4) (hσ : CanS shR NR σ) (h : wp_X12_keepsThree x1 x2 x3 x4 σ Q) : KtI Z l D cA ad shR NR yX12_keepsThree cX12_keepsThree 5 (some .boolean) 2 [.ref (ad 0), vI x1, vI x2, vI x3, vI x4] σ Q :=
  KtI.of my_X12_keepsThree hA [some (.ref (ad 0)), some (vI x1), some (vI x2), some (vI x3), some (vI x4)] (Nat.le_of_ble_eq_true rfl) rfl (fun p e s m args below meth c A0 E hr => t_X12_keepsThree E hr x1 x2 x3 x4 σ c1 c2 c3 c4 hσ h)
theorem dX12_holds_0 : Dc cX12_holds 0 (.iload_n 1) 1 1 := ⟨by decide +kernel, rfl⟩
theorem dX12_holds_1 : Dc cX12_holds 1 (.iconst 1) 1 2 := ⟨by decide +kernel, rfl⟩
theorem djX12_holds_2 : Dj cX12_holds 2 (.if_icmp .eq 20) 3 5 20 22 := ⟨by decide +kernel, rfl, by decide⟩
theorem dX12_holds_5 : Dc cX12_holds 5 (.iload_n 1) 1 6 := ⟨by decide +kernel, rfl⟩
theorem dX12_holds_6 : Dc cX12_holds 6 (.iconst 3) 1 7 := ⟨by decide +kernel, rfl⟩
theorem djX12_holds_7 : Dj cX12_holds 7 (.if_icmp .eq 15) 3 10 15 22 := ⟨by decide +kernel, rfl, by decide⟩
theorem dX12_holds_10 : Dc cX12_holds 10 (.iload_n 1) 1 11 := ⟨by decide +kernel, rfl⟩
theorem dX12_holds_11 : Dc cX12_holds 11 (.bipush 6) 2 13 := ⟨by decide +kernel, rfl⟩
theorem djX12_holds_13 : Dj cX12_holds 13 (.if_icmp .eq 9) 3 16 9 22 := ⟨by decide +kernel, rfl, by decide⟩
theorem dX12_holds_16 : Dc cX12_holds 16 (.iload_n 1) 1 17 := ⟨by decide +kernel, rfl⟩
theorem dX12_holds_17 : Dc cX12_holds 17 (.bipush 7) 2 19 := ⟨by decide +kernel, rfl⟩
theorem djX12_holds_19 : Dj cX12_holds 19 (.if_icmp .ne 7) 3 22 7 26 := ⟨by decide +kernel, rfl, by decide⟩
theorem dX12_holds_22 : Dc cX12_holds 22 (.iconst 1) 1 23 := ⟨by decide +kernel, rfl⟩
theorem djX12_holds_23 : Dj cX12_holds 23 (.goto 4) 3 26 4 27 := ⟨by decide +kernel, rfl, by decide⟩
theorem dX12_holds_26 : Dc cX12_holds 26 (.iconst 0) 1 27 := ⟨by decide +kernel, rfl⟩
theorem dX12_holds_27 : Dc cX12_holds 27 (.istore_n 3) 1 28 := ⟨by decide +kernel, rfl⟩
theorem dX12_holds_28 : Dc cX12_holds 28 (.iconst 0) 1 29 := ⟨by decide +kernel, rfl⟩
theorem dX12_holds_29 : Dc cX12_holds 29 (.istore 4) 2 31 := ⟨by decide +kernel, rfl⟩
theorem dX12_holds_31 : Dc cX12_holds 31 (.iload 4) 2 33 := ⟨by decide +kernel, rfl⟩
theorem dX12_holds_33 : Dc cX12_holds 33 (.aload_n 0) 1 34 := ⟨by decide +kernel, rfl⟩
theorem dX12_holds_34 : Dc cX12_holds 34 (.getfield 29) 3 37 := ⟨by decide +kernel, rfl⟩
theorem dX12_holds_37 : Dc cX12_holds 37 (.iconst 0) 1 38 := ⟨by decide +kernel, rfl⟩
theorem dX12_holds_38 : Dc cX12_holds 38 (.iaload) 1 39 := ⟨by decide +kernel, rfl⟩
theorem djX12_holds_39 : Dj cX12_holds 39 (.if_icmp .ge 114) 3 42 114 153 := ⟨by decide +kernel, rfl, by decide⟩
theorem dX12_holds_42 : Dc cX12_holds 42 (.iconst 0) 1 43 := ⟨by decide +kernel, rfl⟩
theorem dX12_holds_43 : Dc cX12_holds 43 (.istore 5) 2 45 := ⟨by decide +kernel, rfl⟩
theorem dX12_holds_45 : Dc cX12_holds 45 (.iload 5) 2 47 := ⟨by decide +kernel, rfl⟩
theorem dX12_holds_47 : Dc cX12_holds 47 (.aload_n 0) 1 48 := ⟨by decide +kernel, rfl⟩
theorem dX12_holds_48 : Dc cX12_holds 48 (.getfield 29) 3 51 := ⟨by decide +kernel, rfl⟩
theorem dX12_holds_51 : Dc cX12_holds 51 (.iconst 0) 1 52 := ⟨by decide +kernel, rfl⟩
theorem dX12_holds_52 : Dc cX12_holds 52 (.iaload) 1 53 := ⟨by decide +kernel, rfl⟩
theorem djX12_holds_53 : Dj cX12_holds 53 (.if_icmp .ge 94) 3 56 94 147 := ⟨by decide +kernel, rfl, by decide⟩
theorem dX12_holds_56 : Dc cX12_holds 56 (.iload_n 2) 1 57 := ⟨by decide +kernel, rfl⟩
theorem dX12_holds_57 : Dc cX12_holds 57 (.iload 4) 2 59 := ⟨by decide +kernel, rfl⟩
theorem dX12_holds_59 : Dc cX12_holds 59 (.ishr) 1 60 := ⟨by decide +kernel, rfl⟩
theorem dX12_holds_60 : Dc cX12_holds 60 (.iload_n 2) 1 61 := ⟨by decide +kernel, rfl⟩
theorem dX12_holds_61 : Dc cX12_holds 61 (.iload 5) 2 63 := ⟨by decide +kernel, rfl⟩
theorem dX12_holds_63 : Dc cX12_holds 63 (.ishr) 1 64 := ⟨by decide +kernel, rfl⟩
theorem dX12_holds_64 : Dc cX12_holds 64 (.iand) 1 65 := ⟨by decide +kernel, rfl⟩
theorem dX12_holds_65 : Dc cX12_holds 65 (.iconst 1) 1 66 := ⟨by decide +kernel, rfl⟩
theorem dX12_holds_66 : Dc cX12_holds 66 (.iand) 1 67 := ⟨by decide +kernel, rfl⟩
theorem djX12_holds_67 : Dj cX12_holds 67 (.ifCond .ne 6) 3 70 6 73 := ⟨by decide +kernel, rfl, by decide⟩
theorem djX12_holds_70 : Dj cX12_holds 70 (.goto 71) 3 73 71 141 := ⟨by decide +kernel, rfl, by decide⟩
theorem dX12_holds_73 : Dc cX12_holds 73 (.iload_n 3) 1 74 := ⟨by decide +kernel, rfl⟩
theorem djX12_holds_74 : Dj cX12_holds 74 (.ifCond .ne 17) 3 77 17 91 := ⟨by decide +kernel, rfl, by decide⟩
theorem dX12_holds_77 : Dc cX12_holds 77 (.aload_n 0) 1 78 := ⟨by decide +kernel, rfl⟩
theorem dX12_holds_78 : Dc cX12_holds 78 (.iload_n 1) 1 79 := ⟨by decide +kernel, rfl⟩
theorem dX12_holds_79 : Dc cX12_holds 79 (.iload 4) 2 81 := ⟨by decide +kernel, rfl⟩
theorem dX12_holds_81 : Dc cX12_holds 81 (.iload 5) 2 83 := ⟨by decide +kernel, rfl⟩
theorem dX12_holds_83 : Dc cX12_holds 83 (.invokevirtual 440) 3 86 := ⟨by decide +kernel, rfl⟩
theorem djX12_holds_86 : Dj cX12_holds 86 (.ifCond .ne 5) 3 89 5 91 := ⟨by decide +kernel, rfl, by decide⟩
theorem dX12_holds_89 : Dc cX12_holds 89 (.iconst 0) 1 90 := ⟨by decide +kernel, rfl⟩
theorem dX12_holds_90 : Dc cX12_holds 90 (.ireturn) 1 91 := ⟨by decide +kernel, rfl⟩
theorem dX12_holds_91 : Dc cX12_holds 91 (.iconst 0) 1 92 := ⟨by decide +kernel, rfl⟩
theorem dX12_holds_92 : Dc cX12_holds 92 (.istore 6) 2 94 := ⟨by decide +kernel, rfl⟩
theorem dX12_holds_94 : Dc cX12_holds 94 (.iload 6) 2 96 := ⟨by decide +kernel, rfl⟩
theorem dX12_holds_96 : Dc cX12_holds 96 (.aload_n 0) 1 97 := ⟨by decide +kernel, rfl⟩
theorem dX12_holds_97 : Dc cX12_holds 97 (.getfield 29) 3 100 := ⟨by decide +kernel, rfl⟩
theorem dX12_holds_100 : Dc cX12_holds 100 (.iconst 0) 1 101 := ⟨by decide +kernel, rfl⟩
theorem dX12_holds_101 : Dc cX12_holds 101 (.iaload) 1 102 := ⟨by decide +kernel, rfl⟩
theorem djX12_holds_102 : Dj cX12_holds 102 (.if_icmp .ge 39) 3 105 39 141 := ⟨by decide +kernel, rfl, by decide⟩
theorem dX12_holds_105 : Dc cX12_holds 105 (.iload_n 3) 1 106 := ⟨by decide +kernel, rfl⟩
theorem djX12_holds_106 : Dj cX12_holds 106 (.ifCond .eq 35) 3 109 35 141 := ⟨by decide +kernel, rfl, by decide⟩
theorem dX12_holds_109 : Dc cX12_holds 109 (.iload_n 2) 1 110 := ⟨by decide +kernel, rfl⟩
theorem dX12_holds_110 : Dc cX12_holds 110 (.iload 6) 2 112 := ⟨by decide +kernel, rfl⟩
theorem dX12_holds_112 : Dc cX12_holds 112 (.ishr) 1 113 := ⟨by decide +kernel, rfl⟩
theorem dX12_holds_113 : Dc cX12_holds 113 (.iconst 1) 1 114 := ⟨by decide +kernel, rfl⟩
theorem dX12_holds_114 : Dc cX12_holds 114 (.iand) 1 115 := ⟨by decide +kernel, rfl⟩
theorem dX12_holds_115 : Dc cX12_holds 115 (.iconst 1) 1 116 := ⟨by decide +kernel, rfl⟩
theorem djX12_holds_116 : Dj cX12_holds 116 (.if_icmp .ne 19) 3 119 19 135 := ⟨by decide +kernel, rfl, by decide⟩
theorem dX12_holds_119 : Dc cX12_holds 119 (.aload_n 0) 1 120 := ⟨by decide +kernel, rfl⟩
theorem dX12_holds_120 : Dc cX12_holds 120 (.iload_n 1) 1 121 := ⟨by decide +kernel, rfl⟩
theorem dX12_holds_121 : Dc cX12_holds 121 (.iload 4) 2 123 := ⟨by decide +kernel, rfl⟩
theorem dX12_holds_123 : Dc cX12_holds 123 (.iload 5) 2 125 := ⟨by decide +kernel, rfl⟩
theorem dX12_holds_125 : Dc cX12_holds 125 (.iload 6) 2 127 := ⟨by decide +kernel, rfl⟩
theorem dX12_holds_127 : Dc cX12_holds 127 (.invokevirtual 443) 3 130 := ⟨by decide +kernel, rfl⟩
theorem djX12_holds_130 : Dj cX12_holds 130 (.ifCond .ne 5) 3 133 5 135 := ⟨by decide +kernel, rfl, by decide⟩
theorem dX12_holds_133 : Dc cX12_holds 133 (.iconst 0) 1 134 := ⟨by decide +kernel, rfl⟩
theorem dX12_holds_134 : Dc cX12_holds 134 (.ireturn) 1 135 := ⟨by decide +kernel, rfl⟩
theorem dX12_holds_135 : Dc cX12_holds 135 (.iinc 6 1) 3 138 := ⟨by decide +kernel, rfl⟩
theorem djX12_holds_138 : Dj cX12_holds 138 (.goto (-44)) 3 141 (-44) 94 := ⟨by decide +kernel, rfl, by decide⟩
theorem dX12_holds_141 : Dc cX12_holds 141 (.iinc 5 1) 3 144 := ⟨by decide +kernel, rfl⟩
theorem djX12_holds_144 : Dj cX12_holds 144 (.goto (-99)) 3 147 (-99) 45 := ⟨by decide +kernel, rfl, by decide⟩
theorem dX12_holds_147 : Dc cX12_holds 147 (.iinc 4 1) 3 150 := ⟨by decide +kernel, rfl⟩
theorem djX12_holds_150 : Dj cX12_holds 150 (.goto (-119)) 3 153 (-119) 31 := ⟨by decide +kernel, rfl, by decide⟩
theorem dX12_holds_153 : Dc cX12_holds 153 (.iconst 1) 1 154 := ⟨by decide +kernel, rfl⟩
theorem dX12_holds_154 : Dc cX12_holds 154 (.ireturn) 1 155 := ⟨by decide +kernel, rfl⟩
section
variable {p : Program} {l : Launch} {e : Env} {s : State} {m : MethodId} {args : Array Value} {below : List Frame} {meth : Method} {c : Code} {A0 : Nat → Prop} {D : va_G} {cA : Nat → ClassId} {ad : Nat → Nat} {Z : (Nat → Nat) × (Nat → Nat)} {Q : Int → St → Prop}
set_option maxHeartbeats 4000000 in
set_option maxRecDepth 100000 in
theorem t_X12_holds_b135 (E : Ev p s m args meth c cX12_holds 7 RX12 A0 D cA ad NR Z) (hr : meth.sig.returnType = (some .boolean)) {K31 : Int → Int → Int → Int → St → Prop} (hK31 : ∀ (x1 : Int) (x2 : Int) (x3 : Int) (x4 : Int) (σ : St), C32 x1 → C32 x2 → C32 x3 → C32 x4 → CanS shR NR σ → K31 x1 x2 x3 x4 σ → G p l e (rmL 3 0 0) s m args below meth c 7 A0 D cA ad shR NR 0 0 (MQ below (QIc D cA ad shR NR Q A0) args s 0 0 A0) σ 31 [some (.ref (ad 0)), some (vI x1), some (vI x2), some (vI x3), some (vI x4), none, none] []) {K45 : Int → Int → Int → Int → Int → St → Prop} (hK45 : ∀ (x1 : Int) (x2 : Int) (x3 : Int) (x4 : Int) (x5 : Int) (σ : St), C32 x1 → C32 x2 → C32 x3 → C32 x4 → C32 x5 → CanS shR NR σ → K45 x1 x2 x3 x4 x5 σ → G p l e (rmL 3 0 0) s m args below meth c 7 A0 D cA ad shR NR 0 0 (MQ below (QIc D cA ad shR NR Q A0) args s 0 0 A0) σ 45 [some (.ref (ad 0)), some (vI x1), some (vI x2), some (vI x3), some (vI x4), some (vI x5), none] []) {K94 : Int → Int → Int → Int → Int → Int → St → Prop} (hK94 : ∀ (x1 : Int) (x2 : Int) (x3 : Int) (x4 : Int) (x5 : Int) (x6 : Int) (σ : St), C32 x1 → C32 x2 → C32 x3 → C32 x4 → C32 x5 → C32 x6 → CanS shR NR σ → K94 x1 x2 x3 x4 x5 x6 σ → G p l e (rmL 3 0 0) s m args below meth c 7 A0 D cA ad shR NR 0 0 (MQ below (QIc D cA ad shR NR Q A0) args s 0 0 A0) σ 94 [some (.ref (ad 0)), some (vI x1), some (vI x2), some (vI x3), some (vI x4), some (vI x5), some (vI x6)] []) (x1 : Int) (x2 : Int) (x3 : Int) (x4 : Int) (x5 : Int) (x6 : Int) (σ : St) (c1 : C32 x1) (c2 : C32 x2) (c3 : C32 x3) (c4 : C32 x4) (c5 : C32 x5) (c6 : C32 x6) (hσ : CanS shR NR σ) (h : wp_X12_holds_b135 Q K31 K45 K94 x1 x2 x3 x4 x5 x6 σ) : G p l e (rmL 3 0 0) s m args below meth c 7 A0 D cA ad shR NR 0 0 (MQ below (QIc D cA ad shR NR Q A0) args s 0 0 A0) σ 135 [some (.ref (ad 0)), some (vI x1), some (vI x2), some (vI x3), some (vI x4), some (vI x5), some (vI x6)] [] := by
  unfold wp_X12_holds_b135 at h
  refine g_iinc_6 E rfl (by decide) dX12_holds_135 (fun v7 ev7 => ?_)
  replace h := h v7 ev7
  have cv7 : C32 v7 := by rw [ev7]; exact c32_w _
  refine g_goto E djX12_holds_138 ?_
  exact (hK94 x1 x2 x3 x4 x5 v7 σ c1 c2 c3 c4 c5 cv7 hσ h).weak (w_k (w_k (w_k (w_k (w_k (w_k (w_k w_n)))))))
set_option maxHeartbeats 4000000 in
set_option maxRecDepth 100000 in
theorem t_X12_holds_b141 (E : Ev p s m args meth c cX12_holds 7 RX12 A0 D cA ad NR Z) (hr : meth.sig.returnType = (some .boolean)) {K31 : Int → Int → Int → Int → St → Prop} (hK31 : ∀ (x1 : Int) (x2 : Int) (x3 : Int) (x4 : Int) (σ : St), C32 x1 → C32 x2 → C32 x3 → C32 x4 → CanS shR NR σ → K31 x1 x2 x3 x4 σ → G p l e (rmL 3 0 0) s m args below meth c 7 A0 D cA ad shR NR 0 0 (MQ below (QIc D cA ad shR NR Q A0) args s 0 0 A0) σ 31 [some (.ref (ad 0)), some (vI x1), some (vI x2), some (vI x3), some (vI x4), none, none] []) {K45 : Int → Int → Int → Int → Int → St → Prop} (hK45 : ∀ (x1 : Int) (x2 : Int) (x3 : Int) (x4 : Int) (x5 : Int) (σ : St), C32 x1 → C32 x2 → C32 x3 → C32 x4 → C32 x5 → CanS shR NR σ → K45 x1 x2 x3 x4 x5 σ → G p l e (rmL 3 0 0) s m args below meth c 7 A0 D cA ad shR NR 0 0 (MQ below (QIc D cA ad shR NR Q A0) args s 0 0 A0) σ 45 [some (.ref (ad 0)), some (vI x1), some (vI x2), some (vI x3), some (vI x4), some (vI x5), none] []) (x1 : Int) (x2 : Int) (x3 : Int) (x4 : Int) (x5 : Int) (σ : St) (c1 : C32 x1) (c2 : C32 x2) (c3 : C32 x3) (c4 : C32 x4) (c5 : C32 x5) (hσ : CanS shR NR σ) (h : wp_X12_holds_b141 Q K31 K45 x1 x2 x3 x4 x5 σ) : G p l e (rmL 3 0 0) s m args below meth c 7 A0 D cA ad shR NR 0 0 (MQ below (QIc D cA ad shR NR Q A0) args s 0 0 A0) σ 141 [some (.ref (ad 0)), some (vI x1), some (vI x2), some (vI x3), some (vI x4), some (vI x5), none] [] := by
  unfold wp_X12_holds_b141 at h
  refine g_iinc_5 E rfl (by decide) dX12_holds_141 (fun v4 ev4 => ?_)
  replace h := h v4 ev4
  have cv4 : C32 v4 := by rw [ev4]; exact c32_w _
  refine g_goto E djX12_holds_144 ?_
  exact (hK45 x1 x2 x3 x4 v4 σ c1 c2 c3 c4 cv4 hσ h).weak (w_k (w_k (w_k (w_k (w_k (w_k (w_d w_n)))))))
set_option maxHeartbeats 4000000 in
set_option maxRecDepth 100000 in
theorem t_X12_holds_l94 (E : Ev p s m args meth c cX12_holds 7 RX12 A0 D cA ad NR Z) (hr : meth.sig.returnType = (some .boolean)) {K31 : Int → Int → Int → Int → St → Prop} (hK31 : ∀ (x1 : Int) (x2 : Int) (x3 : Int) (x4 : Int) (σ : St), C32 x1 → C32 x2 → C32 x3 → C32 x4 → CanS shR NR σ → K31 x1 x2 x3 x4 σ → G p l e (rmL 3 0 0) s m args below meth c 7 A0 D cA ad shR NR 0 0 (MQ below (QIc D cA ad shR NR Q A0) args s 0 0 A0) σ 31 [some (.ref (ad 0)), some (vI x1), some (vI x2), some (vI x3), some (vI x4), none, none] []) {K45 : Int → Int → Int → Int → Int → St → Prop} (hK45 : ∀ (x1 : Int) (x2 : Int) (x3 : Int) (x4 : Int) (x5 : Int) (σ : St), C32 x1 → C32 x2 → C32 x3 → C32 x4 → C32 x5 → CanS shR NR σ → K45 x1 x2 x3 x4 x5 σ → G p l e (rmL 3 0 0) s m args below meth c 7 A0 D cA ad shR NR 0 0 (MQ below (QIc D cA ad shR NR Q A0) args s 0 0 A0) σ 45 [some (.ref (ad 0)), some (vI x1), some (vI x2), some (vI x3), some (vI x4), some (vI x5), none] []) : ∀ (n : Nat) (x1 : Int) (x2 : Int) (x3 : Int) (x4 : Int) (x5 : Int) (x6 : Int) (σ : St), C32 x1 → C32 x2 → C32 x3 → C32 x4 → C32 x5 → C32 x6 → CanS shR NR σ → wp_X12_holds_l94 Q K31 K45 n x1 x2 x3 x4 x5 x6 σ → G p l e (rmL 3 0 0) s m args below meth c 7 A0 D cA ad shR NR 0 0 (MQ below (QIc D cA ad shR NR Q A0) args s 0 0 A0) σ 94 [some (.ref (ad 0)), some (vI x1), some (vI x2), some (vI x3), some (vI x4), some (vI x5), some (vI x6)] [] := by
  intro n
  induction n with
  | zero => intro _ _ _ _ _ _ _ _ _ _ _ _ _ _ h; exact h.elim
  | succ n ih =>
    intro x1 x2 x3 x4 x5 x6 σ c1 c2 c3 c4 c5 c6 hσ h
    unfold wp_X12_holds_l94 at h
    refine g_iload_6 E dX12_holds_94 ?_
    refine g_aload_0 E dX12_holds_96 ?_
    refine g_getR E fl_RX12_29 kR_0 sR_0 rfl dX12_holds_97 ?_
    refine g_iconst E dX12_holds_100 ?_
    refine g_iald E kR_6 sR_6 (by decide) (by decide) dX12_holds_101 ?_
    refine g_icmp_ge E c6 (aR_6 hσ _) djX12_holds_102 (fun hc => ?_) (fun hc => ?_)
    · replace h := h.1 hc
      exact (t_X12_holds_b141 E hr hK31 hK45 x1 x2 x3 x4 x5 σ c1 c2 c3 c4 c5 hσ h).weak (w_k (w_k (w_k (w_k (w_k (w_k (w_d w_n)))))))
    · replace h := h.2 hc
      refine g_iload_3 E dX12_holds_105 ?_
      refine g_if_eq E c3 djX12_holds_106 (fun hc => ?_) (fun hc => ?_)
      · replace h := h.1 hc
        exact (t_X12_holds_b141 E hr hK31 hK45 x1 x2 x3 x4 x5 σ c1 c2 c3 c4 c5 hσ h).weak (w_k (w_k (w_k (w_k (w_k (w_k (w_d w_n)))))))
      · replace h := h.2 hc
        refine g_iload_2 E dX12_holds_109 ?_
        refine g_iload_6 E dX12_holds_110 ?_
        refine g_ishr E dX12_holds_112 ?_
        refine g_iconst E dX12_holds_113 ?_
        refine g_iand E dX12_holds_114 ?_
        refine g_iconst E dX12_holds_115 ?_
        refine g_icmp_ne E (c32_t _) cl_1 djX12_holds_116 (fun hc => ?_) (fun hc => ?_)
        · replace h := h.1 hc
          exact (t_X12_holds_b135 E hr hK31 hK45 ih x1 x2 x3 x4 x5 x6 σ c1 c2 c3 c4 c5 c6 hσ h).weak (w_k (w_k (w_k (w_k (w_k (w_k (w_k w_n)))))))
        · replace h := h.2 hc
          refine g_aload_0 E dX12_holds_119 ?_
          refine g_iload_1 E dX12_holds_120 ?_
          refine g_iload_4 E dX12_holds_121 ?_
          refine g_iload_5 E dX12_holds_123 ?_
          refine g_iload_6 E dX12_holds_125 ?_
          refine g_callvI E my_X12_keepsThree mi_X12_keepsThree msel_X12_keepsThree ml_RX12_443 (rm_ok (by decide) (by decide)) ⟨Nat.zero_le _, Nat.zero_le _⟩ kR_0 sR_0 rfl (m_X12_keepsThree E.2.2.1 c1 c4 c5 c6 hσ h) rfl rfl (Nat.le_of_ble_eq_true rfl) dX12_holds_127 (fun r5 σ6 cr5 hσ6 h => ?_)
          refine g_if_ne E cr5 djX12_holds_130 (fun hc => ?_) (fun hc => ?_)
          · replace h := h.1 hc
            exact (t_X12_holds_b135 E hr hK31 hK45 ih x1 x2 x3 x4 x5 x6 σ6 c1 c2 c3 c4 c5 c6 hσ6 h).weak (w_k (w_k (w_k (w_k (w_k (w_k (w_k w_n)))))))
          · replace h := h.2 hc
            refine g_iconst E dX12_holds_133 ?_
            exact g_zret E hr (Or.inl rfl) h hσ6 dX12_holds_134
set_option maxHeartbeats 4000000 in
set_option maxRecDepth 100000 in
theorem t_X12_holds_b91 (E : Ev p s m args meth c cX12_holds 7 RX12 A0 D cA ad NR Z) (hr : meth.sig.returnType = (some .boolean)) {K31 : Int → Int → Int → Int → St → Prop} (hK31 : ∀ (x1 : Int) (x2 : Int) (x3 : Int) (x4 : Int) (σ : St), C32 x1 → C32 x2 → C32 x3 → C32 x4 → CanS shR NR σ → K31 x1 x2 x3 x4 σ → G p l e (rmL 3 0 0) s m args below meth c 7 A0 D cA ad shR NR 0 0 (MQ below (QIc D cA ad shR NR Q A0) args s 0 0 A0) σ 31 [some (.ref (ad 0)), some (vI x1), some (vI x2), some (vI x3), some (vI x4), none, none] []) {K45 : Int → Int → Int → Int → Int → St → Prop} (hK45 : ∀ (x1 : Int) (x2 : Int) (x3 : Int) (x4 : Int) (x5 : Int) (σ : St), C32 x1 → C32 x2 → C32 x3 → C32 x4 → C32 x5 → CanS shR NR σ → K45 x1 x2 x3 x4 x5 σ → G p l e (rmL 3 0 0) s m args below meth c 7 A0 D cA ad shR NR 0 0 (MQ below (QIc D cA ad shR NR Q A0) args s 0 0 A0) σ 45 [some (.ref (ad 0)), some (vI x1), some (vI x2), some (vI x3), some (vI x4), some (vI x5), none] []) (x1 : Int) (x2 : Int) (x3 : Int) (x4 : Int) (x5 : Int) (σ : St) (c1 : C32 x1) (c2 : C32 x2) (c3 : C32 x3) (c4 : C32 x4) (c5 : C32 x5) (hσ : CanS shR NR σ) (h : wp_X12_holds_b91 Q K31 K45 x1 x2 x3 x4 x5 σ) : G p l e (rmL 3 0 0) s m args below meth c 7 A0 D cA ad shR NR 0 0 (MQ below (QIc D cA ad shR NR Q A0) args s 0 0 A0) σ 91 [some (.ref (ad 0)), some (vI x1), some (vI x2), some (vI x3), some (vI x4), some (vI x5), none] [] := by
  unfold wp_X12_holds_b91 at h
  refine g_iconst E dX12_holds_91 ?_
  refine g_istore_6 E rfl (by decide) dX12_holds_92 ?_
  exact (t_X12_holds_l94 E hr hK31 hK45 bigN x1 x2 x3 x4 x5 0 σ c1 c2 c3 c4 c5 cl_0 hσ h).weak (w_k (w_k (w_k (w_k (w_k (w_k (w_k w_n)))))))
set_option maxHeartbeats 4000000 in
set_option maxRecDepth 100000 in
theorem t_X12_holds_l45 (E : Ev p s m args meth c cX12_holds 7 RX12 A0 D cA ad NR Z) (hr : meth.sig.returnType = (some .boolean)) {K31 : Int → Int → Int → Int → St → Prop} (hK31 : ∀ (x1 : Int) (x2 : Int) (x3 : Int) (x4 : Int) (σ : St), C32 x1 → C32 x2 → C32 x3 → C32 x4 → CanS shR NR σ → K31 x1 x2 x3 x4 σ → G p l e (rmL 3 0 0) s m args below meth c 7 A0 D cA ad shR NR 0 0 (MQ below (QIc D cA ad shR NR Q A0) args s 0 0 A0) σ 31 [some (.ref (ad 0)), some (vI x1), some (vI x2), some (vI x3), some (vI x4), none, none] []) : ∀ (n : Nat) (x1 : Int) (x2 : Int) (x3 : Int) (x4 : Int) (x5 : Int) (σ : St), C32 x1 → C32 x2 → C32 x3 → C32 x4 → C32 x5 → CanS shR NR σ → wp_X12_holds_l45 Q K31 n x1 x2 x3 x4 x5 σ → G p l e (rmL 3 0 0) s m args below meth c 7 A0 D cA ad shR NR 0 0 (MQ below (QIc D cA ad shR NR Q A0) args s 0 0 A0) σ 45 [some (.ref (ad 0)), some (vI x1), some (vI x2), some (vI x3), some (vI x4), some (vI x5), none] [] := by
  intro n
  induction n with
  | zero => intro _ _ _ _ _ _ _ _ _ _ _ _ h; exact h.elim
  | succ n ih =>
    intro x1 x2 x3 x4 x5 σ c1 c2 c3 c4 c5 hσ h
    unfold wp_X12_holds_l45 at h
    refine g_iload_5 E dX12_holds_45 ?_
    refine g_aload_0 E dX12_holds_47 ?_
    refine g_getR E fl_RX12_29 kR_0 sR_0 rfl dX12_holds_48 ?_
    refine g_iconst E dX12_holds_51 ?_
    refine g_iald E kR_6 sR_6 (by decide) (by decide) dX12_holds_52 ?_
    refine g_icmp_ge E c5 (aR_6 hσ _) djX12_holds_53 (fun hc => ?_) (fun hc => ?_)
    · replace h := h.1 hc
      refine g_iinc_4 E rfl (by decide) dX12_holds_147 (fun v1 ev1 => ?_)
      replace h := h v1 ev1
      have cv1 : C32 v1 := by rw [ev1]; exact c32_w _
      refine g_goto E djX12_holds_150 ?_
      exact (hK31 x1 x2 x3 v1 σ c1 c2 c3 cv1 hσ h).weak (w_k (w_k (w_k (w_k (w_k (w_d (w_d w_n)))))))
    · replace h := h.2 hc
      refine g_iload_2 E dX12_holds_56 ?_
      refine g_iload_4 E dX12_holds_57 ?_
      refine g_ishr E dX12_holds_59 ?_
      refine g_iload_2 E dX12_holds_60 ?_
      refine g_iload_5 E dX12_holds_61 ?_
      refine g_ishr E dX12_holds_63 ?_
      refine g_iand E dX12_holds_64 ?_
      refine g_iconst E dX12_holds_65 ?_
      refine g_iand E dX12_holds_66 ?_
      refine g_if_ne E (c32_t _) djX12_holds_67 (fun hc => ?_) (fun hc => ?_)
      · replace h := h.1 hc
        refine g_iload_3 E dX12_holds_73 ?_
        refine g_if_ne E c3 djX12_holds_74 (fun hc => ?_) (fun hc => ?_)
        · replace h := h.1 hc
          exact (t_X12_holds_b91 E hr hK31 ih x1 x2 x3 x4 x5 σ c1 c2 c3 c4 c5 hσ h).weak (w_k (w_k (w_k (w_k (w_k (w_k (w_d w_n)))))))
        · replace h := h.2 hc
          refine g_aload_0 E dX12_holds_77 ?_
          refine g_iload_1 E dX12_holds_78 ?_
          refine g_iload_4 E dX12_holds_79 ?_
          refine g_iload_5 E dX12_holds_81 ?_
          refine g_callvI E my_X12_keeps mi_X12_keeps msel_X12_keeps ml_RX12_440 (rm_ok (by decide) (by decide)) ⟨Nat.zero_le _, Nat.zero_le _⟩ kR_0 sR_0 rfl (m_X12_keeps E.2.2.1 c1 c4 c5 hσ h) rfl rfl (Nat.le_of_ble_eq_true rfl) dX12_holds_83 (fun r2 σ3 cr2 hσ3 h => ?_)
          refine g_if_ne E cr2 djX12_holds_86 (fun hc => ?_) (fun hc => ?_)
          · replace h := h.1 hc
            exact (t_X12_holds_b91 E hr hK31 ih x1 x2 x3 x4 x5 σ3 c1 c2 c3 c4 c5 hσ3 h).weak (w_k (w_k (w_k (w_k (w_k (w_k (w_d w_n)))))))
          · replace h := h.2 hc
            refine g_iconst E dX12_holds_89 ?_
            exact g_zret E hr (Or.inl rfl) h hσ3 dX12_holds_90
      · replace h := h.2 hc
        refine g_goto E djX12_holds_70 ?_
        exact (t_X12_holds_b141 E hr hK31 ih x1 x2 x3 x4 x5 σ c1 c2 c3 c4 c5 hσ h).weak (w_k (w_k (w_k (w_k (w_k (w_k (w_d w_n)))))))
set_option maxHeartbeats 4000000 in
set_option maxRecDepth 100000 in
theorem t_X12_holds_l31 (E : Ev p s m args meth c cX12_holds 7 RX12 A0 D cA ad NR Z) (hr : meth.sig.returnType = (some .boolean)) : ∀ (n : Nat) (x1 : Int) (x2 : Int) (x3 : Int) (x4 : Int) (σ : St), C32 x1 → C32 x2 → C32 x3 → C32 x4 → CanS shR NR σ → wp_X12_holds_l31 Q n x1 x2 x3 x4 σ → G p l e (rmL 3 0 0) s m args below meth c 7 A0 D cA ad shR NR 0 0 (MQ below (QIc D cA ad shR NR Q A0) args s 0 0 A0) σ 31 [some (.ref (ad 0)), some (vI x1), some (vI x2), some (vI x3), some (vI x4), none, none] [] := by
  intro n
  induction n with
  | zero => intro _ _ _ _ _ _ _ _ _ _ h; exact h.elim
  | succ n ih =>
    intro x1 x2 x3 x4 σ c1 c2 c3 c4 hσ h
    unfold wp_X12_holds_l31 at h
    refine g_iload_4 E dX12_holds_31 ?_
    refine g_aload_0 E dX12_holds_33 ?_
    refine g_getR E fl_RX12_29 kR_0 sR_0 rfl dX12_holds_34 ?_
    refine g_iconst E dX12_holds_37 ?_
    refine g_iald E kR_6 sR_6 (by decide) (by decide) dX12_holds_38 ?_
    refine g_icmp_ge E c4 (aR_6 hσ _) djX12_holds_39 (fun hc => ?_) (fun hc => ?_)
    · replace h := h.1 hc
      refine g_iconst E dX12_holds_153 ?_
      exact g_zret E hr (Or.inr rfl) h hσ dX12_holds_154
    · replace h := h.2 hc
      refine g_iconst E dX12_holds_42 ?_
      refine g_istore_5 E rfl (by decide) dX12_holds_43 ?_
      exact (t_X12_holds_l45 E hr ih bigN x1 x2 x3 x4 0 σ c1 c2 c3 c4 cl_0 hσ h).weak (w_k (w_k (w_k (w_k (w_k (w_k (w_d w_n)))))))
set_option maxHeartbeats 4000000 in
set_option maxRecDepth 100000 in
theorem t_X12_holds_b27 (E : Ev p s m args meth c cX12_holds 7 RX12 A0 D cA ad NR Z) (hr : meth.sig.returnType = (some .boolean)) (x1 : Int) (x2 : Int) (s0 : Int) (σ : St) (c1 : C32 x1) (c2 : C32 x2) (cs0 : C32 s0) (hσ : CanS shR NR σ) (h : wp_X12_holds_b27 Q x1 x2 s0 σ) : G p l e (rmL 3 0 0) s m args below meth c 7 A0 D cA ad shR NR 0 0 (MQ below (QIc D cA ad shR NR Q A0) args s 0 0 A0) σ 27 [some (.ref (ad 0)), some (vI x1), some (vI x2), none, none, none, none] [vI s0] := by
  unfold wp_X12_holds_b27 at h
  refine g_istore_3 E rfl (by decide) dX12_holds_27 ?_
  refine g_iconst E dX12_holds_28 ?_
  refine g_istore_4 E rfl (by decide) dX12_holds_29 ?_
  exact (t_X12_holds_l31 E hr bigN x1 x2 s0 0 σ c1 c2 cs0 cl_0 hσ h).weak (w_k (w_k (w_k (w_k (w_k (w_d (w_d w_n)))))))
set_option maxHeartbeats 4000000 in
set_option maxRecDepth 100000 in
theorem t_X12_holds_b22 (E : Ev p s m args meth c cX12_holds 7 RX12 A0 D cA ad NR Z) (hr : meth.sig.returnType = (some .boolean)) (x1 : Int) (x2 : Int) (σ : St) (c1 : C32 x1) (c2 : C32 x2) (hσ : CanS shR NR σ) (h : wp_X12_holds_b22 Q x1 x2 σ) : G p l e (rmL 3 0 0) s m args below meth c 7 A0 D cA ad shR NR 0 0 (MQ below (QIc D cA ad shR NR Q A0) args s 0 0 A0) σ 22 [some (.ref (ad 0)), some (vI x1), some (vI x2), none, none, none, none] [] := by
  unfold wp_X12_holds_b22 at h
  refine g_iconst E dX12_holds_22 ?_
  refine g_goto E djX12_holds_23 ?_
  exact (t_X12_holds_b27 E hr x1 x2 1 σ c1 c2 cl_1 hσ h).weak (w_k (w_k (w_k (w_d (w_d (w_d (w_d w_n)))))))
set_option maxHeartbeats 4000000 in
set_option maxRecDepth 100000 in
theorem t_X12_holds (E : Ev p s m args meth c cX12_holds 7 RX12 A0 D cA ad NR Z) (hr : meth.sig.returnType = (some .boolean)) (x1 : Int) (x2 : Int) (σ : St) (c1 : C32 x1) (c2 : C32 x2) (hσ : CanS shR NR σ) (h : wp_X12_holds x1 x2 σ Q) : G p l e (rmL 3 0 0) s m args below meth c 7 A0 D cA ad shR NR 0 0 (MQ below (QIc D cA ad shR NR Q A0) args s 0 0 A0) σ 0 [some (.ref (ad 0)), some (vI x1), some (vI x2), none, none, none, none] [] := by
  unfold wp_X12_holds at h
  refine g_iload_1 E dX12_holds_0 ?_
  refine g_iconst E dX12_holds_1 ?_
  refine g_icmp_eq E c1 cl_1 djX12_holds_2 (fun hc => ?_) (fun hc => ?_)
  · replace h := h.1 hc
    exact (t_X12_holds_b22 E hr x1 x2 σ c1 c2 hσ h).weak (w_k (w_k (w_k (w_d (w_d (w_d (w_d w_n)))))))
  · replace h := h.2 hc
    refine g_iload_1 E dX12_holds_5 ?_
    refine g_iconst E dX12_holds_6 ?_
    refine g_icmp_eq E c1 cl_3 djX12_holds_7 (fun hc => ?_) (fun hc => ?_)
    · replace h := h.1 hc
      exact (t_X12_holds_b22 E hr x1 x2 σ c1 c2 hσ h).weak (w_k (w_k (w_k (w_d (w_d (w_d (w_d w_n)))))))
    · replace h := h.2 hc
      refine g_iload_1 E dX12_holds_10 ?_
      refine g_bipush E (by decide) dX12_holds_11 ?_
      refine g_icmp_eq E c1 cl_6 djX12_holds_13 (fun hc => ?_) (fun hc => ?_)
      · replace h := h.1 hc
        exact (t_X12_holds_b22 E hr x1 x2 σ c1 c2 hσ h).weak (w_k (w_k (w_k (w_d (w_d (w_d (w_d w_n)))))))
      · replace h := h.2 hc
        refine g_iload_1 E dX12_holds_16 ?_
        refine g_bipush E (by decide) dX12_holds_17 ?_
        refine g_icmp_ne E c1 cl_7 djX12_holds_19 (fun hc => ?_) (fun hc => ?_)
        · replace h := h.1 hc
          refine g_iconst E dX12_holds_26 ?_
          exact (t_X12_holds_b27 E hr x1 x2 0 σ c1 c2 cl_0 hσ h).weak (w_k (w_k (w_k (w_d (w_d (w_d (w_d w_n)))))))
        · replace h := h.2 hc
          exact (t_X12_holds_b22 E hr x1 x2 σ c1 c2 hσ h).weak (w_k (w_k (w_k (w_d (w_d (w_d (w_d w_n)))))))
end
theorem m_X12_holds {Z : (Nat → Nat) × (Nat → Nat)} {l : Launch} {D : va_G} {cA : Nat → ClassId} {ad : Nat → Nat} {x1 x2 : Int} {σ : St} {Q : Int → St → Prop} (hA : AdOk NR ad) (c1 : C32 x1) (c2 : C32 x2) (hσ : CanS shR NR σ) (h : wp_X12_holds x1 x2 σ Q) : KtI Z l D cA ad shR NR yX12_holds cX12_holds 7 (some .boolean) 3 [.ref (ad 0), vI x1, vI x2] σ Q :=
  KtI.of my_X12_holds hA [some (.ref (ad 0)), some (vI x1), some (vI x2), none, none, none, none] (Nat.le_of_ble_eq_true rfl) rfl (fun p e s m args below meth c A0 E hr => t_X12_holds E hr x1 x2 σ c1 c2 hσ h)
theorem dX12_laws_0 : Dc cX12_laws 0 (.aload_n 0) 1 1 := ⟨by decide +kernel, rfl⟩
theorem dX12_laws_1 : Dc cX12_laws 1 (.invokevirtual 437) 3 4 := ⟨by decide +kernel, rfl⟩
theorem djX12_laws_4 : Dj cX12_laws 4 (.ifCond .ne 6) 3 7 6 10 := ⟨by decide +kernel, rfl, by decide⟩
theorem dX12_laws_7 : Dc cX12_laws 7 (.bipush (-6)) 2 9 := ⟨by decide +kernel, rfl⟩
theorem dX12_laws_9 : Dc cX12_laws 9 (.ireturn) 1 10 := ⟨by decide +kernel, rfl⟩
theorem dX12_laws_10 : Dc cX12_laws 10 (.iconst 1) 1 11 := ⟨by decide +kernel, rfl⟩
theorem dX12_laws_11 : Dc cX12_laws 11 (.aload_n 0) 1 12 := ⟨by decide +kernel, rfl⟩
theorem dX12_laws_12 : Dc cX12_laws 12 (.getfield 32) 3 15 := ⟨by decide +kernel, rfl⟩
theorem dX12_laws_15 : Dc cX12_laws 15 (.iconst 0) 1 16 := ⟨by decide +kernel, rfl⟩
theorem dX12_laws_16 : Dc cX12_laws 16 (.iaload) 1 17 := ⟨by decide +kernel, rfl⟩
theorem dX12_laws_17 : Dc cX12_laws 17 (.ishl) 1 18 := ⟨by decide +kernel, rfl⟩
theorem dX12_laws_18 : Dc cX12_laws 18 (.iconst 1) 1 19 := ⟨by decide +kernel, rfl⟩
theorem dX12_laws_19 : Dc cX12_laws 19 (.aload_n 0) 1 20 := ⟨by decide +kernel, rfl⟩
theorem dX12_laws_20 : Dc cX12_laws 20 (.getfield 35) 3 23 := ⟨by decide +kernel, rfl⟩
theorem dX12_laws_23 : Dc cX12_laws 23 (.iconst 0) 1 24 := ⟨by decide +kernel, rfl⟩
theorem dX12_laws_24 : Dc cX12_laws 24 (.iaload) 1 25 := ⟨by decide +kernel, rfl⟩
theorem dX12_laws_25 : Dc cX12_laws 25 (.ishl) 1 26 := ⟨by decide +kernel, rfl⟩
theorem dX12_laws_26 : Dc cX12_laws 26 (.ior) 1 27 := ⟨by decide +kernel, rfl⟩
theorem dX12_laws_27 : Dc cX12_laws 27 (.istore_n 1) 1 28 := ⟨by decide +kernel, rfl⟩
theorem dX12_laws_28 : Dc cX12_laws 28 (.iconst 0) 1 29 := ⟨by decide +kernel, rfl⟩
theorem dX12_laws_29 : Dc cX12_laws 29 (.istore_n 2) 1 30 := ⟨by decide +kernel, rfl⟩
theorem dX12_laws_30 : Dc cX12_laws 30 (.iload_n 2) 1 31 := ⟨by decide +kernel, rfl⟩
theorem dX12_laws_31 : Dc cX12_laws 31 (.aload_n 0) 1 32 := ⟨by decide +kernel, rfl⟩
theorem dX12_laws_32 : Dc cX12_laws 32 (.getfield 252) 3 35 := ⟨by decide +kernel, rfl⟩
theorem djX12_laws_35 : Dj cX12_laws 35 (.if_icmp .ge 32) 3 38 32 67 := ⟨by decide +kernel, rfl, by decide⟩
theorem dX12_laws_38 : Dc cX12_laws 38 (.iload_n 1) 1 39 := ⟨by decide +kernel, rfl⟩
theorem dX12_laws_39 : Dc cX12_laws 39 (.aload_n 0) 1 40 := ⟨by decide +kernel, rfl⟩
theorem dX12_laws_40 : Dc cX12_laws 40 (.iload_n 2) 1 41 := ⟨by decide +kernel, rfl⟩
theorem dX12_laws_41 : Dc cX12_laws 41 (.invokevirtual 298) 3 44 := ⟨by decide +kernel, rfl⟩
theorem djX12_laws_44 : Dj cX12_laws 44 (.ifCond .eq 14) 3 47 14 58 := ⟨by decide +kernel, rfl, by decide⟩
theorem dX12_laws_47 : Dc cX12_laws 47 (.iconst 1) 1 48 := ⟨by decide +kernel, rfl⟩
theorem dX12_laws_48 : Dc cX12_laws 48 (.aload_n 0) 1 49 := ⟨by decide +kernel, rfl⟩
theorem dX12_laws_49 : Dc cX12_laws 49 (.getfield 26) 3 52 := ⟨by decide +kernel, rfl⟩
theorem dX12_laws_52 : Dc cX12_laws 52 (.iload_n 2) 1 53 := ⟨by decide +kernel, rfl⟩
theorem dX12_laws_53 : Dc cX12_laws 53 (.iaload) 1 54 := ⟨by decide +kernel, rfl⟩
theorem dX12_laws_54 : Dc cX12_laws 54 (.ishl) 1 55 := ⟨by decide +kernel, rfl⟩
theorem djX12_laws_55 : Dj cX12_laws 55 (.goto 4) 3 58 4 59 := ⟨by decide +kernel, rfl, by decide⟩
theorem dX12_laws_58 : Dc cX12_laws 58 (.iconst 0) 1 59 := ⟨by decide +kernel, rfl⟩
theorem dX12_laws_59 : Dc cX12_laws 59 (.ior) 1 60 := ⟨by decide +kernel, rfl⟩
theorem dX12_laws_60 : Dc cX12_laws 60 (.istore_n 1) 1 61 := ⟨by decide +kernel, rfl⟩
theorem dX12_laws_61 : Dc cX12_laws 61 (.iinc 2 1) 3 64 := ⟨by decide +kernel, rfl⟩
theorem djX12_laws_64 : Dj cX12_laws 64 (.goto (-34)) 3 67 (-34) 30 := ⟨by decide +kernel, rfl, by decide⟩
theorem dX12_laws_67 : Dc cX12_laws 67 (.iconst 0) 1 68 := ⟨by decide +kernel, rfl⟩
theorem dX12_laws_68 : Dc cX12_laws 68 (.istore_n 2) 1 69 := ⟨by decide +kernel, rfl⟩
theorem dX12_laws_69 : Dc cX12_laws 69 (.iload_n 2) 1 70 := ⟨by decide +kernel, rfl⟩
theorem dX12_laws_70 : Dc cX12_laws 70 (.aload_n 0) 1 71 := ⟨by decide +kernel, rfl⟩
theorem dX12_laws_71 : Dc cX12_laws 71 (.getfield 305) 3 74 := ⟨by decide +kernel, rfl⟩
theorem djX12_laws_74 : Dj cX12_laws 74 (.if_icmp .ge 60) 3 77 60 134 := ⟨by decide +kernel, rfl, by decide⟩
theorem dX12_laws_77 : Dc cX12_laws 77 (.iload_n 2) 1 78 := ⟨by decide +kernel, rfl⟩
theorem dX12_laws_78 : Dc cX12_laws 78 (.iconst 1) 1 79 := ⟨by decide +kernel, rfl⟩
theorem dX12_laws_79 : Dc cX12_laws 79 (.iadd) 1 80 := ⟨by decide +kernel, rfl⟩
theorem dX12_laws_80 : Dc cX12_laws 80 (.istore_n 3) 1 81 := ⟨by decide +kernel, rfl⟩
theorem dX12_laws_81 : Dc cX12_laws 81 (.iload_n 3) 1 82 := ⟨by decide +kernel, rfl⟩
theorem dX12_laws_82 : Dc cX12_laws 82 (.aload_n 0) 1 83 := ⟨by decide +kernel, rfl⟩
theorem dX12_laws_83 : Dc cX12_laws 83 (.getfield 305) 3 86 := ⟨by decide +kernel, rfl⟩
theorem djX12_laws_86 : Dj cX12_laws 86 (.if_icmp .gt 42) 3 89 42 128 := ⟨by decide +kernel, rfl, by decide⟩
theorem dX12_laws_89 : Dc cX12_laws 89 (.iconst 0) 1 90 := ⟨by decide +kernel, rfl⟩
theorem dX12_laws_90 : Dc cX12_laws 90 (.istore 4) 2 92 := ⟨by decide +kernel, rfl⟩
theorem dX12_laws_92 : Dc cX12_laws 92 (.iload 4) 2 94 := ⟨by decide +kernel, rfl⟩
theorem dX12_laws_94 : Dc cX12_laws 94 (.bipush 12) 2 96 := ⟨by decide +kernel, rfl⟩
theorem djX12_laws_96 : Dj cX12_laws 96 (.if_icmp .ge 26) 3 99 26 122 := ⟨by decide +kernel, rfl, by decide⟩
theorem dX12_laws_99 : Dc cX12_laws 99 (.iload_n 1) 1 100 := ⟨by decide +kernel, rfl⟩
theorem dX12_laws_100 : Dc cX12_laws 100 (.iconst 1) 1 101 := ⟨by decide +kernel, rfl⟩
theorem dX12_laws_101 : Dc cX12_laws 101 (.aload_n 0) 1 102 := ⟨by decide +kernel, rfl⟩
theorem dX12_laws_102 : Dc cX12_laws 102 (.getfield 95) 3 105 := ⟨by decide +kernel, rfl⟩
theorem dX12_laws_105 : Dc cX12_laws 105 (.iload 4) 2 107 := ⟨by decide +kernel, rfl⟩
theorem dX12_laws_107 : Dc cX12_laws 107 (.iload_n 2) 1 108 := ⟨by decide +kernel, rfl⟩
theorem dX12_laws_108 : Dc cX12_laws 108 (.iload_n 3) 1 109 := ⟨by decide +kernel, rfl⟩
theorem dX12_laws_109 : Dc cX12_laws 109 (.invokestatic 282) 3 112 := ⟨by decide +kernel, rfl⟩
theorem dX12_laws_112 : Dc cX12_laws 112 (.iaload) 1 113 := ⟨by decide +kernel, rfl⟩
theorem dX12_laws_113 : Dc cX12_laws 113 (.ishl) 1 114 := ⟨by decide +kernel, rfl⟩
theorem dX12_laws_114 : Dc cX12_laws 114 (.ior) 1 115 := ⟨by decide +kernel, rfl⟩
theorem dX12_laws_115 : Dc cX12_laws 115 (.istore_n 1) 1 116 := ⟨by decide +kernel, rfl⟩
theorem dX12_laws_116 : Dc cX12_laws 116 (.iinc 4 1) 3 119 := ⟨by decide +kernel, rfl⟩
theorem djX12_laws_119 : Dj cX12_laws 119 (.goto (-27)) 3 122 (-27) 92 := ⟨by decide +kernel, rfl, by decide⟩
theorem dX12_laws_122 : Dc cX12_laws 122 (.iinc 3 1) 3 125 := ⟨by decide +kernel, rfl⟩
theorem djX12_laws_125 : Dj cX12_laws 125 (.goto (-44)) 3 128 (-44) 81 := ⟨by decide +kernel, rfl, by decide⟩
theorem dX12_laws_128 : Dc cX12_laws 128 (.iinc 2 1) 3 131 := ⟨by decide +kernel, rfl⟩
theorem djX12_laws_131 : Dj cX12_laws 131 (.goto (-62)) 3 134 (-62) 69 := ⟨by decide +kernel, rfl, by decide⟩
theorem dX12_laws_134 : Dc cX12_laws 134 (.iconst 0) 1 135 := ⟨by decide +kernel, rfl⟩
theorem dX12_laws_135 : Dc cX12_laws 135 (.istore_n 2) 1 136 := ⟨by decide +kernel, rfl⟩
theorem dX12_laws_136 : Dc cX12_laws 136 (.iconst 0) 1 137 := ⟨by decide +kernel, rfl⟩
theorem dX12_laws_137 : Dc cX12_laws 137 (.istore_n 3) 1 138 := ⟨by decide +kernel, rfl⟩
theorem dX12_laws_138 : Dc cX12_laws 138 (.iload_n 3) 1 139 := ⟨by decide +kernel, rfl⟩
theorem dX12_laws_139 : Dc cX12_laws 139 (.bipush 9) 2 141 := ⟨by decide +kernel, rfl⟩
theorem djX12_laws_141 : Dj cX12_laws 141 (.if_icmp .ge 28) 3 144 28 169 := ⟨by decide +kernel, rfl, by decide⟩
theorem dX12_laws_144 : Dc cX12_laws 144 (.iload_n 2) 1 145 := ⟨by decide +kernel, rfl⟩
theorem dX12_laws_145 : Dc cX12_laws 145 (.aload_n 0) 1 146 := ⟨by decide +kernel, rfl⟩
theorem dX12_laws_146 : Dc cX12_laws 146 (.iload_n 3) 1 147 := ⟨by decide +kernel, rfl⟩
theorem dX12_laws_147 : Dc cX12_laws 147 (.iload_n 1) 1 148 := ⟨by decide +kernel, rfl⟩
theorem dX12_laws_148 : Dc cX12_laws 148 (.invokevirtual 446) 3 151 := ⟨by decide +kernel, rfl⟩
theorem djX12_laws_151 : Dj cX12_laws 151 (.ifCond .eq 9) 3 154 9 160 := ⟨by decide +kernel, rfl, by decide⟩
theorem dX12_laws_154 : Dc cX12_laws 154 (.iconst 1) 1 155 := ⟨by decide +kernel, rfl⟩
theorem dX12_laws_155 : Dc cX12_laws 155 (.iload_n 3) 1 156 := ⟨by decide +kernel, rfl⟩
theorem dX12_laws_156 : Dc cX12_laws 156 (.ishl) 1 157 := ⟨by decide +kernel, rfl⟩
theorem djX12_laws_157 : Dj cX12_laws 157 (.goto 4) 3 160 4 161 := ⟨by decide +kernel, rfl, by decide⟩
theorem dX12_laws_160 : Dc cX12_laws 160 (.iconst 0) 1 161 := ⟨by decide +kernel, rfl⟩
theorem dX12_laws_161 : Dc cX12_laws 161 (.ior) 1 162 := ⟨by decide +kernel, rfl⟩
theorem dX12_laws_162 : Dc cX12_laws 162 (.istore_n 2) 1 163 := ⟨by decide +kernel, rfl⟩
theorem dX12_laws_163 : Dc cX12_laws 163 (.iinc 3 1) 3 166 := ⟨by decide +kernel, rfl⟩
theorem djX12_laws_166 : Dj cX12_laws 166 (.goto (-28)) 3 169 (-28) 138 := ⟨by decide +kernel, rfl, by decide⟩
theorem dX12_laws_169 : Dc cX12_laws 169 (.iload_n 2) 1 170 := ⟨by decide +kernel, rfl⟩
theorem dX12_laws_170 : Dc cX12_laws 170 (.ireturn) 1 171 := ⟨by decide +kernel, rfl⟩
section
variable {p : Program} {l : Launch} {e : Env} {s : State} {m : MethodId} {args : Array Value} {below : List Frame} {meth : Method} {c : Code} {A0 : Nat → Prop} {D : va_G} {cA : Nat → ClassId} {ad : Nat → Nat} {Z : (Nat → Nat) × (Nat → Nat)} {Q : Int → St → Prop}
set_option maxHeartbeats 4000000 in
set_option maxRecDepth 100000 in
theorem t_X12_laws_b59 (E : Ev p s m args meth c cX12_laws 5 RX12 A0 D cA ad NR Z) (hr : meth.sig.returnType = (some .int)) {K30 : Int → Int → St → Prop} (hK30 : ∀ (x1 : Int) (x2 : Int) (σ : St), C32 x1 → C32 x2 → CanS shR NR σ → K30 x1 x2 σ → G p l e (rmL 8 0 0) s m args below meth c 5 A0 D cA ad shR NR 0 0 (MQ below (QIc D cA ad shR NR Q A0) args s 0 0 A0) σ 30 [some (.ref (ad 0)), some (vI x1), some (vI x2), none, none] []) (x2 : Int) (s0 : Int) (s1 : Int) (σ : St) (c2 : C32 x2) (cs0 : C32 s0) (cs1 : C32 s1) (hσ : CanS shR NR σ) (h : wp_X12_laws_b59 Q K30 x2 s0 s1 σ) : G p l e (rmL 8 0 0) s m args below meth c 5 A0 D cA ad shR NR 0 0 (MQ below (QIc D cA ad shR NR Q A0) args s 0 0 A0) σ 59 [some (.ref (ad 0)), none, some (vI x2), none, none] [vI s0, vI s1] := by
  unfold wp_X12_laws_b59 at h
  refine g_ior E dX12_laws_59 ?_
  refine g_nmI (fun v7 ev7 => ?_)
  replace h := h v7 ev7
  have cv7 : C32 v7 := by rw [ev7]; exact (c32_t _)
  refine g_istore_1 E rfl (by decide) dX12_laws_60 ?_
  refine g_iinc_2 E rfl (by decide) dX12_laws_61 (fun v8 ev8 => ?_)
  replace h := h v8 ev8
  have cv8 : C32 v8 := by rw [ev8]; exact c32_w _
  refine g_goto E djX12_laws_64 ?_
  exact (hK30 v7 v8 σ cv7 cv8 hσ h).weak (w_k (w_k (w_k (w_d (w_d w_n)))))
set_option maxHeartbeats 4000000 in
set_option maxRecDepth 100000 in
theorem t_X12_laws_l92 (E : Ev p s m args meth c cX12_laws 5 RX12 A0 D cA ad NR Z) (hr : meth.sig.returnType = (some .int)) {K69 : Int → Int → St → Prop} (hK69 : ∀ (x1 : Int) (x2 : Int) (σ : St), C32 x1 → C32 x2 → CanS shR NR σ → K69 x1 x2 σ → G p l e (rmL 8 0 0) s m args below meth c 5 A0 D cA ad shR NR 0 0 (MQ below (QIc D cA ad shR NR Q A0) args s 0 0 A0) σ 69 [some (.ref (ad 0)), some (vI x1), some (vI x2), none, none] []) {K81 : Int → Int → Int → St → Prop} (hK81 : ∀ (x1 : Int) (x2 : Int) (x3 : Int) (σ : St), C32 x1 → C32 x2 → C32 x3 → CanS shR NR σ → K81 x1 x2 x3 σ → G p l e (rmL 8 0 0) s m args below meth c 5 A0 D cA ad shR NR 0 0 (MQ below (QIc D cA ad shR NR Q A0) args s 0 0 A0) σ 81 [some (.ref (ad 0)), some (vI x1), some (vI x2), some (vI x3), none] []) : ∀ (n : Nat) (x1 : Int) (x2 : Int) (x3 : Int) (x4 : Int) (σ : St), C32 x1 → C32 x2 → C32 x3 → C32 x4 → CanS shR NR σ → wp_X12_laws_l92 Q K69 K81 n x1 x2 x3 x4 σ → G p l e (rmL 8 0 0) s m args below meth c 5 A0 D cA ad shR NR 0 0 (MQ below (QIc D cA ad shR NR Q A0) args s 0 0 A0) σ 92 [some (.ref (ad 0)), some (vI x1), some (vI x2), some (vI x3), some (vI x4)] [] := by
  intro n
  induction n with
  | zero => intro _ _ _ _ _ _ _ _ _ _ h; exact h.elim
  | succ n ih =>
    intro x1 x2 x3 x4 σ c1 c2 c3 c4 hσ h
    unfold wp_X12_laws_l92 at h
    refine g_iload_4 E dX12_laws_92 ?_
    refine g_bipush E (by decide) dX12_laws_94 ?_
    refine g_icmp_ge E c4 cl_12 djX12_laws_96 (fun hc => ?_) (fun hc => ?_)
    · replace h := h.1 hc
      refine g_iinc_3 E rfl (by decide) dX12_laws_122 (fun v14 ev14 => ?_)
      replace h := h v14 ev14
      have cv14 : C32 v14 := by rw [ev14]; exact c32_w _
      refine g_goto E djX12_laws_125 ?_
      exact (hK81 x1 x2 v14 σ c1 c2 cv14 hσ h).weak (w_k (w_k (w_k (w_k (w_d w_n)))))
    · replace h := h.2 hc
      refine g_iload_1 E dX12_laws_99 ?_
      refine g_iconst E dX12_laws_100 ?_
      refine g_aload_0 E dX12_laws_101 ?_
      refine g_getR E fl_RX12_95 kR_0 sR_0 rfl dX12_laws_102 ?_
      refine g_iload_4 E dX12_laws_105 ?_
      refine g_iload_2 E dX12_laws_107 ?_
      refine g_iload_3 E dX12_laws_108 ?_
      refine g_callsI E my_X12_item ms_X12_item ml_RX12_282 (rm_ok (by decide) (by decide)) ⟨Nat.zero_le _, Nat.zero_le _⟩ (m_X12_item E.2.2.1 c4 c2 c3 hσ h) rfl rfl (Nat.le_of_ble_eq_true rfl) dX12_laws_109 (fun r15 σ16 cr15 hσ16 h => ?_)
      refine g_iald E kR_26 sR_26 (by decide) h.1 dX12_laws_112 ?_
      replace h := h.2
      refine g_ishl E dX12_laws_113 ?_
      refine g_ior E dX12_laws_114 ?_
      refine g_nmI (fun v17 ev17 => ?_)
      replace h := h v17 ev17
      have cv17 : C32 v17 := by rw [ev17]; exact (c32_t _)
      refine g_istore_1 E rfl (by decide) dX12_laws_115 ?_
      refine g_iinc_4 E rfl (by decide) dX12_laws_116 (fun v18 ev18 => ?_)
      replace h := h v18 ev18
      have cv18 : C32 v18 := by rw [ev18]; exact c32_w _
      refine g_goto E djX12_laws_119 ?_
      exact (ih v17 x2 x3 v18 σ16 cv17 c2 c3 cv18 hσ16 h).weak (w_k (w_k (w_k (w_k (w_k w_n)))))
set_option maxHeartbeats 4000000 in
set_option maxRecDepth 100000 in
theorem t_X12_laws_l81 (E : Ev p s m args meth c cX12_laws 5 RX12 A0 D cA ad NR Z) (hr : meth.sig.returnType = (some .int)) {K69 : Int → Int → St → Prop} (hK69 : ∀ (x1 : Int) (x2 : Int) (σ : St), C32 x1 → C32 x2 → CanS shR NR σ → K69 x1 x2 σ → G p l e (rmL 8 0 0) s m args below meth c 5 A0 D cA ad shR NR 0 0 (MQ below (QIc D cA ad shR NR Q A0) args s 0 0 A0) σ 69 [some (.ref (ad 0)), some (vI x1), some (vI x2), none, none] []) : ∀ (n : Nat) (x1 : Int) (x2 : Int) (x3 : Int) (σ : St), C32 x1 → C32 x2 → C32 x3 → CanS shR NR σ → wp_X12_laws_l81 Q K69 n x1 x2 x3 σ → G p l e (rmL 8 0 0) s m args below meth c 5 A0 D cA ad shR NR 0 0 (MQ below (QIc D cA ad shR NR Q A0) args s 0 0 A0) σ 81 [some (.ref (ad 0)), some (vI x1), some (vI x2), some (vI x3), none] [] := by
  intro n
  induction n with
  | zero => intro _ _ _ _ _ _ _ _ h; exact h.elim
  | succ n ih =>
    intro x1 x2 x3 σ c1 c2 c3 hσ h
    unfold wp_X12_laws_l81 at h
    refine g_iload_3 E dX12_laws_81 ?_
    refine g_aload_0 E dX12_laws_82 ?_
    refine g_getI E fl_RX12_305 kR_0 sR_0 rfl dX12_laws_83 ?_
    refine g_icmp_gt E c3 (fR_0_27 hσ) djX12_laws_86 (fun hc => ?_) (fun hc => ?_)
    · replace h := h.1 hc
      refine g_iinc_2 E rfl (by decide) dX12_laws_128 (fun v11 ev11 => ?_)
      replace h := h v11 ev11
      have cv11 : C32 v11 := by rw [ev11]; exact c32_w _
      refine g_goto E djX12_laws_131 ?_
      exact (hK69 x1 v11 σ c1 cv11 hσ h).weak (w_k (w_k (w_k (w_d (w_d w_n)))))
    · replace h := h.2 hc
      refine g_iconst E dX12_laws_89 ?_
      refine g_istore_4 E rfl (by decide) dX12_laws_90 ?_
      exact (t_X12_laws_l92 E hr hK69 ih bigN x1 x2 x3 0 σ c1 c2 c3 cl_0 hσ h).weak (w_k (w_k (w_k (w_k (w_k w_n)))))
set_option maxHeartbeats 4000000 in
set_option maxRecDepth 100000 in
theorem t_X12_laws_b161 (E : Ev p s m args meth c cX12_laws 5 RX12 A0 D cA ad NR Z) (hr : meth.sig.returnType = (some .int)) {K138 : Int → Int → Int → St → Prop} (hK138 : ∀ (x1 : Int) (x2 : Int) (x3 : Int) (σ : St), C32 x1 → C32 x2 → C32 x3 → CanS shR NR σ → K138 x1 x2 x3 σ → G p l e (rmL 8 0 0) s m args below meth c 5 A0 D cA ad shR NR 0 0 (MQ below (QIc D cA ad shR NR Q A0) args s 0 0 A0) σ 138 [some (.ref (ad 0)), some (vI x1), some (vI x2), some (vI x3), none] []) (x1 : Int) (x3 : Int) (s0 : Int) (s1 : Int) (σ : St) (c1 : C32 x1) (c3 : C32 x3) (cs0 : C32 s0) (cs1 : C32 s1) (hσ : CanS shR NR σ) (h : wp_X12_laws_b161 Q K138 x1 x3 s0 s1 σ) : G p l e (rmL 8 0 0) s m args below meth c 5 A0 D cA ad shR NR 0 0 (MQ below (QIc D cA ad shR NR Q A0) args s 0 0 A0) σ 161 [some (.ref (ad 0)), some (vI x1), none, some (vI x3), none] [vI s0, vI s1] := by
  unfold wp_X12_laws_b161 at h
  refine g_ior E dX12_laws_161 ?_
  refine g_nmI (fun v12 ev12 => ?_)
  replace h := h v12 ev12
  have cv12 : C32 v12 := by rw [ev12]; exact (c32_t _)
  refine g_istore_2 E rfl (by decide) dX12_laws_162 ?_
  refine g_iinc_3 E rfl (by decide) dX12_laws_163 (fun v13 ev13 => ?_)
  replace h := h v13 ev13
  have cv13 : C32 v13 := by rw [ev13]; exact c32_w _
  refine g_goto E djX12_laws_166 ?_
  exact (hK138 x1 v12 v13 σ c1 cv12 cv13 hσ h).weak (w_k (w_k (w_k (w_k (w_d w_n)))))
set_option maxHeartbeats 4000000 in
set_option maxRecDepth 100000 in
theorem t_X12_laws_l138 (E : Ev p s m args meth c cX12_laws 5 RX12 A0 D cA ad NR Z) (hr : meth.sig.returnType = (some .int)) : ∀ (n : Nat) (x1 : Int) (x2 : Int) (x3 : Int) (σ : St), C32 x1 → C32 x2 → C32 x3 → CanS shR NR σ → wp_X12_laws_l138 Q n x1 x2 x3 σ → G p l e (rmL 8 0 0) s m args below meth c 5 A0 D cA ad shR NR 0 0 (MQ below (QIc D cA ad shR NR Q A0) args s 0 0 A0) σ 138 [some (.ref (ad 0)), some (vI x1), some (vI x2), some (vI x3), none] [] := by
  intro n
  induction n with
  | zero => intro _ _ _ _ _ _ _ _ h; exact h.elim
  | succ n ih =>
    intro x1 x2 x3 σ c1 c2 c3 hσ h
    unfold wp_X12_laws_l138 at h
    refine g_iload_3 E dX12_laws_138 ?_
    refine g_bipush E (by decide) dX12_laws_139 ?_
    refine g_icmp_ge E c3 cl_9 djX12_laws_141 (fun hc => ?_) (fun hc => ?_)
    · replace h := h.1 hc
      refine g_iload_2 E dX12_laws_169 ?_
      exact g_iret E hr c2 h hσ dX12_laws_170
    · replace h := h.2 hc
      refine g_iload_2 E dX12_laws_144 ?_
      refine g_aload_0 E dX12_laws_145 ?_
      refine g_iload_3 E dX12_laws_146 ?_
      refine g_iload_1 E dX12_laws_147 ?_
      refine g_callvI E my_X12_holds mi_X12_holds msel_X12_holds ml_RX12_446 (rm_ok (by decide) (by decide)) ⟨Nat.zero_le _, Nat.zero_le _⟩ kR_0 sR_0 rfl (m_X12_holds E.2.2.1 c3 c1 hσ h) rfl rfl (Nat.le_of_ble_eq_true rfl) dX12_laws_148 (fun r9 σ10 cr9 hσ10 h => ?_)
      refine g_if_eq E cr9 djX12_laws_151 (fun hc => ?_) (fun hc => ?_)
      · replace h := h.1 hc
        refine g_iconst E dX12_laws_160 ?_
        exact (t_X12_laws_b161 E hr ih x1 x3 0 x2 σ10 c1 c3 cl_0 c2 hσ10 h).weak (w_k (w_k (w_d (w_k (w_d w_n)))))
      · replace h := h.2 hc
        refine g_iconst E dX12_laws_154 ?_
        refine g_iload_3 E dX12_laws_155 ?_
        refine g_ishl E dX12_laws_156 ?_
        refine g_goto E djX12_laws_157 ?_
        exact (t_X12_laws_b161 E hr ih x1 x3 (b_shl 1 x3) x2 σ10 c1 c3 (c32_t _) c2 hσ10 h).weak (w_k (w_k (w_d (w_k (w_d w_n)))))
set_option maxHeartbeats 4000000 in
set_option maxRecDepth 100000 in
theorem t_X12_laws_l69 (E : Ev p s m args meth c cX12_laws 5 RX12 A0 D cA ad NR Z) (hr : meth.sig.returnType = (some .int)) : ∀ (n : Nat) (x1 : Int) (x2 : Int) (σ : St), C32 x1 → C32 x2 → CanS shR NR σ → wp_X12_laws_l69 Q n x1 x2 σ → G p l e (rmL 8 0 0) s m args below meth c 5 A0 D cA ad shR NR 0 0 (MQ below (QIc D cA ad shR NR Q A0) args s 0 0 A0) σ 69 [some (.ref (ad 0)), some (vI x1), some (vI x2), none, none] [] := by
  intro n
  induction n with
  | zero => intro _ _ _ _ _ _ h; exact h.elim
  | succ n ih =>
    intro x1 x2 σ c1 c2 hσ h
    unfold wp_X12_laws_l69 at h
    refine g_iload_2 E dX12_laws_69 ?_
    refine g_aload_0 E dX12_laws_70 ?_
    refine g_getI E fl_RX12_305 kR_0 sR_0 rfl dX12_laws_71 ?_
    refine g_icmp_ge E c2 (fR_0_27 hσ) djX12_laws_74 (fun hc => ?_) (fun hc => ?_)
    · replace h := h.1 hc
      refine g_iconst E dX12_laws_134 ?_
      refine g_istore_2 E rfl (by decide) dX12_laws_135 ?_
      refine g_iconst E dX12_laws_136 ?_
      refine g_istore_3 E rfl (by decide) dX12_laws_137 ?_
      exact (t_X12_laws_l138 E hr bigN x1 0 0 σ c1 cl_0 cl_0 hσ h).weak (w_k (w_k (w_k (w_k (w_d w_n)))))
    · replace h := h.2 hc
      refine g_iload_2 E dX12_laws_77 ?_
      refine g_iconst E dX12_laws_78 ?_
      refine g_iadd E dX12_laws_79 ?_
      refine g_nmI (fun v6 ev6 => ?_)
      replace h := h v6 ev6
      have cv6 : C32 v6 := by rw [ev6]; exact (c32_w _)
      refine g_istore_3 E rfl (by decide) dX12_laws_80 ?_
      exact (t_X12_laws_l81 E hr ih bigN x1 x2 v6 σ c1 c2 cv6 hσ h).weak (w_k (w_k (w_k (w_k (w_d w_n)))))
set_option maxHeartbeats 4000000 in
set_option maxRecDepth 100000 in
theorem t_X12_laws_l30 (E : Ev p s m args meth c cX12_laws 5 RX12 A0 D cA ad NR Z) (hr : meth.sig.returnType = (some .int)) : ∀ (n : Nat) (x1 : Int) (x2 : Int) (σ : St), C32 x1 → C32 x2 → CanS shR NR σ → wp_X12_laws_l30 Q n x1 x2 σ → G p l e (rmL 8 0 0) s m args below meth c 5 A0 D cA ad shR NR 0 0 (MQ below (QIc D cA ad shR NR Q A0) args s 0 0 A0) σ 30 [some (.ref (ad 0)), some (vI x1), some (vI x2), none, none] [] := by
  intro n
  induction n with
  | zero => intro _ _ _ _ _ _ h; exact h.elim
  | succ n ih =>
    intro x1 x2 σ c1 c2 hσ h
    unfold wp_X12_laws_l30 at h
    refine g_iload_2 E dX12_laws_30 ?_
    refine g_aload_0 E dX12_laws_31 ?_
    refine g_getI E fl_RX12_252 kR_0 sR_0 rfl dX12_laws_32 ?_
    refine g_icmp_ge E c2 (fR_0_1 hσ) djX12_laws_35 (fun hc => ?_) (fun hc => ?_)
    · replace h := h.1 hc
      refine g_iconst E dX12_laws_67 ?_
      refine g_istore_2 E rfl (by decide) dX12_laws_68 ?_
      exact (t_X12_laws_l69 E hr bigN x1 0 σ c1 cl_0 hσ h).weak (w_k (w_k (w_k (w_d (w_d w_n)))))
    · replace h := h.2 hc
      refine g_iload_1 E dX12_laws_38 ?_
      refine g_aload_0 E dX12_laws_39 ?_
      refine g_iload_2 E dX12_laws_40 ?_
      refine g_callvI E my_X12_isIn mi_X12_isIn msel_X12_isIn ml_RX12_298 (rm_ok (by decide) (by decide)) ⟨Nat.zero_le _, Nat.zero_le _⟩ kR_0 sR_0 rfl (m_X12_isIn E.2.2.1 c2 hσ h) rfl rfl (Nat.le_of_ble_eq_true rfl) dX12_laws_41 (fun r4 σ5 cr4 hσ5 h => ?_)
      refine g_if_eq E cr4 djX12_laws_44 (fun hc => ?_) (fun hc => ?_)
      · replace h := h.1 hc
        refine g_iconst E dX12_laws_58 ?_
        exact (t_X12_laws_b59 E hr ih x2 0 x1 σ5 c2 cl_0 c1 hσ5 h).weak (w_k (w_d (w_k (w_d (w_d w_n)))))
      · replace h := h.2 hc
        refine g_iconst E dX12_laws_47 ?_
        refine g_aload_0 E dX12_laws_48 ?_
        refine g_getR E fl_RX12_26 kR_0 sR_0 rfl dX12_laws_49 ?_
        refine g_iload_2 E dX12_laws_52 ?_
        refine g_iald E kR_5 sR_5 (by decide) h.1 dX12_laws_53 ?_
        replace h := h.2
        refine g_ishl E dX12_laws_54 ?_
        refine g_goto E djX12_laws_55 ?_
        exact (t_X12_laws_b59 E hr ih x2 (b_shl 1 (σ5 5 (x2.toNat))) x1 σ5 c2 (c32_t _) c1 hσ5 h).weak (w_k (w_d (w_k (w_d (w_d w_n)))))
set_option maxHeartbeats 4000000 in
set_option maxRecDepth 100000 in
theorem t_X12_laws (E : Ev p s m args meth c cX12_laws 5 RX12 A0 D cA ad NR Z) (hr : meth.sig.returnType = (some .int)) (σ : St) (hσ : CanS shR NR σ) (h : wp_X12_laws  σ Q) : G p l e (rmL 8 0 0) s m args below meth c 5 A0 D cA ad shR NR 0 0 (MQ below (QIc D cA ad shR NR Q A0) args s 0 0 A0) σ 0 [some (.ref (ad 0)), none, none, none, none] [] := by
  unfold wp_X12_laws at h
  refine g_aload_0 E dX12_laws_0 ?_
  refine g_callvI E my_X12_settles mi_X12_settles msel_X12_settles ml_RX12_437 (rm_ok (by decide) (by decide)) ⟨Nat.zero_le _, Nat.zero_le _⟩ kR_0 sR_0 rfl (m_X12_settles E.2.2.1 hσ h) rfl rfl (Nat.le_of_ble_eq_true rfl) dX12_laws_1 (fun r1 σ2 cr1 hσ2 h => ?_)
  refine g_if_ne E cr1 djX12_laws_4 (fun hc => ?_) (fun hc => ?_)
  · replace h := h.1 hc
    refine g_iconst E dX12_laws_10 ?_
    refine g_aload_0 E dX12_laws_11 ?_
    refine g_getR E fl_RX12_32 kR_0 sR_0 rfl dX12_laws_12 ?_
    refine g_iconst E dX12_laws_15 ?_
    refine g_iald E kR_7 sR_7 (by decide) (by decide) dX12_laws_16 ?_
    refine g_ishl E dX12_laws_17 ?_
    refine g_iconst E dX12_laws_18 ?_
    refine g_aload_0 E dX12_laws_19 ?_
    refine g_getR E fl_RX12_35 kR_0 sR_0 rfl dX12_laws_20 ?_
    refine g_iconst E dX12_laws_23 ?_
    refine g_iald E kR_8 sR_8 (by decide) (by decide) dX12_laws_24 ?_
    refine g_ishl E dX12_laws_25 ?_
    refine g_ior E dX12_laws_26 ?_
    refine g_nmI (fun v3 ev3 => ?_)
    replace h := h v3 ev3
    have cv3 : C32 v3 := by rw [ev3]; exact (c32_t _)
    refine g_istore_1 E rfl (by decide) dX12_laws_27 ?_
    refine g_iconst E dX12_laws_28 ?_
    refine g_istore_2 E rfl (by decide) dX12_laws_29 ?_
    exact (t_X12_laws_l30 E hr bigN v3 0 σ2 cv3 cl_0 hσ2 h).weak (w_k (w_k (w_k (w_d (w_d w_n)))))
  · replace h := h.2 hc
    refine g_bipush E (by decide) dX12_laws_7 ?_
    exact g_iret E hr cl_m6 h hσ2 dX12_laws_9
end
theorem m_X12_laws {Z : (Nat → Nat) × (Nat → Nat)} {l : Launch} {D : va_G} {cA : Nat → ClassId} {ad : Nat → Nat} {σ : St} {Q : Int → St → Prop} (hA : AdOk NR ad) (hσ : CanS shR NR σ) (h : wp_X12_laws  σ Q) : KtI Z l D cA ad shR NR yX12_laws cX12_laws 5 (some .int) 8 [.ref (ad 0)] σ Q :=
  KtI.of my_X12_laws hA [some (.ref (ad 0)), none, none, none, none] (Nat.le_of_ble_eq_true rfl) rfl (fun p e s m args below meth c A0 E hr => t_X12_laws E hr σ hσ h)
theorem dX12_isAt_0 : Dc cX12_isAt 0 (.iload_n 1) 1 1 := ⟨by decide +kernel, rfl⟩
theorem dX12_isAt_1 : Dc cX12_isAt 1 (.iload 4) 2 3 := ⟨by decide +kernel, rfl⟩
theorem djX12_isAt_3 : Dj cX12_isAt 3 (.if_icmp .ne 19) 3 6 19 22 := ⟨by decide +kernel, rfl, by decide⟩
theorem dX12_isAt_6 : Dc cX12_isAt 6 (.iload_n 2) 1 7 := ⟨by decide +kernel, rfl⟩
theorem dX12_isAt_7 : Dc cX12_isAt 7 (.iload 5) 2 9 := ⟨by decide +kernel, rfl⟩
theorem djX12_isAt_9 : Dj cX12_isAt 9 (.if_icmp .ne 13) 3 12 13 22 := ⟨by decide +kernel, rfl, by decide⟩
theorem dX12_isAt_12 : Dc cX12_isAt 12 (.iload_n 3) 1 13 := ⟨by decide +kernel, rfl⟩
theorem dX12_isAt_13 : Dc cX12_isAt 13 (.iload 6) 2 15 := ⟨by decide +kernel, rfl⟩
theorem djX12_isAt_15 : Dj cX12_isAt 15 (.if_icmp .ne 7) 3 18 7 22 := ⟨by decide +kernel, rfl, by decide⟩
theorem dX12_isAt_18 : Dc cX12_isAt 18 (.iconst 1) 1 19 := ⟨by decide +kernel, rfl⟩
theorem djX12_isAt_19 : Dj cX12_isAt 19 (.goto 4) 3 22 4 23 := ⟨by decide +kernel, rfl, by decide⟩
theorem dX12_isAt_22 : Dc cX12_isAt 22 (.iconst 0) 1 23 := ⟨by decide +kernel, rfl⟩
theorem dX12_isAt_23 : Dc cX12_isAt 23 (.ireturn) 1 24 := ⟨by decide +kernel, rfl⟩
section
variable {p : Program} {l : Launch} {e : Env} {s : State} {m : MethodId} {args : Array Value} {below : List Frame} {meth : Method} {c : Code} {A0 : Nat → Prop} {D : va_G} {cA : Nat → ClassId} {ad : Nat → Nat} {Z : (Nat → Nat) × (Nat → Nat)} {Q : Int → St → Prop}
set_option maxHeartbeats 4000000 in
set_option maxRecDepth 100000 in
theorem t_X12_isAt_b22 (E : Ev p s m args meth c cX12_isAt 7 RX12 A0 D cA ad NR Z) (hr : meth.sig.returnType = (some .boolean)) (σ : St) (hσ : CanS shR NR σ) (h : wp_X12_isAt_b22 Q  σ) : G p l e (rmL 1 0 0) s m args below meth c 7 A0 D cA ad shR NR 0 0 (MQ below (QIc D cA ad shR NR Q A0) args s 0 0 A0) σ 22 [none, none, none, none, none, none, none] [] := by
  unfold wp_X12_isAt_b22 at h
  refine g_iconst E dX12_isAt_22 ?_
  exact g_zret E hr (Or.inl rfl) h hσ dX12_isAt_23
set_option maxHeartbeats 4000000 in
set_option maxRecDepth 100000 in
theorem t_X12_isAt (E : Ev p s m args meth c cX12_isAt 7 RX12 A0 D cA ad NR Z) (hr : meth.sig.returnType = (some .boolean)) (x1 : Int) (x2 : Int) (x3 : Int) (x4 : Int) (x5 : Int) (x6 : Int) (σ : St) (c1 : C32 x1) (c2 : C32 x2) (c3 : C32 x3) (c4 : C32 x4) (c5 : C32 x5) (c6 : C32 x6) (hσ : CanS shR NR σ) (h : wp_X12_isAt x1 x2 x3 x4 x5 x6 σ Q) : G p l e (rmL 1 0 0) s m args below meth c 7 A0 D cA ad shR NR 0 0 (MQ below (QIc D cA ad shR NR Q A0) args s 0 0 A0) σ 0 [some (.ref (ad 0)), some (vI x1), some (vI x2), some (vI x3), some (vI x4), some (vI x5), some (vI x6)] [] := by
  unfold wp_X12_isAt at h
  refine g_iload_1 E dX12_isAt_0 ?_
  refine g_iload_4 E dX12_isAt_1 ?_
  refine g_icmp_ne E c1 c4 djX12_isAt_3 (fun hc => ?_) (fun hc => ?_)
  · replace h := h.1 hc
    exact (t_X12_isAt_b22 E hr σ hσ h).weak (w_d (w_d (w_d (w_d (w_d (w_d (w_d w_n)))))))
  · replace h := h.2 hc
    refine g_iload_2 E dX12_isAt_6 ?_
    refine g_iload_5 E dX12_isAt_7 ?_
    refine g_icmp_ne E c2 c5 djX12_isAt_9 (fun hc => ?_) (fun hc => ?_)
    · replace h := h.1 hc
      exact (t_X12_isAt_b22 E hr σ hσ h).weak (w_d (w_d (w_d (w_d (w_d (w_d (w_d w_n)))))))
    · replace h := h.2 hc
      refine g_iload_3 E dX12_isAt_12 ?_
      refine g_iload_6 E dX12_isAt_13 ?_
      refine g_icmp_ne E c3 c6 djX12_isAt_15 (fun hc => ?_) (fun hc => ?_)
      · replace h := h.1 hc
        exact (t_X12_isAt_b22 E hr σ hσ h).weak (w_d (w_d (w_d (w_d (w_d (w_d (w_d w_n)))))))
      · replace h := h.2 hc
        refine g_iconst E dX12_isAt_18 ?_
        refine g_goto E djX12_isAt_19 ?_
        exact g_zret E hr (Or.inr rfl) h hσ dX12_isAt_23
end
theorem m_X12_isAt {Z : (Nat → Nat) × (Nat → Nat)} {l : Launch} {D : va_G} {cA : Nat → ClassId} {ad : Nat → Nat} {x1 x2 x3 x4 x5 x6 : Int} {σ : St} {Q : Int → St → Prop} (hA : AdOk NR ad) (c1 : C32 x1) (c2 : C32 x2) (c3 : C32 x3) (c4 : C32 x4) (c5 : C32 x5) (c6 : C32 x6) (hσ : CanS shR NR σ) (h : wp_X12_isAt x1 x2 x3 x4 x5 x6 σ Q) : KtI Z l D cA ad shR NR yX12_isAt cX12_isAt 7 (some .boolean) 1 [.ref (ad 0), vI x1, vI x2, vI x3, vI x4, vI x5, vI x6] σ Q :=
  KtI.of my_X12_isAt hA [some (.ref (ad 0)), some (vI x1), some (vI x2), some (vI x3), some (vI x4), some (vI x5), some (vI x6)] (Nat.le_of_ble_eq_true rfl) rfl (fun p e s m args below meth c A0 E hr => t_X12_isAt E hr x1 x2 x3 x4 x5 x6 σ c1 c2 c3 c4 c5 c6 hσ h)
theorem dX12_casesWith_0 : Dc cX12_casesWith 0 (.iconst 0) 1 1 := ⟨by decide +kernel, rfl⟩
theorem dX12_casesWith_1 : Dc cX12_casesWith 1 (.istore 4) 2 3 := ⟨by decide +kernel, rfl⟩
theorem dX12_casesWith_3 : Dc cX12_casesWith 3 (.iconst 0) 1 4 := ⟨by decide +kernel, rfl⟩
theorem dX12_casesWith_4 : Dc cX12_casesWith 4 (.istore 5) 2 6 := ⟨by decide +kernel, rfl⟩
theorem dX12_casesWith_6 : Dc cX12_casesWith 6 (.iload 5) 2 8 := ⟨by decide +kernel, rfl⟩
theorem dX12_casesWith_8 : Dc cX12_casesWith 8 (.aload_n 0) 1 9 := ⟨by decide +kernel, rfl⟩
theorem dX12_casesWith_9 : Dc cX12_casesWith 9 (.getfield 252) 3 12 := ⟨by decide +kernel, rfl⟩
theorem djX12_casesWith_12 : Dj cX12_casesWith 12 (.if_icmp .ge 223) 3 15 223 235 := ⟨by decide +kernel, rfl, by decide⟩
theorem dX12_casesWith_15 : Dc cX12_casesWith 15 (.aload_n 0) 1 16 := ⟨by decide +kernel, rfl⟩
theorem dX12_casesWith_16 : Dc cX12_casesWith 16 (.iload 5) 2 18 := ⟨by decide +kernel, rfl⟩
theorem dX12_casesWith_18 : Dc cX12_casesWith 18 (.invokevirtual 298) 3 21 := ⟨by decide +kernel, rfl⟩
theorem djX12_casesWith_21 : Dj cX12_casesWith 21 (.ifCond .ne 6) 3 24 6 27 := ⟨by decide +kernel, rfl, by decide⟩
theorem djX12_casesWith_24 : Dj cX12_casesWith 24 (.goto 205) 3 27 205 229 := ⟨by decide +kernel, rfl, by decide⟩
theorem dX12_casesWith_27 : Dc cX12_casesWith 27 (.aload_n 0) 1 28 := ⟨by decide +kernel, rfl⟩
theorem dX12_casesWith_28 : Dc cX12_casesWith 28 (.getfield 20) 3 31 := ⟨by decide +kernel, rfl⟩
theorem dX12_casesWith_31 : Dc cX12_casesWith 31 (.iload 5) 2 33 := ⟨by decide +kernel, rfl⟩
theorem dX12_casesWith_33 : Dc cX12_casesWith 33 (.iaload) 1 34 := ⟨by decide +kernel, rfl⟩
theorem dX12_casesWith_34 : Dc cX12_casesWith 34 (.iconst (-1)) 1 35 := ⟨by decide +kernel, rfl⟩
theorem djX12_casesWith_35 : Dj cX12_casesWith 35 (.if_icmp .ne 34) 3 38 34 69 := ⟨by decide +kernel, rfl, by decide⟩
theorem dX12_casesWith_38 : Dc cX12_casesWith 38 (.iload 4) 2 40 := ⟨by decide +kernel, rfl⟩
theorem dX12_casesWith_40 : Dc cX12_casesWith 40 (.aload_n 0) 1 41 := ⟨by decide +kernel, rfl⟩
theorem dX12_casesWith_41 : Dc cX12_casesWith 41 (.getfield 17) 3 44 := ⟨by decide +kernel, rfl⟩
theorem dX12_casesWith_44 : Dc cX12_casesWith 44 (.iload 5) 2 46 := ⟨by decide +kernel, rfl⟩
theorem dX12_casesWith_46 : Dc cX12_casesWith 46 (.iaload) 1 47 := ⟨by decide +kernel, rfl⟩
theorem dX12_casesWith_47 : Dc cX12_casesWith 47 (.iload_n 1) 1 48 := ⟨by decide +kernel, rfl⟩
theorem djX12_casesWith_48 : Dj cX12_casesWith 48 (.if_icmp .ne 17) 3 51 17 65 := ⟨by decide +kernel, rfl, by decide⟩
theorem dX12_casesWith_51 : Dc cX12_casesWith 51 (.aload_n 0) 1 52 := ⟨by decide +kernel, rfl⟩
theorem dX12_casesWith_52 : Dc cX12_casesWith 52 (.iload_n 1) 1 53 := ⟨by decide +kernel, rfl⟩
theorem dX12_casesWith_53 : Dc cX12_casesWith 53 (.iload_n 2) 1 54 := ⟨by decide +kernel, rfl⟩
theorem dX12_casesWith_54 : Dc cX12_casesWith 54 (.iload_n 3) 1 55 := ⟨by decide +kernel, rfl⟩
theorem dX12_casesWith_55 : Dc cX12_casesWith 55 (.invokevirtual 324) 3 58 := ⟨by decide +kernel, rfl⟩
theorem djX12_casesWith_58 : Dj cX12_casesWith 58 (.ifCond .eq 7) 3 61 7 65 := ⟨by decide +kernel, rfl, by decide⟩
theorem dX12_casesWith_61 : Dc cX12_casesWith 61 (.iconst 1) 1 62 := ⟨by decide +kernel, rfl⟩
theorem djX12_casesWith_62 : Dj cX12_casesWith 62 (.goto 4) 3 65 4 66 := ⟨by decide +kernel, rfl, by decide⟩
theorem dX12_casesWith_65 : Dc cX12_casesWith 65 (.iconst 0) 1 66 := ⟨by decide +kernel, rfl⟩
theorem dX12_casesWith_66 : Dc cX12_casesWith 66 (.iadd) 1 67 := ⟨by decide +kernel, rfl⟩
theorem dX12_casesWith_67 : Dc cX12_casesWith 67 (.istore 4) 2 69 := ⟨by decide +kernel, rfl⟩
theorem dX12_casesWith_69 : Dc cX12_casesWith 69 (.iconst 0) 1 70 := ⟨by decide +kernel, rfl⟩
theorem dX12_casesWith_70 : Dc cX12_casesWith 70 (.istore 6) 2 72 := ⟨by decide +kernel, rfl⟩
theorem dX12_casesWith_72 : Dc cX12_casesWith 72 (.iload 6) 2 74 := ⟨by decide +kernel, rfl⟩
theorem dX12_casesWith_74 : Dc cX12_casesWith 74 (.aload_n 0) 1 75 := ⟨by decide +kernel, rfl⟩
theorem dX12_casesWith_75 : Dc cX12_casesWith 75 (.getfield 305) 3 78 := ⟨by decide +kernel, rfl⟩
theorem djX12_casesWith_78 : Dj cX12_casesWith 78 (.if_icmp .ge 151) 3 81 151 229 := ⟨by decide +kernel, rfl, by decide⟩
theorem dX12_casesWith_81 : Dc cX12_casesWith 81 (.aload_n 0) 1 82 := ⟨by decide +kernel, rfl⟩
theorem dX12_casesWith_82 : Dc cX12_casesWith 82 (.getfield 20) 3 85 := ⟨by decide +kernel, rfl⟩
theorem dX12_casesWith_85 : Dc cX12_casesWith 85 (.iload 5) 2 87 := ⟨by decide +kernel, rfl⟩
theorem dX12_casesWith_87 : Dc cX12_casesWith 87 (.iaload) 1 88 := ⟨by decide +kernel, rfl⟩
theorem dX12_casesWith_88 : Dc cX12_casesWith 88 (.iconst (-1)) 1 89 := ⟨by decide +kernel, rfl⟩
theorem djX12_casesWith_89 : Dj cX12_casesWith 89 (.if_icmp .eq 140) 3 92 140 229 := ⟨by decide +kernel, rfl, by decide⟩
theorem dX12_casesWith_92 : Dc cX12_casesWith 92 (.iload 6) 2 94 := ⟨by decide +kernel, rfl⟩
theorem dX12_casesWith_94 : Dc cX12_casesWith 94 (.iconst 2) 1 95 := ⟨by decide +kernel, rfl⟩
theorem dX12_casesWith_95 : Dc cX12_casesWith 95 (.iadd) 1 96 := ⟨by decide +kernel, rfl⟩
theorem dX12_casesWith_96 : Dc cX12_casesWith 96 (.istore 7) 2 98 := ⟨by decide +kernel, rfl⟩
theorem dX12_casesWith_98 : Dc cX12_casesWith 98 (.iload 7) 2 100 := ⟨by decide +kernel, rfl⟩
theorem dX12_casesWith_100 : Dc cX12_casesWith 100 (.aload_n 0) 1 101 := ⟨by decide +kernel, rfl⟩
theorem dX12_casesWith_101 : Dc cX12_casesWith 101 (.getfield 305) 3 104 := ⟨by decide +kernel, rfl⟩
theorem djX12_casesWith_104 : Dj cX12_casesWith 104 (.if_icmp .gt 119) 3 107 119 223 := ⟨by decide +kernel, rfl, by decide⟩
theorem dX12_casesWith_107 : Dc cX12_casesWith 107 (.iload 6) 2 109 := ⟨by decide +kernel, rfl⟩
theorem dX12_casesWith_109 : Dc cX12_casesWith 109 (.iconst 1) 1 110 := ⟨by decide +kernel, rfl⟩
theorem dX12_casesWith_110 : Dc cX12_casesWith 110 (.iadd) 1 111 := ⟨by decide +kernel, rfl⟩
theorem dX12_casesWith_111 : Dc cX12_casesWith 111 (.istore 8) 2 113 := ⟨by decide +kernel, rfl⟩
theorem dX12_casesWith_113 : Dc cX12_casesWith 113 (.iload 8) 2 115 := ⟨by decide +kernel, rfl⟩
theorem dX12_casesWith_115 : Dc cX12_casesWith 115 (.iload 7) 2 117 := ⟨by decide +kernel, rfl⟩
theorem djX12_casesWith_117 : Dj cX12_casesWith 117 (.if_icmp .ge 100) 3 120 100 217 := ⟨by decide +kernel, rfl, by decide⟩
theorem dX12_casesWith_120 : Dc cX12_casesWith 120 (.aload_n 0) 1 121 := ⟨by decide +kernel, rfl⟩
theorem dX12_casesWith_121 : Dc cX12_casesWith 121 (.aload_n 0) 1 122 := ⟨by decide +kernel, rfl⟩
theorem dX12_casesWith_122 : Dc cX12_casesWith 122 (.getfield 17) 3 125 := ⟨by decide +kernel, rfl⟩
theorem dX12_casesWith_125 : Dc cX12_casesWith 125 (.iload 5) 2 127 := ⟨by decide +kernel, rfl⟩
theorem dX12_casesWith_127 : Dc cX12_casesWith 127 (.iaload) 1 128 := ⟨by decide +kernel, rfl⟩
theorem dX12_casesWith_128 : Dc cX12_casesWith 128 (.iload 6) 2 130 := ⟨by decide +kernel, rfl⟩
theorem dX12_casesWith_130 : Dc cX12_casesWith 130 (.iload 8) 2 132 := ⟨by decide +kernel, rfl⟩
theorem dX12_casesWith_132 : Dc cX12_casesWith 132 (.iload_n 1) 1 133 := ⟨by decide +kernel, rfl⟩
theorem dX12_casesWith_133 : Dc cX12_casesWith 133 (.iload_n 2) 1 134 := ⟨by decide +kernel, rfl⟩
theorem dX12_casesWith_134 : Dc cX12_casesWith 134 (.iload_n 3) 1 135 := ⟨by decide +kernel, rfl⟩
theorem dX12_casesWith_135 : Dc cX12_casesWith 135 (.invokevirtual 450) 3 138 := ⟨by decide +kernel, rfl⟩
theorem djX12_casesWith_138 : Dj cX12_casesWith 138 (.ifCond .ne 27) 3 141 27 165 := ⟨by decide +kernel, rfl, by decide⟩
theorem dX12_casesWith_141 : Dc cX12_casesWith 141 (.aload_n 0) 1 142 := ⟨by decide +kernel, rfl⟩
theorem dX12_casesWith_142 : Dc cX12_casesWith 142 (.aload_n 0) 1 143 := ⟨by decide +kernel, rfl⟩
theorem dX12_casesWith_143 : Dc cX12_casesWith 143 (.getfield 20) 3 146 := ⟨by decide +kernel, rfl⟩
theorem dX12_casesWith_146 : Dc cX12_casesWith 146 (.iload 5) 2 148 := ⟨by decide +kernel, rfl⟩
theorem dX12_casesWith_148 : Dc cX12_casesWith 148 (.iaload) 1 149 := ⟨by decide +kernel, rfl⟩
theorem dX12_casesWith_149 : Dc cX12_casesWith 149 (.iload 8) 2 151 := ⟨by decide +kernel, rfl⟩
theorem dX12_casesWith_151 : Dc cX12_casesWith 151 (.iload 7) 2 153 := ⟨by decide +kernel, rfl⟩
theorem dX12_casesWith_153 : Dc cX12_casesWith 153 (.iload_n 1) 1 154 := ⟨by decide +kernel, rfl⟩
theorem dX12_casesWith_154 : Dc cX12_casesWith 154 (.iload_n 2) 1 155 := ⟨by decide +kernel, rfl⟩
theorem dX12_casesWith_155 : Dc cX12_casesWith 155 (.iload_n 3) 1 156 := ⟨by decide +kernel, rfl⟩
theorem dX12_casesWith_156 : Dc cX12_casesWith 156 (.invokevirtual 450) 3 159 := ⟨by decide +kernel, rfl⟩
theorem djX12_casesWith_159 : Dj cX12_casesWith 159 (.ifCond .ne 6) 3 162 6 165 := ⟨by decide +kernel, rfl, by decide⟩
theorem djX12_casesWith_162 : Dj cX12_casesWith 162 (.goto 49) 3 165 49 211 := ⟨by decide +kernel, rfl, by decide⟩
theorem dX12_casesWith_165 : Dc cX12_casesWith 165 (.iload 4) 2 167 := ⟨by decide +kernel, rfl⟩
theorem dX12_casesWith_167 : Dc cX12_casesWith 167 (.aload_n 0) 1 168 := ⟨by decide +kernel, rfl⟩
theorem dX12_casesWith_168 : Dc cX12_casesWith 168 (.aload_n 0) 1 169 := ⟨by decide +kernel, rfl⟩
theorem dX12_casesWith_169 : Dc cX12_casesWith 169 (.getfield 17) 3 172 := ⟨by decide +kernel, rfl⟩
theorem dX12_casesWith_172 : Dc cX12_casesWith 172 (.iload 5) 2 174 := ⟨by decide +kernel, rfl⟩
theorem dX12_casesWith_174 : Dc cX12_casesWith 174 (.iaload) 1 175 := ⟨by decide +kernel, rfl⟩
theorem dX12_casesWith_175 : Dc cX12_casesWith 175 (.iload 6) 2 177 := ⟨by decide +kernel, rfl⟩
theorem dX12_casesWith_177 : Dc cX12_casesWith 177 (.iload 8) 2 179 := ⟨by decide +kernel, rfl⟩
theorem dX12_casesWith_179 : Dc cX12_casesWith 179 (.invokevirtual 287) 3 182 := ⟨by decide +kernel, rfl⟩
theorem djX12_casesWith_182 : Dj cX12_casesWith 182 (.ifCond .eq 25) 3 185 25 207 := ⟨by decide +kernel, rfl, by decide⟩
theorem dX12_casesWith_185 : Dc cX12_casesWith 185 (.aload_n 0) 1 186 := ⟨by decide +kernel, rfl⟩
theorem dX12_casesWith_186 : Dc cX12_casesWith 186 (.aload_n 0) 1 187 := ⟨by decide +kernel, rfl⟩
theorem dX12_casesWith_187 : Dc cX12_casesWith 187 (.getfield 20) 3 190 := ⟨by decide +kernel, rfl⟩
theorem dX12_casesWith_190 : Dc cX12_casesWith 190 (.iload 5) 2 192 := ⟨by decide +kernel, rfl⟩
theorem dX12_casesWith_192 : Dc cX12_casesWith 192 (.iaload) 1 193 := ⟨by decide +kernel, rfl⟩
theorem dX12_casesWith_193 : Dc cX12_casesWith 193 (.iload 8) 2 195 := ⟨by decide +kernel, rfl⟩
theorem dX12_casesWith_195 : Dc cX12_casesWith 195 (.iload 7) 2 197 := ⟨by decide +kernel, rfl⟩
theorem dX12_casesWith_197 : Dc cX12_casesWith 197 (.invokevirtual 287) 3 200 := ⟨by decide +kernel, rfl⟩
theorem djX12_casesWith_200 : Dj cX12_casesWith 200 (.ifCond .eq 7) 3 203 7 207 := ⟨by decide +kernel, rfl, by decide⟩
theorem dX12_casesWith_203 : Dc cX12_casesWith 203 (.iconst 1) 1 204 := ⟨by decide +kernel, rfl⟩
theorem djX12_casesWith_204 : Dj cX12_casesWith 204 (.goto 4) 3 207 4 208 := ⟨by decide +kernel, rfl, by decide⟩
theorem dX12_casesWith_207 : Dc cX12_casesWith 207 (.iconst 0) 1 208 := ⟨by decide +kernel, rfl⟩
theorem dX12_casesWith_208 : Dc cX12_casesWith 208 (.iadd) 1 209 := ⟨by decide +kernel, rfl⟩
theorem dX12_casesWith_209 : Dc cX12_casesWith 209 (.istore 4) 2 211 := ⟨by decide +kernel, rfl⟩
theorem dX12_casesWith_211 : Dc cX12_casesWith 211 (.iinc 8 1) 3 214 := ⟨by decide +kernel, rfl⟩
theorem djX12_casesWith_214 : Dj cX12_casesWith 214 (.goto (-101)) 3 217 (-101) 113 := ⟨by decide +kernel, rfl, by decide⟩
theorem dX12_casesWith_217 : Dc cX12_casesWith 217 (.iinc 7 1) 3 220 := ⟨by decide +kernel, rfl⟩
theorem djX12_casesWith_220 : Dj cX12_casesWith 220 (.goto (-122)) 3 223 (-122) 98 := ⟨by decide +kernel, rfl, by decide⟩
theorem dX12_casesWith_223 : Dc cX12_casesWith 223 (.iinc 6 1) 3 226 := ⟨by decide +kernel, rfl⟩
theorem djX12_casesWith_226 : Dj cX12_casesWith 226 (.goto (-154)) 3 229 (-154) 72 := ⟨by decide +kernel, rfl, by decide⟩
theorem dX12_casesWith_229 : Dc cX12_casesWith 229 (.iinc 5 1) 3 232 := ⟨by decide +kernel, rfl⟩
theorem djX12_casesWith_232 : Dj cX12_casesWith 232 (.goto (-226)) 3 235 (-226) 6 := ⟨by decide +kernel, rfl, by decide⟩
theorem dX12_casesWith_235 : Dc cX12_casesWith 235 (.iload 4) 2 237 := ⟨by decide +kernel, rfl⟩
theorem dX12_casesWith_237 : Dc cX12_casesWith 237 (.ireturn) 1 238 := ⟨by decide +kernel, rfl⟩
section
variable {p : Program} {l : Launch} {e : Env} {s : State} {m : MethodId} {args : Array Value} {below : List Frame} {meth : Method} {c : Code} {A0 : Nat → Prop} {D : va_G} {cA : Nat → ClassId} {ad : Nat → Nat} {Z : (Nat → Nat) × (Nat → Nat)} {Q : Int → St → Prop}
set_option maxHeartbeats 4000000 in
set_option maxRecDepth 100000 in
theorem t_X12_casesWith_b211 (E : Ev p s m args meth c cX12_casesWith 9 RX12 A0 D cA ad NR Z) (hr : meth.sig.returnType = (some .int)) {K6 : Int → Int → Int → Int → Int → St → Prop} (hK6 : ∀ (x1 : Int) (x2 : Int) (x3 : Int) (x4 : Int) (x5 : Int) (σ : St), C32 x1 → C32 x2 → C32 x3 → C32 x4 → C32 x5 → CanS shR NR σ → K6 x1 x2 x3 x4 x5 σ → G p l e (rmL 3 0 0) s m args below meth c 9 A0 D cA ad shR NR 0 0 (MQ below (QIc D cA ad shR NR Q A0) args s 0 0 A0) σ 6 [some (.ref (ad 0)), some (vI x1), some (vI x2), some (vI x3), some (vI x4), some (vI x5), none, none, none] []) {K72 : Int → Int → Int → Int → Int → Int → St → Prop} (hK72 : ∀ (x1 : Int) (x2 : Int) (x3 : Int) (x4 : Int) (x5 : Int) (x6 : Int) (σ : St), C32 x1 → C32 x2 → C32 x3 → C32 x4 → C32 x5 → C32 x6 → CanS shR NR σ → K72 x1 x2 x3 x4 x5 x6 σ → G p l e (rmL 3 0 0) s m args below meth c 9 A0 D cA ad shR NR 0 0 (MQ below (QIc D cA ad shR NR Q A0) args s 0 0 A0) σ 72 [some (.ref (ad 0)), some (vI x1), some (vI x2), some (vI x3), some (vI x4), some (vI x5), some (vI x6), none, none] []) {K98 : Int → Int → Int → Int → Int → Int → Int → St → Prop} (hK98 : ∀ (x1 : Int) (x2 : Int) (x3 : Int) (x4 : Int) (x5 : Int) (x6 : Int) (x7 : Int) (σ : St), C32 x1 → C32 x2 → C32 x3 → C32 x4 → C32 x5 → C32 x6 → C32 x7 → CanS shR NR σ → K98 x1 x2 x3 x4 x5 x6 x7 σ → G p l e (rmL 3 0 0) s m args below meth c 9 A0 D cA ad shR NR 0 0 (MQ below (QIc D cA ad shR NR Q A0) args s 0 0 A0) σ 98 [some (.ref (ad 0)), some (vI x1), some (vI x2), some (vI x3), some (vI x4), some (vI x5), some (vI x6), some (vI x7), none] []) {K113 : Int → Int → Int → Int → Int → Int → Int → Int → St → Prop} (hK113 : ∀ (x1 : Int) (x2 : Int) (x3 : Int) (x4 : Int) (x5 : Int) (x6 : Int) (x7 : Int) (x8 : Int) (σ : St), C32 x1 → C32 x2 → C32 x3 → C32 x4 → C32 x5 → C32 x6 → C32 x7 → C32 x8 → CanS shR NR σ → K113 x1 x2 x3 x4 x5 x6 x7 x8 σ → G p l e (rmL 3 0 0) s m args below meth c 9 A0 D cA ad shR NR 0 0 (MQ below (QIc D cA ad shR NR Q A0) args s 0 0 A0) σ 113 [some (.ref (ad 0)), some (vI x1), some (vI x2), some (vI x3), some (vI x4), some (vI x5), some (vI x6), some (vI x7), some (vI x8)] []) (x1 : Int) (x2 : Int) (x3 : Int) (x4 : Int) (x5 : Int) (x6 : Int) (x7 : Int) (x8 : Int) (σ : St) (c1 : C32 x1) (c2 : C32 x2) (c3 : C32 x3) (c4 : C32 x4) (c5 : C32 x5) (c6 : C32 x6) (c7 : C32 x7) (c8 : C32 x8) (hσ : CanS shR NR σ) (h : wp_X12_casesWith_b211 Q K6 K72 K98 K113 x1 x2 x3 x4 x5 x6 x7 x8 σ) : G p l e (rmL 3 0 0) s m args below meth c 9 A0 D cA ad shR NR 0 0 (MQ below (QIc D cA ad shR NR Q A0) args s 0 0 A0) σ 211 [some (.ref (ad 0)), some (vI x1), some (vI x2), some (vI x3), some (vI x4), some (vI x5), some (vI x6), some (vI x7), some (vI x8)] [] := by
  unfold wp_X12_casesWith_b211 at h
  refine g_iinc_8 E rfl (by decide) dX12_casesWith_211 (fun v19 ev19 => ?_)
  replace h := h v19 ev19
  have cv19 : C32 v19 := by rw [ev19]; exact c32_w _
  refine g_goto E djX12_casesWith_214 ?_
  exact (hK113 x1 x2 x3 x4 x5 x6 x7 v19 σ c1 c2 c3 c4 c5 c6 c7 cv19 hσ h).weak (w_k (w_k (w_k (w_k (w_k (w_k (w_k (w_k (w_k w_n)))))))))
set_option maxHeartbeats 4000000 in
set_option maxRecDepth 100000 in
theorem t_X12_casesWith_b208 (E : Ev p s m args meth c cX12_casesWith 9 RX12 A0 D cA ad NR Z) (hr : meth.sig.returnType = (some .int)) {K6 : Int → Int → Int → Int → Int → St → Prop} (hK6 : ∀ (x1 : Int) (x2 : Int) (x3 : Int) (x4 : Int) (x5 : Int) (σ : St), C32 x1 → C32 x2 → C32 x3 → C32 x4 → C32 x5 → CanS shR NR σ → K6 x1 x2 x3 x4 x5 σ → G p l e (rmL 3 0 0) s m args below meth c 9 A0 D cA ad shR NR 0 0 (MQ below (QIc D cA ad shR NR Q A0) args s 0 0 A0) σ 6 [some (.ref (ad 0)), some (vI x1), some (vI x2), some (vI x3), some (vI x4), some (vI x5), none, none, none] []) {K72 : Int → Int → Int → Int → Int → Int → St → Prop} (hK72 : ∀ (x1 : Int) (x2 : Int) (x3 : Int) (x4 : Int) (x5 : Int) (x6 : Int) (σ : St), C32 x1 → C32 x2 → C32 x3 → C32 x4 → C32 x5 → C32 x6 → CanS shR NR σ → K72 x1 x2 x3 x4 x5 x6 σ → G p l e (rmL 3 0 0) s m args below meth c 9 A0 D cA ad shR NR 0 0 (MQ below (QIc D cA ad shR NR Q A0) args s 0 0 A0) σ 72 [some (.ref (ad 0)), some (vI x1), some (vI x2), some (vI x3), some (vI x4), some (vI x5), some (vI x6), none, none] []) {K98 : Int → Int → Int → Int → Int → Int → Int → St → Prop} (hK98 : ∀ (x1 : Int) (x2 : Int) (x3 : Int) (x4 : Int) (x5 : Int) (x6 : Int) (x7 : Int) (σ : St), C32 x1 → C32 x2 → C32 x3 → C32 x4 → C32 x5 → C32 x6 → C32 x7 → CanS shR NR σ → K98 x1 x2 x3 x4 x5 x6 x7 σ → G p l e (rmL 3 0 0) s m args below meth c 9 A0 D cA ad shR NR 0 0 (MQ below (QIc D cA ad shR NR Q A0) args s 0 0 A0) σ 98 [some (.ref (ad 0)), some (vI x1), some (vI x2), some (vI x3), some (vI x4), some (vI x5), some (vI x6), some (vI x7), none] []) {K113 : Int → Int → Int → Int → Int → Int → Int → Int → St → Prop} (hK113 : ∀ (x1 : Int) (x2 : Int) (x3 : Int) (x4 : Int) (x5 : Int) (x6 : Int) (x7 : Int) (x8 : Int) (σ : St), C32 x1 → C32 x2 → C32 x3 → C32 x4 → C32 x5 → C32 x6 → C32 x7 → C32 x8 → CanS shR NR σ → K113 x1 x2 x3 x4 x5 x6 x7 x8 σ → G p l e (rmL 3 0 0) s m args below meth c 9 A0 D cA ad shR NR 0 0 (MQ below (QIc D cA ad shR NR Q A0) args s 0 0 A0) σ 113 [some (.ref (ad 0)), some (vI x1), some (vI x2), some (vI x3), some (vI x4), some (vI x5), some (vI x6), some (vI x7), some (vI x8)] []) (x1 : Int) (x2 : Int) (x3 : Int) (x5 : Int) (x6 : Int) (x7 : Int) (x8 : Int) (s0 : Int) (s1 : Int) (σ : St) (c1 : C32 x1) (c2 : C32 x2) (c3 : C32 x3) (c5 : C32 x5) (c6 : C32 x6) (c7 : C32 x7) (c8 : C32 x8) (cs0 : C32 s0) (cs1 : C32 s1) (hσ : CanS shR NR σ) (h : wp_X12_casesWith_b208 Q K6 K72 K98 K113 x1 x2 x3 x5 x6 x7 x8 s0 s1 σ) : G p l e (rmL 3 0 0) s m args below meth c 9 A0 D cA ad shR NR 0 0 (MQ below (QIc D cA ad shR NR Q A0) args s 0 0 A0) σ 208 [some (.ref (ad 0)), some (vI x1), some (vI x2), some (vI x3), none, some (vI x5), some (vI x6), some (vI x7), some (vI x8)] [vI s0, vI s1] := by
  unfold wp_X12_casesWith_b208 at h
  refine g_iadd E dX12_casesWith_208 ?_
  refine g_nmI (fun v20 ev20 => ?_)
  replace h := h v20 ev20
  have cv20 : C32 v20 := by rw [ev20]; exact (c32_w _)
  refine g_istore_4 E rfl (by decide) dX12_casesWith_209 ?_
  exact (t_X12_casesWith_b211 E hr hK6 hK72 hK98 hK113 x1 x2 x3 v20 x5 x6 x7 x8 σ c1 c2 c3 cv20 c5 c6 c7 c8 hσ h).weak (w_k (w_k (w_k (w_k (w_k (w_k (w_k (w_k (w_k w_n)))))))))
set_option maxHeartbeats 4000000 in
set_option maxRecDepth 100000 in
theorem t_X12_casesWith_b207 (E : Ev p s m args meth c cX12_casesWith 9 RX12 A0 D cA ad NR Z) (hr : meth.sig.returnType = (some .int)) {K6 : Int → Int → Int → Int → Int → St → Prop} (hK6 : ∀ (x1 : Int) (x2 : Int) (x3 : Int) (x4 : Int) (x5 : Int) (σ : St), C32 x1 → C32 x2 → C32 x3 → C32 x4 → C32 x5 → CanS shR NR σ → K6 x1 x2 x3 x4 x5 σ → G p l e (rmL 3 0 0) s m args below meth c 9 A0 D cA ad shR NR 0 0 (MQ below (QIc D cA ad shR NR Q A0) args s 0 0 A0) σ 6 [some (.ref (ad 0)), some (vI x1), some (vI x2), some (vI x3), some (vI x4), some (vI x5), none, none, none] []) {K72 : Int → Int → Int → Int → Int → Int → St → Prop} (hK72 : ∀ (x1 : Int) (x2 : Int) (x3 : Int) (x4 : Int) (x5 : Int) (x6 : Int) (σ : St), C32 x1 → C32 x2 → C32 x3 → C32 x4 → C32 x5 → C32 x6 → CanS shR NR σ → K72 x1 x2 x3 x4 x5 x6 σ → G p l e (rmL 3 0 0) s m args below meth c 9 A0 D cA ad shR NR 0 0 (MQ below (QIc D cA ad shR NR Q A0) args s 0 0 A0) σ 72 [some (.ref (ad 0)), some (vI x1), some (vI x2), some (vI x3), some (vI x4), some (vI x5), some (vI x6), none, none] []) {K98 : Int → Int → Int → Int → Int → Int → Int → St → Prop} (hK98 : ∀ (x1 : Int) (x2 : Int) (x3 : Int) (x4 : Int) (x5 : Int) (x6 : Int) (x7 : Int) (σ : St), C32 x1 → C32 x2 → C32 x3 → C32 x4 → C32 x5 → C32 x6 → C32 x7 → CanS shR NR σ → K98 x1 x2 x3 x4 x5 x6 x7 σ → G p l e (rmL 3 0 0) s m args below meth c 9 A0 D cA ad shR NR 0 0 (MQ below (QIc D cA ad shR NR Q A0) args s 0 0 A0) σ 98 [some (.ref (ad 0)), some (vI x1), some (vI x2), some (vI x3), some (vI x4), some (vI x5), some (vI x6), some (vI x7), none] []) {K113 : Int → Int → Int → Int → Int → Int → Int → Int → St → Prop} (hK113 : ∀ (x1 : Int) (x2 : Int) (x3 : Int) (x4 : Int) (x5 : Int) (x6 : Int) (x7 : Int) (x8 : Int) (σ : St), C32 x1 → C32 x2 → C32 x3 → C32 x4 → C32 x5 → C32 x6 → C32 x7 → C32 x8 → CanS shR NR σ → K113 x1 x2 x3 x4 x5 x6 x7 x8 σ → G p l e (rmL 3 0 0) s m args below meth c 9 A0 D cA ad shR NR 0 0 (MQ below (QIc D cA ad shR NR Q A0) args s 0 0 A0) σ 113 [some (.ref (ad 0)), some (vI x1), some (vI x2), some (vI x3), some (vI x4), some (vI x5), some (vI x6), some (vI x7), some (vI x8)] []) (x1 : Int) (x2 : Int) (x3 : Int) (x5 : Int) (x6 : Int) (x7 : Int) (x8 : Int) (s0 : Int) (σ : St) (c1 : C32 x1) (c2 : C32 x2) (c3 : C32 x3) (c5 : C32 x5) (c6 : C32 x6) (c7 : C32 x7) (c8 : C32 x8) (cs0 : C32 s0) (hσ : CanS shR NR σ) (h : wp_X12_casesWith_b207 Q K6 K72 K98 K113 x1 x2 x3 x5 x6 x7 x8 s0 σ) : G p l e (rmL 3 0 0) s m args below meth c 9 A0 D cA ad shR NR 0 0 (MQ below (QIc D cA ad shR NR Q A0) args s 0 0 A0) σ 207 [some (.ref (ad 0)), some (vI x1), some (vI x2), some (vI x3), none, some (vI x5), some (vI x6), some (vI x7), some (vI x8)] [vI s0] := by
  unfold wp_X12_casesWith_b207 at h
  refine g_iconst E dX12_casesWith_207 ?_
  exact (t_X12_casesWith_b208 E hr hK6 hK72 hK98 hK113 x1 x2 x3 x5 x6 x7 x8 0 s0 σ c1 c2 c3 c5 c6 c7 c8 cl_0 cs0 hσ h).weak (w_k (w_k (w_k (w_k (w_d (w_k (w_k (w_k (w_k w_n)))))))))
set_option maxHeartbeats 4000000 in
set_option maxRecDepth 100000 in
theorem t_X12_casesWith_b165 (E : Ev p s m args meth c cX12_casesWith 9 RX12 A0 D cA ad NR Z) (hr : meth.sig.returnType = (some .int)) {K6 : Int → Int → Int → Int → Int → St → Prop} (hK6 : ∀ (x1 : Int) (x2 : Int) (x3 : Int) (x4 : Int) (x5 : Int) (σ : St), C32 x1 → C32 x2 → C32 x3 → C32 x4 → C32 x5 → CanS shR NR σ → K6 x1 x2 x3 x4 x5 σ → G p l e (rmL 3 0 0) s m args below meth c 9 A0 D cA ad shR NR 0 0 (MQ below (QIc D cA ad shR NR Q A0) args s 0 0 A0) σ 6 [some (.ref (ad 0)), some (vI x1), some (vI x2), some (vI x3), some (vI x4), some (vI x5), none, none, none] []) {K72 : Int → Int → Int → Int → Int → Int → St → Prop} (hK72 : ∀ (x1 : Int) (x2 : Int) (x3 : Int) (x4 : Int) (x5 : Int) (x6 : Int) (σ : St), C32 x1 → C32 x2 → C32 x3 → C32 x4 → C32 x5 → C32 x6 → CanS shR NR σ → K72 x1 x2 x3 x4 x5 x6 σ → G p l e (rmL 3 0 0) s m args below meth c 9 A0 D cA ad shR NR 0 0 (MQ below (QIc D cA ad shR NR Q A0) args s 0 0 A0) σ 72 [some (.ref (ad 0)), some (vI x1), some (vI x2), some (vI x3), some (vI x4), some (vI x5), some (vI x6), none, none] []) {K98 : Int → Int → Int → Int → Int → Int → Int → St → Prop} (hK98 : ∀ (x1 : Int) (x2 : Int) (x3 : Int) (x4 : Int) (x5 : Int) (x6 : Int) (x7 : Int) (σ : St), C32 x1 → C32 x2 → C32 x3 → C32 x4 → C32 x5 → C32 x6 → C32 x7 → CanS shR NR σ → K98 x1 x2 x3 x4 x5 x6 x7 σ → G p l e (rmL 3 0 0) s m args below meth c 9 A0 D cA ad shR NR 0 0 (MQ below (QIc D cA ad shR NR Q A0) args s 0 0 A0) σ 98 [some (.ref (ad 0)), some (vI x1), some (vI x2), some (vI x3), some (vI x4), some (vI x5), some (vI x6), some (vI x7), none] []) {K113 : Int → Int → Int → Int → Int → Int → Int → Int → St → Prop} (hK113 : ∀ (x1 : Int) (x2 : Int) (x3 : Int) (x4 : Int) (x5 : Int) (x6 : Int) (x7 : Int) (x8 : Int) (σ : St), C32 x1 → C32 x2 → C32 x3 → C32 x4 → C32 x5 → C32 x6 → C32 x7 → C32 x8 → CanS shR NR σ → K113 x1 x2 x3 x4 x5 x6 x7 x8 σ → G p l e (rmL 3 0 0) s m args below meth c 9 A0 D cA ad shR NR 0 0 (MQ below (QIc D cA ad shR NR Q A0) args s 0 0 A0) σ 113 [some (.ref (ad 0)), some (vI x1), some (vI x2), some (vI x3), some (vI x4), some (vI x5), some (vI x6), some (vI x7), some (vI x8)] []) (x1 : Int) (x2 : Int) (x3 : Int) (x4 : Int) (x5 : Int) (x6 : Int) (x7 : Int) (x8 : Int) (σ : St) (c1 : C32 x1) (c2 : C32 x2) (c3 : C32 x3) (c4 : C32 x4) (c5 : C32 x5) (c6 : C32 x6) (c7 : C32 x7) (c8 : C32 x8) (hσ : CanS shR NR σ) (h : wp_X12_casesWith_b165 Q K6 K72 K98 K113 x1 x2 x3 x4 x5 x6 x7 x8 σ) : G p l e (rmL 3 0 0) s m args below meth c 9 A0 D cA ad shR NR 0 0 (MQ below (QIc D cA ad shR NR Q A0) args s 0 0 A0) σ 165 [some (.ref (ad 0)), some (vI x1), some (vI x2), some (vI x3), some (vI x4), some (vI x5), some (vI x6), some (vI x7), some (vI x8)] [] := by
  unfold wp_X12_casesWith_b165 at h
  refine g_iload_4 E dX12_casesWith_165 ?_
  refine g_aload_0 E dX12_casesWith_167 ?_
  refine g_aload_0 E dX12_casesWith_168 ?_
  refine g_getR E fl_RX12_17 kR_0 sR_0 rfl dX12_casesWith_169 ?_
  refine g_iload_5 E dX12_casesWith_172 ?_
  refine g_iald E kR_2 sR_2 (by decide) h.1 dX12_casesWith_174 ?_
  replace h := h.2
  refine g_iload_6 E dX12_casesWith_175 ?_
  refine g_iload_8 E dX12_casesWith_177 ?_
  refine g_callvI E my_X12_fits mi_X12_fits msel_X12_fits ml_RX12_287 (rm_ok (by decide) (by decide)) ⟨Nat.zero_le _, Nat.zero_le _⟩ kR_0 sR_0 rfl (m_X12_fits E.2.2.1 (aR_2 hσ _) c6 c8 hσ h) rfl rfl (Nat.le_of_ble_eq_true rfl) dX12_casesWith_179 (fun r15 σ16 cr15 hσ16 h => ?_)
  refine g_if_eq E cr15 djX12_casesWith_182 (fun hc => ?_) (fun hc => ?_)
  · replace h := h.1 hc
    exact (t_X12_casesWith_b207 E hr hK6 hK72 hK98 hK113 x1 x2 x3 x5 x6 x7 x8 x4 σ16 c1 c2 c3 c5 c6 c7 c8 c4 hσ16 h).weak (w_k (w_k (w_k (w_k (w_d (w_k (w_k (w_k (w_k w_n)))))))))
  · replace h := h.2 hc
    refine g_aload_0 E dX12_casesWith_185 ?_
    refine g_aload_0 E dX12_casesWith_186 ?_
    refine g_getR E fl_RX12_20 kR_0 sR_0 rfl dX12_casesWith_187 ?_
    refine g_iload_5 E dX12_casesWith_190 ?_
    refine g_iald E kR_3 sR_3 (by decide) h.1 dX12_casesWith_192 ?_
    replace h := h.2
    refine g_iload_8 E dX12_casesWith_193 ?_
    refine g_iload_7 E dX12_casesWith_195 ?_
    refine g_callvI E my_X12_fits mi_X12_fits msel_X12_fits ml_RX12_287 (rm_ok (by decide) (by decide)) ⟨Nat.zero_le _, Nat.zero_le _⟩ kR_0 sR_0 rfl (m_X12_fits E.2.2.1 (aR_3 hσ16 _) c8 c7 hσ16 h) rfl rfl (Nat.le_of_ble_eq_true rfl) dX12_casesWith_197 (fun r17 σ18 cr17 hσ18 h => ?_)
    refine g_if_eq E cr17 djX12_casesWith_200 (fun hc => ?_) (fun hc => ?_)
    · replace h := h.1 hc
      exact (t_X12_casesWith_b207 E hr hK6 hK72 hK98 hK113 x1 x2 x3 x5 x6 x7 x8 x4 σ18 c1 c2 c3 c5 c6 c7 c8 c4 hσ18 h).weak (w_k (w_k (w_k (w_k (w_d (w_k (w_k (w_k (w_k w_n)))))))))
    · replace h := h.2 hc
      refine g_iconst E dX12_casesWith_203 ?_
      refine g_goto E djX12_casesWith_204 ?_
      exact (t_X12_casesWith_b208 E hr hK6 hK72 hK98 hK113 x1 x2 x3 x5 x6 x7 x8 1 x4 σ18 c1 c2 c3 c5 c6 c7 c8 cl_1 c4 hσ18 h).weak (w_k (w_k (w_k (w_k (w_d (w_k (w_k (w_k (w_k w_n)))))))))
set_option maxHeartbeats 4000000 in
set_option maxRecDepth 100000 in
theorem t_X12_casesWith_l113 (E : Ev p s m args meth c cX12_casesWith 9 RX12 A0 D cA ad NR Z) (hr : meth.sig.returnType = (some .int)) {K6 : Int → Int → Int → Int → Int → St → Prop} (hK6 : ∀ (x1 : Int) (x2 : Int) (x3 : Int) (x4 : Int) (x5 : Int) (σ : St), C32 x1 → C32 x2 → C32 x3 → C32 x4 → C32 x5 → CanS shR NR σ → K6 x1 x2 x3 x4 x5 σ → G p l e (rmL 3 0 0) s m args below meth c 9 A0 D cA ad shR NR 0 0 (MQ below (QIc D cA ad shR NR Q A0) args s 0 0 A0) σ 6 [some (.ref (ad 0)), some (vI x1), some (vI x2), some (vI x3), some (vI x4), some (vI x5), none, none, none] []) {K72 : Int → Int → Int → Int → Int → Int → St → Prop} (hK72 : ∀ (x1 : Int) (x2 : Int) (x3 : Int) (x4 : Int) (x5 : Int) (x6 : Int) (σ : St), C32 x1 → C32 x2 → C32 x3 → C32 x4 → C32 x5 → C32 x6 → CanS shR NR σ → K72 x1 x2 x3 x4 x5 x6 σ → G p l e (rmL 3 0 0) s m args below meth c 9 A0 D cA ad shR NR 0 0 (MQ below (QIc D cA ad shR NR Q A0) args s 0 0 A0) σ 72 [some (.ref (ad 0)), some (vI x1), some (vI x2), some (vI x3), some (vI x4), some (vI x5), some (vI x6), none, none] []) {K98 : Int → Int → Int → Int → Int → Int → Int → St → Prop} (hK98 : ∀ (x1 : Int) (x2 : Int) (x3 : Int) (x4 : Int) (x5 : Int) (x6 : Int) (x7 : Int) (σ : St), C32 x1 → C32 x2 → C32 x3 → C32 x4 → C32 x5 → C32 x6 → C32 x7 → CanS shR NR σ → K98 x1 x2 x3 x4 x5 x6 x7 σ → G p l e (rmL 3 0 0) s m args below meth c 9 A0 D cA ad shR NR 0 0 (MQ below (QIc D cA ad shR NR Q A0) args s 0 0 A0) σ 98 [some (.ref (ad 0)), some (vI x1), some (vI x2), some (vI x3), some (vI x4), some (vI x5), some (vI x6), some (vI x7), none] []) : ∀ (n : Nat) (x1 : Int) (x2 : Int) (x3 : Int) (x4 : Int) (x5 : Int) (x6 : Int) (x7 : Int) (x8 : Int) (σ : St), C32 x1 → C32 x2 → C32 x3 → C32 x4 → C32 x5 → C32 x6 → C32 x7 → C32 x8 → CanS shR NR σ → wp_X12_casesWith_l113 Q K6 K72 K98 n x1 x2 x3 x4 x5 x6 x7 x8 σ → G p l e (rmL 3 0 0) s m args below meth c 9 A0 D cA ad shR NR 0 0 (MQ below (QIc D cA ad shR NR Q A0) args s 0 0 A0) σ 113 [some (.ref (ad 0)), some (vI x1), some (vI x2), some (vI x3), some (vI x4), some (vI x5), some (vI x6), some (vI x7), some (vI x8)] [] := by
  intro n
  induction n with
  | zero => intro _ _ _ _ _ _ _ _ _ _ _ _ _ _ _ _ _ _ h; exact h.elim
  | succ n ih =>
    intro x1 x2 x3 x4 x5 x6 x7 x8 σ c1 c2 c3 c4 c5 c6 c7 c8 hσ h
    unfold wp_X12_casesWith_l113 at h
    refine g_iload_8 E dX12_casesWith_113 ?_
    refine g_iload_7 E dX12_casesWith_115 ?_
    refine g_icmp_ge E c8 c7 djX12_casesWith_117 (fun hc => ?_) (fun hc => ?_)
    · replace h := h.1 hc
      refine g_iinc_7 E rfl (by decide) dX12_casesWith_217 (fun v10 ev10 => ?_)
      replace h := h v10 ev10
      have cv10 : C32 v10 := by rw [ev10]; exact c32_w _
      refine g_goto E djX12_casesWith_220 ?_
      exact (hK98 x1 x2 x3 x4 x5 x6 v10 σ c1 c2 c3 c4 c5 c6 cv10 hσ h).weak (w_k (w_k (w_k (w_k (w_k (w_k (w_k (w_k (w_d w_n)))))))))
    · replace h := h.2 hc
      refine g_aload_0 E dX12_casesWith_120 ?_
      refine g_aload_0 E dX12_casesWith_121 ?_
      refine g_getR E fl_RX12_17 kR_0 sR_0 rfl dX12_casesWith_122 ?_
      refine g_iload_5 E dX12_casesWith_125 ?_
      refine g_iald E kR_2 sR_2 (by decide) h.1 dX12_casesWith_127 ?_
      replace h := h.2
      refine g_iload_6 E dX12_casesWith_128 ?_
      refine g_iload_8 E dX12_casesWith_130 ?_
      refine g_iload_1 E dX12_casesWith_132 ?_
      refine g_iload_2 E dX12_casesWith_133 ?_
      refine g_iload_3 E dX12_casesWith_134 ?_
      refine g_callvI E my_X12_isAt mi_X12_isAt msel_X12_isAt ml_RX12_450 (rm_ok (by decide) (by decide)) ⟨Nat.zero_le _, Nat.zero_le _⟩ kR_0 sR_0 rfl (m_X12_isAt E.2.2.1 (aR_2 hσ _) c6 c8 c1 c2 c3 hσ h) rfl rfl (Nat.le_of_ble_eq_true rfl) dX12_casesWith_135 (fun r11 σ12 cr11 hσ12 h => ?_)
      refine g_if_ne E cr11 djX12_casesWith_138 (fun hc => ?_) (fun hc => ?_)
      · replace h := h.1 hc
        exact (t_X12_casesWith_b165 E hr hK6 hK72 hK98 ih x1 x2 x3 x4 x5 x6 x7 x8 σ12 c1 c2 c3 c4 c5 c6 c7 c8 hσ12 h).weak (w_k (w_k (w_k (w_k (w_k (w_k (w_k (w_k (w_k w_n)))))))))
      · replace h := h.2 hc
        refine g_aload_0 E dX12_casesWith_141 ?_
        refine g_aload_0 E dX12_casesWith_142 ?_
        refine g_getR E fl_RX12_20 kR_0 sR_0 rfl dX12_casesWith_143 ?_
        refine g_iload_5 E dX12_casesWith_146 ?_
        refine g_iald E kR_3 sR_3 (by decide) h.1 dX12_casesWith_148 ?_
        replace h := h.2
        refine g_iload_8 E dX12_casesWith_149 ?_
        refine g_iload_7 E dX12_casesWith_151 ?_
        refine g_iload_1 E dX12_casesWith_153 ?_
        refine g_iload_2 E dX12_casesWith_154 ?_
        refine g_iload_3 E dX12_casesWith_155 ?_
        refine g_callvI E my_X12_isAt mi_X12_isAt msel_X12_isAt ml_RX12_450 (rm_ok (by decide) (by decide)) ⟨Nat.zero_le _, Nat.zero_le _⟩ kR_0 sR_0 rfl (m_X12_isAt E.2.2.1 (aR_3 hσ12 _) c8 c7 c1 c2 c3 hσ12 h) rfl rfl (Nat.le_of_ble_eq_true rfl) dX12_casesWith_156 (fun r13 σ14 cr13 hσ14 h => ?_)
        refine g_if_ne E cr13 djX12_casesWith_159 (fun hc => ?_) (fun hc => ?_)
        · replace h := h.1 hc
          exact (t_X12_casesWith_b165 E hr hK6 hK72 hK98 ih x1 x2 x3 x4 x5 x6 x7 x8 σ14 c1 c2 c3 c4 c5 c6 c7 c8 hσ14 h).weak (w_k (w_k (w_k (w_k (w_k (w_k (w_k (w_k (w_k w_n)))))))))
        · replace h := h.2 hc
          refine g_goto E djX12_casesWith_162 ?_
          exact (t_X12_casesWith_b211 E hr hK6 hK72 hK98 ih x1 x2 x3 x4 x5 x6 x7 x8 σ14 c1 c2 c3 c4 c5 c6 c7 c8 hσ14 h).weak (w_k (w_k (w_k (w_k (w_k (w_k (w_k (w_k (w_k w_n)))))))))
set_option maxHeartbeats 4000000 in
set_option maxRecDepth 100000 in
theorem t_X12_casesWith_l98 (E : Ev p s m args meth c cX12_casesWith 9 RX12 A0 D cA ad NR Z) (hr : meth.sig.returnType = (some .int)) {K6 : Int → Int → Int → Int → Int → St → Prop} (hK6 : ∀ (x1 : Int) (x2 : Int) (x3 : Int) (x4 : Int) (x5 : Int) (σ : St), C32 x1 → C32 x2 → C32 x3 → C32 x4 → C32 x5 → CanS shR NR σ → K6 x1 x2 x3 x4 x5 σ → G p l e (rmL 3 0 0) s m args below meth c 9 A0 D cA ad shR NR 0 0 (MQ below (QIc D cA ad shR NR Q A0) args s 0 0 A0) σ 6 [some (.ref (ad 0)), some (vI x1), some (vI x2), some (vI x3), some (vI x4), some (vI x5), none, none, none] []) {K72 : Int → Int → Int → Int → Int → Int → St → Prop} (hK72 : ∀ (x1 : Int) (x2 : Int) (x3 : Int) (x4 : Int) (x5 : Int) (x6 : Int) (σ : St), C32 x1 → C32 x2 → C32 x3 → C32 x4 → C32 x5 → C32 x6 → CanS shR NR σ → K72 x1 x2 x3 x4 x5 x6 σ → G p l e (rmL 3 0 0) s m args below meth c 9 A0 D cA ad shR NR 0 0 (MQ below (QIc D cA ad shR NR Q A0) args s 0 0 A0) σ 72 [some (.ref (ad 0)), some (vI x1), some (vI x2), some (vI x3), some (vI x4), some (vI x5), some (vI x6), none, none] []) : ∀ (n : Nat) (x1 : Int) (x2 : Int) (x3 : Int) (x4 : Int) (x5 : Int) (x6 : Int) (x7 : Int) (σ : St), C32 x1 → C32 x2 → C32 x3 → C32 x4 → C32 x5 → C32 x6 → C32 x7 → CanS shR NR σ → wp_X12_casesWith_l98 Q K6 K72 n x1 x2 x3 x4 x5 x6 x7 σ → G p l e (rmL 3 0 0) s m args below meth c 9 A0 D cA ad shR NR 0 0 (MQ below (QIc D cA ad shR NR Q A0) args s 0 0 A0) σ 98 [some (.ref (ad 0)), some (vI x1), some (vI x2), some (vI x3), some (vI x4), some (vI x5), some (vI x6), some (vI x7), none] [] := by
  intro n
  induction n with
  | zero => intro _ _ _ _ _ _ _ _ _ _ _ _ _ _ _ _ h; exact h.elim
  | succ n ih =>
    intro x1 x2 x3 x4 x5 x6 x7 σ c1 c2 c3 c4 c5 c6 c7 hσ h
    unfold wp_X12_casesWith_l98 at h
    refine g_iload_7 E dX12_casesWith_98 ?_
    refine g_aload_0 E dX12_casesWith_100 ?_
    refine g_getI E fl_RX12_305 kR_0 sR_0 rfl dX12_casesWith_101 ?_
    refine g_icmp_gt E c7 (fR_0_27 hσ) djX12_casesWith_104 (fun hc => ?_) (fun hc => ?_)
    · replace h := h.1 hc
      refine g_iinc_6 E rfl (by decide) dX12_casesWith_223 (fun v8 ev8 => ?_)
      replace h := h v8 ev8
      have cv8 : C32 v8 := by rw [ev8]; exact c32_w _
      refine g_goto E djX12_casesWith_226 ?_
      exact (hK72 x1 x2 x3 x4 x5 v8 σ c1 c2 c3 c4 c5 cv8 hσ h).weak (w_k (w_k (w_k (w_k (w_k (w_k (w_k (w_d (w_d w_n)))))))))
    · replace h := h.2 hc
      refine g_iload_6 E dX12_casesWith_107 ?_
      refine g_iconst E dX12_casesWith_109 ?_
      refine g_iadd E dX12_casesWith_110 ?_
      refine g_nmI (fun v9 ev9 => ?_)
      replace h := h v9 ev9
      have cv9 : C32 v9 := by rw [ev9]; exact (c32_w _)
      refine g_istore_8 E rfl (by decide) dX12_casesWith_111 ?_
      exact (t_X12_casesWith_l113 E hr hK6 hK72 ih bigN x1 x2 x3 x4 x5 x6 x7 v9 σ c1 c2 c3 c4 c5 c6 c7 cv9 hσ h).weak (w_k (w_k (w_k (w_k (w_k (w_k (w_k (w_k (w_k w_n)))))))))
set_option maxHeartbeats 4000000 in
set_option maxRecDepth 100000 in
theorem t_X12_casesWith_b229 (E : Ev p s m args meth c cX12_casesWith 9 RX12 A0 D cA ad NR Z) (hr : meth.sig.returnType = (some .int)) {K6 : Int → Int → Int → Int → Int → St → Prop} (hK6 : ∀ (x1 : Int) (x2 : Int) (x3 : Int) (x4 : Int) (x5 : Int) (σ : St), C32 x1 → C32 x2 → C32 x3 → C32 x4 → C32 x5 → CanS shR NR σ → K6 x1 x2 x3 x4 x5 σ → G p l e (rmL 3 0 0) s m args below meth c 9 A0 D cA ad shR NR 0 0 (MQ below (QIc D cA ad shR NR Q A0) args s 0 0 A0) σ 6 [some (.ref (ad 0)), some (vI x1), some (vI x2), some (vI x3), some (vI x4), some (vI x5), none, none, none] []) (x1 : Int) (x2 : Int) (x3 : Int) (x4 : Int) (x5 : Int) (σ : St) (c1 : C32 x1) (c2 : C32 x2) (c3 : C32 x3) (c4 : C32 x4) (c5 : C32 x5) (hσ : CanS shR NR σ) (h : wp_X12_casesWith_b229 Q K6 x1 x2 x3 x4 x5 σ) : G p l e (rmL 3 0 0) s m args below meth c 9 A0 D cA ad shR NR 0 0 (MQ below (QIc D cA ad shR NR Q A0) args s 0 0 A0) σ 229 [some (.ref (ad 0)), some (vI x1), some (vI x2), some (vI x3), some (vI x4), some (vI x5), none, none, none] [] := by
  unfold wp_X12_casesWith_b229 at h
  refine g_iinc_5 E rfl (by decide) dX12_casesWith_229 (fun v6 ev6 => ?_)
  replace h := h v6 ev6
  have cv6 : C32 v6 := by rw [ev6]; exact c32_w _
  refine g_goto E djX12_casesWith_232 ?_
  exact (hK6 x1 x2 x3 x4 v6 σ c1 c2 c3 c4 cv6 hσ h).weak (w_k (w_k (w_k (w_k (w_k (w_k (w_d (w_d (w_d w_n)))))))))
set_option maxHeartbeats 4000000 in
set_option maxRecDepth 100000 in
theorem t_X12_casesWith_l72 (E : Ev p s m args meth c cX12_casesWith 9 RX12 A0 D cA ad NR Z) (hr : meth.sig.returnType = (some .int)) {K6 : Int → Int → Int → Int → Int → St → Prop} (hK6 : ∀ (x1 : Int) (x2 : Int) (x3 : Int) (x4 : Int) (x5 : Int) (σ : St), C32 x1 → C32 x2 → C32 x3 → C32 x4 → C32 x5 → CanS shR NR σ → K6 x1 x2 x3 x4 x5 σ → G p l e (rmL 3 0 0) s m args below meth c 9 A0 D cA ad shR NR 0 0 (MQ below (QIc D cA ad shR NR Q A0) args s 0 0 A0) σ 6 [some (.ref (ad 0)), some (vI x1), some (vI x2), some (vI x3), some (vI x4), some (vI x5), none, none, none] []) : ∀ (n : Nat) (x1 : Int) (x2 : Int) (x3 : Int) (x4 : Int) (x5 : Int) (x6 : Int) (σ : St), C32 x1 → C32 x2 → C32 x3 → C32 x4 → C32 x5 → C32 x6 → CanS shR NR σ → wp_X12_casesWith_l72 Q K6 n x1 x2 x3 x4 x5 x6 σ → G p l e (rmL 3 0 0) s m args below meth c 9 A0 D cA ad shR NR 0 0 (MQ below (QIc D cA ad shR NR Q A0) args s 0 0 A0) σ 72 [some (.ref (ad 0)), some (vI x1), some (vI x2), some (vI x3), some (vI x4), some (vI x5), some (vI x6), none, none] [] := by
  intro n
  induction n with
  | zero => intro _ _ _ _ _ _ _ _ _ _ _ _ _ _ h; exact h.elim
  | succ n ih =>
    intro x1 x2 x3 x4 x5 x6 σ c1 c2 c3 c4 c5 c6 hσ h
    unfold wp_X12_casesWith_l72 at h
    refine g_iload_6 E dX12_casesWith_72 ?_
    refine g_aload_0 E dX12_casesWith_74 ?_
    refine g_getI E fl_RX12_305 kR_0 sR_0 rfl dX12_casesWith_75 ?_
    refine g_icmp_ge E c6 (fR_0_27 hσ) djX12_casesWith_78 (fun hc => ?_) (fun hc => ?_)
    · replace h := h.1 hc
      exact (t_X12_casesWith_b229 E hr hK6 x1 x2 x3 x4 x5 σ c1 c2 c3 c4 c5 hσ h).weak (w_k (w_k (w_k (w_k (w_k (w_k (w_d (w_d (w_d w_n)))))))))
    · replace h := h.2 hc
      refine g_aload_0 E dX12_casesWith_81 ?_
      refine g_getR E fl_RX12_20 kR_0 sR_0 rfl dX12_casesWith_82 ?_
      refine g_iload_5 E dX12_casesWith_85 ?_
      refine g_iald E kR_3 sR_3 (by decide) h.1 dX12_casesWith_87 ?_
      replace h := h.2
      refine g_iconst E dX12_casesWith_88 ?_
      refine g_icmp_eq E (aR_3 hσ _) cl_m1 djX12_casesWith_89 (fun hc => ?_) (fun hc => ?_)
      · replace h := h.1 hc
        exact (t_X12_casesWith_b229 E hr hK6 x1 x2 x3 x4 x5 σ c1 c2 c3 c4 c5 hσ h).weak (w_k (w_k (w_k (w_k (w_k (w_k (w_d (w_d (w_d w_n)))))))))
      · replace h := h.2 hc
        refine g_iload_6 E dX12_casesWith_92 ?_
        refine g_iconst E dX12_casesWith_94 ?_
        refine g_iadd E dX12_casesWith_95 ?_
        refine g_nmI (fun v7 ev7 => ?_)
        replace h := h v7 ev7
        have cv7 : C32 v7 := by rw [ev7]; exact (c32_w _)
        refine g_istore_7 E rfl (by decide) dX12_casesWith_96 ?_
        exact (t_X12_casesWith_l98 E hr hK6 ih bigN x1 x2 x3 x4 x5 x6 v7 σ c1 c2 c3 c4 c5 c6 cv7 hσ h).weak (w_k (w_k (w_k (w_k (w_k (w_k (w_k (w_k (w_d w_n)))))))))
set_option maxHeartbeats 4000000 in
set_option maxRecDepth 100000 in
theorem t_X12_casesWith_b69 (E : Ev p s m args meth c cX12_casesWith 9 RX12 A0 D cA ad NR Z) (hr : meth.sig.returnType = (some .int)) {K6 : Int → Int → Int → Int → Int → St → Prop} (hK6 : ∀ (x1 : Int) (x2 : Int) (x3 : Int) (x4 : Int) (x5 : Int) (σ : St), C32 x1 → C32 x2 → C32 x3 → C32 x4 → C32 x5 → CanS shR NR σ → K6 x1 x2 x3 x4 x5 σ → G p l e (rmL 3 0 0) s m args below meth c 9 A0 D cA ad shR NR 0 0 (MQ below (QIc D cA ad shR NR Q A0) args s 0 0 A0) σ 6 [some (.ref (ad 0)), some (vI x1), some (vI x2), some (vI x3), some (vI x4), some (vI x5), none, none, none] []) (x1 : Int) (x2 : Int) (x3 : Int) (x4 : Int) (x5 : Int) (σ : St) (c1 : C32 x1) (c2 : C32 x2) (c3 : C32 x3) (c4 : C32 x4) (c5 : C32 x5) (hσ : CanS shR NR σ) (h : wp_X12_casesWith_b69 Q K6 x1 x2 x3 x4 x5 σ) : G p l e (rmL 3 0 0) s m args below meth c 9 A0 D cA ad shR NR 0 0 (MQ below (QIc D cA ad shR NR Q A0) args s 0 0 A0) σ 69 [some (.ref (ad 0)), some (vI x1), some (vI x2), some (vI x3), some (vI x4), some (vI x5), none, none, none] [] := by
  unfold wp_X12_casesWith_b69 at h
  refine g_iconst E dX12_casesWith_69 ?_
  refine g_istore_6 E rfl (by decide) dX12_casesWith_70 ?_
  exact (t_X12_casesWith_l72 E hr hK6 bigN x1 x2 x3 x4 x5 0 σ c1 c2 c3 c4 c5 cl_0 hσ h).weak (w_k (w_k (w_k (w_k (w_k (w_k (w_k (w_d (w_d w_n)))))))))
set_option maxHeartbeats 4000000 in
set_option maxRecDepth 100000 in
theorem t_X12_casesWith_b66 (E : Ev p s m args meth c cX12_casesWith 9 RX12 A0 D cA ad NR Z) (hr : meth.sig.returnType = (some .int)) {K6 : Int → Int → Int → Int → Int → St → Prop} (hK6 : ∀ (x1 : Int) (x2 : Int) (x3 : Int) (x4 : Int) (x5 : Int) (σ : St), C32 x1 → C32 x2 → C32 x3 → C32 x4 → C32 x5 → CanS shR NR σ → K6 x1 x2 x3 x4 x5 σ → G p l e (rmL 3 0 0) s m args below meth c 9 A0 D cA ad shR NR 0 0 (MQ below (QIc D cA ad shR NR Q A0) args s 0 0 A0) σ 6 [some (.ref (ad 0)), some (vI x1), some (vI x2), some (vI x3), some (vI x4), some (vI x5), none, none, none] []) (x1 : Int) (x2 : Int) (x3 : Int) (x5 : Int) (s0 : Int) (s1 : Int) (σ : St) (c1 : C32 x1) (c2 : C32 x2) (c3 : C32 x3) (c5 : C32 x5) (cs0 : C32 s0) (cs1 : C32 s1) (hσ : CanS shR NR σ) (h : wp_X12_casesWith_b66 Q K6 x1 x2 x3 x5 s0 s1 σ) : G p l e (rmL 3 0 0) s m args below meth c 9 A0 D cA ad shR NR 0 0 (MQ below (QIc D cA ad shR NR Q A0) args s 0 0 A0) σ 66 [some (.ref (ad 0)), some (vI x1), some (vI x2), some (vI x3), none, some (vI x5), none, none, none] [vI s0, vI s1] := by
  unfold wp_X12_casesWith_b66 at h
  refine g_iadd E dX12_casesWith_66 ?_
  refine g_nmI (fun v5 ev5 => ?_)
  replace h := h v5 ev5
  have cv5 : C32 v5 := by rw [ev5]; exact (c32_w _)
  refine g_istore_4 E rfl (by decide) dX12_casesWith_67 ?_
  exact (t_X12_casesWith_b69 E hr hK6 x1 x2 x3 v5 x5 σ c1 c2 c3 cv5 c5 hσ h).weak (w_k (w_k (w_k (w_k (w_k (w_k (w_d (w_d (w_d w_n)))))))))
set_option maxHeartbeats 4000000 in
set_option maxRecDepth 100000 in
theorem t_X12_casesWith_b65 (E : Ev p s m args meth c cX12_casesWith 9 RX12 A0 D cA ad NR Z) (hr : meth.sig.returnType = (some .int)) {K6 : Int → Int → Int → Int → Int → St → Prop} (hK6 : ∀ (x1 : Int) (x2 : Int) (x3 : Int) (x4 : Int) (x5 : Int) (σ : St), C32 x1 → C32 x2 → C32 x3 → C32 x4 → C32 x5 → CanS shR NR σ → K6 x1 x2 x3 x4 x5 σ → G p l e (rmL 3 0 0) s m args below meth c 9 A0 D cA ad shR NR 0 0 (MQ below (QIc D cA ad shR NR Q A0) args s 0 0 A0) σ 6 [some (.ref (ad 0)), some (vI x1), some (vI x2), some (vI x3), some (vI x4), some (vI x5), none, none, none] []) (x1 : Int) (x2 : Int) (x3 : Int) (x5 : Int) (s0 : Int) (σ : St) (c1 : C32 x1) (c2 : C32 x2) (c3 : C32 x3) (c5 : C32 x5) (cs0 : C32 s0) (hσ : CanS shR NR σ) (h : wp_X12_casesWith_b65 Q K6 x1 x2 x3 x5 s0 σ) : G p l e (rmL 3 0 0) s m args below meth c 9 A0 D cA ad shR NR 0 0 (MQ below (QIc D cA ad shR NR Q A0) args s 0 0 A0) σ 65 [some (.ref (ad 0)), some (vI x1), some (vI x2), some (vI x3), none, some (vI x5), none, none, none] [vI s0] := by
  unfold wp_X12_casesWith_b65 at h
  refine g_iconst E dX12_casesWith_65 ?_
  exact (t_X12_casesWith_b66 E hr hK6 x1 x2 x3 x5 0 s0 σ c1 c2 c3 c5 cl_0 cs0 hσ h).weak (w_k (w_k (w_k (w_k (w_d (w_k (w_d (w_d (w_d w_n)))))))))
set_option maxHeartbeats 4000000 in
set_option maxRecDepth 100000 in
theorem t_X12_casesWith_l6 (E : Ev p s m args meth c cX12_casesWith 9 RX12 A0 D cA ad NR Z) (hr : meth.sig.returnType = (some .int)) : ∀ (n : Nat) (x1 : Int) (x2 : Int) (x3 : Int) (x4 : Int) (x5 : Int) (σ : St), C32 x1 → C32 x2 → C32 x3 → C32 x4 → C32 x5 → CanS shR NR σ → wp_X12_casesWith_l6 Q n x1 x2 x3 x4 x5 σ → G p l e (rmL 3 0 0) s m args below meth c 9 A0 D cA ad shR NR 0 0 (MQ below (QIc D cA ad shR NR Q A0) args s 0 0 A0) σ 6 [some (.ref (ad 0)), some (vI x1), some (vI x2), some (vI x3), some (vI x4), some (vI x5), none, none, none] [] := by
  intro n
  induction n with
  | zero => intro _ _ _ _ _ _ _ _ _ _ _ _ h; exact h.elim
  | succ n ih =>
    intro x1 x2 x3 x4 x5 σ c1 c2 c3 c4 c5 hσ h
    unfold wp_X12_casesWith_l6 at h
    refine g_iload_5 E dX12_casesWith_6 ?_
    refine g_aload_0 E dX12_casesWith_8 ?_
    refine g_getI E fl_RX12_252 kR_0 sR_0 rfl dX12_casesWith_9 ?_
    refine g_icmp_ge E c5 (fR_0_1 hσ) djX12_casesWith_12 (fun hc => ?_) (fun hc => ?_)
    · replace h := h.1 hc
      refine g_iload_4 E dX12_casesWith_235 ?_
      exact g_iret E hr c4 h hσ dX12_casesWith_237
    · replace h := h.2 hc
      refine g_aload_0 E dX12_casesWith_15 ?_
      refine g_iload_5 E dX12_casesWith_16 ?_
      refine g_callvI E my_X12_isIn mi_X12_isIn msel_X12_isIn ml_RX12_298 (rm_ok (by decide) (by decide)) ⟨Nat.zero_le _, Nat.zero_le _⟩ kR_0 sR_0 rfl (m_X12_isIn E.2.2.1 c5 hσ h) rfl rfl (Nat.le_of_ble_eq_true rfl) dX12_casesWith_18 (fun r1 σ2 cr1 hσ2 h => ?_)
      refine g_if_ne E cr1 djX12_casesWith_21 (fun hc => ?_) (fun hc => ?_)
      · replace h := h.1 hc
        refine g_aload_0 E dX12_casesWith_27 ?_
        refine g_getR E fl_RX12_20 kR_0 sR_0 rfl dX12_casesWith_28 ?_
        refine g_iload_5 E dX12_casesWith_31 ?_
        refine g_iald E kR_3 sR_3 (by decide) h.1 dX12_casesWith_33 ?_
        replace h := h.2
        refine g_iconst E dX12_casesWith_34 ?_
        refine g_icmp_ne E (aR_3 hσ2 _) cl_m1 djX12_casesWith_35 (fun hc => ?_) (fun hc => ?_)
        · replace h := h.1 hc
          exact (t_X12_casesWith_b69 E hr ih x1 x2 x3 x4 x5 σ2 c1 c2 c3 c4 c5 hσ2 h).weak (w_k (w_k (w_k (w_k (w_k (w_k (w_d (w_d (w_d w_n)))))))))
        · replace h := h.2 hc
          refine g_iload_4 E dX12_casesWith_38 ?_
          refine g_aload_0 E dX12_casesWith_40 ?_
          refine g_getR E fl_RX12_17 kR_0 sR_0 rfl dX12_casesWith_41 ?_
          refine g_iload_5 E dX12_casesWith_44 ?_
          refine g_iald E kR_2 sR_2 (by decide) h.1 dX12_casesWith_46 ?_
          replace h := h.2
          refine g_iload_1 E dX12_casesWith_47 ?_
          refine g_icmp_ne E (aR_2 hσ2 _) c1 djX12_casesWith_48 (fun hc => ?_) (fun hc => ?_)
          · replace h := h.1 hc
            exact (t_X12_casesWith_b65 E hr ih x1 x2 x3 x5 x4 σ2 c1 c2 c3 c5 c4 hσ2 h).weak (w_k (w_k (w_k (w_k (w_d (w_k (w_d (w_d (w_d w_n)))))))))
          · replace h := h.2 hc
            refine g_aload_0 E dX12_casesWith_51 ?_
            refine g_iload_1 E dX12_casesWith_52 ?_
            refine g_iload_2 E dX12_casesWith_53 ?_
            refine g_iload_3 E dX12_casesWith_54 ?_
            refine g_callvI E my_X12_has mi_X12_has msel_X12_has ml_RX12_324 (rm_ok (by decide) (by decide)) ⟨Nat.zero_le _, Nat.zero_le _⟩ kR_0 sR_0 rfl (m_X12_has E.2.2.1 c1 c2 c3 hσ2 h) rfl rfl (Nat.le_of_ble_eq_true rfl) dX12_casesWith_55 (fun r3 σ4 cr3 hσ4 h => ?_)
            refine g_if_eq E cr3 djX12_casesWith_58 (fun hc => ?_) (fun hc => ?_)
            · replace h := h.1 hc
              exact (t_X12_casesWith_b65 E hr ih x1 x2 x3 x5 x4 σ4 c1 c2 c3 c5 c4 hσ4 h).weak (w_k (w_k (w_k (w_k (w_d (w_k (w_d (w_d (w_d w_n)))))))))
            · replace h := h.2 hc
              refine g_iconst E dX12_casesWith_61 ?_
              refine g_goto E djX12_casesWith_62 ?_
              exact (t_X12_casesWith_b66 E hr ih x1 x2 x3 x5 1 x4 σ4 c1 c2 c3 c5 cl_1 c4 hσ4 h).weak (w_k (w_k (w_k (w_k (w_d (w_k (w_d (w_d (w_d w_n)))))))))
      · replace h := h.2 hc
        refine g_goto E djX12_casesWith_24 ?_
        exact (t_X12_casesWith_b229 E hr ih x1 x2 x3 x4 x5 σ2 c1 c2 c3 c4 c5 hσ2 h).weak (w_k (w_k (w_k (w_k (w_k (w_k (w_d (w_d (w_d w_n)))))))))
set_option maxHeartbeats 4000000 in
set_option maxRecDepth 100000 in
theorem t_X12_casesWith (E : Ev p s m args meth c cX12_casesWith 9 RX12 A0 D cA ad NR Z) (hr : meth.sig.returnType = (some .int)) (x1 : Int) (x2 : Int) (x3 : Int) (σ : St) (c1 : C32 x1) (c2 : C32 x2) (c3 : C32 x3) (hσ : CanS shR NR σ) (h : wp_X12_casesWith x1 x2 x3 σ Q) : G p l e (rmL 3 0 0) s m args below meth c 9 A0 D cA ad shR NR 0 0 (MQ below (QIc D cA ad shR NR Q A0) args s 0 0 A0) σ 0 [some (.ref (ad 0)), some (vI x1), some (vI x2), some (vI x3), none, none, none, none, none] [] := by
  unfold wp_X12_casesWith at h
  refine g_iconst E dX12_casesWith_0 ?_
  refine g_istore_4 E rfl (by decide) dX12_casesWith_1 ?_
  refine g_iconst E dX12_casesWith_3 ?_
  refine g_istore_5 E rfl (by decide) dX12_casesWith_4 ?_
  exact (t_X12_casesWith_l6 E hr bigN x1 x2 x3 0 0 σ c1 c2 c3 cl_0 cl_0 hσ h).weak (w_k (w_k (w_k (w_k (w_k (w_k (w_d (w_d (w_d w_n)))))))))
end
theorem m_X12_casesWith {Z : (Nat → Nat) × (Nat → Nat)} {l : Launch} {D : va_G} {cA : Nat → ClassId} {ad : Nat → Nat} {x1 x2 x3 : Int} {σ : St} {Q : Int → St → Prop} (hA : AdOk NR ad) (c1 : C32 x1) (c2 : C32 x2) (c3 : C32 x3) (hσ : CanS shR NR σ) (h : wp_X12_casesWith x1 x2 x3 σ Q) : KtI Z l D cA ad shR NR yX12_casesWith cX12_casesWith 9 (some .int) 3 [.ref (ad 0), vI x1, vI x2, vI x3] σ Q :=
  KtI.of my_X12_casesWith hA [some (.ref (ad 0)), some (vI x1), some (vI x2), some (vI x3), none, none, none, none, none] (Nat.le_of_ble_eq_true rfl) rfl (fun p e s m args below meth c A0 E hr => t_X12_casesWith E hr x1 x2 x3 σ c1 c2 c3 hσ h)
