theorem dX3_putInBase_0 : Dc cX3_putInBase 0 (.iload_n 1) 1 1 := ⟨by decide +kernel, rfl⟩
theorem dX3_putInBase_1 : Dc cX3_putInBase 1 (.bipush 16) 2 3 := ⟨by decide +kernel, rfl⟩
theorem dX3_putInBase_3 : Dc cX3_putInBase 3 (.imul) 1 4 := ⟨by decide +kernel, rfl⟩
theorem dX3_putInBase_4 : Dc cX3_putInBase 4 (.istore 5) 2 6 := ⟨by decide +kernel, rfl⟩
theorem dX3_putInBase_6 : Dc cX3_putInBase 6 (.iload 5) 2 8 := ⟨by decide +kernel, rfl⟩
theorem dX3_putInBase_8 : Dc cX3_putInBase 8 (.aload_n 0) 1 9 := ⟨by decide +kernel, rfl⟩
theorem dX3_putInBase_9 : Dc cX3_putInBase 9 (.getfield 52) 3 12 := ⟨by decide +kernel, rfl⟩
theorem dX3_putInBase_12 : Dc cX3_putInBase 12 (.iload_n 1) 1 13 := ⟨by decide +kernel, rfl⟩
theorem dX3_putInBase_13 : Dc cX3_putInBase 13 (.iaload) 1 14 := ⟨by decide +kernel, rfl⟩
theorem dX3_putInBase_14 : Dc cX3_putInBase 14 (.iadd) 1 15 := ⟨by decide +kernel, rfl⟩
theorem dX3_putInBase_15 : Dc cX3_putInBase 15 (.istore 6) 2 17 := ⟨by decide +kernel, rfl⟩
theorem dX3_putInBase_17 : Dc cX3_putInBase 17 (.iload 6) 2 19 := ⟨by decide +kernel, rfl⟩
theorem dX3_putInBase_19 : Dc cX3_putInBase 19 (.iload 5) 2 21 := ⟨by decide +kernel, rfl⟩
theorem djX3_putInBase_21 : Dj cX3_putInBase 21 (.if_icmp .le 22) 3 24 22 43 := ⟨by decide +kernel, rfl, by decide⟩
theorem dX3_putInBase_24 : Dc cX3_putInBase 24 (.aload_n 0) 1 25 := ⟨by decide +kernel, rfl⟩
theorem dX3_putInBase_25 : Dc cX3_putInBase 25 (.getfield 43) 3 28 := ⟨by decide +kernel, rfl⟩
theorem dX3_putInBase_28 : Dc cX3_putInBase 28 (.iload 6) 2 30 := ⟨by decide +kernel, rfl⟩
theorem dX3_putInBase_30 : Dc cX3_putInBase 30 (.iconst 1) 1 31 := ⟨by decide +kernel, rfl⟩
theorem dX3_putInBase_31 : Dc cX3_putInBase 31 (.isub) 1 32 := ⟨by decide +kernel, rfl⟩
theorem dX3_putInBase_32 : Dc cX3_putInBase 32 (.iaload) 1 33 := ⟨by decide +kernel, rfl⟩
theorem dX3_putInBase_33 : Dc cX3_putInBase 33 (.iload_n 2) 1 34 := ⟨by decide +kernel, rfl⟩
theorem djX3_putInBase_34 : Dj cX3_putInBase 34 (.if_icmp .le 9) 3 37 9 43 := ⟨by decide +kernel, rfl, by decide⟩
theorem dX3_putInBase_37 : Dc cX3_putInBase 37 (.iinc 6 (-1)) 3 40 := ⟨by decide +kernel, rfl⟩
theorem djX3_putInBase_40 : Dj cX3_putInBase 40 (.goto (-23)) 3 43 (-23) 17 := ⟨by decide +kernel, rfl, by decide⟩
theorem dX3_putInBase_43 : Dc cX3_putInBase 43 (.iload 6) 2 45 := ⟨by decide +kernel, rfl⟩
theorem dX3_putInBase_45 : Dc cX3_putInBase 45 (.iload 5) 2 47 := ⟨by decide +kernel, rfl⟩
theorem djX3_putInBase_47 : Dj cX3_putInBase 47 (.if_icmp .le 50) 3 50 50 97 := ⟨by decide +kernel, rfl, by decide⟩
theorem dX3_putInBase_50 : Dc cX3_putInBase 50 (.aload_n 0) 1 51 := ⟨by decide +kernel, rfl⟩
theorem dX3_putInBase_51 : Dc cX3_putInBase 51 (.getfield 43) 3 54 := ⟨by decide +kernel, rfl⟩
theorem dX3_putInBase_54 : Dc cX3_putInBase 54 (.iload 6) 2 56 := ⟨by decide +kernel, rfl⟩
theorem dX3_putInBase_56 : Dc cX3_putInBase 56 (.iconst 1) 1 57 := ⟨by decide +kernel, rfl⟩
theorem dX3_putInBase_57 : Dc cX3_putInBase 57 (.isub) 1 58 := ⟨by decide +kernel, rfl⟩
theorem dX3_putInBase_58 : Dc cX3_putInBase 58 (.iaload) 1 59 := ⟨by decide +kernel, rfl⟩
theorem dX3_putInBase_59 : Dc cX3_putInBase 59 (.iload_n 2) 1 60 := ⟨by decide +kernel, rfl⟩
theorem djX3_putInBase_60 : Dj cX3_putInBase 60 (.if_icmp .ne 37) 3 63 37 97 := ⟨by decide +kernel, rfl, by decide⟩
theorem dX3_putInBase_63 : Dc cX3_putInBase 63 (.aload_n 0) 1 64 := ⟨by decide +kernel, rfl⟩
theorem dX3_putInBase_64 : Dc cX3_putInBase 64 (.iload_n 3) 1 65 := ⟨by decide +kernel, rfl⟩
theorem dX3_putInBase_65 : Dc cX3_putInBase 65 (.iload 4) 2 67 := ⟨by decide +kernel, rfl⟩
theorem dX3_putInBase_67 : Dc cX3_putInBase 67 (.aload_n 0) 1 68 := ⟨by decide +kernel, rfl⟩
theorem dX3_putInBase_68 : Dc cX3_putInBase 68 (.getfield 46) 3 71 := ⟨by decide +kernel, rfl⟩
theorem dX3_putInBase_71 : Dc cX3_putInBase 71 (.iload 6) 2 73 := ⟨by decide +kernel, rfl⟩
theorem dX3_putInBase_73 : Dc cX3_putInBase 73 (.iconst 1) 1 74 := ⟨by decide +kernel, rfl⟩
theorem dX3_putInBase_74 : Dc cX3_putInBase 74 (.isub) 1 75 := ⟨by decide +kernel, rfl⟩
theorem dX3_putInBase_75 : Dc cX3_putInBase 75 (.iaload) 1 76 := ⟨by decide +kernel, rfl⟩
theorem dX3_putInBase_76 : Dc cX3_putInBase 76 (.aload_n 0) 1 77 := ⟨by decide +kernel, rfl⟩
theorem dX3_putInBase_77 : Dc cX3_putInBase 77 (.getfield 49) 3 80 := ⟨by decide +kernel, rfl⟩
theorem dX3_putInBase_80 : Dc cX3_putInBase 80 (.iload 6) 2 82 := ⟨by decide +kernel, rfl⟩
theorem dX3_putInBase_82 : Dc cX3_putInBase 82 (.iconst 1) 1 83 := ⟨by decide +kernel, rfl⟩
theorem dX3_putInBase_83 : Dc cX3_putInBase 83 (.isub) 1 84 := ⟨by decide +kernel, rfl⟩
theorem dX3_putInBase_84 : Dc cX3_putInBase 84 (.iaload) 1 85 := ⟨by decide +kernel, rfl⟩
theorem dX3_putInBase_85 : Dc cX3_putInBase 85 (.invokevirtual 138) 3 88 := ⟨by decide +kernel, rfl⟩
theorem djX3_putInBase_88 : Dj cX3_putInBase 88 (.ifCond .eq 9) 3 91 9 97 := ⟨by decide +kernel, rfl, by decide⟩
theorem dX3_putInBase_91 : Dc cX3_putInBase 91 (.iinc 6 (-1)) 3 94 := ⟨by decide +kernel, rfl⟩
theorem djX3_putInBase_94 : Dj cX3_putInBase 94 (.goto (-51)) 3 97 (-51) 43 := ⟨by decide +kernel, rfl, by decide⟩
theorem dX3_putInBase_97 : Dc cX3_putInBase 97 (.iload 6) 2 99 := ⟨by decide +kernel, rfl⟩
theorem dX3_putInBase_99 : Dc cX3_putInBase 99 (.iload 5) 2 101 := ⟨by decide +kernel, rfl⟩
theorem dX3_putInBase_101 : Dc cX3_putInBase 101 (.bipush 16) 2 103 := ⟨by decide +kernel, rfl⟩
theorem dX3_putInBase_103 : Dc cX3_putInBase 103 (.iadd) 1 104 := ⟨by decide +kernel, rfl⟩
theorem djX3_putInBase_104 : Dj cX3_putInBase 104 (.if_icmp .lt 5) 3 107 5 109 := ⟨by decide +kernel, rfl, by decide⟩
theorem dX3_putInBase_107 : Dc cX3_putInBase 107 (.iconst 0) 1 108 := ⟨by decide +kernel, rfl⟩
theorem dX3_putInBase_108 : Dc cX3_putInBase 108 (.ireturn) 1 109 := ⟨by decide +kernel, rfl⟩
theorem dX3_putInBase_109 : Dc cX3_putInBase 109 (.iload 5) 2 111 := ⟨by decide +kernel, rfl⟩
theorem dX3_putInBase_111 : Dc cX3_putInBase 111 (.aload_n 0) 1 112 := ⟨by decide +kernel, rfl⟩
theorem dX3_putInBase_112 : Dc cX3_putInBase 112 (.getfield 52) 3 115 := ⟨by decide +kernel, rfl⟩
theorem dX3_putInBase_115 : Dc cX3_putInBase 115 (.iload_n 1) 1 116 := ⟨by decide +kernel, rfl⟩
theorem dX3_putInBase_116 : Dc cX3_putInBase 116 (.iaload) 1 117 := ⟨by decide +kernel, rfl⟩
theorem dX3_putInBase_117 : Dc cX3_putInBase 117 (.bipush 15) 2 119 := ⟨by decide +kernel, rfl⟩
theorem dX3_putInBase_119 : Dc cX3_putInBase 119 (.invokestatic 141) 3 122 := ⟨by decide +kernel, rfl⟩
theorem dX3_putInBase_122 : Dc cX3_putInBase 122 (.iadd) 1 123 := ⟨by decide +kernel, rfl⟩
theorem dX3_putInBase_123 : Dc cX3_putInBase 123 (.istore 7) 2 125 := ⟨by decide +kernel, rfl⟩
theorem dX3_putInBase_125 : Dc cX3_putInBase 125 (.iload 7) 2 127 := ⟨by decide +kernel, rfl⟩
theorem dX3_putInBase_127 : Dc cX3_putInBase 127 (.istore 8) 2 129 := ⟨by decide +kernel, rfl⟩
theorem dX3_putInBase_129 : Dc cX3_putInBase 129 (.iload 8) 2 131 := ⟨by decide +kernel, rfl⟩
theorem dX3_putInBase_131 : Dc cX3_putInBase 131 (.iload 6) 2 133 := ⟨by decide +kernel, rfl⟩
theorem djX3_putInBase_133 : Dj cX3_putInBase 133 (.if_icmp .le 57) 3 136 57 190 := ⟨by decide +kernel, rfl, by decide⟩
theorem dX3_putInBase_136 : Dc cX3_putInBase 136 (.aload_n 0) 1 137 := ⟨by decide +kernel, rfl⟩
theorem dX3_putInBase_137 : Dc cX3_putInBase 137 (.getfield 43) 3 140 := ⟨by decide +kernel, rfl⟩
theorem dX3_putInBase_140 : Dc cX3_putInBase 140 (.iload 8) 2 142 := ⟨by decide +kernel, rfl⟩
theorem dX3_putInBase_142 : Dc cX3_putInBase 142 (.aload_n 0) 1 143 := ⟨by decide +kernel, rfl⟩
theorem dX3_putInBase_143 : Dc cX3_putInBase 143 (.getfield 43) 3 146 := ⟨by decide +kernel, rfl⟩
theorem dX3_putInBase_146 : Dc cX3_putInBase 146 (.iload 8) 2 148 := ⟨by decide +kernel, rfl⟩
theorem dX3_putInBase_148 : Dc cX3_putInBase 148 (.iconst 1) 1 149 := ⟨by decide +kernel, rfl⟩
theorem dX3_putInBase_149 : Dc cX3_putInBase 149 (.isub) 1 150 := ⟨by decide +kernel, rfl⟩
theorem dX3_putInBase_150 : Dc cX3_putInBase 150 (.iaload) 1 151 := ⟨by decide +kernel, rfl⟩
theorem dX3_putInBase_151 : Dc cX3_putInBase 151 (.iastore) 1 152 := ⟨by decide +kernel, rfl⟩
theorem dX3_putInBase_152 : Dc cX3_putInBase 152 (.aload_n 0) 1 153 := ⟨by decide +kernel, rfl⟩
theorem dX3_putInBase_153 : Dc cX3_putInBase 153 (.getfield 46) 3 156 := ⟨by decide +kernel, rfl⟩
theorem dX3_putInBase_156 : Dc cX3_putInBase 156 (.iload 8) 2 158 := ⟨by decide +kernel, rfl⟩
theorem dX3_putInBase_158 : Dc cX3_putInBase 158 (.aload_n 0) 1 159 := ⟨by decide +kernel, rfl⟩
theorem dX3_putInBase_159 : Dc cX3_putInBase 159 (.getfield 46) 3 162 := ⟨by decide +kernel, rfl⟩
theorem dX3_putInBase_162 : Dc cX3_putInBase 162 (.iload 8) 2 164 := ⟨by decide +kernel, rfl⟩
theorem dX3_putInBase_164 : Dc cX3_putInBase 164 (.iconst 1) 1 165 := ⟨by decide +kernel, rfl⟩
theorem dX3_putInBase_165 : Dc cX3_putInBase 165 (.isub) 1 166 := ⟨by decide +kernel, rfl⟩
theorem dX3_putInBase_166 : Dc cX3_putInBase 166 (.iaload) 1 167 := ⟨by decide +kernel, rfl⟩
theorem dX3_putInBase_167 : Dc cX3_putInBase 167 (.iastore) 1 168 := ⟨by decide +kernel, rfl⟩
theorem dX3_putInBase_168 : Dc cX3_putInBase 168 (.aload_n 0) 1 169 := ⟨by decide +kernel, rfl⟩
theorem dX3_putInBase_169 : Dc cX3_putInBase 169 (.getfield 49) 3 172 := ⟨by decide +kernel, rfl⟩
theorem dX3_putInBase_172 : Dc cX3_putInBase 172 (.iload 8) 2 174 := ⟨by decide +kernel, rfl⟩
theorem dX3_putInBase_174 : Dc cX3_putInBase 174 (.aload_n 0) 1 175 := ⟨by decide +kernel, rfl⟩
theorem dX3_putInBase_175 : Dc cX3_putInBase 175 (.getfield 49) 3 178 := ⟨by decide +kernel, rfl⟩
theorem dX3_putInBase_178 : Dc cX3_putInBase 178 (.iload 8) 2 180 := ⟨by decide +kernel, rfl⟩
theorem dX3_putInBase_180 : Dc cX3_putInBase 180 (.iconst 1) 1 181 := ⟨by decide +kernel, rfl⟩
theorem dX3_putInBase_181 : Dc cX3_putInBase 181 (.isub) 1 182 := ⟨by decide +kernel, rfl⟩
theorem dX3_putInBase_182 : Dc cX3_putInBase 182 (.iaload) 1 183 := ⟨by decide +kernel, rfl⟩
theorem dX3_putInBase_183 : Dc cX3_putInBase 183 (.iastore) 1 184 := ⟨by decide +kernel, rfl⟩
theorem dX3_putInBase_184 : Dc cX3_putInBase 184 (.iinc 8 (-1)) 3 187 := ⟨by decide +kernel, rfl⟩
theorem djX3_putInBase_187 : Dj cX3_putInBase 187 (.goto (-58)) 3 190 (-58) 129 := ⟨by decide +kernel, rfl, by decide⟩
theorem dX3_putInBase_190 : Dc cX3_putInBase 190 (.aload_n 0) 1 191 := ⟨by decide +kernel, rfl⟩
theorem dX3_putInBase_191 : Dc cX3_putInBase 191 (.getfield 43) 3 194 := ⟨by decide +kernel, rfl⟩
theorem dX3_putInBase_194 : Dc cX3_putInBase 194 (.iload 6) 2 196 := ⟨by decide +kernel, rfl⟩
theorem dX3_putInBase_196 : Dc cX3_putInBase 196 (.iload_n 2) 1 197 := ⟨by decide +kernel, rfl⟩
theorem dX3_putInBase_197 : Dc cX3_putInBase 197 (.iastore) 1 198 := ⟨by decide +kernel, rfl⟩
theorem dX3_putInBase_198 : Dc cX3_putInBase 198 (.aload_n 0) 1 199 := ⟨by decide +kernel, rfl⟩
theorem dX3_putInBase_199 : Dc cX3_putInBase 199 (.getfield 46) 3 202 := ⟨by decide +kernel, rfl⟩
theorem dX3_putInBase_202 : Dc cX3_putInBase 202 (.iload 6) 2 204 := ⟨by decide +kernel, rfl⟩
theorem dX3_putInBase_204 : Dc cX3_putInBase 204 (.iload_n 3) 1 205 := ⟨by decide +kernel, rfl⟩
theorem dX3_putInBase_205 : Dc cX3_putInBase 205 (.iastore) 1 206 := ⟨by decide +kernel, rfl⟩
theorem dX3_putInBase_206 : Dc cX3_putInBase 206 (.aload_n 0) 1 207 := ⟨by decide +kernel, rfl⟩
theorem dX3_putInBase_207 : Dc cX3_putInBase 207 (.getfield 49) 3 210 := ⟨by decide +kernel, rfl⟩
theorem dX3_putInBase_210 : Dc cX3_putInBase 210 (.iload 6) 2 212 := ⟨by decide +kernel, rfl⟩
theorem dX3_putInBase_212 : Dc cX3_putInBase 212 (.iload 4) 2 214 := ⟨by decide +kernel, rfl⟩
theorem dX3_putInBase_214 : Dc cX3_putInBase 214 (.iastore) 1 215 := ⟨by decide +kernel, rfl⟩
theorem dX3_putInBase_215 : Dc cX3_putInBase 215 (.aload_n 0) 1 216 := ⟨by decide +kernel, rfl⟩
theorem dX3_putInBase_216 : Dc cX3_putInBase 216 (.getfield 52) 3 219 := ⟨by decide +kernel, rfl⟩
theorem dX3_putInBase_219 : Dc cX3_putInBase 219 (.iload_n 1) 1 220 := ⟨by decide +kernel, rfl⟩
theorem dX3_putInBase_220 : Dc cX3_putInBase 220 (.iload 7) 2 222 := ⟨by decide +kernel, rfl⟩
theorem dX3_putInBase_222 : Dc cX3_putInBase 222 (.iload 5) 2 224 := ⟨by decide +kernel, rfl⟩
theorem dX3_putInBase_224 : Dc cX3_putInBase 224 (.isub) 1 225 := ⟨by decide +kernel, rfl⟩
theorem dX3_putInBase_225 : Dc cX3_putInBase 225 (.iconst 1) 1 226 := ⟨by decide +kernel, rfl⟩
theorem dX3_putInBase_226 : Dc cX3_putInBase 226 (.iadd) 1 227 := ⟨by decide +kernel, rfl⟩
theorem dX3_putInBase_227 : Dc cX3_putInBase 227 (.iastore) 1 228 := ⟨by decide +kernel, rfl⟩
theorem dX3_putInBase_228 : Dc cX3_putInBase 228 (.iconst 1) 1 229 := ⟨by decide +kernel, rfl⟩
theorem dX3_putInBase_229 : Dc cX3_putInBase 229 (.ireturn) 1 230 := ⟨by decide +kernel, rfl⟩
section
variable {p : Program} {l : Launch} {e : Env} {s : State} {m : MethodId} {args : Array Value} {below : List Frame} {meth : Method} {c : Code} {A0 : Nat → Prop} {D : va_G} {cA : Nat → ClassId} {ad : Nat → Nat} {Z : (Nat → Nat) × (Nat → Nat)} {Q : Int → St → Prop} {b : Bool}
set_option maxHeartbeats 4000000 in
set_option maxRecDepth 100000 in
theorem t_X3_putInBase_l129 (E : Ev p s m args meth c cX3_putInBase 9 RX3 A0 D cA ad (NC b) Z) (hr : meth.sig.returnType = (some .boolean)) : ∀ (n : Nat) (x1 : Int) (x2 : Int) (x3 : Int) (x4 : Int) (x5 : Int) (x6 : Int) (x7 : Int) (x8 : Int) (σ : St), C32 x1 → C32 x2 → C32 x3 → C32 x4 → C32 x5 → C32 x6 → C32 x7 → C32 x8 → CanS (shC b) (NC b) σ → wp_X3_putInBase_l129 Q n x1 x2 x3 x4 x5 x6 x7 x8 σ → G p l e (rmL 2 0 0) s m args below meth c 9 A0 D cA ad (shC b) (NC b) 0 0 (MQ below (QIc D cA ad (shC b) (NC b) Q A0) args s 0 0 A0) σ 129 [some (.ref (ad 54)), some (vI x1), some (vI x2), some (vI x3), some (vI x4), some (vI x5), some (vI x6), some (vI x7), some (vI x8)] [] := by
  intro n
  induction n with
  | zero => intro _ _ _ _ _ _ _ _ _ _ _ _ _ _ _ _ _ _ h; exact h.elim
  | succ n ih =>
    intro x1 x2 x3 x4 x5 x6 x7 x8 σ c1 c2 c3 c4 c5 c6 c7 c8 hσ h
    unfold wp_X3_putInBase_l129 at h
    refine g_iload_8 E dX3_putInBase_129 ?_
    refine g_iload_6 E dX3_putInBase_131 ?_
    refine g_icmp_le E c8 c6 djX3_putInBase_133 (fun hc => ?_) (fun hc => ?_)
    · replace h := h.1 hc
      refine g_aload_0 E dX3_putInBase_190 ?_
      refine g_getR E fl_RX3_43 (kC_54 b) (sC_54 b) rfl dX3_putInBase_191 ?_
      refine g_iload_6 E dX3_putInBase_194 ?_
      refine g_iload_2 E dX3_putInBase_196 ?_
      refine g_iast E (kC_61 b) (sC_61 b) (by decide) h.1 dX3_putInBase_197 (g_nmS (fun σ8 eσ8 => ?_))
      replace h := h.2 σ8 eσ8
      have hσ8 : CanS (shC b) (NC b) σ8 := by rw [eσ8]; exact wC_61 hσ c2
      refine g_aload_0 E dX3_putInBase_198 ?_
      refine g_getR E fl_RX3_46 (kC_54 b) (sC_54 b) rfl dX3_putInBase_199 ?_
      refine g_iload_6 E dX3_putInBase_202 ?_
      refine g_iload_3 E dX3_putInBase_204 ?_
      refine g_iast E (kC_62 b) (sC_62 b) (by decide) h.1 dX3_putInBase_205 (g_nmS (fun σ9 eσ9 => ?_))
      replace h := h.2 σ9 eσ9
      have hσ9 : CanS (shC b) (NC b) σ9 := by rw [eσ9]; exact wC_62 hσ8 c3
      refine g_aload_0 E dX3_putInBase_206 ?_
      refine g_getR E fl_RX3_49 (kC_54 b) (sC_54 b) rfl dX3_putInBase_207 ?_
      refine g_iload_6 E dX3_putInBase_210 ?_
      refine g_iload_4 E dX3_putInBase_212 ?_
      refine g_iast E (kC_63 b) (sC_63 b) (by decide) h.1 dX3_putInBase_214 (g_nmS (fun σ10 eσ10 => ?_))
      replace h := h.2 σ10 eσ10
      have hσ10 : CanS (shC b) (NC b) σ10 := by rw [eσ10]; exact wC_63 hσ9 c4
      refine g_aload_0 E dX3_putInBase_215 ?_
      refine g_getR E fl_RX3_52 (kC_54 b) (sC_54 b) rfl dX3_putInBase_216 ?_
      refine g_iload_1 E dX3_putInBase_219 ?_
      refine g_iload_7 E dX3_putInBase_220 ?_
      refine g_iload_5 E dX3_putInBase_222 ?_
      refine g_isub E dX3_putInBase_224 ?_
      refine g_iconst E dX3_putInBase_225 ?_
      refine g_iadd E dX3_putInBase_226 ?_
      refine g_iast E (kC_64 b) (sC_64 b) (by decide) h.1 dX3_putInBase_227 (g_nmS (fun σ11 eσ11 => ?_))
      replace h := h.2 σ11 eσ11
      have hσ11 : CanS (shC b) (NC b) σ11 := by rw [eσ11]; exact wC_64 hσ10 (c32_w _)
      refine g_iconst E dX3_putInBase_228 ?_
      exact g_zret E hr (Or.inr rfl) h hσ11 dX3_putInBase_229
    · replace h := h.2 hc
      refine g_aload_0 E dX3_putInBase_136 ?_
      refine g_getR E fl_RX3_43 (kC_54 b) (sC_54 b) rfl dX3_putInBase_137 ?_
      refine g_iload_8 E dX3_putInBase_140 ?_
      refine g_aload_0 E dX3_putInBase_142 ?_
      refine g_getR E fl_RX3_43 (kC_54 b) (sC_54 b) rfl dX3_putInBase_143 ?_
      refine g_iload_8 E dX3_putInBase_146 ?_
      refine g_iconst E dX3_putInBase_148 ?_
      refine g_isub E dX3_putInBase_149 ?_
      refine g_iald E (kC_61 b) (sC_61 b) (by decide) h.1 dX3_putInBase_150 ?_
      replace h := h.2
      refine g_iast E (kC_61 b) (sC_61 b) (by decide) h.1 dX3_putInBase_151 (g_nmS (fun σ12 eσ12 => ?_))
      replace h := h.2 σ12 eσ12
      have hσ12 : CanS (shC b) (NC b) σ12 := by rw [eσ12]; exact wC_61 hσ (aC_61 hσ _)
      refine g_aload_0 E dX3_putInBase_152 ?_
      refine g_getR E fl_RX3_46 (kC_54 b) (sC_54 b) rfl dX3_putInBase_153 ?_
      refine g_iload_8 E dX3_putInBase_156 ?_
      refine g_aload_0 E dX3_putInBase_158 ?_
      refine g_getR E fl_RX3_46 (kC_54 b) (sC_54 b) rfl dX3_putInBase_159 ?_
      refine g_iload_8 E dX3_putInBase_162 ?_
      refine g_iconst E dX3_putInBase_164 ?_
      refine g_isub E dX3_putInBase_165 ?_
      refine g_iald E (kC_62 b) (sC_62 b) (by decide) h.1 dX3_putInBase_166 ?_
      replace h := h.2
      refine g_iast E (kC_62 b) (sC_62 b) (by decide) h.1 dX3_putInBase_167 (g_nmS (fun σ13 eσ13 => ?_))
      replace h := h.2 σ13 eσ13
      have hσ13 : CanS (shC b) (NC b) σ13 := by rw [eσ13]; exact wC_62 hσ12 (aC_62 hσ12 _)
      refine g_aload_0 E dX3_putInBase_168 ?_
      refine g_getR E fl_RX3_49 (kC_54 b) (sC_54 b) rfl dX3_putInBase_169 ?_
      refine g_iload_8 E dX3_putInBase_172 ?_
      refine g_aload_0 E dX3_putInBase_174 ?_
      refine g_getR E fl_RX3_49 (kC_54 b) (sC_54 b) rfl dX3_putInBase_175 ?_
      refine g_iload_8 E dX3_putInBase_178 ?_
      refine g_iconst E dX3_putInBase_180 ?_
      refine g_isub E dX3_putInBase_181 ?_
      refine g_iald E (kC_63 b) (sC_63 b) (by decide) h.1 dX3_putInBase_182 ?_
      replace h := h.2
      refine g_iast E (kC_63 b) (sC_63 b) (by decide) h.1 dX3_putInBase_183 (g_nmS (fun σ14 eσ14 => ?_))
      replace h := h.2 σ14 eσ14
      have hσ14 : CanS (shC b) (NC b) σ14 := by rw [eσ14]; exact wC_63 hσ13 (aC_63 hσ13 _)
      refine g_iinc_8 E rfl (by decide) dX3_putInBase_184 (fun v15 ev15 => ?_)
      replace h := h v15 ev15
      have cv15 : C32 v15 := by rw [ev15]; exact c32_w _
      refine g_goto E djX3_putInBase_187 ?_
      exact (ih x1 x2 x3 x4 x5 x6 x7 v15 σ14 c1 c2 c3 c4 c5 c6 c7 cv15 hσ14 h).weak (w_k (w_k (w_k (w_k (w_k (w_k (w_k (w_k (w_k w_n)))))))))
set_option maxHeartbeats 4000000 in
set_option maxRecDepth 100000 in
theorem t_X3_putInBase_b97 (E : Ev p s m args meth c cX3_putInBase 9 RX3 A0 D cA ad (NC b) Z) (hr : meth.sig.returnType = (some .boolean)) (x1 : Int) (x2 : Int) (x3 : Int) (x4 : Int) (x5 : Int) (x6 : Int) (σ : St) (c1 : C32 x1) (c2 : C32 x2) (c3 : C32 x3) (c4 : C32 x4) (c5 : C32 x5) (c6 : C32 x6) (hσ : CanS (shC b) (NC b) σ) (h : wp_X3_putInBase_b97 Q x1 x2 x3 x4 x5 x6 σ) : G p l e (rmL 2 0 0) s m args below meth c 9 A0 D cA ad (shC b) (NC b) 0 0 (MQ below (QIc D cA ad (shC b) (NC b) Q A0) args s 0 0 A0) σ 97 [some (.ref (ad 54)), some (vI x1), some (vI x2), some (vI x3), some (vI x4), some (vI x5), some (vI x6), none, none] [] := by
  unfold wp_X3_putInBase_b97 at h
  refine g_iload_6 E dX3_putInBase_97 ?_
  refine g_iload_5 E dX3_putInBase_99 ?_
  refine g_bipush E (by decide) dX3_putInBase_101 ?_
  refine g_iadd E dX3_putInBase_103 ?_
  refine g_icmp_lt E c6 (c32_w _) djX3_putInBase_104 (fun hc => ?_) (fun hc => ?_)
  · replace h := h.1 hc
    refine g_iload_5 E dX3_putInBase_109 ?_
    refine g_aload_0 E dX3_putInBase_111 ?_
    refine g_getR E fl_RX3_52 (kC_54 b) (sC_54 b) rfl dX3_putInBase_112 ?_
    refine g_iload_1 E dX3_putInBase_115 ?_
    refine g_iald E (kC_64 b) (sC_64 b) (by decide) h.1 dX3_putInBase_116 ?_
    replace h := h.2
    refine g_bipush E (by decide) dX3_putInBase_117 ?_
    refine g_mmin E ml_RX3_141 (aC_64 hσ _) cl_15 (Nat.le_of_ble_eq_true rfl) (rm_1 2) ⟨Nat.zero_le _, Nat.zero_le _⟩ dX3_putInBase_119 ?_
    refine g_iadd E dX3_putInBase_122 ?_
    refine g_nmI (fun v7 ev7 => ?_)
    replace h := h v7 ev7
    have cv7 : C32 v7 := by rw [ev7]; exact (c32_w _)
    refine g_istore_7 E rfl (by decide) dX3_putInBase_123 ?_
    refine g_iload_7 E dX3_putInBase_125 ?_
    refine g_istore_8 E rfl (by decide) dX3_putInBase_127 ?_
    exact (t_X3_putInBase_l129 E hr bigN x1 x2 x3 x4 x5 x6 v7 v7 σ c1 c2 c3 c4 c5 c6 cv7 cv7 hσ h).weak (w_k (w_k (w_k (w_k (w_k (w_k (w_k (w_k (w_k w_n)))))))))
  · replace h := h.2 hc
    refine g_iconst E dX3_putInBase_107 ?_
    exact g_zret E hr (Or.inl rfl) h hσ dX3_putInBase_108
set_option maxHeartbeats 4000000 in
set_option maxRecDepth 100000 in
theorem t_X3_putInBase_l43 (E : Ev p s m args meth c cX3_putInBase 9 RX3 A0 D cA ad (NC b) Z) (hr : meth.sig.returnType = (some .boolean)) : ∀ (n : Nat) (x1 : Int) (x2 : Int) (x3 : Int) (x4 : Int) (x5 : Int) (x6 : Int) (σ : St), C32 x1 → C32 x2 → C32 x3 → C32 x4 → C32 x5 → C32 x6 → CanS (shC b) (NC b) σ → wp_X3_putInBase_l43 Q n x1 x2 x3 x4 x5 x6 σ → G p l e (rmL 2 0 0) s m args below meth c 9 A0 D cA ad (shC b) (NC b) 0 0 (MQ below (QIc D cA ad (shC b) (NC b) Q A0) args s 0 0 A0) σ 43 [some (.ref (ad 54)), some (vI x1), some (vI x2), some (vI x3), some (vI x4), some (vI x5), some (vI x6), none, none] [] := by
  intro n
  induction n with
  | zero => intro _ _ _ _ _ _ _ _ _ _ _ _ _ _ h; exact h.elim
  | succ n ih =>
    intro x1 x2 x3 x4 x5 x6 σ c1 c2 c3 c4 c5 c6 hσ h
    unfold wp_X3_putInBase_l43 at h
    refine g_iload_6 E dX3_putInBase_43 ?_
    refine g_iload_5 E dX3_putInBase_45 ?_
    refine g_icmp_le E c6 c5 djX3_putInBase_47 (fun hc => ?_) (fun hc => ?_)
    · replace h := h.1 hc
      exact (t_X3_putInBase_b97 E hr x1 x2 x3 x4 x5 x6 σ c1 c2 c3 c4 c5 c6 hσ h).weak (w_k (w_k (w_k (w_k (w_k (w_k (w_k (w_d (w_d w_n)))))))))
    · replace h := h.2 hc
      refine g_aload_0 E dX3_putInBase_50 ?_
      refine g_getR E fl_RX3_43 (kC_54 b) (sC_54 b) rfl dX3_putInBase_51 ?_
      refine g_iload_6 E dX3_putInBase_54 ?_
      refine g_iconst E dX3_putInBase_56 ?_
      refine g_isub E dX3_putInBase_57 ?_
      refine g_iald E (kC_61 b) (sC_61 b) (by decide) h.1 dX3_putInBase_58 ?_
      replace h := h.2
      refine g_iload_2 E dX3_putInBase_59 ?_
      refine g_icmp_ne E (aC_61 hσ _) c2 djX3_putInBase_60 (fun hc => ?_) (fun hc => ?_)
      · replace h := h.1 hc
        exact (t_X3_putInBase_b97 E hr x1 x2 x3 x4 x5 x6 σ c1 c2 c3 c4 c5 c6 hσ h).weak (w_k (w_k (w_k (w_k (w_k (w_k (w_k (w_d (w_d w_n)))))))))
      · replace h := h.2 hc
        refine g_aload_0 E dX3_putInBase_63 ?_
        refine g_iload_3 E dX3_putInBase_64 ?_
        refine g_iload_4 E dX3_putInBase_65 ?_
        refine g_aload_0 E dX3_putInBase_67 ?_
        refine g_getR E fl_RX3_46 (kC_54 b) (sC_54 b) rfl dX3_putInBase_68 ?_
        refine g_iload_6 E dX3_putInBase_71 ?_
        refine g_iconst E dX3_putInBase_73 ?_
        refine g_isub E dX3_putInBase_74 ?_
        refine g_iald E (kC_62 b) (sC_62 b) (by decide) h.1 dX3_putInBase_75 ?_
        replace h := h.2
        refine g_aload_0 E dX3_putInBase_76 ?_
        refine g_getR E fl_RX3_49 (kC_54 b) (sC_54 b) rfl dX3_putInBase_77 ?_
        refine g_iload_6 E dX3_putInBase_80 ?_
        refine g_iconst E dX3_putInBase_82 ?_
        refine g_isub E dX3_putInBase_83 ?_
        refine g_iald E (kC_63 b) (sC_63 b) (by decide) h.1 dX3_putInBase_84 ?_
        replace h := h.2
        refine g_callvI E my_X3_isSmaller mi_X3_isSmaller msel_X3_isSmaller ml_RX3_138 (rm_ok (by decide) (by decide)) ⟨Nat.zero_le _, Nat.zero_le _⟩ (kC_54 b) (sC_54 b) rfl (m_X3_isSmaller E.2.2.1 c3 c4 (aC_62 hσ _) (aC_63 hσ _) hσ h) rfl rfl (Nat.le_of_ble_eq_true rfl) dX3_putInBase_85 (fun r4 σ5 cr4 hσ5 h => ?_)
        refine g_if_eq E cr4 djX3_putInBase_88 (fun hc => ?_) (fun hc => ?_)
        · replace h := h.1 hc
          exact (t_X3_putInBase_b97 E hr x1 x2 x3 x4 x5 x6 σ5 c1 c2 c3 c4 c5 c6 hσ5 h).weak (w_k (w_k (w_k (w_k (w_k (w_k (w_k (w_d (w_d w_n)))))))))
        · replace h := h.2 hc
          refine g_iinc_6 E rfl (by decide) dX3_putInBase_91 (fun v6 ev6 => ?_)
          replace h := h v6 ev6
          have cv6 : C32 v6 := by rw [ev6]; exact c32_w _
          refine g_goto E djX3_putInBase_94 ?_
          exact (ih x1 x2 x3 x4 x5 v6 σ5 c1 c2 c3 c4 c5 cv6 hσ5 h).weak (w_k (w_k (w_k (w_k (w_k (w_k (w_k (w_d (w_d w_n)))))))))
set_option maxHeartbeats 4000000 in
set_option maxRecDepth 100000 in
theorem t_X3_putInBase_l17 (E : Ev p s m args meth c cX3_putInBase 9 RX3 A0 D cA ad (NC b) Z) (hr : meth.sig.returnType = (some .boolean)) : ∀ (n : Nat) (x1 : Int) (x2 : Int) (x3 : Int) (x4 : Int) (x5 : Int) (x6 : Int) (σ : St), C32 x1 → C32 x2 → C32 x3 → C32 x4 → C32 x5 → C32 x6 → CanS (shC b) (NC b) σ → wp_X3_putInBase_l17 Q n x1 x2 x3 x4 x5 x6 σ → G p l e (rmL 2 0 0) s m args below meth c 9 A0 D cA ad (shC b) (NC b) 0 0 (MQ below (QIc D cA ad (shC b) (NC b) Q A0) args s 0 0 A0) σ 17 [some (.ref (ad 54)), some (vI x1), some (vI x2), some (vI x3), some (vI x4), some (vI x5), some (vI x6), none, none] [] := by
  intro n
  induction n with
  | zero => intro _ _ _ _ _ _ _ _ _ _ _ _ _ _ h; exact h.elim
  | succ n ih =>
    intro x1 x2 x3 x4 x5 x6 σ c1 c2 c3 c4 c5 c6 hσ h
    unfold wp_X3_putInBase_l17 at h
    refine g_iload_6 E dX3_putInBase_17 ?_
    refine g_iload_5 E dX3_putInBase_19 ?_
    refine g_icmp_le E c6 c5 djX3_putInBase_21 (fun hc => ?_) (fun hc => ?_)
    · replace h := h.1 hc
      exact (t_X3_putInBase_l43 E hr bigN x1 x2 x3 x4 x5 x6 σ c1 c2 c3 c4 c5 c6 hσ h).weak (w_k (w_k (w_k (w_k (w_k (w_k (w_k (w_d (w_d w_n)))))))))
    · replace h := h.2 hc
      refine g_aload_0 E dX3_putInBase_24 ?_
      refine g_getR E fl_RX3_43 (kC_54 b) (sC_54 b) rfl dX3_putInBase_25 ?_
      refine g_iload_6 E dX3_putInBase_28 ?_
      refine g_iconst E dX3_putInBase_30 ?_
      refine g_isub E dX3_putInBase_31 ?_
      refine g_iald E (kC_61 b) (sC_61 b) (by decide) h.1 dX3_putInBase_32 ?_
      replace h := h.2
      refine g_iload_2 E dX3_putInBase_33 ?_
      refine g_icmp_le E (aC_61 hσ _) c2 djX3_putInBase_34 (fun hc => ?_) (fun hc => ?_)
      · replace h := h.1 hc
        exact (t_X3_putInBase_l43 E hr bigN x1 x2 x3 x4 x5 x6 σ c1 c2 c3 c4 c5 c6 hσ h).weak (w_k (w_k (w_k (w_k (w_k (w_k (w_k (w_d (w_d w_n)))))))))
      · replace h := h.2 hc
        refine g_iinc_6 E rfl (by decide) dX3_putInBase_37 (fun v3 ev3 => ?_)
        replace h := h v3 ev3
        have cv3 : C32 v3 := by rw [ev3]; exact c32_w _
        refine g_goto E djX3_putInBase_40 ?_
        exact (ih x1 x2 x3 x4 x5 v3 σ c1 c2 c3 c4 c5 cv3 hσ h).weak (w_k (w_k (w_k (w_k (w_k (w_k (w_k (w_d (w_d w_n)))))))))
set_option maxHeartbeats 4000000 in
set_option maxRecDepth 100000 in
theorem t_X3_putInBase (E : Ev p s m args meth c cX3_putInBase 9 RX3 A0 D cA ad (NC b) Z) (hr : meth.sig.returnType = (some .boolean)) (x1 : Int) (x2 : Int) (x3 : Int) (x4 : Int) (σ : St) (c1 : C32 x1) (c2 : C32 x2) (c3 : C32 x3) (c4 : C32 x4) (hσ : CanS (shC b) (NC b) σ) (h : wp_X3_putInBase x1 x2 x3 x4 σ Q) : G p l e (rmL 2 0 0) s m args below meth c 9 A0 D cA ad (shC b) (NC b) 0 0 (MQ below (QIc D cA ad (shC b) (NC b) Q A0) args s 0 0 A0) σ 0 [some (.ref (ad 54)), some (vI x1), some (vI x2), some (vI x3), some (vI x4), none, none, none, none] [] := by
  unfold wp_X3_putInBase at h
  refine g_iload_1 E dX3_putInBase_0 ?_
  refine g_bipush E (by decide) dX3_putInBase_1 ?_
  refine g_imul E dX3_putInBase_3 ?_
  refine g_nmI (fun v1 ev1 => ?_)
  replace h := h v1 ev1
  have cv1 : C32 v1 := by rw [ev1]; exact (c32_w _)
  refine g_istore_5 E rfl (by decide) dX3_putInBase_4 ?_
  refine g_iload_5 E dX3_putInBase_6 ?_
  refine g_aload_0 E dX3_putInBase_8 ?_
  refine g_getR E fl_RX3_52 (kC_54 b) (sC_54 b) rfl dX3_putInBase_9 ?_
  refine g_iload_1 E dX3_putInBase_12 ?_
  refine g_iald E (kC_64 b) (sC_64 b) (by decide) h.1 dX3_putInBase_13 ?_
  replace h := h.2
  refine g_iadd E dX3_putInBase_14 ?_
  refine g_nmI (fun v2 ev2 => ?_)
  replace h := h v2 ev2
  have cv2 : C32 v2 := by rw [ev2]; exact (c32_w _)
  refine g_istore_6 E rfl (by decide) dX3_putInBase_15 ?_
  exact (t_X3_putInBase_l17 E hr bigN x1 x2 x3 x4 v1 v2 σ c1 c2 c3 c4 cv1 cv2 hσ h).weak (w_k (w_k (w_k (w_k (w_k (w_k (w_k (w_d (w_d w_n)))))))))
end
theorem m_X3_putInBase {Z : (Nat → Nat) × (Nat → Nat)} {l : Launch} {D : va_G} {cA : Nat → ClassId} {ad : Nat → Nat} {b : Bool} {x1 x2 x3 x4 : Int} {σ : St} {Q : Int → St → Prop} (hA : AdOk (NC b) ad) (c1 : C32 x1) (c2 : C32 x2) (c3 : C32 x3) (c4 : C32 x4) (hσ : CanS (shC b) (NC b) σ) (h : wp_X3_putInBase x1 x2 x3 x4 σ Q) : KtI Z l D cA ad (shC b) (NC b) yX3_putInBase cX3_putInBase 9 (some .boolean) 2 [.ref (ad 54), vI x1, vI x2, vI x3, vI x4] σ Q :=
  KtI.of my_X3_putInBase hA [some (.ref (ad 54)), some (vI x1), some (vI x2), some (vI x3), some (vI x4), none, none, none, none] (Nat.le_of_ble_eq_true rfl) rfl (fun p e s m args below meth c A0 E hr => t_X3_putInBase E hr x1 x2 x3 x4 σ c1 c2 c3 c4 hσ h)
theorem dX3_gatherPairs_0 : Dc cX3_gatherPairs 0 (.aload_n 0) 1 1 := ⟨by decide +kernel, rfl⟩
theorem dX3_gatherPairs_1 : Dc cX3_gatherPairs 1 (.getfield 15) 3 4 := ⟨by decide +kernel, rfl⟩
theorem dX3_gatherPairs_4 : Dc cX3_gatherPairs 4 (.getfield 79) 3 7 := ⟨by decide +kernel, rfl⟩
theorem dX3_gatherPairs_7 : Dc cX3_gatherPairs 7 (.iload_n 1) 1 8 := ⟨by decide +kernel, rfl⟩
theorem dX3_gatherPairs_8 : Dc cX3_gatherPairs 8 (.iaload) 1 9 := ⟨by decide +kernel, rfl⟩
theorem dX3_gatherPairs_9 : Dc cX3_gatherPairs 9 (.istore_n 3) 1 10 := ⟨by decide +kernel, rfl⟩
theorem dX3_gatherPairs_10 : Dc cX3_gatherPairs 10 (.aload_n 0) 1 11 := ⟨by decide +kernel, rfl⟩
theorem dX3_gatherPairs_11 : Dc cX3_gatherPairs 11 (.getfield 15) 3 14 := ⟨by decide +kernel, rfl⟩
theorem dX3_gatherPairs_14 : Dc cX3_gatherPairs 14 (.getfield 82) 3 17 := ⟨by decide +kernel, rfl⟩
theorem dX3_gatherPairs_17 : Dc cX3_gatherPairs 17 (.iload_n 1) 1 18 := ⟨by decide +kernel, rfl⟩
theorem dX3_gatherPairs_18 : Dc cX3_gatherPairs 18 (.iaload) 1 19 := ⟨by decide +kernel, rfl⟩
theorem dX3_gatherPairs_19 : Dc cX3_gatherPairs 19 (.istore 4) 2 21 := ⟨by decide +kernel, rfl⟩
theorem dX3_gatherPairs_21 : Dc cX3_gatherPairs 21 (.iload_n 3) 1 22 := ⟨by decide +kernel, rfl⟩
theorem djX3_gatherPairs_22 : Dj cX3_gatherPairs 22 (.ifCond .ge 7) 3 25 7 29 := ⟨by decide +kernel, rfl, by decide⟩
theorem dX3_gatherPairs_25 : Dc cX3_gatherPairs 25 (.iconst 1) 1 26 := ⟨by decide +kernel, rfl⟩
theorem djX3_gatherPairs_26 : Dj cX3_gatherPairs 26 (.goto 9) 3 29 9 35 := ⟨by decide +kernel, rfl, by decide⟩
theorem dX3_gatherPairs_29 : Dc cX3_gatherPairs 29 (.aload_n 0) 1 30 := ⟨by decide +kernel, rfl⟩
theorem dX3_gatherPairs_30 : Dc cX3_gatherPairs 30 (.getfield 36) 3 33 := ⟨by decide +kernel, rfl⟩
theorem dX3_gatherPairs_33 : Dc cX3_gatherPairs 33 (.iload_n 3) 1 34 := ⟨by decide +kernel, rfl⟩
theorem dX3_gatherPairs_34 : Dc cX3_gatherPairs 34 (.iaload) 1 35 := ⟨by decide +kernel, rfl⟩
theorem dX3_gatherPairs_35 : Dc cX3_gatherPairs 35 (.istore 5) 2 37 := ⟨by decide +kernel, rfl⟩
theorem dX3_gatherPairs_37 : Dc cX3_gatherPairs 37 (.iload 4) 2 39 := ⟨by decide +kernel, rfl⟩
theorem djX3_gatherPairs_39 : Dj cX3_gatherPairs 39 (.ifCond .ge 7) 3 42 7 46 := ⟨by decide +kernel, rfl, by decide⟩
theorem dX3_gatherPairs_42 : Dc cX3_gatherPairs 42 (.iconst 1) 1 43 := ⟨by decide +kernel, rfl⟩
theorem djX3_gatherPairs_43 : Dj cX3_gatherPairs 43 (.goto 10) 3 46 10 53 := ⟨by decide +kernel, rfl, by decide⟩
theorem dX3_gatherPairs_46 : Dc cX3_gatherPairs 46 (.aload_n 0) 1 47 := ⟨by decide +kernel, rfl⟩
theorem dX3_gatherPairs_47 : Dc cX3_gatherPairs 47 (.getfield 36) 3 50 := ⟨by decide +kernel, rfl⟩
theorem dX3_gatherPairs_50 : Dc cX3_gatherPairs 50 (.iload 4) 2 52 := ⟨by decide +kernel, rfl⟩
theorem dX3_gatherPairs_52 : Dc cX3_gatherPairs 52 (.iaload) 1 53 := ⟨by decide +kernel, rfl⟩
theorem dX3_gatherPairs_53 : Dc cX3_gatherPairs 53 (.istore 6) 2 55 := ⟨by decide +kernel, rfl⟩
theorem dX3_gatherPairs_55 : Dc cX3_gatherPairs 55 (.aload_n 0) 1 56 := ⟨by decide +kernel, rfl⟩
theorem dX3_gatherPairs_56 : Dc cX3_gatherPairs 56 (.getfield 9) 3 59 := ⟨by decide +kernel, rfl⟩
theorem dX3_gatherPairs_59 : Dc cX3_gatherPairs 59 (.getfield 131) 3 62 := ⟨by decide +kernel, rfl⟩
theorem dX3_gatherPairs_62 : Dc cX3_gatherPairs 62 (.aload_n 0) 1 63 := ⟨by decide +kernel, rfl⟩
theorem dX3_gatherPairs_63 : Dc cX3_gatherPairs 63 (.getfield 15) 3 66 := ⟨by decide +kernel, rfl⟩
theorem dX3_gatherPairs_66 : Dc cX3_gatherPairs 66 (.getfield 118) 3 69 := ⟨by decide +kernel, rfl⟩
theorem dX3_gatherPairs_69 : Dc cX3_gatherPairs 69 (.iload_n 1) 1 70 := ⟨by decide +kernel, rfl⟩
theorem dX3_gatherPairs_70 : Dc cX3_gatherPairs 70 (.iaload) 1 71 := ⟨by decide +kernel, rfl⟩
theorem dX3_gatherPairs_71 : Dc cX3_gatherPairs 71 (.iaload) 1 72 := ⟨by decide +kernel, rfl⟩
theorem dX3_gatherPairs_72 : Dc cX3_gatherPairs 72 (.istore 7) 2 74 := ⟨by decide +kernel, rfl⟩
theorem dX3_gatherPairs_74 : Dc cX3_gatherPairs 74 (.iconst 0) 1 75 := ⟨by decide +kernel, rfl⟩
theorem dX3_gatherPairs_75 : Dc cX3_gatherPairs 75 (.istore 8) 2 77 := ⟨by decide +kernel, rfl⟩
theorem dX3_gatherPairs_77 : Dc cX3_gatherPairs 77 (.iload 8) 2 79 := ⟨by decide +kernel, rfl⟩
theorem dX3_gatherPairs_79 : Dc cX3_gatherPairs 79 (.iload 5) 2 81 := ⟨by decide +kernel, rfl⟩
theorem djX3_gatherPairs_81 : Dj cX3_gatherPairs 81 (.if_icmp .ge 104) 3 84 104 185 := ⟨by decide +kernel, rfl, by decide⟩
theorem dX3_gatherPairs_84 : Dc cX3_gatherPairs 84 (.iload_n 3) 1 85 := ⟨by decide +kernel, rfl⟩
theorem djX3_gatherPairs_85 : Dj cX3_gatherPairs 85 (.ifCond .ge 8) 3 88 8 93 := ⟨by decide +kernel, rfl, by decide⟩
theorem dX3_gatherPairs_88 : Dc cX3_gatherPairs 88 (.iload 7) 2 90 := ⟨by decide +kernel, rfl⟩
theorem djX3_gatherPairs_90 : Dj cX3_gatherPairs 90 (.goto 18) 3 93 18 108 := ⟨by decide +kernel, rfl, by decide⟩
theorem dX3_gatherPairs_93 : Dc cX3_gatherPairs 93 (.iload 7) 2 95 := ⟨by decide +kernel, rfl⟩
theorem dX3_gatherPairs_95 : Dc cX3_gatherPairs 95 (.aload_n 0) 1 96 := ⟨by decide +kernel, rfl⟩
theorem dX3_gatherPairs_96 : Dc cX3_gatherPairs 96 (.getfield 23) 3 99 := ⟨by decide +kernel, rfl⟩
theorem dX3_gatherPairs_99 : Dc cX3_gatherPairs 99 (.iload_n 3) 1 100 := ⟨by decide +kernel, rfl⟩
theorem dX3_gatherPairs_100 : Dc cX3_gatherPairs 100 (.bipush 16) 2 102 := ⟨by decide +kernel, rfl⟩
theorem dX3_gatherPairs_102 : Dc cX3_gatherPairs 102 (.imul) 1 103 := ⟨by decide +kernel, rfl⟩
theorem dX3_gatherPairs_103 : Dc cX3_gatherPairs 103 (.iload 8) 2 105 := ⟨by decide +kernel, rfl⟩
theorem dX3_gatherPairs_105 : Dc cX3_gatherPairs 105 (.iadd) 1 106 := ⟨by decide +kernel, rfl⟩
theorem dX3_gatherPairs_106 : Dc cX3_gatherPairs 106 (.iaload) 1 107 := ⟨by decide +kernel, rfl⟩
theorem dX3_gatherPairs_107 : Dc cX3_gatherPairs 107 (.iadd) 1 108 := ⟨by decide +kernel, rfl⟩
theorem dX3_gatherPairs_108 : Dc cX3_gatherPairs 108 (.istore 9) 2 110 := ⟨by decide +kernel, rfl⟩
theorem dX3_gatherPairs_110 : Dc cX3_gatherPairs 110 (.iconst 0) 1 111 := ⟨by decide +kernel, rfl⟩
theorem dX3_gatherPairs_111 : Dc cX3_gatherPairs 111 (.istore 10) 2 113 := ⟨by decide +kernel, rfl⟩
theorem dX3_gatherPairs_113 : Dc cX3_gatherPairs 113 (.iload 10) 2 115 := ⟨by decide +kernel, rfl⟩
theorem dX3_gatherPairs_115 : Dc cX3_gatherPairs 115 (.iload 6) 2 117 := ⟨by decide +kernel, rfl⟩
theorem djX3_gatherPairs_117 : Dj cX3_gatherPairs 117 (.if_icmp .ge 62) 3 120 62 179 := ⟨by decide +kernel, rfl, by decide⟩
theorem dX3_gatherPairs_120 : Dc cX3_gatherPairs 120 (.iload 4) 2 122 := ⟨by decide +kernel, rfl⟩
theorem djX3_gatherPairs_122 : Dj cX3_gatherPairs 122 (.ifCond .ge 8) 3 125 8 130 := ⟨by decide +kernel, rfl, by decide⟩
theorem dX3_gatherPairs_125 : Dc cX3_gatherPairs 125 (.iload 9) 2 127 := ⟨by decide +kernel, rfl⟩
theorem djX3_gatherPairs_127 : Dj cX3_gatherPairs 127 (.goto 19) 3 130 19 146 := ⟨by decide +kernel, rfl, by decide⟩
theorem dX3_gatherPairs_130 : Dc cX3_gatherPairs 130 (.iload 9) 2 132 := ⟨by decide +kernel, rfl⟩
theorem dX3_gatherPairs_132 : Dc cX3_gatherPairs 132 (.aload_n 0) 1 133 := ⟨by decide +kernel, rfl⟩
theorem dX3_gatherPairs_133 : Dc cX3_gatherPairs 133 (.getfield 23) 3 136 := ⟨by decide +kernel, rfl⟩
theorem dX3_gatherPairs_136 : Dc cX3_gatherPairs 136 (.iload 4) 2 138 := ⟨by decide +kernel, rfl⟩
theorem dX3_gatherPairs_138 : Dc cX3_gatherPairs 138 (.bipush 16) 2 140 := ⟨by decide +kernel, rfl⟩
theorem dX3_gatherPairs_140 : Dc cX3_gatherPairs 140 (.imul) 1 141 := ⟨by decide +kernel, rfl⟩
theorem dX3_gatherPairs_141 : Dc cX3_gatherPairs 141 (.iload 10) 2 143 := ⟨by decide +kernel, rfl⟩
theorem dX3_gatherPairs_143 : Dc cX3_gatherPairs 143 (.iadd) 1 144 := ⟨by decide +kernel, rfl⟩
theorem dX3_gatherPairs_144 : Dc cX3_gatherPairs 144 (.iaload) 1 145 := ⟨by decide +kernel, rfl⟩
theorem dX3_gatherPairs_145 : Dc cX3_gatherPairs 145 (.iadd) 1 146 := ⟨by decide +kernel, rfl⟩
theorem dX3_gatherPairs_146 : Dc cX3_gatherPairs 146 (.istore 11) 2 148 := ⟨by decide +kernel, rfl⟩
theorem dX3_gatherPairs_148 : Dc cX3_gatherPairs 148 (.aload_n 0) 1 149 := ⟨by decide +kernel, rfl⟩
theorem dX3_gatherPairs_149 : Dc cX3_gatherPairs 149 (.iload_n 2) 1 150 := ⟨by decide +kernel, rfl⟩
theorem dX3_gatherPairs_150 : Dc cX3_gatherPairs 150 (.iload 11) 2 152 := ⟨by decide +kernel, rfl⟩
theorem dX3_gatherPairs_152 : Dc cX3_gatherPairs 152 (.iload_n 1) 1 153 := ⟨by decide +kernel, rfl⟩
theorem dX3_gatherPairs_153 : Dc cX3_gatherPairs 153 (.iload 8) 2 155 := ⟨by decide +kernel, rfl⟩
theorem dX3_gatherPairs_155 : Dc cX3_gatherPairs 155 (.bipush 16) 2 157 := ⟨by decide +kernel, rfl⟩
theorem dX3_gatherPairs_157 : Dc cX3_gatherPairs 157 (.imul) 1 158 := ⟨by decide +kernel, rfl⟩
theorem dX3_gatherPairs_158 : Dc cX3_gatherPairs 158 (.iload 10) 2 160 := ⟨by decide +kernel, rfl⟩
theorem dX3_gatherPairs_160 : Dc cX3_gatherPairs 160 (.iadd) 1 161 := ⟨by decide +kernel, rfl⟩
theorem dX3_gatherPairs_161 : Dc cX3_gatherPairs 161 (.invokevirtual 134) 3 164 := ⟨by decide +kernel, rfl⟩
theorem djX3_gatherPairs_164 : Dj cX3_gatherPairs 164 (.ifCond .ne 9) 3 167 9 173 := ⟨by decide +kernel, rfl, by decide⟩
theorem dX3_gatherPairs_167 : Dc cX3_gatherPairs 167 (.iload 10) 2 169 := ⟨by decide +kernel, rfl⟩
theorem djX3_gatherPairs_169 : Dj cX3_gatherPairs 169 (.ifCond .ne 10) 3 172 10 179 := ⟨by decide +kernel, rfl, by decide⟩
theorem dX3_gatherPairs_172 : Dc cX3_gatherPairs 172 (.return_) 1 173 := ⟨by decide +kernel, rfl⟩
theorem dX3_gatherPairs_173 : Dc cX3_gatherPairs 173 (.iinc 10 1) 3 176 := ⟨by decide +kernel, rfl⟩
theorem djX3_gatherPairs_176 : Dj cX3_gatherPairs 176 (.goto (-63)) 3 179 (-63) 113 := ⟨by decide +kernel, rfl, by decide⟩
theorem dX3_gatherPairs_179 : Dc cX3_gatherPairs 179 (.iinc 8 1) 3 182 := ⟨by decide +kernel, rfl⟩
theorem djX3_gatherPairs_182 : Dj cX3_gatherPairs 182 (.goto (-105)) 3 185 (-105) 77 := ⟨by decide +kernel, rfl, by decide⟩
theorem dX3_gatherPairs_185 : Dc cX3_gatherPairs 185 (.return_) 1 186 := ⟨by decide +kernel, rfl⟩
section
variable {p : Program} {l : Launch} {e : Env} {s : State} {m : MethodId} {args : Array Value} {below : List Frame} {meth : Method} {c : Code} {A0 : Nat → Prop} {D : va_G} {cA : Nat → ClassId} {ad : Nat → Nat} {Z : (Nat → Nat) × (Nat → Nat)} {Q : Int → St → Prop} {b : Bool}
set_option maxHeartbeats 4000000 in
set_option maxRecDepth 100000 in
theorem t_X3_gatherPairs_b179 (E : Ev p s m args meth c cX3_gatherPairs 12 RX3 A0 D cA ad (NC b) Z) (hr : meth.sig.returnType = none) {K77 : Int → Int → Int → Int → Int → Int → Int → Int → St → Prop} (hK77 : ∀ (x1 : Int) (x2 : Int) (x3 : Int) (x4 : Int) (x5 : Int) (x6 : Int) (x7 : Int) (x8 : Int) (σ : St), C32 x1 → C32 x2 → C32 x3 → C32 x4 → C32 x5 → C32 x6 → C32 x7 → C32 x8 → CanS (shC b) (NC b) σ → K77 x1 x2 x3 x4 x5 x6 x7 x8 σ → G p l e (rmL 3 0 0) s m args below meth c 12 A0 D cA ad (shC b) (NC b) 0 0 (MQ below (QVc D cA ad (shC b) (NC b) Q A0) args s 0 0 A0) σ 77 [some (.ref (ad 54)), some (vI x1), some (vI x2), some (vI x3), some (vI x4), some (vI x5), some (vI x6), some (vI x7), some (vI x8), none, none, none] []) (x1 : Int) (x2 : Int) (x3 : Int) (x4 : Int) (x5 : Int) (x6 : Int) (x7 : Int) (x8 : Int) (σ : St) (c1 : C32 x1) (c2 : C32 x2) (c3 : C32 x3) (c4 : C32 x4) (c5 : C32 x5) (c6 : C32 x6) (c7 : C32 x7) (c8 : C32 x8) (hσ : CanS (shC b) (NC b) σ) (h : wp_X3_gatherPairs_b179 Q K77 x1 x2 x3 x4 x5 x6 x7 x8 σ) : G p l e (rmL 3 0 0) s m args below meth c 12 A0 D cA ad (shC b) (NC b) 0 0 (MQ below (QVc D cA ad (shC b) (NC b) Q A0) args s 0 0 A0) σ 179 [some (.ref (ad 54)), some (vI x1), some (vI x2), some (vI x3), some (vI x4), some (vI x5), some (vI x6), some (vI x7), some (vI x8), none, none, none] [] := by
  unfold wp_X3_gatherPairs_b179 at h
  refine g_iinc_8 E rfl (by decide) dX3_gatherPairs_179 (fun v4 ev4 => ?_)
  replace h := h v4 ev4
  have cv4 : C32 v4 := by rw [ev4]; exact c32_w _
  refine g_goto E djX3_gatherPairs_182 ?_
  exact (hK77 x1 x2 x3 x4 x5 x6 x7 v4 σ c1 c2 c3 c4 c5 c6 c7 cv4 hσ h).weak (w_k (w_k (w_k (w_k (w_k (w_k (w_k (w_k (w_k (w_d (w_d (w_d w_n))))))))))))
set_option maxHeartbeats 4000000 in
set_option maxRecDepth 100000 in
theorem t_X3_gatherPairs_b146 (E : Ev p s m args meth c cX3_gatherPairs 12 RX3 A0 D cA ad (NC b) Z) (hr : meth.sig.returnType = none) {K77 : Int → Int → Int → Int → Int → Int → Int → Int → St → Prop} (hK77 : ∀ (x1 : Int) (x2 : Int) (x3 : Int) (x4 : Int) (x5 : Int) (x6 : Int) (x7 : Int) (x8 : Int) (σ : St), C32 x1 → C32 x2 → C32 x3 → C32 x4 → C32 x5 → C32 x6 → C32 x7 → C32 x8 → CanS (shC b) (NC b) σ → K77 x1 x2 x3 x4 x5 x6 x7 x8 σ → G p l e (rmL 3 0 0) s m args below meth c 12 A0 D cA ad (shC b) (NC b) 0 0 (MQ below (QVc D cA ad (shC b) (NC b) Q A0) args s 0 0 A0) σ 77 [some (.ref (ad 54)), some (vI x1), some (vI x2), some (vI x3), some (vI x4), some (vI x5), some (vI x6), some (vI x7), some (vI x8), none, none, none] []) {K113 : Int → Int → Int → Int → Int → Int → Int → Int → Int → Int → St → Prop} (hK113 : ∀ (x1 : Int) (x2 : Int) (x3 : Int) (x4 : Int) (x5 : Int) (x6 : Int) (x7 : Int) (x8 : Int) (x9 : Int) (x10 : Int) (σ : St), C32 x1 → C32 x2 → C32 x3 → C32 x4 → C32 x5 → C32 x6 → C32 x7 → C32 x8 → C32 x9 → C32 x10 → CanS (shC b) (NC b) σ → K113 x1 x2 x3 x4 x5 x6 x7 x8 x9 x10 σ → G p l e (rmL 3 0 0) s m args below meth c 12 A0 D cA ad (shC b) (NC b) 0 0 (MQ below (QVc D cA ad (shC b) (NC b) Q A0) args s 0 0 A0) σ 113 [some (.ref (ad 54)), some (vI x1), some (vI x2), some (vI x3), some (vI x4), some (vI x5), some (vI x6), some (vI x7), some (vI x8), some (vI x9), some (vI x10), none] []) (x1 : Int) (x2 : Int) (x3 : Int) (x4 : Int) (x5 : Int) (x6 : Int) (x7 : Int) (x8 : Int) (x9 : Int) (x10 : Int) (s0 : Int) (σ : St) (c1 : C32 x1) (c2 : C32 x2) (c3 : C32 x3) (c4 : C32 x4) (c5 : C32 x5) (c6 : C32 x6) (c7 : C32 x7) (c8 : C32 x8) (c9 : C32 x9) (c10 : C32 x10) (cs0 : C32 s0) (hσ : CanS (shC b) (NC b) σ) (h : wp_X3_gatherPairs_b146 Q K77 K113 x1 x2 x3 x4 x5 x6 x7 x8 x9 x10 s0 σ) : G p l e (rmL 3 0 0) s m args below meth c 12 A0 D cA ad (shC b) (NC b) 0 0 (MQ below (QVc D cA ad (shC b) (NC b) Q A0) args s 0 0 A0) σ 146 [some (.ref (ad 54)), some (vI x1), some (vI x2), some (vI x3), some (vI x4), some (vI x5), some (vI x6), some (vI x7), some (vI x8), some (vI x9), some (vI x10), none] [vI s0] := by
  unfold wp_X3_gatherPairs_b146 at h
  refine g_istore_11 E rfl (by decide) dX3_gatherPairs_146 ?_
  refine g_aload_0 E dX3_gatherPairs_148 ?_
  refine g_iload_2 E dX3_gatherPairs_149 ?_
  refine g_iload_11 E dX3_gatherPairs_150 ?_
  refine g_iload_1 E dX3_gatherPairs_152 ?_
  refine g_iload_8 E dX3_gatherPairs_153 ?_
  refine g_bipush E (by decide) dX3_gatherPairs_155 ?_
  refine g_imul E dX3_gatherPairs_157 ?_
  refine g_iload_10 E dX3_gatherPairs_158 ?_
  refine g_iadd E dX3_gatherPairs_160 ?_
  refine g_callvI E my_X3_putInBase mi_X3_putInBase msel_X3_putInBase ml_RX3_134 (rm_ok (by decide) (by decide)) ⟨Nat.zero_le _, Nat.zero_le _⟩ (kC_54 b) (sC_54 b) rfl (m_X3_putInBase E.2.2.1 c2 cs0 c1 (c32_w _) hσ h) rfl rfl (Nat.le_of_ble_eq_true rfl) dX3_gatherPairs_161 (fun r5 σ6 cr5 hσ6 h => ?_)
  refine g_if_ne E cr5 djX3_gatherPairs_164 (fun hc => ?_) (fun hc => ?_)
  · replace h := h.1 hc
    refine g_iinc_10 E rfl (by decide) dX3_gatherPairs_173 (fun v7 ev7 => ?_)
    replace h := h v7 ev7
    have cv7 : C32 v7 := by rw [ev7]; exact c32_w _
    refine g_goto E djX3_gatherPairs_176 ?_
    exact (hK113 x1 x2 x3 x4 x5 x6 x7 x8 x9 v7 σ6 c1 c2 c3 c4 c5 c6 c7 c8 c9 cv7 hσ6 h).weak (w_k (w_k (w_k (w_k (w_k (w_k (w_k (w_k (w_k (w_k (w_k (w_d w_n))))))))))))
  · replace h := h.2 hc
    refine g_iload_10 E dX3_gatherPairs_167 ?_
    refine g_if_ne E c10 djX3_gatherPairs_169 (fun hc => ?_) (fun hc => ?_)
    · replace h := h.1 hc
      exact (t_X3_gatherPairs_b179 E hr hK77 x1 x2 x3 x4 x5 x6 x7 x8 σ6 c1 c2 c3 c4 c5 c6 c7 c8 hσ6 h).weak (w_k (w_k (w_k (w_k (w_k (w_k (w_k (w_k (w_k (w_d (w_d (w_d w_n))))))))))))
    · replace h := h.2 hc
      exact g_vret E hr h hσ6 dX3_gatherPairs_172
set_option maxHeartbeats 4000000 in
set_option maxRecDepth 100000 in
theorem t_X3_gatherPairs_l113 (E : Ev p s m args meth c cX3_gatherPairs 12 RX3 A0 D cA ad (NC b) Z) (hr : meth.sig.returnType = none) {K77 : Int → Int → Int → Int → Int → Int → Int → Int → St → Prop} (hK77 : ∀ (x1 : Int) (x2 : Int) (x3 : Int) (x4 : Int) (x5 : Int) (x6 : Int) (x7 : Int) (x8 : Int) (σ : St), C32 x1 → C32 x2 → C32 x3 → C32 x4 → C32 x5 → C32 x6 → C32 x7 → C32 x8 → CanS (shC b) (NC b) σ → K77 x1 x2 x3 x4 x5 x6 x7 x8 σ → G p l e (rmL 3 0 0) s m args below meth c 12 A0 D cA ad (shC b) (NC b) 0 0 (MQ below (QVc D cA ad (shC b) (NC b) Q A0) args s 0 0 A0) σ 77 [some (.ref (ad 54)), some (vI x1), some (vI x2), some (vI x3), some (vI x4), some (vI x5), some (vI x6), some (vI x7), some (vI x8), none, none, none] []) : ∀ (n : Nat) (x1 : Int) (x2 : Int) (x3 : Int) (x4 : Int) (x5 : Int) (x6 : Int) (x7 : Int) (x8 : Int) (x9 : Int) (x10 : Int) (σ : St), C32 x1 → C32 x2 → C32 x3 → C32 x4 → C32 x5 → C32 x6 → C32 x7 → C32 x8 → C32 x9 → C32 x10 → CanS (shC b) (NC b) σ → wp_X3_gatherPairs_l113 Q K77 n x1 x2 x3 x4 x5 x6 x7 x8 x9 x10 σ → G p l e (rmL 3 0 0) s m args below meth c 12 A0 D cA ad (shC b) (NC b) 0 0 (MQ below (QVc D cA ad (shC b) (NC b) Q A0) args s 0 0 A0) σ 113 [some (.ref (ad 54)), some (vI x1), some (vI x2), some (vI x3), some (vI x4), some (vI x5), some (vI x6), some (vI x7), some (vI x8), some (vI x9), some (vI x10), none] [] := by
  intro n
  induction n with
  | zero => intro _ _ _ _ _ _ _ _ _ _ _ _ _ _ _ _ _ _ _ _ _ _ h; exact h.elim
  | succ n ih =>
    intro x1 x2 x3 x4 x5 x6 x7 x8 x9 x10 σ c1 c2 c3 c4 c5 c6 c7 c8 c9 c10 hσ h
    unfold wp_X3_gatherPairs_l113 at h
    refine g_iload_10 E dX3_gatherPairs_113 ?_
    refine g_iload_6 E dX3_gatherPairs_115 ?_
    refine g_icmp_ge E c10 c6 djX3_gatherPairs_117 (fun hc => ?_) (fun hc => ?_)
    · replace h := h.1 hc
      exact (t_X3_gatherPairs_b179 E hr hK77 x1 x2 x3 x4 x5 x6 x7 x8 σ c1 c2 c3 c4 c5 c6 c7 c8 hσ h).weak (w_k (w_k (w_k (w_k (w_k (w_k (w_k (w_k (w_k (w_d (w_d (w_d w_n))))))))))))
    · replace h := h.2 hc
      refine g_iload_4 E dX3_gatherPairs_120 ?_
      refine g_if_ge E c4 djX3_gatherPairs_122 (fun hc => ?_) (fun hc => ?_)
      · replace h := h.1 hc
        refine g_iload_9 E dX3_gatherPairs_130 ?_
        refine g_aload_0 E dX3_gatherPairs_132 ?_
        refine g_getR E fl_RX3_23 (kC_54 b) (sC_54 b) rfl dX3_gatherPairs_133 ?_
        refine g_iload_4 E dX3_gatherPairs_136 ?_
        refine g_bipush E (by decide) dX3_gatherPairs_138 ?_
        refine g_imul E dX3_gatherPairs_140 ?_
        refine g_iload_10 E dX3_gatherPairs_141 ?_
        refine g_iadd E dX3_gatherPairs_143 ?_
        refine g_iald E (kC_55 b) (sC_55 b) (by decide) h.1 dX3_gatherPairs_144 ?_
        replace h := h.2
        refine g_iadd E dX3_gatherPairs_145 ?_
        exact (t_X3_gatherPairs_b146 E hr hK77 ih x1 x2 x3 x4 x5 x6 x7 x8 x9 x10 (w32 (x9 + (σ 55 ((w32 ((w32 (x4 * 16)) + x10)).toNat)))) σ c1 c2 c3 c4 c5 c6 c7 c8 c9 c10 (c32_w _) hσ h).weak (w_k (w_k (w_k (w_k (w_k (w_k (w_k (w_k (w_k (w_k (w_k (w_d w_n))))))))))))
      · replace h := h.2 hc
        refine g_iload_9 E dX3_gatherPairs_125 ?_
        refine g_goto E djX3_gatherPairs_127 ?_
        exact (t_X3_gatherPairs_b146 E hr hK77 ih x1 x2 x3 x4 x5 x6 x7 x8 x9 x10 x9 σ c1 c2 c3 c4 c5 c6 c7 c8 c9 c10 c9 hσ h).weak (w_k (w_k (w_k (w_k (w_k (w_k (w_k (w_k (w_k (w_k (w_k (w_d w_n))))))))))))
set_option maxHeartbeats 4000000 in
set_option maxRecDepth 100000 in
theorem t_X3_gatherPairs_b108 (E : Ev p s m args meth c cX3_gatherPairs 12 RX3 A0 D cA ad (NC b) Z) (hr : meth.sig.returnType = none) {K77 : Int → Int → Int → Int → Int → Int → Int → Int → St → Prop} (hK77 : ∀ (x1 : Int) (x2 : Int) (x3 : Int) (x4 : Int) (x5 : Int) (x6 : Int) (x7 : Int) (x8 : Int) (σ : St), C32 x1 → C32 x2 → C32 x3 → C32 x4 → C32 x5 → C32 x6 → C32 x7 → C32 x8 → CanS (shC b) (NC b) σ → K77 x1 x2 x3 x4 x5 x6 x7 x8 σ → G p l e (rmL 3 0 0) s m args below meth c 12 A0 D cA ad (shC b) (NC b) 0 0 (MQ below (QVc D cA ad (shC b) (NC b) Q A0) args s 0 0 A0) σ 77 [some (.ref (ad 54)), some (vI x1), some (vI x2), some (vI x3), some (vI x4), some (vI x5), some (vI x6), some (vI x7), some (vI x8), none, none, none] []) (x1 : Int) (x2 : Int) (x3 : Int) (x4 : Int) (x5 : Int) (x6 : Int) (x7 : Int) (x8 : Int) (s0 : Int) (σ : St) (c1 : C32 x1) (c2 : C32 x2) (c3 : C32 x3) (c4 : C32 x4) (c5 : C32 x5) (c6 : C32 x6) (c7 : C32 x7) (c8 : C32 x8) (cs0 : C32 s0) (hσ : CanS (shC b) (NC b) σ) (h : wp_X3_gatherPairs_b108 Q K77 x1 x2 x3 x4 x5 x6 x7 x8 s0 σ) : G p l e (rmL 3 0 0) s m args below meth c 12 A0 D cA ad (shC b) (NC b) 0 0 (MQ below (QVc D cA ad (shC b) (NC b) Q A0) args s 0 0 A0) σ 108 [some (.ref (ad 54)), some (vI x1), some (vI x2), some (vI x3), some (vI x4), some (vI x5), some (vI x6), some (vI x7), some (vI x8), none, none, none] [vI s0] := by
  unfold wp_X3_gatherPairs_b108 at h
  refine g_istore_9 E rfl (by decide) dX3_gatherPairs_108 ?_
  refine g_iconst E dX3_gatherPairs_110 ?_
  refine g_istore_10 E rfl (by decide) dX3_gatherPairs_111 ?_
  exact (t_X3_gatherPairs_l113 E hr hK77 bigN x1 x2 x3 x4 x5 x6 x7 x8 s0 0 σ c1 c2 c3 c4 c5 c6 c7 c8 cs0 cl_0 hσ h).weak (w_k (w_k (w_k (w_k (w_k (w_k (w_k (w_k (w_k (w_k (w_k (w_d w_n))))))))))))
set_option maxHeartbeats 4000000 in
set_option maxRecDepth 100000 in
theorem t_X3_gatherPairs_l77 (E : Ev p s m args meth c cX3_gatherPairs 12 RX3 A0 D cA ad (NC b) Z) (hr : meth.sig.returnType = none) : ∀ (n : Nat) (x1 : Int) (x2 : Int) (x3 : Int) (x4 : Int) (x5 : Int) (x6 : Int) (x7 : Int) (x8 : Int) (σ : St), C32 x1 → C32 x2 → C32 x3 → C32 x4 → C32 x5 → C32 x6 → C32 x7 → C32 x8 → CanS (shC b) (NC b) σ → wp_X3_gatherPairs_l77 Q n x1 x2 x3 x4 x5 x6 x7 x8 σ → G p l e (rmL 3 0 0) s m args below meth c 12 A0 D cA ad (shC b) (NC b) 0 0 (MQ below (QVc D cA ad (shC b) (NC b) Q A0) args s 0 0 A0) σ 77 [some (.ref (ad 54)), some (vI x1), some (vI x2), some (vI x3), some (vI x4), some (vI x5), some (vI x6), some (vI x7), some (vI x8), none, none, none] [] := by
  intro n
  induction n with
  | zero => intro _ _ _ _ _ _ _ _ _ _ _ _ _ _ _ _ _ _ h; exact h.elim
  | succ n ih =>
    intro x1 x2 x3 x4 x5 x6 x7 x8 σ c1 c2 c3 c4 c5 c6 c7 c8 hσ h
    unfold wp_X3_gatherPairs_l77 at h
    refine g_iload_8 E dX3_gatherPairs_77 ?_
    refine g_iload_5 E dX3_gatherPairs_79 ?_
    refine g_icmp_ge E c8 c5 djX3_gatherPairs_81 (fun hc => ?_) (fun hc => ?_)
    · replace h := h.1 hc
      exact g_vret E hr h hσ dX3_gatherPairs_185
    · replace h := h.2 hc
      refine g_iload_3 E dX3_gatherPairs_84 ?_
      refine g_if_ge E c3 djX3_gatherPairs_85 (fun hc => ?_) (fun hc => ?_)
      · replace h := h.1 hc
        refine g_iload_7 E dX3_gatherPairs_93 ?_
        refine g_aload_0 E dX3_gatherPairs_95 ?_
        refine g_getR E fl_RX3_23 (kC_54 b) (sC_54 b) rfl dX3_gatherPairs_96 ?_
        refine g_iload_3 E dX3_gatherPairs_99 ?_
        refine g_bipush E (by decide) dX3_gatherPairs_100 ?_
        refine g_imul E dX3_gatherPairs_102 ?_
        refine g_iload_8 E dX3_gatherPairs_103 ?_
        refine g_iadd E dX3_gatherPairs_105 ?_
        refine g_iald E (kC_55 b) (sC_55 b) (by decide) h.1 dX3_gatherPairs_106 ?_
        replace h := h.2
        refine g_iadd E dX3_gatherPairs_107 ?_
        exact (t_X3_gatherPairs_b108 E hr ih x1 x2 x3 x4 x5 x6 x7 x8 (w32 (x7 + (σ 55 ((w32 ((w32 (x3 * 16)) + x8)).toNat)))) σ c1 c2 c3 c4 c5 c6 c7 c8 (c32_w _) hσ h).weak (w_k (w_k (w_k (w_k (w_k (w_k (w_k (w_k (w_k (w_d (w_d (w_d w_n))))))))))))
      · replace h := h.2 hc
        refine g_iload_7 E dX3_gatherPairs_88 ?_
        refine g_goto E djX3_gatherPairs_90 ?_
        exact (t_X3_gatherPairs_b108 E hr ih x1 x2 x3 x4 x5 x6 x7 x8 x7 σ c1 c2 c3 c4 c5 c6 c7 c8 c7 hσ h).weak (w_k (w_k (w_k (w_k (w_k (w_k (w_k (w_k (w_k (w_d (w_d (w_d w_n))))))))))))
set_option maxHeartbeats 4000000 in
set_option maxRecDepth 100000 in
theorem t_X3_gatherPairs_b53 (E : Ev p s m args meth c cX3_gatherPairs 12 RX3 A0 D cA ad (NC b) Z) (hr : meth.sig.returnType = none) (x1 : Int) (x2 : Int) (x3 : Int) (x4 : Int) (x5 : Int) (s0 : Int) (σ : St) (c1 : C32 x1) (c2 : C32 x2) (c3 : C32 x3) (c4 : C32 x4) (c5 : C32 x5) (cs0 : C32 s0) (hσ : CanS (shC b) (NC b) σ) (h : wp_X3_gatherPairs_b53 Q x1 x2 x3 x4 x5 s0 σ) : G p l e (rmL 3 0 0) s m args below meth c 12 A0 D cA ad (shC b) (NC b) 0 0 (MQ below (QVc D cA ad (shC b) (NC b) Q A0) args s 0 0 A0) σ 53 [some (.ref (ad 54)), some (vI x1), some (vI x2), some (vI x3), some (vI x4), some (vI x5), none, none, none, none, none, none] [vI s0] := by
  unfold wp_X3_gatherPairs_b53 at h
  refine g_istore_6 E rfl (by decide) dX3_gatherPairs_53 ?_
  refine g_aload_0 E dX3_gatherPairs_55 ?_
  refine g_getR E fl_RX3_9 (kC_54 b) (sC_54 b) rfl dX3_gatherPairs_56 ?_
  refine g_getR E fl_RX3_131 (kC_14 b) (sC_14 b) rfl dX3_gatherPairs_59 ?_
  refine g_aload_0 E dX3_gatherPairs_62 ?_
  refine g_getR E fl_RX3_15 (kC_54 b) (sC_54 b) rfl dX3_gatherPairs_63 ?_
  refine g_getR E fl_RX3_118 (kC_24 b) (sC_24 b) rfl dX3_gatherPairs_66 ?_
  refine g_iload_1 E dX3_gatherPairs_69 ?_
  refine g_iald E (kC_29 b) (sC_29 b) (by decide) h.1 dX3_gatherPairs_70 ?_
  replace h := h.2
  refine g_iald E (kC_18 b) (sC_18 b) (by decide) h.1 dX3_gatherPairs_71 ?_
  replace h := h.2
  refine g_nmI (fun v3 ev3 => ?_)
  replace h := h v3 ev3
  have cv3 : C32 v3 := by rw [ev3]; exact (aC_18 hσ _)
  refine g_istore_7 E rfl (by decide) dX3_gatherPairs_72 ?_
  refine g_iconst E dX3_gatherPairs_74 ?_
  refine g_istore_8 E rfl (by decide) dX3_gatherPairs_75 ?_
  exact (t_X3_gatherPairs_l77 E hr bigN x1 x2 x3 x4 x5 s0 v3 0 σ c1 c2 c3 c4 c5 cs0 cv3 cl_0 hσ h).weak (w_k (w_k (w_k (w_k (w_k (w_k (w_k (w_k (w_k (w_d (w_d (w_d w_n))))))))))))
set_option maxHeartbeats 4000000 in
set_option maxRecDepth 100000 in
theorem t_X3_gatherPairs_b35 (E : Ev p s m args meth c cX3_gatherPairs 12 RX3 A0 D cA ad (NC b) Z) (hr : meth.sig.returnType = none) (x1 : Int) (x2 : Int) (x3 : Int) (x4 : Int) (s0 : Int) (σ : St) (c1 : C32 x1) (c2 : C32 x2) (c3 : C32 x3) (c4 : C32 x4) (cs0 : C32 s0) (hσ : CanS (shC b) (NC b) σ) (h : wp_X3_gatherPairs_b35 Q x1 x2 x3 x4 s0 σ) : G p l e (rmL 3 0 0) s m args below meth c 12 A0 D cA ad (shC b) (NC b) 0 0 (MQ below (QVc D cA ad (shC b) (NC b) Q A0) args s 0 0 A0) σ 35 [some (.ref (ad 54)), some (vI x1), some (vI x2), some (vI x3), some (vI x4), none, none, none, none, none, none, none] [vI s0] := by
  unfold wp_X3_gatherPairs_b35 at h
  refine g_istore_5 E rfl (by decide) dX3_gatherPairs_35 ?_
  refine g_iload_4 E dX3_gatherPairs_37 ?_
  refine g_if_ge E c4 djX3_gatherPairs_39 (fun hc => ?_) (fun hc => ?_)
  · replace h := h.1 hc
    refine g_aload_0 E dX3_gatherPairs_46 ?_
    refine g_getR E fl_RX3_36 (kC_54 b) (sC_54 b) rfl dX3_gatherPairs_47 ?_
    refine g_iload_4 E dX3_gatherPairs_50 ?_
    refine g_iald E (kC_59 b) (sC_59 b) (by decide) h.1 dX3_gatherPairs_52 ?_
    replace h := h.2
    exact (t_X3_gatherPairs_b53 E hr x1 x2 x3 x4 s0 (σ 59 (x4.toNat)) σ c1 c2 c3 c4 cs0 (aC_59 hσ _) hσ h).weak (w_k (w_k (w_k (w_k (w_k (w_k (w_d (w_d (w_d (w_d (w_d (w_d w_n))))))))))))
  · replace h := h.2 hc
    refine g_iconst E dX3_gatherPairs_42 ?_
    refine g_goto E djX3_gatherPairs_43 ?_
    exact (t_X3_gatherPairs_b53 E hr x1 x2 x3 x4 s0 1 σ c1 c2 c3 c4 cs0 cl_1 hσ h).weak (w_k (w_k (w_k (w_k (w_k (w_k (w_d (w_d (w_d (w_d (w_d (w_d w_n))))))))))))
set_option maxHeartbeats 4000000 in
set_option maxRecDepth 100000 in
theorem t_X3_gatherPairs (E : Ev p s m args meth c cX3_gatherPairs 12 RX3 A0 D cA ad (NC b) Z) (hr : meth.sig.returnType = none) (x1 : Int) (x2 : Int) (σ : St) (c1 : C32 x1) (c2 : C32 x2) (hσ : CanS (shC b) (NC b) σ) (h : wp_X3_gatherPairs x1 x2 σ Q) : G p l e (rmL 3 0 0) s m args below meth c 12 A0 D cA ad (shC b) (NC b) 0 0 (MQ below (QVc D cA ad (shC b) (NC b) Q A0) args s 0 0 A0) σ 0 [some (.ref (ad 54)), some (vI x1), some (vI x2), none, none, none, none, none, none, none, none, none] [] := by
  unfold wp_X3_gatherPairs at h
  refine g_aload_0 E dX3_gatherPairs_0 ?_
  refine g_getR E fl_RX3_15 (kC_54 b) (sC_54 b) rfl dX3_gatherPairs_1 ?_
  refine g_getR E fl_RX3_79 (kC_24 b) (sC_24 b) rfl dX3_gatherPairs_4 ?_
  refine g_iload_1 E dX3_gatherPairs_7 ?_
  refine g_iald E (kC_31 b) (sC_31 b) (by decide) h.1 dX3_gatherPairs_8 ?_
  replace h := h.2
  refine g_nmI (fun v1 ev1 => ?_)
  replace h := h v1 ev1
  have cv1 : C32 v1 := by rw [ev1]; exact (aC_31 hσ _)
  refine g_istore_3 E rfl (by decide) dX3_gatherPairs_9 ?_
  refine g_aload_0 E dX3_gatherPairs_10 ?_
  refine g_getR E fl_RX3_15 (kC_54 b) (sC_54 b) rfl dX3_gatherPairs_11 ?_
  refine g_getR E fl_RX3_82 (kC_24 b) (sC_24 b) rfl dX3_gatherPairs_14 ?_
  refine g_iload_1 E dX3_gatherPairs_17 ?_
  refine g_iald E (kC_32 b) (sC_32 b) (by decide) h.1 dX3_gatherPairs_18 ?_
  replace h := h.2
  refine g_nmI (fun v2 ev2 => ?_)
  replace h := h v2 ev2
  have cv2 : C32 v2 := by rw [ev2]; exact (aC_32 hσ _)
  refine g_istore_4 E rfl (by decide) dX3_gatherPairs_19 ?_
  refine g_iload_3 E dX3_gatherPairs_21 ?_
  refine g_if_ge E cv1 djX3_gatherPairs_22 (fun hc => ?_) (fun hc => ?_)
  · replace h := h.1 hc
    refine g_aload_0 E dX3_gatherPairs_29 ?_
    refine g_getR E fl_RX3_36 (kC_54 b) (sC_54 b) rfl dX3_gatherPairs_30 ?_
    refine g_iload_3 E dX3_gatherPairs_33 ?_
    refine g_iald E (kC_59 b) (sC_59 b) (by decide) h.1 dX3_gatherPairs_34 ?_
    replace h := h.2
    exact (t_X3_gatherPairs_b35 E hr x1 x2 v1 v2 (σ 59 (v1.toNat)) σ c1 c2 cv1 cv2 (aC_59 hσ _) hσ h).weak (w_k (w_k (w_k (w_k (w_k (w_d (w_d (w_d (w_d (w_d (w_d (w_d w_n))))))))))))
  · replace h := h.2 hc
    refine g_iconst E dX3_gatherPairs_25 ?_
    refine g_goto E djX3_gatherPairs_26 ?_
    exact (t_X3_gatherPairs_b35 E hr x1 x2 v1 v2 1 σ c1 c2 cv1 cv2 cl_1 hσ h).weak (w_k (w_k (w_k (w_k (w_k (w_d (w_d (w_d (w_d (w_d (w_d (w_d w_n))))))))))))
end
theorem m_X3_gatherPairs {Z : (Nat → Nat) × (Nat → Nat)} {l : Launch} {D : va_G} {cA : Nat → ClassId} {ad : Nat → Nat} {b : Bool} {x1 x2 : Int} {σ : St} {Q : Int → St → Prop} (hA : AdOk (NC b) ad) (c1 : C32 x1) (c2 : C32 x2) (hσ : CanS (shC b) (NC b) σ) (h : wp_X3_gatherPairs x1 x2 σ Q) : KtV Z l D cA ad (shC b) (NC b) yX3_gatherPairs cX3_gatherPairs 12 none 3 [.ref (ad 54), vI x1, vI x2] σ Q :=
  KtV.of my_X3_gatherPairs hA [some (.ref (ad 54)), some (vI x1), some (vI x2), none, none, none, none, none, none, none, none, none] (Nat.le_of_ble_eq_true rfl) rfl (fun p e s m args below meth c A0 E hr => t_X3_gatherPairs E hr x1 x2 σ c1 c2 hσ h)
theorem dX3_gatherBase_0 : Dc cX3_gatherBase 0 (.aload_n 0) 1 1 := ⟨by decide +kernel, rfl⟩
theorem dX3_gatherBase_1 : Dc cX3_gatherBase 1 (.getfield 15) 3 4 := ⟨by decide +kernel, rfl⟩
theorem dX3_gatherBase_4 : Dc cX3_gatherBase 4 (.iload_n 1) 1 5 := ⟨by decide +kernel, rfl⟩
theorem dX3_gatherBase_5 : Dc cX3_gatherBase 5 (.invokevirtual 111) 3 8 := ⟨by decide +kernel, rfl⟩
theorem dX3_gatherBase_8 : Dc cX3_gatherBase 8 (.istore_n 3) 1 9 := ⟨by decide +kernel, rfl⟩
theorem dX3_gatherBase_9 : Dc cX3_gatherBase 9 (.iload_n 3) 1 10 := ⟨by decide +kernel, rfl⟩
theorem dX3_gatherBase_10 : Dc cX3_gatherBase 10 (.aload_n 0) 1 11 := ⟨by decide +kernel, rfl⟩
theorem dX3_gatherBase_11 : Dc cX3_gatherBase 11 (.getfield 15) 3 14 := ⟨by decide +kernel, rfl⟩
theorem dX3_gatherBase_14 : Dc cX3_gatherBase 14 (.iload_n 1) 1 15 := ⟨by decide +kernel, rfl⟩
theorem dX3_gatherBase_15 : Dc cX3_gatherBase 15 (.invokevirtual 115) 3 18 := ⟨by decide +kernel, rfl⟩
theorem djX3_gatherBase_18 : Dj cX3_gatherBase 18 (.if_icmp .ge 37) 3 21 37 55 := ⟨by decide +kernel, rfl, by decide⟩
theorem dX3_gatherBase_21 : Dc cX3_gatherBase 21 (.aload_n 0) 1 22 := ⟨by decide +kernel, rfl⟩
theorem dX3_gatherBase_22 : Dc cX3_gatherBase 22 (.getfield 15) 3 25 := ⟨by decide +kernel, rfl⟩
theorem dX3_gatherBase_25 : Dc cX3_gatherBase 25 (.iload_n 3) 1 26 := ⟨by decide +kernel, rfl⟩
theorem dX3_gatherBase_26 : Dc cX3_gatherBase 26 (.invokevirtual 121) 3 29 := ⟨by decide +kernel, rfl⟩
theorem djX3_gatherBase_29 : Dj cX3_gatherBase 29 (.ifCond .ne 20) 3 32 20 49 := ⟨by decide +kernel, rfl, by decide⟩
theorem dX3_gatherBase_32 : Dc cX3_gatherBase 32 (.aload_n 0) 1 33 := ⟨by decide +kernel, rfl⟩
theorem dX3_gatherBase_33 : Dc cX3_gatherBase 33 (.getfield 19) 3 36 := ⟨by decide +kernel, rfl⟩
theorem dX3_gatherBase_36 : Dc cX3_gatherBase 36 (.iload_n 3) 1 37 := ⟨by decide +kernel, rfl⟩
theorem dX3_gatherBase_37 : Dc cX3_gatherBase 37 (.invokevirtual 125) 3 40 := ⟨by decide +kernel, rfl⟩
theorem djX3_gatherBase_40 : Dj cX3_gatherBase 40 (.ifCond .eq 9) 3 43 9 49 := ⟨by decide +kernel, rfl, by decide⟩
theorem dX3_gatherBase_43 : Dc cX3_gatherBase 43 (.aload_n 0) 1 44 := ⟨by decide +kernel, rfl⟩
theorem dX3_gatherBase_44 : Dc cX3_gatherBase 44 (.iload_n 3) 1 45 := ⟨by decide +kernel, rfl⟩
theorem dX3_gatherBase_45 : Dc cX3_gatherBase 45 (.iload_n 2) 1 46 := ⟨by decide +kernel, rfl⟩
theorem dX3_gatherBase_46 : Dc cX3_gatherBase 46 (.invokevirtual 128) 3 49 := ⟨by decide +kernel, rfl⟩
theorem dX3_gatherBase_49 : Dc cX3_gatherBase 49 (.iinc 3 1) 3 52 := ⟨by decide +kernel, rfl⟩
theorem djX3_gatherBase_52 : Dj cX3_gatherBase 52 (.goto (-43)) 3 55 (-43) 9 := ⟨by decide +kernel, rfl, by decide⟩
theorem dX3_gatherBase_55 : Dc cX3_gatherBase 55 (.return_) 1 56 := ⟨by decide +kernel, rfl⟩
section
variable {p : Program} {l : Launch} {e : Env} {s : State} {m : MethodId} {args : Array Value} {below : List Frame} {meth : Method} {c : Code} {A0 : Nat → Prop} {D : va_G} {cA : Nat → ClassId} {ad : Nat → Nat} {Z : (Nat → Nat) × (Nat → Nat)} {Q : Int → St → Prop} {b : Bool}
set_option maxHeartbeats 4000000 in
set_option maxRecDepth 100000 in
theorem t_X3_gatherBase_b49 (E : Ev p s m args meth c cX3_gatherBase 4 RX3 A0 D cA ad (NC b) Z) (hr : meth.sig.returnType = none) {K9 : Int → Int → Int → St → Prop} (hK9 : ∀ (x1 : Int) (x2 : Int) (x3 : Int) (σ : St), C32 x1 → C32 x2 → C32 x3 → CanS (shC b) (NC b) σ → K9 x1 x2 x3 σ → G p l e (rmL 4 0 0) s m args below meth c 4 A0 D cA ad (shC b) (NC b) 0 0 (MQ below (QVc D cA ad (shC b) (NC b) Q A0) args s 0 0 A0) σ 9 [some (.ref (ad 54)), some (vI x1), some (vI x2), some (vI x3)] []) (x1 : Int) (x2 : Int) (x3 : Int) (σ : St) (c1 : C32 x1) (c2 : C32 x2) (c3 : C32 x3) (hσ : CanS (shC b) (NC b) σ) (h : wp_X3_gatherBase_b49 Q K9 x1 x2 x3 σ) : G p l e (rmL 4 0 0) s m args below meth c 4 A0 D cA ad (shC b) (NC b) 0 0 (MQ below (QVc D cA ad (shC b) (NC b) Q A0) args s 0 0 A0) σ 49 [some (.ref (ad 54)), some (vI x1), some (vI x2), some (vI x3)] [] := by
  unfold wp_X3_gatherBase_b49 at h
  refine g_iinc_3 E rfl (by decide) dX3_gatherBase_49 (fun v11 ev11 => ?_)
  replace h := h v11 ev11
  have cv11 : C32 v11 := by rw [ev11]; exact c32_w _
  refine g_goto E djX3_gatherBase_52 ?_
  exact (hK9 x1 x2 v11 σ c1 c2 cv11 hσ h).weak (w_k (w_k (w_k (w_k w_n))))
set_option maxHeartbeats 4000000 in
set_option maxRecDepth 100000 in
theorem t_X3_gatherBase_l9 (E : Ev p s m args meth c cX3_gatherBase 4 RX3 A0 D cA ad (NC b) Z) (hr : meth.sig.returnType = none) : ∀ (n : Nat) (x1 : Int) (x2 : Int) (x3 : Int) (σ : St), C32 x1 → C32 x2 → C32 x3 → CanS (shC b) (NC b) σ → wp_X3_gatherBase_l9 Q n x1 x2 x3 σ → G p l e (rmL 4 0 0) s m args below meth c 4 A0 D cA ad (shC b) (NC b) 0 0 (MQ below (QVc D cA ad (shC b) (NC b) Q A0) args s 0 0 A0) σ 9 [some (.ref (ad 54)), some (vI x1), some (vI x2), some (vI x3)] [] := by
  intro n
  induction n with
  | zero => intro _ _ _ _ _ _ _ _ h; exact h.elim
  | succ n ih =>
    intro x1 x2 x3 σ c1 c2 c3 hσ h
    unfold wp_X3_gatherBase_l9 at h
    refine g_iload_3 E dX3_gatherBase_9 ?_
    refine g_aload_0 E dX3_gatherBase_10 ?_
    refine g_getR E fl_RX3_15 (kC_54 b) (sC_54 b) rfl dX3_gatherBase_11 ?_
    refine g_iload_1 E dX3_gatherBase_14 ?_
    refine g_callvI E my_X0_caseEnd mi_X0_caseEnd msel_X0_caseEnd ml_RX3_115 (rm_ok (by decide) (by decide)) ⟨Nat.zero_le _, Nat.zero_le _⟩ (kC_24 b) (sC_24 b) rfl (m_X0_caseEnd E.2.2.1 c1 hσ h) rfl rfl (Nat.le_of_ble_eq_true rfl) dX3_gatherBase_15 (fun r3 σ4 cr3 hσ4 h => ?_)
    refine g_icmp_ge E c3 cr3 djX3_gatherBase_18 (fun hc => ?_) (fun hc => ?_)
    · replace h := h.1 hc
      exact g_vret E hr h hσ4 dX3_gatherBase_55
    · replace h := h.2 hc
      refine g_aload_0 E dX3_gatherBase_21 ?_
      refine g_getR E fl_RX3_15 (kC_54 b) (sC_54 b) rfl dX3_gatherBase_22 ?_
      refine g_iload_3 E dX3_gatherBase_25 ?_
      refine g_callvI E my_X0_goesOn mi_X0_goesOn msel_X0_goesOn ml_RX3_121 (rm_ok (by decide) (by decide)) ⟨Nat.zero_le _, Nat.zero_le _⟩ (kC_24 b) (sC_24 b) rfl (m_X0_goesOn E.2.2.1 c3 hσ4 h) rfl rfl (Nat.le_of_ble_eq_true rfl) dX3_gatherBase_26 (fun r5 σ6 cr5 hσ6 h => ?_)
      refine g_if_ne E cr5 djX3_gatherBase_29 (fun hc => ?_) (fun hc => ?_)
      · replace h := h.1 hc
        exact (t_X3_gatherBase_b49 E hr ih x1 x2 x3 σ6 c1 c2 c3 hσ6 h).weak (w_k (w_k (w_k (w_k w_n))))
      · replace h := h.2 hc
        refine g_aload_0 E dX3_gatherBase_32 ?_
        refine g_getR E fl_RX3_19 (kC_54 b) (sC_54 b) rfl dX3_gatherBase_33 ?_
        refine g_iload_3 E dX3_gatherBase_36 ?_
        refine g_callvI E my_X1_isFull mi_X1_isFull msel_X1_isFull ml_RX3_125 (rm_ok (by decide) (by decide)) ⟨Nat.zero_le _, Nat.zero_le _⟩ (kC_36 b) (sC_36 b) rfl (m_X1_isFull E.2.2.1 c3 hσ6 h) rfl rfl (Nat.le_of_ble_eq_true rfl) dX3_gatherBase_37 (fun r7 σ8 cr7 hσ8 h => ?_)
        refine g_if_eq E cr7 djX3_gatherBase_40 (fun hc => ?_) (fun hc => ?_)
        · replace h := h.1 hc
          exact (t_X3_gatherBase_b49 E hr ih x1 x2 x3 σ8 c1 c2 c3 hσ8 h).weak (w_k (w_k (w_k (w_k w_n))))
        · replace h := h.2 hc
          refine g_aload_0 E dX3_gatherBase_43 ?_
          refine g_iload_3 E dX3_gatherBase_44 ?_
          refine g_iload_2 E dX3_gatherBase_45 ?_
          refine g_callvV E my_X3_gatherPairs mi_X3_gatherPairs msel_X3_gatherPairs ml_RX3_128 (rm_ok (by decide) (by decide)) ⟨Nat.zero_le _, Nat.zero_le _⟩ (kC_54 b) (sC_54 b) rfl (m_X3_gatherPairs E.2.2.1 c3 c2 hσ8 h) rfl rfl (Nat.le_of_ble_eq_true rfl) dX3_gatherBase_46 (fun σ10 r9 hσ10 h => ?_)
          exact (t_X3_gatherBase_b49 E hr ih x1 x2 x3 σ10 c1 c2 c3 hσ10 h).weak (w_k (w_k (w_k (w_k w_n))))
set_option maxHeartbeats 4000000 in
set_option maxRecDepth 100000 in
theorem t_X3_gatherBase (E : Ev p s m args meth c cX3_gatherBase 4 RX3 A0 D cA ad (NC b) Z) (hr : meth.sig.returnType = none) (x1 : Int) (x2 : Int) (σ : St) (c1 : C32 x1) (c2 : C32 x2) (hσ : CanS (shC b) (NC b) σ) (h : wp_X3_gatherBase x1 x2 σ Q) : G p l e (rmL 4 0 0) s m args below meth c 4 A0 D cA ad (shC b) (NC b) 0 0 (MQ below (QVc D cA ad (shC b) (NC b) Q A0) args s 0 0 A0) σ 0 [some (.ref (ad 54)), some (vI x1), some (vI x2), none] [] := by
  unfold wp_X3_gatherBase at h
  refine g_aload_0 E dX3_gatherBase_0 ?_
  refine g_getR E fl_RX3_15 (kC_54 b) (sC_54 b) rfl dX3_gatherBase_1 ?_
  refine g_iload_1 E dX3_gatherBase_4 ?_
  refine g_callvI E my_X0_caseStart mi_X0_caseStart msel_X0_caseStart ml_RX3_111 (rm_ok (by decide) (by decide)) ⟨Nat.zero_le _, Nat.zero_le _⟩ (kC_24 b) (sC_24 b) rfl (m_X0_caseStart E.2.2.1 c1 hσ h) rfl rfl (Nat.le_of_ble_eq_true rfl) dX3_gatherBase_5 (fun r1 σ2 cr1 hσ2 h => ?_)
  refine g_istore_3 E rfl (by decide) dX3_gatherBase_8 ?_
  exact (t_X3_gatherBase_l9 E hr bigN x1 x2 r1 σ2 c1 c2 cr1 hσ2 h).weak (w_k (w_k (w_k (w_k w_n))))
end
theorem m_X3_gatherBase {Z : (Nat → Nat) × (Nat → Nat)} {l : Launch} {D : va_G} {cA : Nat → ClassId} {ad : Nat → Nat} {b : Bool} {x1 x2 : Int} {σ : St} {Q : Int → St → Prop} (hA : AdOk (NC b) ad) (c1 : C32 x1) (c2 : C32 x2) (hσ : CanS (shC b) (NC b) σ) (h : wp_X3_gatherBase x1 x2 σ Q) : KtV Z l D cA ad (shC b) (NC b) yX3_gatherBase cX3_gatherBase 4 none 4 [.ref (ad 54), vI x1, vI x2] σ Q :=
  KtV.of my_X3_gatherBase hA [some (.ref (ad 54)), some (vI x1), some (vI x2), none] (Nat.le_of_ble_eq_true rfl) rfl (fun p e s m args below meth c A0 E hr => t_X3_gatherBase E hr x1 x2 σ c1 c2 hσ h)
theorem dX3_append_0 : Dc cX3_append 0 (.iload_n 1) 1 1 := ⟨by decide +kernel, rfl⟩
theorem dX3_append_1 : Dc cX3_append 1 (.bipush 16) 2 3 := ⟨by decide +kernel, rfl⟩
theorem dX3_append_3 : Dc cX3_append 3 (.imul) 1 4 := ⟨by decide +kernel, rfl⟩
theorem dX3_append_4 : Dc cX3_append 4 (.istore 5) 2 6 := ⟨by decide +kernel, rfl⟩
theorem dX3_append_6 : Dc cX3_append 6 (.iload 5) 2 8 := ⟨by decide +kernel, rfl⟩
theorem dX3_append_8 : Dc cX3_append 8 (.aload_n 0) 1 9 := ⟨by decide +kernel, rfl⟩
theorem dX3_append_9 : Dc cX3_append 9 (.getfield 36) 3 12 := ⟨by decide +kernel, rfl⟩
theorem dX3_append_12 : Dc cX3_append 12 (.iload_n 1) 1 13 := ⟨by decide +kernel, rfl⟩
theorem dX3_append_13 : Dc cX3_append 13 (.iaload) 1 14 := ⟨by decide +kernel, rfl⟩
theorem dX3_append_14 : Dc cX3_append 14 (.iadd) 1 15 := ⟨by decide +kernel, rfl⟩
theorem dX3_append_15 : Dc cX3_append 15 (.istore 6) 2 17 := ⟨by decide +kernel, rfl⟩
theorem dX3_append_17 : Dc cX3_append 17 (.iconst 0) 1 18 := ⟨by decide +kernel, rfl⟩
theorem dX3_append_18 : Dc cX3_append 18 (.istore 7) 2 20 := ⟨by decide +kernel, rfl⟩
theorem dX3_append_20 : Dc cX3_append 20 (.iload 5) 2 22 := ⟨by decide +kernel, rfl⟩
theorem dX3_append_22 : Dc cX3_append 22 (.istore 8) 2 24 := ⟨by decide +kernel, rfl⟩
theorem dX3_append_24 : Dc cX3_append 24 (.iload 8) 2 26 := ⟨by decide +kernel, rfl⟩
theorem dX3_append_26 : Dc cX3_append 26 (.iload 6) 2 28 := ⟨by decide +kernel, rfl⟩
theorem djX3_append_28 : Dj cX3_append 28 (.if_icmp .ge 36) 3 31 36 64 := ⟨by decide +kernel, rfl, by decide⟩
theorem dX3_append_31 : Dc cX3_append 31 (.aload_n 0) 1 32 := ⟨by decide +kernel, rfl⟩
theorem dX3_append_32 : Dc cX3_append 32 (.aload_n 0) 1 33 := ⟨by decide +kernel, rfl⟩
theorem dX3_append_33 : Dc cX3_append 33 (.getfield 27) 3 36 := ⟨by decide +kernel, rfl⟩
theorem dX3_append_36 : Dc cX3_append 36 (.iload 8) 2 38 := ⟨by decide +kernel, rfl⟩
theorem dX3_append_38 : Dc cX3_append 38 (.iaload) 1 39 := ⟨by decide +kernel, rfl⟩
theorem dX3_append_39 : Dc cX3_append 39 (.aload_n 0) 1 40 := ⟨by decide +kernel, rfl⟩
theorem dX3_append_40 : Dc cX3_append 40 (.getfield 30) 3 43 := ⟨by decide +kernel, rfl⟩
theorem dX3_append_43 : Dc cX3_append 43 (.iload 8) 2 45 := ⟨by decide +kernel, rfl⟩
theorem dX3_append_45 : Dc cX3_append 45 (.iaload) 1 46 := ⟨by decide +kernel, rfl⟩
theorem dX3_append_46 : Dc cX3_append 46 (.iload_n 3) 1 47 := ⟨by decide +kernel, rfl⟩
theorem dX3_append_47 : Dc cX3_append 47 (.iload 4) 2 49 := ⟨by decide +kernel, rfl⟩
theorem dX3_append_49 : Dc cX3_append 49 (.invokevirtual 138) 3 52 := ⟨by decide +kernel, rfl⟩
theorem djX3_append_52 : Dj cX3_append 52 (.ifCond .eq 6) 3 55 6 58 := ⟨by decide +kernel, rfl, by decide⟩
theorem dX3_append_55 : Dc cX3_append 55 (.iinc 7 1) 3 58 := ⟨by decide +kernel, rfl⟩
theorem dX3_append_58 : Dc cX3_append 58 (.iinc 8 1) 3 61 := ⟨by decide +kernel, rfl⟩
theorem djX3_append_61 : Dj cX3_append 61 (.goto (-37)) 3 64 (-37) 24 := ⟨by decide +kernel, rfl, by decide⟩
theorem dX3_append_64 : Dc cX3_append 64 (.iload 5) 2 66 := ⟨by decide +kernel, rfl⟩
theorem dX3_append_66 : Dc cX3_append 66 (.istore 8) 2 68 := ⟨by decide +kernel, rfl⟩
theorem dX3_append_68 : Dc cX3_append 68 (.iload 8) 2 70 := ⟨by decide +kernel, rfl⟩
theorem dX3_append_70 : Dc cX3_append 70 (.iload 6) 2 72 := ⟨by decide +kernel, rfl⟩
theorem djX3_append_72 : Dj cX3_append 72 (.if_icmp .ge 32) 3 75 32 104 := ⟨by decide +kernel, rfl, by decide⟩
theorem dX3_append_75 : Dc cX3_append 75 (.aload_n 0) 1 76 := ⟨by decide +kernel, rfl⟩
theorem dX3_append_76 : Dc cX3_append 76 (.getfield 33) 3 79 := ⟨by decide +kernel, rfl⟩
theorem dX3_append_79 : Dc cX3_append 79 (.iload 8) 2 81 := ⟨by decide +kernel, rfl⟩
theorem dX3_append_81 : Dc cX3_append 81 (.iaload) 1 82 := ⟨by decide +kernel, rfl⟩
theorem dX3_append_82 : Dc cX3_append 82 (.iload 7) 2 84 := ⟨by decide +kernel, rfl⟩
theorem djX3_append_84 : Dj cX3_append 84 (.if_icmp .lt 14) 3 87 14 98 := ⟨by decide +kernel, rfl, by decide⟩
theorem dX3_append_87 : Dc cX3_append 87 (.aload_n 0) 1 88 := ⟨by decide +kernel, rfl⟩
theorem dX3_append_88 : Dc cX3_append 88 (.getfield 33) 3 91 := ⟨by decide +kernel, rfl⟩
theorem dX3_append_91 : Dc cX3_append 91 (.iload 8) 2 93 := ⟨by decide +kernel, rfl⟩
theorem dX3_append_93 : Dc cX3_append 93 (.dup2) 1 94 := ⟨by decide +kernel, rfl⟩
theorem dX3_append_94 : Dc cX3_append 94 (.iaload) 1 95 := ⟨by decide +kernel, rfl⟩
theorem dX3_append_95 : Dc cX3_append 95 (.iconst 1) 1 96 := ⟨by decide +kernel, rfl⟩
theorem dX3_append_96 : Dc cX3_append 96 (.iadd) 1 97 := ⟨by decide +kernel, rfl⟩
theorem dX3_append_97 : Dc cX3_append 97 (.iastore) 1 98 := ⟨by decide +kernel, rfl⟩
theorem dX3_append_98 : Dc cX3_append 98 (.iinc 8 1) 3 101 := ⟨by decide +kernel, rfl⟩
theorem djX3_append_101 : Dj cX3_append 101 (.goto (-33)) 3 104 (-33) 68 := ⟨by decide +kernel, rfl, by decide⟩
theorem dX3_append_104 : Dc cX3_append 104 (.aload_n 0) 1 105 := ⟨by decide +kernel, rfl⟩
theorem dX3_append_105 : Dc cX3_append 105 (.getfield 23) 3 108 := ⟨by decide +kernel, rfl⟩
theorem dX3_append_108 : Dc cX3_append 108 (.iload 6) 2 110 := ⟨by decide +kernel, rfl⟩
theorem dX3_append_110 : Dc cX3_append 110 (.iload_n 2) 1 111 := ⟨by decide +kernel, rfl⟩
theorem dX3_append_111 : Dc cX3_append 111 (.iastore) 1 112 := ⟨by decide +kernel, rfl⟩
theorem dX3_append_112 : Dc cX3_append 112 (.aload_n 0) 1 113 := ⟨by decide +kernel, rfl⟩
theorem dX3_append_113 : Dc cX3_append 113 (.getfield 27) 3 116 := ⟨by decide +kernel, rfl⟩
theorem dX3_append_116 : Dc cX3_append 116 (.iload 6) 2 118 := ⟨by decide +kernel, rfl⟩
theorem dX3_append_118 : Dc cX3_append 118 (.iload_n 3) 1 119 := ⟨by decide +kernel, rfl⟩
theorem dX3_append_119 : Dc cX3_append 119 (.iastore) 1 120 := ⟨by decide +kernel, rfl⟩
theorem dX3_append_120 : Dc cX3_append 120 (.aload_n 0) 1 121 := ⟨by decide +kernel, rfl⟩
theorem dX3_append_121 : Dc cX3_append 121 (.getfield 30) 3 124 := ⟨by decide +kernel, rfl⟩
theorem dX3_append_124 : Dc cX3_append 124 (.iload 6) 2 126 := ⟨by decide +kernel, rfl⟩
theorem dX3_append_126 : Dc cX3_append 126 (.iload 4) 2 128 := ⟨by decide +kernel, rfl⟩
theorem dX3_append_128 : Dc cX3_append 128 (.iastore) 1 129 := ⟨by decide +kernel, rfl⟩
theorem dX3_append_129 : Dc cX3_append 129 (.aload_n 0) 1 130 := ⟨by decide +kernel, rfl⟩
theorem dX3_append_130 : Dc cX3_append 130 (.getfield 33) 3 133 := ⟨by decide +kernel, rfl⟩
theorem dX3_append_133 : Dc cX3_append 133 (.iload 6) 2 135 := ⟨by decide +kernel, rfl⟩
theorem dX3_append_135 : Dc cX3_append 135 (.iload 7) 2 137 := ⟨by decide +kernel, rfl⟩
theorem dX3_append_137 : Dc cX3_append 137 (.iastore) 1 138 := ⟨by decide +kernel, rfl⟩
theorem dX3_append_138 : Dc cX3_append 138 (.aload_n 0) 1 139 := ⟨by decide +kernel, rfl⟩
theorem dX3_append_139 : Dc cX3_append 139 (.getfield 36) 3 142 := ⟨by decide +kernel, rfl⟩
theorem dX3_append_142 : Dc cX3_append 142 (.iload_n 1) 1 143 := ⟨by decide +kernel, rfl⟩
theorem dX3_append_143 : Dc cX3_append 143 (.dup2) 1 144 := ⟨by decide +kernel, rfl⟩
theorem dX3_append_144 : Dc cX3_append 144 (.iaload) 1 145 := ⟨by decide +kernel, rfl⟩
theorem dX3_append_145 : Dc cX3_append 145 (.iconst 1) 1 146 := ⟨by decide +kernel, rfl⟩
theorem dX3_append_146 : Dc cX3_append 146 (.iadd) 1 147 := ⟨by decide +kernel, rfl⟩
theorem dX3_append_147 : Dc cX3_append 147 (.iastore) 1 148 := ⟨by decide +kernel, rfl⟩
theorem dX3_append_148 : Dc cX3_append 148 (.return_) 1 149 := ⟨by decide +kernel, rfl⟩
section
variable {p : Program} {l : Launch} {e : Env} {s : State} {m : MethodId} {args : Array Value} {below : List Frame} {meth : Method} {c : Code} {A0 : Nat → Prop} {D : va_G} {cA : Nat → ClassId} {ad : Nat → Nat} {Z : (Nat → Nat) × (Nat → Nat)} {Q : Int → St → Prop} {b : Bool}
set_option maxHeartbeats 4000000 in
set_option maxRecDepth 100000 in
theorem t_X3_append_b58 (E : Ev p s m args meth c cX3_append 9 RX3 A0 D cA ad (NC b) Z) (hr : meth.sig.returnType = none) {K24 : Int → Int → Int → Int → Int → Int → Int → Int → St → Prop} (hK24 : ∀ (x1 : Int) (x2 : Int) (x3 : Int) (x4 : Int) (x5 : Int) (x6 : Int) (x7 : Int) (x8 : Int) (σ : St), C32 x1 → C32 x2 → C32 x3 → C32 x4 → C32 x5 → C32 x6 → C32 x7 → C32 x8 → CanS (shC b) (NC b) σ → K24 x1 x2 x3 x4 x5 x6 x7 x8 σ → G p l e (rmL 2 0 0) s m args below meth c 9 A0 D cA ad (shC b) (NC b) 0 0 (MQ below (QVc D cA ad (shC b) (NC b) Q A0) args s 0 0 A0) σ 24 [some (.ref (ad 54)), some (vI x1), some (vI x2), some (vI x3), some (vI x4), some (vI x5), some (vI x6), some (vI x7), some (vI x8)] []) (x1 : Int) (x2 : Int) (x3 : Int) (x4 : Int) (x5 : Int) (x6 : Int) (x7 : Int) (x8 : Int) (σ : St) (c1 : C32 x1) (c2 : C32 x2) (c3 : C32 x3) (c4 : C32 x4) (c5 : C32 x5) (c6 : C32 x6) (c7 : C32 x7) (c8 : C32 x8) (hσ : CanS (shC b) (NC b) σ) (h : wp_X3_append_b58 Q K24 x1 x2 x3 x4 x5 x6 x7 x8 σ) : G p l e (rmL 2 0 0) s m args below meth c 9 A0 D cA ad (shC b) (NC b) 0 0 (MQ below (QVc D cA ad (shC b) (NC b) Q A0) args s 0 0 A0) σ 58 [some (.ref (ad 54)), some (vI x1), some (vI x2), some (vI x3), some (vI x4), some (vI x5), some (vI x6), some (vI x7), some (vI x8)] [] := by
  unfold wp_X3_append_b58 at h
  refine g_iinc_8 E rfl (by decide) dX3_append_58 (fun v12 ev12 => ?_)
  replace h := h v12 ev12
  have cv12 : C32 v12 := by rw [ev12]; exact c32_w _
  refine g_goto E djX3_append_61 ?_
  exact (hK24 x1 x2 x3 x4 x5 x6 x7 v12 σ c1 c2 c3 c4 c5 c6 c7 cv12 hσ h).weak (w_k (w_k (w_k (w_k (w_k (w_k (w_k (w_k (w_k w_n)))))))))
set_option maxHeartbeats 4000000 in
set_option maxRecDepth 100000 in
theorem t_X3_append_b98 (E : Ev p s m args meth c cX3_append 9 RX3 A0 D cA ad (NC b) Z) (hr : meth.sig.returnType = none) {K68 : Int → Int → Int → Int → Int → Int → Int → St → Prop} (hK68 : ∀ (x1 : Int) (x2 : Int) (x3 : Int) (x4 : Int) (x6 : Int) (x7 : Int) (x8 : Int) (σ : St), C32 x1 → C32 x2 → C32 x3 → C32 x4 → C32 x6 → C32 x7 → C32 x8 → CanS (shC b) (NC b) σ → K68 x1 x2 x3 x4 x6 x7 x8 σ → G p l e (rmL 2 0 0) s m args below meth c 9 A0 D cA ad (shC b) (NC b) 0 0 (MQ below (QVc D cA ad (shC b) (NC b) Q A0) args s 0 0 A0) σ 68 [some (.ref (ad 54)), some (vI x1), some (vI x2), some (vI x3), some (vI x4), none, some (vI x6), some (vI x7), some (vI x8)] []) (x1 : Int) (x2 : Int) (x3 : Int) (x4 : Int) (x6 : Int) (x7 : Int) (x8 : Int) (σ : St) (c1 : C32 x1) (c2 : C32 x2) (c3 : C32 x3) (c4 : C32 x4) (c6 : C32 x6) (c7 : C32 x7) (c8 : C32 x8) (hσ : CanS (shC b) (NC b) σ) (h : wp_X3_append_b98 Q K68 x1 x2 x3 x4 x6 x7 x8 σ) : G p l e (rmL 2 0 0) s m args below meth c 9 A0 D cA ad (shC b) (NC b) 0 0 (MQ below (QVc D cA ad (shC b) (NC b) Q A0) args s 0 0 A0) σ 98 [some (.ref (ad 54)), some (vI x1), some (vI x2), some (vI x3), some (vI x4), none, some (vI x6), some (vI x7), some (vI x8)] [] := by
  unfold wp_X3_append_b98 at h
  refine g_iinc_8 E rfl (by decide) dX3_append_98 (fun v13 ev13 => ?_)
  replace h := h v13 ev13
  have cv13 : C32 v13 := by rw [ev13]; exact c32_w _
  refine g_goto E djX3_append_101 ?_
  exact (hK68 x1 x2 x3 x4 x6 x7 v13 σ c1 c2 c3 c4 c6 c7 cv13 hσ h).weak (w_k (w_k (w_k (w_k (w_k (w_d (w_k (w_k (w_k w_n)))))))))
set_option maxHeartbeats 4000000 in
set_option maxRecDepth 100000 in
theorem t_X3_append_l68 (E : Ev p s m args meth c cX3_append 9 RX3 A0 D cA ad (NC b) Z) (hr : meth.sig.returnType = none) : ∀ (n : Nat) (x1 : Int) (x2 : Int) (x3 : Int) (x4 : Int) (x6 : Int) (x7 : Int) (x8 : Int) (σ : St), C32 x1 → C32 x2 → C32 x3 → C32 x4 → C32 x6 → C32 x7 → C32 x8 → CanS (shC b) (NC b) σ → wp_X3_append_l68 Q n x1 x2 x3 x4 x6 x7 x8 σ → G p l e (rmL 2 0 0) s m args below meth c 9 A0 D cA ad (shC b) (NC b) 0 0 (MQ below (QVc D cA ad (shC b) (NC b) Q A0) args s 0 0 A0) σ 68 [some (.ref (ad 54)), some (vI x1), some (vI x2), some (vI x3), some (vI x4), none, some (vI x6), some (vI x7), some (vI x8)] [] := by
  intro n
  induction n with
  | zero => intro _ _ _ _ _ _ _ _ _ _ _ _ _ _ _ _ h; exact h.elim
  | succ n ih =>
    intro x1 x2 x3 x4 x6 x7 x8 σ c1 c2 c3 c4 c6 c7 c8 hσ h
    unfold wp_X3_append_l68 at h
    refine g_iload_8 E dX3_append_68 ?_
    refine g_iload_6 E dX3_append_70 ?_
    refine g_icmp_ge E c8 c6 djX3_append_72 (fun hc => ?_) (fun hc => ?_)
    · replace h := h.1 hc
      refine g_aload_0 E dX3_append_104 ?_
      refine g_getR E fl_RX3_23 (kC_54 b) (sC_54 b) rfl dX3_append_105 ?_
      refine g_iload_6 E dX3_append_108 ?_
      refine g_iload_2 E dX3_append_110 ?_
      refine g_iast E (kC_55 b) (sC_55 b) (by decide) h.1 dX3_append_111 (g_nmS (fun σ6 eσ6 => ?_))
      replace h := h.2 σ6 eσ6
      have hσ6 : CanS (shC b) (NC b) σ6 := by rw [eσ6]; exact wC_55 hσ c2
      refine g_aload_0 E dX3_append_112 ?_
      refine g_getR E fl_RX3_27 (kC_54 b) (sC_54 b) rfl dX3_append_113 ?_
      refine g_iload_6 E dX3_append_116 ?_
      refine g_iload_3 E dX3_append_118 ?_
      refine g_iast E (kC_56 b) (sC_56 b) (by decide) h.1 dX3_append_119 (g_nmS (fun σ7 eσ7 => ?_))
      replace h := h.2 σ7 eσ7
      have hσ7 : CanS (shC b) (NC b) σ7 := by rw [eσ7]; exact wC_56 hσ6 c3
      refine g_aload_0 E dX3_append_120 ?_
      refine g_getR E fl_RX3_30 (kC_54 b) (sC_54 b) rfl dX3_append_121 ?_
      refine g_iload_6 E dX3_append_124 ?_
      refine g_iload_4 E dX3_append_126 ?_
      refine g_iast E (kC_57 b) (sC_57 b) (by decide) h.1 dX3_append_128 (g_nmS (fun σ8 eσ8 => ?_))
      replace h := h.2 σ8 eσ8
      have hσ8 : CanS (shC b) (NC b) σ8 := by rw [eσ8]; exact wC_57 hσ7 c4
      refine g_aload_0 E dX3_append_129 ?_
      refine g_getR E fl_RX3_33 (kC_54 b) (sC_54 b) rfl dX3_append_130 ?_
      refine g_iload_6 E dX3_append_133 ?_
      refine g_iload_7 E dX3_append_135 ?_
      refine g_iast E (kC_58 b) (sC_58 b) (by decide) h.1 dX3_append_137 (g_nmS (fun σ9 eσ9 => ?_))
      replace h := h.2 σ9 eσ9
      have hσ9 : CanS (shC b) (NC b) σ9 := by rw [eσ9]; exact wC_58 hσ8 c7
      refine g_aload_0 E dX3_append_138 ?_
      refine g_getR E fl_RX3_36 (kC_54 b) (sC_54 b) rfl dX3_append_139 ?_
      refine g_iload_1 E dX3_append_142 ?_
      refine g_dup2 E rfl rfl dX3_append_143 ?_
      refine g_iald E (kC_59 b) (sC_59 b) (by decide) h.1 dX3_append_144 ?_
      replace h := h.2
      refine g_iconst E dX3_append_145 ?_
      refine g_iadd E dX3_append_146 ?_
      refine g_iast E (kC_59 b) (sC_59 b) (by decide) h.1 dX3_append_147 (g_nmS (fun σ10 eσ10 => ?_))
      replace h := h.2 σ10 eσ10
      have hσ10 : CanS (shC b) (NC b) σ10 := by rw [eσ10]; exact wC_59 hσ9 (c32_w _)
      exact g_vret E hr h hσ10 dX3_append_148
    · replace h := h.2 hc
      refine g_aload_0 E dX3_append_75 ?_
      refine g_getR E fl_RX3_33 (kC_54 b) (sC_54 b) rfl dX3_append_76 ?_
      refine g_iload_8 E dX3_append_79 ?_
      refine g_iald E (kC_58 b) (sC_58 b) (by decide) h.1 dX3_append_81 ?_
      replace h := h.2
      refine g_iload_7 E dX3_append_82 ?_
      refine g_icmp_lt E (aC_58 hσ _) c7 djX3_append_84 (fun hc => ?_) (fun hc => ?_)
      · replace h := h.1 hc
        exact (t_X3_append_b98 E hr ih x1 x2 x3 x4 x6 x7 x8 σ c1 c2 c3 c4 c6 c7 c8 hσ h).weak (w_k (w_k (w_k (w_k (w_k (w_d (w_k (w_k (w_k w_n)))))))))
      · replace h := h.2 hc
        refine g_aload_0 E dX3_append_87 ?_
        refine g_getR E fl_RX3_33 (kC_54 b) (sC_54 b) rfl dX3_append_88 ?_
        refine g_iload_8 E dX3_append_91 ?_
        refine g_dup2 E rfl rfl dX3_append_93 ?_
        refine g_iald E (kC_58 b) (sC_58 b) (by decide) h.1 dX3_append_94 ?_
        replace h := h.2
        refine g_iconst E dX3_append_95 ?_
        refine g_iadd E dX3_append_96 ?_
        refine g_iast E (kC_58 b) (sC_58 b) (by decide) h.1 dX3_append_97 (g_nmS (fun σ11 eσ11 => ?_))
        replace h := h.2 σ11 eσ11
        have hσ11 : CanS (shC b) (NC b) σ11 := by rw [eσ11]; exact wC_58 hσ (c32_w _)
        exact (t_X3_append_b98 E hr ih x1 x2 x3 x4 x6 x7 x8 σ11 c1 c2 c3 c4 c6 c7 c8 hσ11 h).weak (w_k (w_k (w_k (w_k (w_k (w_d (w_k (w_k (w_k w_n)))))))))
set_option maxHeartbeats 4000000 in
set_option maxRecDepth 100000 in
theorem t_X3_append_l24 (E : Ev p s m args meth c cX3_append 9 RX3 A0 D cA ad (NC b) Z) (hr : meth.sig.returnType = none) : ∀ (n : Nat) (x1 : Int) (x2 : Int) (x3 : Int) (x4 : Int) (x5 : Int) (x6 : Int) (x7 : Int) (x8 : Int) (σ : St), C32 x1 → C32 x2 → C32 x3 → C32 x4 → C32 x5 → C32 x6 → C32 x7 → C32 x8 → CanS (shC b) (NC b) σ → wp_X3_append_l24 Q n x1 x2 x3 x4 x5 x6 x7 x8 σ → G p l e (rmL 2 0 0) s m args below meth c 9 A0 D cA ad (shC b) (NC b) 0 0 (MQ below (QVc D cA ad (shC b) (NC b) Q A0) args s 0 0 A0) σ 24 [some (.ref (ad 54)), some (vI x1), some (vI x2), some (vI x3), some (vI x4), some (vI x5), some (vI x6), some (vI x7), some (vI x8)] [] := by
  intro n
  induction n with
  | zero => intro _ _ _ _ _ _ _ _ _ _ _ _ _ _ _ _ _ _ h; exact h.elim
  | succ n ih =>
    intro x1 x2 x3 x4 x5 x6 x7 x8 σ c1 c2 c3 c4 c5 c6 c7 c8 hσ h
    unfold wp_X3_append_l24 at h
    refine g_iload_8 E dX3_append_24 ?_
    refine g_iload_6 E dX3_append_26 ?_
    refine g_icmp_ge E c8 c6 djX3_append_28 (fun hc => ?_) (fun hc => ?_)
    · replace h := h.1 hc
      refine g_iload_5 E dX3_append_64 ?_
      refine g_istore_8 E rfl (by decide) dX3_append_66 ?_
      exact (t_X3_append_l68 E hr bigN x1 x2 x3 x4 x6 x7 x5 σ c1 c2 c3 c4 c6 c7 c5 hσ h).weak (w_k (w_k (w_k (w_k (w_k (w_d (w_k (w_k (w_k w_n)))))))))
    · replace h := h.2 hc
      refine g_aload_0 E dX3_append_31 ?_
      refine g_aload_0 E dX3_append_32 ?_
      refine g_getR E fl_RX3_27 (kC_54 b) (sC_54 b) rfl dX3_append_33 ?_
      refine g_iload_8 E dX3_append_36 ?_
      refine g_iald E (kC_56 b) (sC_56 b) (by decide) h.1 dX3_append_38 ?_
      replace h := h.2
      refine g_aload_0 E dX3_append_39 ?_
      refine g_getR E fl_RX3_30 (kC_54 b) (sC_54 b) rfl dX3_append_40 ?_
      refine g_iload_8 E dX3_append_43 ?_
      refine g_iald E (kC_57 b) (sC_57 b) (by decide) h.1 dX3_append_45 ?_
      replace h := h.2
      refine g_iload_3 E dX3_append_46 ?_
      refine g_iload_4 E dX3_append_47 ?_
      refine g_callvI E my_X3_isSmaller mi_X3_isSmaller msel_X3_isSmaller ml_RX3_138 (rm_ok (by decide) (by decide)) ⟨Nat.zero_le _, Nat.zero_le _⟩ (kC_54 b) (sC_54 b) rfl (m_X3_isSmaller E.2.2.1 (aC_56 hσ _) (aC_57 hσ _) c3 c4 hσ h) rfl rfl (Nat.le_of_ble_eq_true rfl) dX3_append_49 (fun r3 σ4 cr3 hσ4 h => ?_)
      refine g_if_eq E cr3 djX3_append_52 (fun hc => ?_) (fun hc => ?_)
      · replace h := h.1 hc
        exact (t_X3_append_b58 E hr ih x1 x2 x3 x4 x5 x6 x7 x8 σ4 c1 c2 c3 c4 c5 c6 c7 c8 hσ4 h).weak (w_k (w_k (w_k (w_k (w_k (w_k (w_k (w_k (w_k w_n)))))))))
      · replace h := h.2 hc
        refine g_iinc_7 E rfl (by decide) dX3_append_55 (fun v5 ev5 => ?_)
        replace h := h v5 ev5
        have cv5 : C32 v5 := by rw [ev5]; exact c32_w _
        exact (t_X3_append_b58 E hr ih x1 x2 x3 x4 x5 x6 v5 x8 σ4 c1 c2 c3 c4 c5 c6 cv5 c8 hσ4 h).weak (w_k (w_k (w_k (w_k (w_k (w_k (w_k (w_k (w_k w_n)))))))))
set_option maxHeartbeats 4000000 in
set_option maxRecDepth 100000 in
theorem t_X3_append (E : Ev p s m args meth c cX3_append 9 RX3 A0 D cA ad (NC b) Z) (hr : meth.sig.returnType = none) (x1 : Int) (x2 : Int) (x3 : Int) (x4 : Int) (σ : St) (c1 : C32 x1) (c2 : C32 x2) (c3 : C32 x3) (c4 : C32 x4) (hσ : CanS (shC b) (NC b) σ) (h : wp_X3_append x1 x2 x3 x4 σ Q) : G p l e (rmL 2 0 0) s m args below meth c 9 A0 D cA ad (shC b) (NC b) 0 0 (MQ below (QVc D cA ad (shC b) (NC b) Q A0) args s 0 0 A0) σ 0 [some (.ref (ad 54)), some (vI x1), some (vI x2), some (vI x3), some (vI x4), none, none, none, none] [] := by
  unfold wp_X3_append at h
  refine g_iload_1 E dX3_append_0 ?_
  refine g_bipush E (by decide) dX3_append_1 ?_
  refine g_imul E dX3_append_3 ?_
  refine g_nmI (fun v1 ev1 => ?_)
  replace h := h v1 ev1
  have cv1 : C32 v1 := by rw [ev1]; exact (c32_w _)
  refine g_istore_5 E rfl (by decide) dX3_append_4 ?_
  refine g_iload_5 E dX3_append_6 ?_
  refine g_aload_0 E dX3_append_8 ?_
  refine g_getR E fl_RX3_36 (kC_54 b) (sC_54 b) rfl dX3_append_9 ?_
  refine g_iload_1 E dX3_append_12 ?_
  refine g_iald E (kC_59 b) (sC_59 b) (by decide) h.1 dX3_append_13 ?_
  replace h := h.2
  refine g_iadd E dX3_append_14 ?_
  refine g_nmI (fun v2 ev2 => ?_)
  replace h := h v2 ev2
  have cv2 : C32 v2 := by rw [ev2]; exact (c32_w _)
  refine g_istore_6 E rfl (by decide) dX3_append_15 ?_
  refine g_iconst E dX3_append_17 ?_
  refine g_istore_7 E rfl (by decide) dX3_append_18 ?_
  refine g_iload_5 E dX3_append_20 ?_
  refine g_istore_8 E rfl (by decide) dX3_append_22 ?_
  exact (t_X3_append_l24 E hr bigN x1 x2 x3 x4 v1 v2 0 v1 σ c1 c2 c3 c4 cv1 cv2 cl_0 cv1 hσ h).weak (w_k (w_k (w_k (w_k (w_k (w_k (w_k (w_k (w_k w_n)))))))))
end
theorem m_X3_append {Z : (Nat → Nat) × (Nat → Nat)} {l : Launch} {D : va_G} {cA : Nat → ClassId} {ad : Nat → Nat} {b : Bool} {x1 x2 x3 x4 : Int} {σ : St} {Q : Int → St → Prop} (hA : AdOk (NC b) ad) (c1 : C32 x1) (c2 : C32 x2) (c3 : C32 x3) (c4 : C32 x4) (hσ : CanS (shC b) (NC b) σ) (h : wp_X3_append x1 x2 x3 x4 σ Q) : KtV Z l D cA ad (shC b) (NC b) yX3_append cX3_append 9 none 2 [.ref (ad 54), vI x1, vI x2, vI x3, vI x4] σ Q :=
  KtV.of my_X3_append hA [some (.ref (ad 54)), some (vI x1), some (vI x2), some (vI x3), some (vI x4), none, none, none, none] (Nat.le_of_ble_eq_true rfl) rfl (fun p e s m args below meth c A0 E hr => t_X3_append E hr x1 x2 x3 x4 σ c1 c2 c3 c4 hσ h)
theorem dX3_takeOfBase_0 : Dc cX3_takeOfBase 0 (.iload_n 2) 1 1 := ⟨by decide +kernel, rfl⟩
theorem dX3_takeOfBase_1 : Dc cX3_takeOfBase 1 (.bipush 16) 2 3 := ⟨by decide +kernel, rfl⟩
theorem dX3_takeOfBase_3 : Dc cX3_takeOfBase 3 (.imul) 1 4 := ⟨by decide +kernel, rfl⟩
theorem dX3_takeOfBase_4 : Dc cX3_takeOfBase 4 (.aload_n 0) 1 5 := ⟨by decide +kernel, rfl⟩
theorem dX3_takeOfBase_5 : Dc cX3_takeOfBase 5 (.getfield 55) 3 8 := ⟨by decide +kernel, rfl⟩
theorem dX3_takeOfBase_8 : Dc cX3_takeOfBase 8 (.iload_n 2) 1 9 := ⟨by decide +kernel, rfl⟩
theorem dX3_takeOfBase_9 : Dc cX3_takeOfBase 9 (.iaload) 1 10 := ⟨by decide +kernel, rfl⟩
theorem dX3_takeOfBase_10 : Dc cX3_takeOfBase 10 (.iadd) 1 11 := ⟨by decide +kernel, rfl⟩
theorem dX3_takeOfBase_11 : Dc cX3_takeOfBase 11 (.istore_n 3) 1 12 := ⟨by decide +kernel, rfl⟩
theorem dX3_takeOfBase_12 : Dc cX3_takeOfBase 12 (.aload_n 0) 1 13 := ⟨by decide +kernel, rfl⟩
theorem dX3_takeOfBase_13 : Dc cX3_takeOfBase 13 (.iload_n 1) 1 14 := ⟨by decide +kernel, rfl⟩
theorem dX3_takeOfBase_14 : Dc cX3_takeOfBase 14 (.aload_n 0) 1 15 := ⟨by decide +kernel, rfl⟩
theorem dX3_takeOfBase_15 : Dc cX3_takeOfBase 15 (.getfield 43) 3 18 := ⟨by decide +kernel, rfl⟩
theorem dX3_takeOfBase_18 : Dc cX3_takeOfBase 18 (.iload_n 3) 1 19 := ⟨by decide +kernel, rfl⟩
theorem dX3_takeOfBase_19 : Dc cX3_takeOfBase 19 (.iaload) 1 20 := ⟨by decide +kernel, rfl⟩
theorem dX3_takeOfBase_20 : Dc cX3_takeOfBase 20 (.aload_n 0) 1 21 := ⟨by decide +kernel, rfl⟩
theorem dX3_takeOfBase_21 : Dc cX3_takeOfBase 21 (.getfield 46) 3 24 := ⟨by decide +kernel, rfl⟩
theorem dX3_takeOfBase_24 : Dc cX3_takeOfBase 24 (.iload_n 3) 1 25 := ⟨by decide +kernel, rfl⟩
theorem dX3_takeOfBase_25 : Dc cX3_takeOfBase 25 (.iaload) 1 26 := ⟨by decide +kernel, rfl⟩
theorem dX3_takeOfBase_26 : Dc cX3_takeOfBase 26 (.aload_n 0) 1 27 := ⟨by decide +kernel, rfl⟩
theorem dX3_takeOfBase_27 : Dc cX3_takeOfBase 27 (.getfield 49) 3 30 := ⟨by decide +kernel, rfl⟩
theorem dX3_takeOfBase_30 : Dc cX3_takeOfBase 30 (.iload_n 3) 1 31 := ⟨by decide +kernel, rfl⟩
theorem dX3_takeOfBase_31 : Dc cX3_takeOfBase 31 (.iaload) 1 32 := ⟨by decide +kernel, rfl⟩
theorem dX3_takeOfBase_32 : Dc cX3_takeOfBase 32 (.invokevirtual 149) 3 35 := ⟨by decide +kernel, rfl⟩
theorem dX3_takeOfBase_35 : Dc cX3_takeOfBase 35 (.aload_n 0) 1 36 := ⟨by decide +kernel, rfl⟩
theorem dX3_takeOfBase_36 : Dc cX3_takeOfBase 36 (.getfield 55) 3 39 := ⟨by decide +kernel, rfl⟩
theorem dX3_takeOfBase_39 : Dc cX3_takeOfBase 39 (.iload_n 2) 1 40 := ⟨by decide +kernel, rfl⟩
theorem dX3_takeOfBase_40 : Dc cX3_takeOfBase 40 (.dup2) 1 41 := ⟨by decide +kernel, rfl⟩
theorem dX3_takeOfBase_41 : Dc cX3_takeOfBase 41 (.iaload) 1 42 := ⟨by decide +kernel, rfl⟩
theorem dX3_takeOfBase_42 : Dc cX3_takeOfBase 42 (.iconst 1) 1 43 := ⟨by decide +kernel, rfl⟩
theorem dX3_takeOfBase_43 : Dc cX3_takeOfBase 43 (.iadd) 1 44 := ⟨by decide +kernel, rfl⟩
theorem dX3_takeOfBase_44 : Dc cX3_takeOfBase 44 (.iastore) 1 45 := ⟨by decide +kernel, rfl⟩
theorem dX3_takeOfBase_45 : Dc cX3_takeOfBase 45 (.return_) 1 46 := ⟨by decide +kernel, rfl⟩
section
variable {p : Program} {l : Launch} {e : Env} {s : State} {m : MethodId} {args : Array Value} {below : List Frame} {meth : Method} {c : Code} {A0 : Nat → Prop} {D : va_G} {cA : Nat → ClassId} {ad : Nat → Nat} {Z : (Nat → Nat) × (Nat → Nat)} {Q : Int → St → Prop} {b : Bool}
set_option maxHeartbeats 4000000 in
set_option maxRecDepth 100000 in
theorem t_X3_takeOfBase (E : Ev p s m args meth c cX3_takeOfBase 4 RX3 A0 D cA ad (NC b) Z) (hr : meth.sig.returnType = none) (x1 : Int) (x2 : Int) (σ : St) (c1 : C32 x1) (c2 : C32 x2) (hσ : CanS (shC b) (NC b) σ) (h : wp_X3_takeOfBase x1 x2 σ Q) : G p l e (rmL 3 0 0) s m args below meth c 4 A0 D cA ad (shC b) (NC b) 0 0 (MQ below (QVc D cA ad (shC b) (NC b) Q A0) args s 0 0 A0) σ 0 [some (.ref (ad 54)), some (vI x1), some (vI x2), none] [] := by
  unfold wp_X3_takeOfBase at h
  refine g_iload_2 E dX3_takeOfBase_0 ?_
  refine g_bipush E (by decide) dX3_takeOfBase_1 ?_
  refine g_imul E dX3_takeOfBase_3 ?_
  refine g_aload_0 E dX3_takeOfBase_4 ?_
  refine g_getR E fl_RX3_55 (kC_54 b) (sC_54 b) rfl dX3_takeOfBase_5 ?_
  refine g_iload_2 E dX3_takeOfBase_8 ?_
  refine g_iald E (kC_65 b) (sC_65 b) (by decide) h.1 dX3_takeOfBase_9 ?_
  replace h := h.2
  refine g_iadd E dX3_takeOfBase_10 ?_
  refine g_nmI (fun v1 ev1 => ?_)
  replace h := h v1 ev1
  have cv1 : C32 v1 := by rw [ev1]; exact (c32_w _)
  refine g_istore_3 E rfl (by decide) dX3_takeOfBase_11 ?_
  refine g_aload_0 E dX3_takeOfBase_12 ?_
  refine g_iload_1 E dX3_takeOfBase_13 ?_
  refine g_aload_0 E dX3_takeOfBase_14 ?_
  refine g_getR E fl_RX3_43 (kC_54 b) (sC_54 b) rfl dX3_takeOfBase_15 ?_
  refine g_iload_3 E dX3_takeOfBase_18 ?_
  refine g_iald E (kC_61 b) (sC_61 b) (by decide) h.1 dX3_takeOfBase_19 ?_
  replace h := h.2
  refine g_aload_0 E dX3_takeOfBase_20 ?_
  refine g_getR E fl_RX3_46 (kC_54 b) (sC_54 b) rfl dX3_takeOfBase_21 ?_
  refine g_iload_3 E dX3_takeOfBase_24 ?_
  refine g_iald E (kC_62 b) (sC_62 b) (by decide) h.1 dX3_takeOfBase_25 ?_
  replace h := h.2
  refine g_aload_0 E dX3_takeOfBase_26 ?_
  refine g_getR E fl_RX3_49 (kC_54 b) (sC_54 b) rfl dX3_takeOfBase_27 ?_
  refine g_iload_3 E dX3_takeOfBase_30 ?_
  refine g_iald E (kC_63 b) (sC_63 b) (by decide) h.1 dX3_takeOfBase_31 ?_
  replace h := h.2
  refine g_callvV E my_X3_append mi_X3_append msel_X3_append ml_RX3_149 (rm_ok (by decide) (by decide)) ⟨Nat.zero_le _, Nat.zero_le _⟩ (kC_54 b) (sC_54 b) rfl (m_X3_append E.2.2.1 c1 (aC_61 hσ _) (aC_62 hσ _) (aC_63 hσ _) hσ h) rfl rfl (Nat.le_of_ble_eq_true rfl) dX3_takeOfBase_32 (fun σ3 r2 hσ3 h => ?_)
  refine g_aload_0 E dX3_takeOfBase_35 ?_
  refine g_getR E fl_RX3_55 (kC_54 b) (sC_54 b) rfl dX3_takeOfBase_36 ?_
  refine g_iload_2 E dX3_takeOfBase_39 ?_
  refine g_dup2 E rfl rfl dX3_takeOfBase_40 ?_
  refine g_iald E (kC_65 b) (sC_65 b) (by decide) h.1 dX3_takeOfBase_41 ?_
  replace h := h.2
  refine g_iconst E dX3_takeOfBase_42 ?_
  refine g_iadd E dX3_takeOfBase_43 ?_
  refine g_iast E (kC_65 b) (sC_65 b) (by decide) h.1 dX3_takeOfBase_44 (g_nmS (fun σ4 eσ4 => ?_))
  replace h := h.2 σ4 eσ4
  have hσ4 : CanS (shC b) (NC b) σ4 := by rw [eσ4]; exact wC_65 hσ3 (c32_w _)
  exact g_vret E hr h hσ4 dX3_takeOfBase_45
end
theorem m_X3_takeOfBase {Z : (Nat → Nat) × (Nat → Nat)} {l : Launch} {D : va_G} {cA : Nat → ClassId} {ad : Nat → Nat} {b : Bool} {x1 x2 : Int} {σ : St} {Q : Int → St → Prop} (hA : AdOk (NC b) ad) (c1 : C32 x1) (c2 : C32 x2) (hσ : CanS (shC b) (NC b) σ) (h : wp_X3_takeOfBase x1 x2 σ Q) : KtV Z l D cA ad (shC b) (NC b) yX3_takeOfBase cX3_takeOfBase 4 none 3 [.ref (ad 54), vI x1, vI x2] σ Q :=
  KtV.of my_X3_takeOfBase hA [some (.ref (ad 54)), some (vI x1), some (vI x2), none] (Nat.le_of_ble_eq_true rfl) rfl (fun p e s m args below meth c A0 E hr => t_X3_takeOfBase E hr x1 x2 σ c1 c2 hσ h)
theorem dX3_takeAllOfBase_0 : Dc cX3_takeAllOfBase 0 (.iconst 0) 1 1 := ⟨by decide +kernel, rfl⟩
theorem dX3_takeAllOfBase_1 : Dc cX3_takeAllOfBase 1 (.istore_n 3) 1 2 := ⟨by decide +kernel, rfl⟩
theorem dX3_takeAllOfBase_2 : Dc cX3_takeAllOfBase 2 (.iload_n 3) 1 3 := ⟨by decide +kernel, rfl⟩
theorem dX3_takeAllOfBase_3 : Dc cX3_takeAllOfBase 3 (.bipush 16) 2 5 := ⟨by decide +kernel, rfl⟩
theorem djX3_takeAllOfBase_5 : Dj cX3_takeAllOfBase 5 (.if_icmp .ge 30) 3 8 30 35 := ⟨by decide +kernel, rfl, by decide⟩
theorem dX3_takeAllOfBase_8 : Dc cX3_takeAllOfBase 8 (.aload_n 0) 1 9 := ⟨by decide +kernel, rfl⟩
theorem dX3_takeAllOfBase_9 : Dc cX3_takeAllOfBase 9 (.getfield 55) 3 12 := ⟨by decide +kernel, rfl⟩
theorem dX3_takeAllOfBase_12 : Dc cX3_takeAllOfBase 12 (.iload_n 2) 1 13 := ⟨by decide +kernel, rfl⟩
theorem dX3_takeAllOfBase_13 : Dc cX3_takeAllOfBase 13 (.iaload) 1 14 := ⟨by decide +kernel, rfl⟩
theorem dX3_takeAllOfBase_14 : Dc cX3_takeAllOfBase 14 (.aload_n 0) 1 15 := ⟨by decide +kernel, rfl⟩
theorem dX3_takeAllOfBase_15 : Dc cX3_takeAllOfBase 15 (.getfield 52) 3 18 := ⟨by decide +kernel, rfl⟩
theorem dX3_takeAllOfBase_18 : Dc cX3_takeAllOfBase 18 (.iload_n 2) 1 19 := ⟨by decide +kernel, rfl⟩
theorem dX3_takeAllOfBase_19 : Dc cX3_takeAllOfBase 19 (.iaload) 1 20 := ⟨by decide +kernel, rfl⟩
theorem djX3_takeAllOfBase_20 : Dj cX3_takeAllOfBase 20 (.if_icmp .ge 15) 3 23 15 35 := ⟨by decide +kernel, rfl, by decide⟩
theorem dX3_takeAllOfBase_23 : Dc cX3_takeAllOfBase 23 (.aload_n 0) 1 24 := ⟨by decide +kernel, rfl⟩
theorem dX3_takeAllOfBase_24 : Dc cX3_takeAllOfBase 24 (.iload_n 1) 1 25 := ⟨by decide +kernel, rfl⟩
theorem dX3_takeAllOfBase_25 : Dc cX3_takeAllOfBase 25 (.iload_n 2) 1 26 := ⟨by decide +kernel, rfl⟩
theorem dX3_takeAllOfBase_26 : Dc cX3_takeAllOfBase 26 (.invokevirtual 146) 3 29 := ⟨by decide +kernel, rfl⟩
theorem dX3_takeAllOfBase_29 : Dc cX3_takeAllOfBase 29 (.iinc 3 1) 3 32 := ⟨by decide +kernel, rfl⟩
theorem djX3_takeAllOfBase_32 : Dj cX3_takeAllOfBase 32 (.goto (-30)) 3 35 (-30) 2 := ⟨by decide +kernel, rfl, by decide⟩
theorem dX3_takeAllOfBase_35 : Dc cX3_takeAllOfBase 35 (.return_) 1 36 := ⟨by decide +kernel, rfl⟩
section
variable {p : Program} {l : Launch} {e : Env} {s : State} {m : MethodId} {args : Array Value} {below : List Frame} {meth : Method} {c : Code} {A0 : Nat → Prop} {D : va_G} {cA : Nat → ClassId} {ad : Nat → Nat} {Z : (Nat → Nat) × (Nat → Nat)} {Q : Int → St → Prop} {b : Bool}
set_option maxHeartbeats 4000000 in
set_option maxRecDepth 100000 in
theorem t_X3_takeAllOfBase_l2 (E : Ev p s m args meth c cX3_takeAllOfBase 4 RX3 A0 D cA ad (NC b) Z) (hr : meth.sig.returnType = none) : ∀ (n : Nat) (x1 : Int) (x2 : Int) (x3 : Int) (σ : St), C32 x1 → C32 x2 → C32 x3 → CanS (shC b) (NC b) σ → wp_X3_takeAllOfBase_l2 Q n x1 x2 x3 σ → G p l e (rmL 4 0 0) s m args below meth c 4 A0 D cA ad (shC b) (NC b) 0 0 (MQ below (QVc D cA ad (shC b) (NC b) Q A0) args s 0 0 A0) σ 2 [some (.ref (ad 54)), some (vI x1), some (vI x2), some (vI x3)] [] := by
  intro n
  induction n with
  | zero => intro _ _ _ _ _ _ _ _ h; exact h.elim
  | succ n ih =>
    intro x1 x2 x3 σ c1 c2 c3 hσ h
    unfold wp_X3_takeAllOfBase_l2 at h
    refine g_iload_3 E dX3_takeAllOfBase_2 ?_
    refine g_bipush E (by decide) dX3_takeAllOfBase_3 ?_
    refine g_icmp_ge E c3 cl_16 djX3_takeAllOfBase_5 (fun hc => ?_) (fun hc => ?_)
    · replace h := h.1 hc
      exact g_vret E hr h hσ dX3_takeAllOfBase_35
    · replace h := h.2 hc
      refine g_aload_0 E dX3_takeAllOfBase_8 ?_
      refine g_getR E fl_RX3_55 (kC_54 b) (sC_54 b) rfl dX3_takeAllOfBase_9 ?_
      refine g_iload_2 E dX3_takeAllOfBase_12 ?_
      refine g_iald E (kC_65 b) (sC_65 b) (by decide) h.1 dX3_takeAllOfBase_13 ?_
      replace h := h.2
      refine g_aload_0 E dX3_takeAllOfBase_14 ?_
      refine g_getR E fl_RX3_52 (kC_54 b) (sC_54 b) rfl dX3_takeAllOfBase_15 ?_
      refine g_iload_2 E dX3_takeAllOfBase_18 ?_
      refine g_iald E (kC_64 b) (sC_64 b) (by decide) h.1 dX3_takeAllOfBase_19 ?_
      replace h := h.2
      refine g_icmp_ge E (aC_65 hσ _) (aC_64 hσ _) djX3_takeAllOfBase_20 (fun hc => ?_) (fun hc => ?_)
      · replace h := h.1 hc
        exact g_vret E hr h hσ dX3_takeAllOfBase_35
      · replace h := h.2 hc
        refine g_aload_0 E dX3_takeAllOfBase_23 ?_
        refine g_iload_1 E dX3_takeAllOfBase_24 ?_
        refine g_iload_2 E dX3_takeAllOfBase_25 ?_
        refine g_callvV E my_X3_takeOfBase mi_X3_takeOfBase msel_X3_takeOfBase ml_RX3_146 (rm_ok (by decide) (by decide)) ⟨Nat.zero_le _, Nat.zero_le _⟩ (kC_54 b) (sC_54 b) rfl (m_X3_takeOfBase E.2.2.1 c1 c2 hσ h) rfl rfl (Nat.le_of_ble_eq_true rfl) dX3_takeAllOfBase_26 (fun σ2 r1 hσ2 h => ?_)
        refine g_iinc_3 E rfl (by decide) dX3_takeAllOfBase_29 (fun v3 ev3 => ?_)
        replace h := h v3 ev3
        have cv3 : C32 v3 := by rw [ev3]; exact c32_w _
        refine g_goto E djX3_takeAllOfBase_32 ?_
        exact (ih x1 x2 v3 σ2 c1 c2 cv3 hσ2 h).weak (w_k (w_k (w_k (w_k w_n))))
set_option maxHeartbeats 4000000 in
set_option maxRecDepth 100000 in
theorem t_X3_takeAllOfBase (E : Ev p s m args meth c cX3_takeAllOfBase 4 RX3 A0 D cA ad (NC b) Z) (hr : meth.sig.returnType = none) (x1 : Int) (x2 : Int) (σ : St) (c1 : C32 x1) (c2 : C32 x2) (hσ : CanS (shC b) (NC b) σ) (h : wp_X3_takeAllOfBase x1 x2 σ Q) : G p l e (rmL 4 0 0) s m args below meth c 4 A0 D cA ad (shC b) (NC b) 0 0 (MQ below (QVc D cA ad (shC b) (NC b) Q A0) args s 0 0 A0) σ 0 [some (.ref (ad 54)), some (vI x1), some (vI x2), none] [] := by
  unfold wp_X3_takeAllOfBase at h
  refine g_iconst E dX3_takeAllOfBase_0 ?_
  refine g_istore_3 E rfl (by decide) dX3_takeAllOfBase_1 ?_
  exact (t_X3_takeAllOfBase_l2 E hr bigN x1 x2 0 σ c1 c2 cl_0 hσ h).weak (w_k (w_k (w_k (w_k w_n))))
end
theorem m_X3_takeAllOfBase {Z : (Nat → Nat) × (Nat → Nat)} {l : Launch} {D : va_G} {cA : Nat → ClassId} {ad : Nat → Nat} {b : Bool} {x1 x2 : Int} {σ : St} {Q : Int → St → Prop} (hA : AdOk (NC b) ad) (c1 : C32 x1) (c2 : C32 x2) (hσ : CanS (shC b) (NC b) σ) (h : wp_X3_takeAllOfBase x1 x2 σ Q) : KtV Z l D cA ad (shC b) (NC b) yX3_takeAllOfBase cX3_takeAllOfBase 4 none 4 [.ref (ad 54), vI x1, vI x2] σ Q :=
  KtV.of my_X3_takeAllOfBase hA [some (.ref (ad 54)), some (vI x1), some (vI x2), none] (Nat.le_of_ble_eq_true rfl) rfl (fun p e s m args below meth c A0 E hr => t_X3_takeAllOfBase E hr x1 x2 σ c1 c2 hσ h)
theorem dX3_findHead_0 : Dc cX3_findHead 0 (.aload_n 0) 1 1 := ⟨by decide +kernel, rfl⟩
theorem dX3_findHead_1 : Dc cX3_findHead 1 (.iconst (-1)) 1 2 := ⟨by decide +kernel, rfl⟩
theorem dX3_findHead_2 : Dc cX3_findHead 2 (.putfield 156) 3 5 := ⟨by decide +kernel, rfl⟩
theorem dX3_findHead_5 : Dc cX3_findHead 5 (.aload_n 0) 1 6 := ⟨by decide +kernel, rfl⟩
theorem dX3_findHead_6 : Dc cX3_findHead 6 (.iconst (-1)) 1 7 := ⟨by decide +kernel, rfl⟩
theorem dX3_findHead_7 : Dc cX3_findHead 7 (.putfield 159) 3 10 := ⟨by decide +kernel, rfl⟩
theorem dX3_findHead_10 : Dc cX3_findHead 10 (.iconst (-1)) 1 11 := ⟨by decide +kernel, rfl⟩
theorem dX3_findHead_11 : Dc cX3_findHead 11 (.istore_n 3) 1 12 := ⟨by decide +kernel, rfl⟩
theorem dX3_findHead_12 : Dc cX3_findHead 12 (.aload_n 0) 1 13 := ⟨by decide +kernel, rfl⟩
theorem dX3_findHead_13 : Dc cX3_findHead 13 (.getfield 55) 3 16 := ⟨by decide +kernel, rfl⟩
theorem dX3_findHead_16 : Dc cX3_findHead 16 (.iload_n 2) 1 17 := ⟨by decide +kernel, rfl⟩
theorem dX3_findHead_17 : Dc cX3_findHead 17 (.iaload) 1 18 := ⟨by decide +kernel, rfl⟩
theorem dX3_findHead_18 : Dc cX3_findHead 18 (.aload_n 0) 1 19 := ⟨by decide +kernel, rfl⟩
theorem dX3_findHead_19 : Dc cX3_findHead 19 (.getfield 52) 3 22 := ⟨by decide +kernel, rfl⟩
theorem dX3_findHead_22 : Dc cX3_findHead 22 (.iload_n 2) 1 23 := ⟨by decide +kernel, rfl⟩
theorem dX3_findHead_23 : Dc cX3_findHead 23 (.iaload) 1 24 := ⟨by decide +kernel, rfl⟩
theorem djX3_findHead_24 : Dj cX3_findHead 24 (.if_icmp .ge 35) 3 27 35 59 := ⟨by decide +kernel, rfl, by decide⟩
theorem dX3_findHead_27 : Dc cX3_findHead 27 (.iload_n 2) 1 28 := ⟨by decide +kernel, rfl⟩
theorem dX3_findHead_28 : Dc cX3_findHead 28 (.bipush 16) 2 30 := ⟨by decide +kernel, rfl⟩
theorem dX3_findHead_30 : Dc cX3_findHead 30 (.imul) 1 31 := ⟨by decide +kernel, rfl⟩
theorem dX3_findHead_31 : Dc cX3_findHead 31 (.aload_n 0) 1 32 := ⟨by decide +kernel, rfl⟩
theorem dX3_findHead_32 : Dc cX3_findHead 32 (.getfield 55) 3 35 := ⟨by decide +kernel, rfl⟩
theorem dX3_findHead_35 : Dc cX3_findHead 35 (.iload_n 2) 1 36 := ⟨by decide +kernel, rfl⟩
theorem dX3_findHead_36 : Dc cX3_findHead 36 (.iaload) 1 37 := ⟨by decide +kernel, rfl⟩
theorem dX3_findHead_37 : Dc cX3_findHead 37 (.iadd) 1 38 := ⟨by decide +kernel, rfl⟩
theorem dX3_findHead_38 : Dc cX3_findHead 38 (.istore 4) 2 40 := ⟨by decide +kernel, rfl⟩
theorem dX3_findHead_40 : Dc cX3_findHead 40 (.aload_n 0) 1 41 := ⟨by decide +kernel, rfl⟩
theorem dX3_findHead_41 : Dc cX3_findHead 41 (.aload_n 0) 1 42 := ⟨by decide +kernel, rfl⟩
theorem dX3_findHead_42 : Dc cX3_findHead 42 (.getfield 43) 3 45 := ⟨by decide +kernel, rfl⟩
theorem dX3_findHead_45 : Dc cX3_findHead 45 (.iload 4) 2 47 := ⟨by decide +kernel, rfl⟩
theorem dX3_findHead_47 : Dc cX3_findHead 47 (.iaload) 1 48 := ⟨by decide +kernel, rfl⟩
theorem dX3_findHead_48 : Dc cX3_findHead 48 (.putfield 156) 3 51 := ⟨by decide +kernel, rfl⟩
theorem dX3_findHead_51 : Dc cX3_findHead 51 (.aload_n 0) 1 52 := ⟨by decide +kernel, rfl⟩
theorem dX3_findHead_52 : Dc cX3_findHead 52 (.getfield 46) 3 55 := ⟨by decide +kernel, rfl⟩
theorem dX3_findHead_55 : Dc cX3_findHead 55 (.iload 4) 2 57 := ⟨by decide +kernel, rfl⟩
theorem dX3_findHead_57 : Dc cX3_findHead 57 (.iaload) 1 58 := ⟨by decide +kernel, rfl⟩
theorem dX3_findHead_58 : Dc cX3_findHead 58 (.istore_n 3) 1 59 := ⟨by decide +kernel, rfl⟩
theorem dX3_findHead_59 : Dc cX3_findHead 59 (.iconst 0) 1 60 := ⟨by decide +kernel, rfl⟩
theorem dX3_findHead_60 : Dc cX3_findHead 60 (.istore 4) 2 62 := ⟨by decide +kernel, rfl⟩
theorem dX3_findHead_62 : Dc cX3_findHead 62 (.iload 4) 2 64 := ⟨by decide +kernel, rfl⟩
theorem dX3_findHead_64 : Dc cX3_findHead 64 (.aload_n 0) 1 65 := ⟨by decide +kernel, rfl⟩
theorem dX3_findHead_65 : Dc cX3_findHead 65 (.getfield 15) 3 68 := ⟨by decide +kernel, rfl⟩
theorem dX3_findHead_68 : Dc cX3_findHead 68 (.getfield 85) 3 71 := ⟨by decide +kernel, rfl⟩
theorem djX3_findHead_71 : Dj cX3_findHead 71 (.if_icmp .ge 166) 3 74 166 237 := ⟨by decide +kernel, rfl, by decide⟩
theorem dX3_findHead_74 : Dc cX3_findHead 74 (.aload_n 0) 1 75 := ⟨by decide +kernel, rfl⟩
theorem dX3_findHead_75 : Dc cX3_findHead 75 (.getfield 15) 3 78 := ⟨by decide +kernel, rfl⟩
theorem dX3_findHead_78 : Dc cX3_findHead 78 (.getfield 89) 3 81 := ⟨by decide +kernel, rfl⟩
theorem dX3_findHead_81 : Dc cX3_findHead 81 (.iload 4) 2 83 := ⟨by decide +kernel, rfl⟩
theorem dX3_findHead_83 : Dc cX3_findHead 83 (.iaload) 1 84 := ⟨by decide +kernel, rfl⟩
theorem dX3_findHead_84 : Dc cX3_findHead 84 (.istore 5) 2 86 := ⟨by decide +kernel, rfl⟩
theorem dX3_findHead_86 : Dc cX3_findHead 86 (.iload_n 1) 1 87 := ⟨by decide +kernel, rfl⟩
theorem dX3_findHead_87 : Dc cX3_findHead 87 (.aload_n 0) 1 88 := ⟨by decide +kernel, rfl⟩
theorem dX3_findHead_88 : Dc cX3_findHead 88 (.getfield 9) 3 91 := ⟨by decide +kernel, rfl⟩
theorem dX3_findHead_91 : Dc cX3_findHead 91 (.getfield 162) 3 94 := ⟨by decide +kernel, rfl⟩
theorem dX3_findHead_94 : Dc cX3_findHead 94 (.iload 5) 2 96 := ⟨by decide +kernel, rfl⟩
theorem dX3_findHead_96 : Dc cX3_findHead 96 (.iaload) 1 97 := ⟨by decide +kernel, rfl⟩
theorem dX3_findHead_97 : Dc cX3_findHead 97 (.iadd) 1 98 := ⟨by decide +kernel, rfl⟩
theorem dX3_findHead_98 : Dc cX3_findHead 98 (.istore 6) 2 100 := ⟨by decide +kernel, rfl⟩
theorem dX3_findHead_100 : Dc cX3_findHead 100 (.aload_n 0) 1 101 := ⟨by decide +kernel, rfl⟩
theorem dX3_findHead_101 : Dc cX3_findHead 101 (.getfield 9) 3 104 := ⟨by decide +kernel, rfl⟩
theorem dX3_findHead_104 : Dc cX3_findHead 104 (.getfield 92) 3 107 := ⟨by decide +kernel, rfl⟩
theorem dX3_findHead_107 : Dc cX3_findHead 107 (.iload 5) 2 109 := ⟨by decide +kernel, rfl⟩
theorem dX3_findHead_109 : Dc cX3_findHead 109 (.iaload) 1 110 := ⟨by decide +kernel, rfl⟩
theorem dX3_findHead_110 : Dc cX3_findHead 110 (.iload_n 2) 1 111 := ⟨by decide +kernel, rfl⟩
theorem djX3_findHead_111 : Dj cX3_findHead 111 (.if_icmp .ne 120) 3 114 120 231 := ⟨by decide +kernel, rfl, by decide⟩
theorem dX3_findHead_114 : Dc cX3_findHead 114 (.aload_n 0) 1 115 := ⟨by decide +kernel, rfl⟩
theorem dX3_findHead_115 : Dc cX3_findHead 115 (.getfield 61) 3 118 := ⟨by decide +kernel, rfl⟩
theorem dX3_findHead_118 : Dc cX3_findHead 118 (.iload 4) 2 120 := ⟨by decide +kernel, rfl⟩
theorem dX3_findHead_120 : Dc cX3_findHead 120 (.iaload) 1 121 := ⟨by decide +kernel, rfl⟩
theorem dX3_findHead_121 : Dc cX3_findHead 121 (.aload_n 0) 1 122 := ⟨by decide +kernel, rfl⟩
theorem dX3_findHead_122 : Dc cX3_findHead 122 (.getfield 36) 3 125 := ⟨by decide +kernel, rfl⟩
theorem dX3_findHead_125 : Dc cX3_findHead 125 (.iload 6) 2 127 := ⟨by decide +kernel, rfl⟩
theorem dX3_findHead_127 : Dc cX3_findHead 127 (.iaload) 1 128 := ⟨by decide +kernel, rfl⟩
theorem djX3_findHead_128 : Dj cX3_findHead 128 (.if_icmp .ge 103) 3 131 103 231 := ⟨by decide +kernel, rfl, by decide⟩
theorem dX3_findHead_131 : Dc cX3_findHead 131 (.aload_n 0) 1 132 := ⟨by decide +kernel, rfl⟩
theorem dX3_findHead_132 : Dc cX3_findHead 132 (.getfield 9) 3 135 := ⟨by decide +kernel, rfl⟩
theorem dX3_findHead_135 : Dc cX3_findHead 135 (.getfield 131) 3 138 := ⟨by decide +kernel, rfl⟩
theorem dX3_findHead_138 : Dc cX3_findHead 138 (.iload 5) 2 140 := ⟨by decide +kernel, rfl⟩
theorem dX3_findHead_140 : Dc cX3_findHead 140 (.iaload) 1 141 := ⟨by decide +kernel, rfl⟩
theorem dX3_findHead_141 : Dc cX3_findHead 141 (.aload_n 0) 1 142 := ⟨by decide +kernel, rfl⟩
theorem dX3_findHead_142 : Dc cX3_findHead 142 (.getfield 23) 3 145 := ⟨by decide +kernel, rfl⟩
theorem dX3_findHead_145 : Dc cX3_findHead 145 (.iload 6) 2 147 := ⟨by decide +kernel, rfl⟩
theorem dX3_findHead_147 : Dc cX3_findHead 147 (.bipush 16) 2 149 := ⟨by decide +kernel, rfl⟩
theorem dX3_findHead_149 : Dc cX3_findHead 149 (.imul) 1 150 := ⟨by decide +kernel, rfl⟩
theorem dX3_findHead_150 : Dc cX3_findHead 150 (.aload_n 0) 1 151 := ⟨by decide +kernel, rfl⟩
theorem dX3_findHead_151 : Dc cX3_findHead 151 (.getfield 61) 3 154 := ⟨by decide +kernel, rfl⟩
theorem dX3_findHead_154 : Dc cX3_findHead 154 (.iload 4) 2 156 := ⟨by decide +kernel, rfl⟩
theorem dX3_findHead_156 : Dc cX3_findHead 156 (.iaload) 1 157 := ⟨by decide +kernel, rfl⟩
theorem dX3_findHead_157 : Dc cX3_findHead 157 (.iadd) 1 158 := ⟨by decide +kernel, rfl⟩
theorem dX3_findHead_158 : Dc cX3_findHead 158 (.iaload) 1 159 := ⟨by decide +kernel, rfl⟩
theorem dX3_findHead_159 : Dc cX3_findHead 159 (.iadd) 1 160 := ⟨by decide +kernel, rfl⟩
theorem dX3_findHead_160 : Dc cX3_findHead 160 (.istore 7) 2 162 := ⟨by decide +kernel, rfl⟩
theorem dX3_findHead_162 : Dc cX3_findHead 162 (.iload 7) 2 164 := ⟨by decide +kernel, rfl⟩
theorem dX3_findHead_164 : Dc cX3_findHead 164 (.aload_n 0) 1 165 := ⟨by decide +kernel, rfl⟩
theorem dX3_findHead_165 : Dc cX3_findHead 165 (.getfield 156) 3 168 := ⟨by decide +kernel, rfl⟩
theorem djX3_findHead_168 : Dj cX3_findHead 168 (.if_icmp .ne 18) 3 171 18 186 := ⟨by decide +kernel, rfl, by decide⟩
theorem dX3_findHead_171 : Dc cX3_findHead 171 (.aload_n 0) 1 172 := ⟨by decide +kernel, rfl⟩
theorem dX3_findHead_172 : Dc cX3_findHead 172 (.getfield 58) 3 175 := ⟨by decide +kernel, rfl⟩
theorem dX3_findHead_175 : Dc cX3_findHead 175 (.iload 4) 2 177 := ⟨by decide +kernel, rfl⟩
theorem dX3_findHead_177 : Dc cX3_findHead 177 (.iaload) 1 178 := ⟨by decide +kernel, rfl⟩
theorem dX3_findHead_178 : Dc cX3_findHead 178 (.iload_n 3) 1 179 := ⟨by decide +kernel, rfl⟩
theorem djX3_findHead_179 : Dj cX3_findHead 179 (.if_icmp .ge 7) 3 182 7 186 := ⟨by decide +kernel, rfl, by decide⟩
theorem dX3_findHead_182 : Dc cX3_findHead 182 (.iconst 1) 1 183 := ⟨by decide +kernel, rfl⟩
theorem djX3_findHead_183 : Dj cX3_findHead 183 (.goto 4) 3 186 4 187 := ⟨by decide +kernel, rfl, by decide⟩
theorem dX3_findHead_186 : Dc cX3_findHead 186 (.iconst 0) 1 187 := ⟨by decide +kernel, rfl⟩
theorem dX3_findHead_187 : Dc cX3_findHead 187 (.istore 8) 2 189 := ⟨by decide +kernel, rfl⟩
theorem dX3_findHead_189 : Dc cX3_findHead 189 (.aload_n 0) 1 190 := ⟨by decide +kernel, rfl⟩
theorem dX3_findHead_190 : Dc cX3_findHead 190 (.getfield 156) 3 193 := ⟨by decide +kernel, rfl⟩
theorem dX3_findHead_193 : Dc cX3_findHead 193 (.iconst (-1)) 1 194 := ⟨by decide +kernel, rfl⟩
theorem djX3_findHead_194 : Dj cX3_findHead 194 (.if_icmp .eq 17) 3 197 17 211 := ⟨by decide +kernel, rfl, by decide⟩
theorem dX3_findHead_197 : Dc cX3_findHead 197 (.iload 7) 2 199 := ⟨by decide +kernel, rfl⟩
theorem dX3_findHead_199 : Dc cX3_findHead 199 (.aload_n 0) 1 200 := ⟨by decide +kernel, rfl⟩
theorem dX3_findHead_200 : Dc cX3_findHead 200 (.getfield 156) 3 203 := ⟨by decide +kernel, rfl⟩
theorem djX3_findHead_203 : Dj cX3_findHead 203 (.if_icmp .lt 8) 3 206 8 211 := ⟨by decide +kernel, rfl, by decide⟩
theorem dX3_findHead_206 : Dc cX3_findHead 206 (.iload 8) 2 208 := ⟨by decide +kernel, rfl⟩
theorem djX3_findHead_208 : Dj cX3_findHead 208 (.ifCond .eq 23) 3 211 23 231 := ⟨by decide +kernel, rfl, by decide⟩
theorem dX3_findHead_211 : Dc cX3_findHead 211 (.aload_n 0) 1 212 := ⟨by decide +kernel, rfl⟩
theorem dX3_findHead_212 : Dc cX3_findHead 212 (.iload 7) 2 214 := ⟨by decide +kernel, rfl⟩
theorem dX3_findHead_214 : Dc cX3_findHead 214 (.putfield 156) 3 217 := ⟨by decide +kernel, rfl⟩
theorem dX3_findHead_217 : Dc cX3_findHead 217 (.aload_n 0) 1 218 := ⟨by decide +kernel, rfl⟩
theorem dX3_findHead_218 : Dc cX3_findHead 218 (.iload 4) 2 220 := ⟨by decide +kernel, rfl⟩
theorem dX3_findHead_220 : Dc cX3_findHead 220 (.putfield 159) 3 223 := ⟨by decide +kernel, rfl⟩
theorem dX3_findHead_223 : Dc cX3_findHead 223 (.aload_n 0) 1 224 := ⟨by decide +kernel, rfl⟩
theorem dX3_findHead_224 : Dc cX3_findHead 224 (.getfield 58) 3 227 := ⟨by decide +kernel, rfl⟩
theorem dX3_findHead_227 : Dc cX3_findHead 227 (.iload 4) 2 229 := ⟨by decide +kernel, rfl⟩
theorem dX3_findHead_229 : Dc cX3_findHead 229 (.iaload) 1 230 := ⟨by decide +kernel, rfl⟩
theorem dX3_findHead_230 : Dc cX3_findHead 230 (.istore_n 3) 1 231 := ⟨by decide +kernel, rfl⟩
theorem dX3_findHead_231 : Dc cX3_findHead 231 (.iinc 4 1) 3 234 := ⟨by decide +kernel, rfl⟩
theorem djX3_findHead_234 : Dj cX3_findHead 234 (.goto (-172)) 3 237 (-172) 62 := ⟨by decide +kernel, rfl, by decide⟩
theorem dX3_findHead_237 : Dc cX3_findHead 237 (.return_) 1 238 := ⟨by decide +kernel, rfl⟩
section
variable {p : Program} {l : Launch} {e : Env} {s : State} {m : MethodId} {args : Array Value} {below : List Frame} {meth : Method} {c : Code} {A0 : Nat → Prop} {D : va_G} {cA : Nat → ClassId} {ad : Nat → Nat} {Z : (Nat → Nat) × (Nat → Nat)} {Q : Int → St → Prop} {b : Bool}
set_option maxHeartbeats 4000000 in
set_option maxRecDepth 100000 in
theorem t_X3_findHead_b231 (E : Ev p s m args meth c cX3_findHead 9 RX3 A0 D cA ad (NC b) Z) (hr : meth.sig.returnType = none) {K62 : Int → Int → Int → Int → St → Prop} (hK62 : ∀ (x1 : Int) (x2 : Int) (x3 : Int) (x4 : Int) (σ : St), C32 x1 → C32 x2 → C32 x3 → C32 x4 → CanS (shC b) (NC b) σ → K62 x1 x2 x3 x4 σ → G p l e (rmL 1 0 0) s m args below meth c 9 A0 D cA ad (shC b) (NC b) 0 0 (MQ below (QVc D cA ad (shC b) (NC b) Q A0) args s 0 0 A0) σ 62 [some (.ref (ad 54)), some (vI x1), some (vI x2), some (vI x3), some (vI x4), none, none, none, none] []) (x1 : Int) (x2 : Int) (x3 : Int) (x4 : Int) (σ : St) (c1 : C32 x1) (c2 : C32 x2) (c3 : C32 x3) (c4 : C32 x4) (hσ : CanS (shC b) (NC b) σ) (h : wp_X3_findHead_b231 Q K62 x1 x2 x3 x4 σ) : G p l e (rmL 1 0 0) s m args below meth c 9 A0 D cA ad (shC b) (NC b) 0 0 (MQ below (QVc D cA ad (shC b) (NC b) Q A0) args s 0 0 A0) σ 231 [some (.ref (ad 54)), some (vI x1), some (vI x2), some (vI x3), some (vI x4), none, none, none, none] [] := by
  unfold wp_X3_findHead_b231 at h
  refine g_iinc_4 E rfl (by decide) dX3_findHead_231 (fun v9 ev9 => ?_)
  replace h := h v9 ev9
  have cv9 : C32 v9 := by rw [ev9]; exact c32_w _
  refine g_goto E djX3_findHead_234 ?_
  exact (hK62 x1 x2 x3 v9 σ c1 c2 c3 cv9 hσ h).weak (w_k (w_k (w_k (w_k (w_k (w_d (w_d (w_d (w_d w_n)))))))))
set_option maxHeartbeats 4000000 in
set_option maxRecDepth 100000 in
theorem t_X3_findHead_b211 (E : Ev p s m args meth c cX3_findHead 9 RX3 A0 D cA ad (NC b) Z) (hr : meth.sig.returnType = none) {K62 : Int → Int → Int → Int → St → Prop} (hK62 : ∀ (x1 : Int) (x2 : Int) (x3 : Int) (x4 : Int) (σ : St), C32 x1 → C32 x2 → C32 x3 → C32 x4 → CanS (shC b) (NC b) σ → K62 x1 x2 x3 x4 σ → G p l e (rmL 1 0 0) s m args below meth c 9 A0 D cA ad (shC b) (NC b) 0 0 (MQ below (QVc D cA ad (shC b) (NC b) Q A0) args s 0 0 A0) σ 62 [some (.ref (ad 54)), some (vI x1), some (vI x2), some (vI x3), some (vI x4), none, none, none, none] []) (x1 : Int) (x2 : Int) (x4 : Int) (x7 : Int) (σ : St) (c1 : C32 x1) (c2 : C32 x2) (c4 : C32 x4) (c7 : C32 x7) (hσ : CanS (shC b) (NC b) σ) (h : wp_X3_findHead_b211 Q K62 x1 x2 x4 x7 σ) : G p l e (rmL 1 0 0) s m args below meth c 9 A0 D cA ad (shC b) (NC b) 0 0 (MQ below (QVc D cA ad (shC b) (NC b) Q A0) args s 0 0 A0) σ 211 [some (.ref (ad 54)), some (vI x1), some (vI x2), none, some (vI x4), none, none, some (vI x7), none] [] := by
  unfold wp_X3_findHead_b211 at h
  refine g_aload_0 E dX3_findHead_211 ?_
  refine g_iload_7 E dX3_findHead_212 ?_
  refine g_putI E fl_RX3_156 rfl rfl (kC_54 b) (sC_54 b) rfl dX3_findHead_214 (g_nmS (fun σ10 eσ10 => ?_))
  replace h := h σ10 eσ10
  have hσ10 : CanS (shC b) (NC b) σ10 := by rw [eσ10]; exact uC_54_16 hσ c7
  refine g_aload_0 E dX3_findHead_217 ?_
  refine g_iload_4 E dX3_findHead_218 ?_
  refine g_putI E fl_RX3_159 rfl rfl (kC_54 b) (sC_54 b) rfl dX3_findHead_220 (g_nmS (fun σ11 eσ11 => ?_))
  replace h := h σ11 eσ11
  have hσ11 : CanS (shC b) (NC b) σ11 := by rw [eσ11]; exact uC_54_17 hσ10 c4
  refine g_aload_0 E dX3_findHead_223 ?_
  refine g_getR E fl_RX3_58 (kC_54 b) (sC_54 b) rfl dX3_findHead_224 ?_
  refine g_iload_4 E dX3_findHead_227 ?_
  refine g_iald E (kC_66 b) (sC_66 b) (by decide) h.1 dX3_findHead_229 ?_
  replace h := h.2
  refine g_nmI (fun v12 ev12 => ?_)
  replace h := h v12 ev12
  have cv12 : C32 v12 := by rw [ev12]; exact (aC_66 hσ11 _)
  refine g_istore_3 E rfl (by decide) dX3_findHead_230 ?_
  exact (t_X3_findHead_b231 E hr hK62 x1 x2 v12 x4 σ11 c1 c2 cv12 c4 hσ11 h).weak (w_k (w_k (w_k (w_k (w_k (w_d (w_d (w_d (w_d w_n)))))))))
set_option maxHeartbeats 4000000 in
set_option maxRecDepth 100000 in
theorem t_X3_findHead_b187 (E : Ev p s m args meth c cX3_findHead 9 RX3 A0 D cA ad (NC b) Z) (hr : meth.sig.returnType = none) {K62 : Int → Int → Int → Int → St → Prop} (hK62 : ∀ (x1 : Int) (x2 : Int) (x3 : Int) (x4 : Int) (σ : St), C32 x1 → C32 x2 → C32 x3 → C32 x4 → CanS (shC b) (NC b) σ → K62 x1 x2 x3 x4 σ → G p l e (rmL 1 0 0) s m args below meth c 9 A0 D cA ad (shC b) (NC b) 0 0 (MQ below (QVc D cA ad (shC b) (NC b) Q A0) args s 0 0 A0) σ 62 [some (.ref (ad 54)), some (vI x1), some (vI x2), some (vI x3), some (vI x4), none, none, none, none] []) (x1 : Int) (x2 : Int) (x3 : Int) (x4 : Int) (x7 : Int) (s0 : Int) (σ : St) (c1 : C32 x1) (c2 : C32 x2) (c3 : C32 x3) (c4 : C32 x4) (c7 : C32 x7) (cs0 : C32 s0) (hσ : CanS (shC b) (NC b) σ) (h : wp_X3_findHead_b187 Q K62 x1 x2 x3 x4 x7 s0 σ) : G p l e (rmL 1 0 0) s m args below meth c 9 A0 D cA ad (shC b) (NC b) 0 0 (MQ below (QVc D cA ad (shC b) (NC b) Q A0) args s 0 0 A0) σ 187 [some (.ref (ad 54)), some (vI x1), some (vI x2), some (vI x3), some (vI x4), none, none, some (vI x7), none] [vI s0] := by
  unfold wp_X3_findHead_b187 at h
  refine g_istore_8 E rfl (by decide) dX3_findHead_187 ?_
  refine g_aload_0 E dX3_findHead_189 ?_
  refine g_getI E fl_RX3_156 (kC_54 b) (sC_54 b) rfl dX3_findHead_190 ?_
  refine g_iconst E dX3_findHead_193 ?_
  refine g_icmp_eq E (fC_54_16 hσ) cl_m1 djX3_findHead_194 (fun hc => ?_) (fun hc => ?_)
  · replace h := h.1 hc
    exact (t_X3_findHead_b211 E hr hK62 x1 x2 x4 x7 σ c1 c2 c4 c7 hσ h).weak (w_k (w_k (w_k (w_d (w_k (w_d (w_d (w_k (w_d w_n)))))))))
  · replace h := h.2 hc
    refine g_iload_7 E dX3_findHead_197 ?_
    refine g_aload_0 E dX3_findHead_199 ?_
    refine g_getI E fl_RX3_156 (kC_54 b) (sC_54 b) rfl dX3_findHead_200 ?_
    refine g_icmp_lt E c7 (fC_54_16 hσ) djX3_findHead_203 (fun hc => ?_) (fun hc => ?_)
    · replace h := h.1 hc
      exact (t_X3_findHead_b211 E hr hK62 x1 x2 x4 x7 σ c1 c2 c4 c7 hσ h).weak (w_k (w_k (w_k (w_d (w_k (w_d (w_d (w_k (w_d w_n)))))))))
    · replace h := h.2 hc
      refine g_iload_8 E dX3_findHead_206 ?_
      refine g_if_eq E cs0 djX3_findHead_208 (fun hc => ?_) (fun hc => ?_)
      · replace h := h.1 hc
        exact (t_X3_findHead_b231 E hr hK62 x1 x2 x3 x4 σ c1 c2 c3 c4 hσ h).weak (w_k (w_k (w_k (w_k (w_k (w_d (w_d (w_d (w_d w_n)))))))))
      · replace h := h.2 hc
        exact (t_X3_findHead_b211 E hr hK62 x1 x2 x4 x7 σ c1 c2 c4 c7 hσ h).weak (w_k (w_k (w_k (w_d (w_k (w_d (w_d (w_k (w_d w_n)))))))))
set_option maxHeartbeats 4000000 in
set_option maxRecDepth 100000 in
theorem t_X3_findHead_b186 (E : Ev p s m args meth c cX3_findHead 9 RX3 A0 D cA ad (NC b) Z) (hr : meth.sig.returnType = none) {K62 : Int → Int → Int → Int → St → Prop} (hK62 : ∀ (x1 : Int) (x2 : Int) (x3 : Int) (x4 : Int) (σ : St), C32 x1 → C32 x2 → C32 x3 → C32 x4 → CanS (shC b) (NC b) σ → K62 x1 x2 x3 x4 σ → G p l e (rmL 1 0 0) s m args below meth c 9 A0 D cA ad (shC b) (NC b) 0 0 (MQ below (QVc D cA ad (shC b) (NC b) Q A0) args s 0 0 A0) σ 62 [some (.ref (ad 54)), some (vI x1), some (vI x2), some (vI x3), some (vI x4), none, none, none, none] []) (x1 : Int) (x2 : Int) (x3 : Int) (x4 : Int) (x7 : Int) (σ : St) (c1 : C32 x1) (c2 : C32 x2) (c3 : C32 x3) (c4 : C32 x4) (c7 : C32 x7) (hσ : CanS (shC b) (NC b) σ) (h : wp_X3_findHead_b186 Q K62 x1 x2 x3 x4 x7 σ) : G p l e (rmL 1 0 0) s m args below meth c 9 A0 D cA ad (shC b) (NC b) 0 0 (MQ below (QVc D cA ad (shC b) (NC b) Q A0) args s 0 0 A0) σ 186 [some (.ref (ad 54)), some (vI x1), some (vI x2), some (vI x3), some (vI x4), none, none, some (vI x7), none] [] := by
  unfold wp_X3_findHead_b186 at h
  refine g_iconst E dX3_findHead_186 ?_
  exact (t_X3_findHead_b187 E hr hK62 x1 x2 x3 x4 x7 0 σ c1 c2 c3 c4 c7 cl_0 hσ h).weak (w_k (w_k (w_k (w_k (w_k (w_d (w_d (w_k (w_d w_n)))))))))
set_option maxHeartbeats 4000000 in
set_option maxRecDepth 100000 in
theorem t_X3_findHead_l62 (E : Ev p s m args meth c cX3_findHead 9 RX3 A0 D cA ad (NC b) Z) (hr : meth.sig.returnType = none) : ∀ (n : Nat) (x1 : Int) (x2 : Int) (x3 : Int) (x4 : Int) (σ : St), C32 x1 → C32 x2 → C32 x3 → C32 x4 → CanS (shC b) (NC b) σ → wp_X3_findHead_l62 Q n x1 x2 x3 x4 σ → G p l e (rmL 1 0 0) s m args below meth c 9 A0 D cA ad (shC b) (NC b) 0 0 (MQ below (QVc D cA ad (shC b) (NC b) Q A0) args s 0 0 A0) σ 62 [some (.ref (ad 54)), some (vI x1), some (vI x2), some (vI x3), some (vI x4), none, none, none, none] [] := by
  intro n
  induction n with
  | zero => intro _ _ _ _ _ _ _ _ _ _ h; exact h.elim
  | succ n ih =>
    intro x1 x2 x3 x4 σ c1 c2 c3 c4 hσ h
    unfold wp_X3_findHead_l62 at h
    refine g_iload_4 E dX3_findHead_62 ?_
    refine g_aload_0 E dX3_findHead_64 ?_
    refine g_getR E fl_RX3_15 (kC_54 b) (sC_54 b) rfl dX3_findHead_65 ?_
    refine g_getI E fl_RX3_85 (kC_24 b) (sC_24 b) rfl dX3_findHead_68 ?_
    refine g_icmp_ge E c4 (fC_24_12 hσ) djX3_findHead_71 (fun hc => ?_) (fun hc => ?_)
    · replace h := h.1 hc
      exact g_vret E hr h hσ dX3_findHead_237
    · replace h := h.2 hc
      refine g_aload_0 E dX3_findHead_74 ?_
      refine g_getR E fl_RX3_15 (kC_54 b) (sC_54 b) rfl dX3_findHead_75 ?_
      refine g_getR E fl_RX3_89 (kC_24 b) (sC_24 b) rfl dX3_findHead_78 ?_
      refine g_iload_4 E dX3_findHead_81 ?_
      refine g_iald E (kC_33 b) (sC_33 b) (by decide) h.1 dX3_findHead_83 ?_
      replace h := h.2
      refine g_nmI (fun v6 ev6 => ?_)
      replace h := h v6 ev6
      have cv6 : C32 v6 := by rw [ev6]; exact (aC_33 hσ _)
      refine g_istore_5 E rfl (by decide) dX3_findHead_84 ?_
      refine g_iload_1 E dX3_findHead_86 ?_
      refine g_aload_0 E dX3_findHead_87 ?_
      refine g_getR E fl_RX3_9 (kC_54 b) (sC_54 b) rfl dX3_findHead_88 ?_
      refine g_getR E fl_RX3_162 (kC_14 b) (sC_14 b) rfl dX3_findHead_91 ?_
      refine g_iload_5 E dX3_findHead_94 ?_
      refine g_iald E (kC_16 b) (sC_16 b) (by decide) h.1 dX3_findHead_96 ?_
      replace h := h.2
      refine g_iadd E dX3_findHead_97 ?_
      refine g_nmI (fun v7 ev7 => ?_)
      replace h := h v7 ev7
      have cv7 : C32 v7 := by rw [ev7]; exact (c32_w _)
      refine g_istore_6 E rfl (by decide) dX3_findHead_98 ?_
      refine g_aload_0 E dX3_findHead_100 ?_
      refine g_getR E fl_RX3_9 (kC_54 b) (sC_54 b) rfl dX3_findHead_101 ?_
      refine g_getR E fl_RX3_92 (kC_14 b) (sC_14 b) rfl dX3_findHead_104 ?_
      refine g_iload_5 E dX3_findHead_107 ?_
      refine g_iald E (kC_15 b) (sC_15 b) (by decide) h.1 dX3_findHead_109 ?_
      replace h := h.2
      refine g_iload_2 E dX3_findHead_110 ?_
      refine g_icmp_ne E (aC_15 hσ _) c2 djX3_findHead_111 (fun hc => ?_) (fun hc => ?_)
      · replace h := h.1 hc
        exact (t_X3_findHead_b231 E hr ih x1 x2 x3 x4 σ c1 c2 c3 c4 hσ h).weak (w_k (w_k (w_k (w_k (w_k (w_d (w_d (w_d (w_d w_n)))))))))
      · replace h := h.2 hc
        refine g_aload_0 E dX3_findHead_114 ?_
        refine g_getR E fl_RX3_61 (kC_54 b) (sC_54 b) rfl dX3_findHead_115 ?_
        refine g_iload_4 E dX3_findHead_118 ?_
        refine g_iald E (kC_67 b) (sC_67 b) (by decide) h.1 dX3_findHead_120 ?_
        replace h := h.2
        refine g_aload_0 E dX3_findHead_121 ?_
        refine g_getR E fl_RX3_36 (kC_54 b) (sC_54 b) rfl dX3_findHead_122 ?_
        refine g_iload_6 E dX3_findHead_125 ?_
        refine g_iald E (kC_59 b) (sC_59 b) (by decide) h.1 dX3_findHead_127 ?_
        replace h := h.2
        refine g_icmp_ge E (aC_67 hσ _) (aC_59 hσ _) djX3_findHead_128 (fun hc => ?_) (fun hc => ?_)
        · replace h := h.1 hc
          exact (t_X3_findHead_b231 E hr ih x1 x2 x3 x4 σ c1 c2 c3 c4 hσ h).weak (w_k (w_k (w_k (w_k (w_k (w_d (w_d (w_d (w_d w_n)))))))))
        · replace h := h.2 hc
          refine g_aload_0 E dX3_findHead_131 ?_
          refine g_getR E fl_RX3_9 (kC_54 b) (sC_54 b) rfl dX3_findHead_132 ?_
          refine g_getR E fl_RX3_131 (kC_14 b) (sC_14 b) rfl dX3_findHead_135 ?_
          refine g_iload_5 E dX3_findHead_138 ?_
          refine g_iald E (kC_18 b) (sC_18 b) (by decide) h.1 dX3_findHead_140 ?_
          replace h := h.2
          refine g_aload_0 E dX3_findHead_141 ?_
          refine g_getR E fl_RX3_23 (kC_54 b) (sC_54 b) rfl dX3_findHead_142 ?_
          refine g_iload_6 E dX3_findHead_145 ?_
          refine g_bipush E (by decide) dX3_findHead_147 ?_
          refine g_imul E dX3_findHead_149 ?_
          refine g_aload_0 E dX3_findHead_150 ?_
          refine g_getR E fl_RX3_61 (kC_54 b) (sC_54 b) rfl dX3_findHead_151 ?_
          refine g_iload_4 E dX3_findHead_154 ?_
          refine g_iald E (kC_67 b) (sC_67 b) (by decide) h.1 dX3_findHead_156 ?_
          replace h := h.2
          refine g_iadd E dX3_findHead_157 ?_
          refine g_iald E (kC_55 b) (sC_55 b) (by decide) h.1 dX3_findHead_158 ?_
          replace h := h.2
          refine g_iadd E dX3_findHead_159 ?_
          refine g_nmI (fun v8 ev8 => ?_)
          replace h := h v8 ev8
          have cv8 : C32 v8 := by rw [ev8]; exact (c32_w _)
          refine g_istore_7 E rfl (by decide) dX3_findHead_160 ?_
          refine g_iload_7 E dX3_findHead_162 ?_
          refine g_aload_0 E dX3_findHead_164 ?_
          refine g_getI E fl_RX3_156 (kC_54 b) (sC_54 b) rfl dX3_findHead_165 ?_
          refine g_icmp_ne E cv8 (fC_54_16 hσ) djX3_findHead_168 (fun hc => ?_) (fun hc => ?_)
          · replace h := h.1 hc
            exact (t_X3_findHead_b186 E hr ih x1 x2 x3 x4 v8 σ c1 c2 c3 c4 cv8 hσ h).weak (w_k (w_k (w_k (w_k (w_k (w_d (w_d (w_k (w_d w_n)))))))))
          · replace h := h.2 hc
            refine g_aload_0 E dX3_findHead_171 ?_
            refine g_getR E fl_RX3_58 (kC_54 b) (sC_54 b) rfl dX3_findHead_172 ?_
            refine g_iload_4 E dX3_findHead_175 ?_
            refine g_iald E (kC_66 b) (sC_66 b) (by decide) h.1 dX3_findHead_177 ?_
            replace h := h.2
            refine g_iload_3 E dX3_findHead_178 ?_
            refine g_icmp_ge E (aC_66 hσ _) c3 djX3_findHead_179 (fun hc => ?_) (fun hc => ?_)
            · replace h := h.1 hc
              exact (t_X3_findHead_b186 E hr ih x1 x2 x3 x4 v8 σ c1 c2 c3 c4 cv8 hσ h).weak (w_k (w_k (w_k (w_k (w_k (w_d (w_d (w_k (w_d w_n)))))))))
            · replace h := h.2 hc
              refine g_iconst E dX3_findHead_182 ?_
              refine g_goto E djX3_findHead_183 ?_
              exact (t_X3_findHead_b187 E hr ih x1 x2 x3 x4 v8 1 σ c1 c2 c3 c4 cv8 cl_1 hσ h).weak (w_k (w_k (w_k (w_k (w_k (w_d (w_d (w_k (w_d w_n)))))))))
set_option maxHeartbeats 4000000 in
set_option maxRecDepth 100000 in
theorem t_X3_findHead_b59 (E : Ev p s m args meth c cX3_findHead 9 RX3 A0 D cA ad (NC b) Z) (hr : meth.sig.returnType = none) (x1 : Int) (x2 : Int) (x3 : Int) (σ : St) (c1 : C32 x1) (c2 : C32 x2) (c3 : C32 x3) (hσ : CanS (shC b) (NC b) σ) (h : wp_X3_findHead_b59 Q x1 x2 x3 σ) : G p l e (rmL 1 0 0) s m args below meth c 9 A0 D cA ad (shC b) (NC b) 0 0 (MQ below (QVc D cA ad (shC b) (NC b) Q A0) args s 0 0 A0) σ 59 [some (.ref (ad 54)), some (vI x1), some (vI x2), some (vI x3), none, none, none, none, none] [] := by
  unfold wp_X3_findHead_b59 at h
  refine g_iconst E dX3_findHead_59 ?_
  refine g_istore_4 E rfl (by decide) dX3_findHead_60 ?_
  exact (t_X3_findHead_l62 E hr bigN x1 x2 x3 0 σ c1 c2 c3 cl_0 hσ h).weak (w_k (w_k (w_k (w_k (w_k (w_d (w_d (w_d (w_d w_n)))))))))
set_option maxHeartbeats 4000000 in
set_option maxRecDepth 100000 in
theorem t_X3_findHead (E : Ev p s m args meth c cX3_findHead 9 RX3 A0 D cA ad (NC b) Z) (hr : meth.sig.returnType = none) (x1 : Int) (x2 : Int) (σ : St) (c1 : C32 x1) (c2 : C32 x2) (hσ : CanS (shC b) (NC b) σ) (h : wp_X3_findHead x1 x2 σ Q) : G p l e (rmL 1 0 0) s m args below meth c 9 A0 D cA ad (shC b) (NC b) 0 0 (MQ below (QVc D cA ad (shC b) (NC b) Q A0) args s 0 0 A0) σ 0 [some (.ref (ad 54)), some (vI x1), some (vI x2), none, none, none, none, none, none] [] := by
  unfold wp_X3_findHead at h
  refine g_aload_0 E dX3_findHead_0 ?_
  refine g_iconst E dX3_findHead_1 ?_
  refine g_putI E fl_RX3_156 rfl rfl (kC_54 b) (sC_54 b) rfl dX3_findHead_2 (g_nmS (fun σ1 eσ1 => ?_))
  replace h := h σ1 eσ1
  have hσ1 : CanS (shC b) (NC b) σ1 := by rw [eσ1]; exact uC_54_16 hσ cl_m1
  refine g_aload_0 E dX3_findHead_5 ?_
  refine g_iconst E dX3_findHead_6 ?_
  refine g_putI E fl_RX3_159 rfl rfl (kC_54 b) (sC_54 b) rfl dX3_findHead_7 (g_nmS (fun σ2 eσ2 => ?_))
  replace h := h σ2 eσ2
  have hσ2 : CanS (shC b) (NC b) σ2 := by rw [eσ2]; exact uC_54_17 hσ1 cl_m1
  refine g_iconst E dX3_findHead_10 ?_
  refine g_istore_3 E rfl (by decide) dX3_findHead_11 ?_
  refine g_aload_0 E dX3_findHead_12 ?_
  refine g_getR E fl_RX3_55 (kC_54 b) (sC_54 b) rfl dX3_findHead_13 ?_
  refine g_iload_2 E dX3_findHead_16 ?_
  refine g_iald E (kC_65 b) (sC_65 b) (by decide) h.1 dX3_findHead_17 ?_
  replace h := h.2
  refine g_aload_0 E dX3_findHead_18 ?_
  refine g_getR E fl_RX3_52 (kC_54 b) (sC_54 b) rfl dX3_findHead_19 ?_
  refine g_iload_2 E dX3_findHead_22 ?_
  refine g_iald E (kC_64 b) (sC_64 b) (by decide) h.1 dX3_findHead_23 ?_
  replace h := h.2
  refine g_icmp_ge E (aC_65 hσ2 _) (aC_64 hσ2 _) djX3_findHead_24 (fun hc => ?_) (fun hc => ?_)
  · replace h := h.1 hc
    exact (t_X3_findHead_b59 E hr x1 x2 ((-1)) σ2 c1 c2 cl_m1 hσ2 h).weak (w_k (w_k (w_k (w_k (w_d (w_d (w_d (w_d (w_d w_n)))))))))
  · replace h := h.2 hc
    refine g_iload_2 E dX3_findHead_27 ?_
    refine g_bipush E (by decide) dX3_findHead_28 ?_
    refine g_imul E dX3_findHead_30 ?_
    refine g_aload_0 E dX3_findHead_31 ?_
    refine g_getR E fl_RX3_55 (kC_54 b) (sC_54 b) rfl dX3_findHead_32 ?_
    refine g_iload_2 E dX3_findHead_35 ?_
    refine g_iald E (kC_65 b) (sC_65 b) (by decide) h.1 dX3_findHead_36 ?_
    replace h := h.2
    refine g_iadd E dX3_findHead_37 ?_
    refine g_nmI (fun v3 ev3 => ?_)
    replace h := h v3 ev3
    have cv3 : C32 v3 := by rw [ev3]; exact (c32_w _)
    refine g_istore_4 E rfl (by decide) dX3_findHead_38 ?_
    refine g_aload_0 E dX3_findHead_40 ?_
    refine g_aload_0 E dX3_findHead_41 ?_
    refine g_getR E fl_RX3_43 (kC_54 b) (sC_54 b) rfl dX3_findHead_42 ?_
    refine g_iload_4 E dX3_findHead_45 ?_
    refine g_iald E (kC_61 b) (sC_61 b) (by decide) h.1 dX3_findHead_47 ?_
    replace h := h.2
    refine g_putI E fl_RX3_156 rfl rfl (kC_54 b) (sC_54 b) rfl dX3_findHead_48 (g_nmS (fun σ4 eσ4 => ?_))
    replace h := h σ4 eσ4
    have hσ4 : CanS (shC b) (NC b) σ4 := by rw [eσ4]; exact uC_54_16 hσ2 (aC_61 hσ2 _)
    refine g_aload_0 E dX3_findHead_51 ?_
    refine g_getR E fl_RX3_46 (kC_54 b) (sC_54 b) rfl dX3_findHead_52 ?_
    refine g_iload_4 E dX3_findHead_55 ?_
    refine g_iald E (kC_62 b) (sC_62 b) (by decide) h.1 dX3_findHead_57 ?_
    replace h := h.2
    refine g_nmI (fun v5 ev5 => ?_)
    replace h := h v5 ev5
    have cv5 : C32 v5 := by rw [ev5]; exact (aC_62 hσ4 _)
    refine g_istore_3 E rfl (by decide) dX3_findHead_58 ?_
    exact (t_X3_findHead_b59 E hr x1 x2 v5 σ4 c1 c2 cv5 hσ4 h).weak (w_k (w_k (w_k (w_k (w_d (w_d (w_d (w_d (w_d w_n)))))))))
end
theorem m_X3_findHead {Z : (Nat → Nat) × (Nat → Nat)} {l : Launch} {D : va_G} {cA : Nat → ClassId} {ad : Nat → Nat} {b : Bool} {x1 x2 : Int} {σ : St} {Q : Int → St → Prop} (hA : AdOk (NC b) ad) (c1 : C32 x1) (c2 : C32 x2) (hσ : CanS (shC b) (NC b) σ) (h : wp_X3_findHead x1 x2 σ Q) : KtV Z l D cA ad (shC b) (NC b) yX3_findHead cX3_findHead 9 none 1 [.ref (ad 54), vI x1, vI x2] σ Q :=
  KtV.of my_X3_findHead hA [some (.ref (ad 54)), some (vI x1), some (vI x2), none, none, none, none, none, none] (Nat.le_of_ble_eq_true rfl) rfl (fun p e s m args below meth c A0 E hr => t_X3_findHead E hr x1 x2 σ c1 c2 hσ h)
theorem dX3_takeLeast_0 : Dc cX3_takeLeast 0 (.iconst (-1)) 1 1 := ⟨by decide +kernel, rfl⟩
theorem dX3_takeLeast_1 : Dc cX3_takeLeast 1 (.istore_n 3) 1 2 := ⟨by decide +kernel, rfl⟩
theorem dX3_takeLeast_2 : Dc cX3_takeLeast 2 (.iconst (-1)) 1 3 := ⟨by decide +kernel, rfl⟩
theorem dX3_takeLeast_3 : Dc cX3_takeLeast 3 (.istore 4) 2 5 := ⟨by decide +kernel, rfl⟩
theorem dX3_takeLeast_5 : Dc cX3_takeLeast 5 (.iconst (-1)) 1 6 := ⟨by decide +kernel, rfl⟩
theorem dX3_takeLeast_6 : Dc cX3_takeLeast 6 (.istore 5) 2 8 := ⟨by decide +kernel, rfl⟩
theorem dX3_takeLeast_8 : Dc cX3_takeLeast 8 (.iconst 0) 1 9 := ⟨by decide +kernel, rfl⟩
theorem dX3_takeLeast_9 : Dc cX3_takeLeast 9 (.istore 6) 2 11 := ⟨by decide +kernel, rfl⟩
theorem dX3_takeLeast_11 : Dc cX3_takeLeast 11 (.iload 6) 2 13 := ⟨by decide +kernel, rfl⟩
theorem dX3_takeLeast_13 : Dc cX3_takeLeast 13 (.bipush 12) 2 15 := ⟨by decide +kernel, rfl⟩
theorem djX3_takeLeast_15 : Dj cX3_takeLeast 15 (.if_icmp .ge 78) 3 18 78 93 := ⟨by decide +kernel, rfl, by decide⟩
theorem dX3_takeLeast_18 : Dc cX3_takeLeast 18 (.iload_n 2) 1 19 := ⟨by decide +kernel, rfl⟩
theorem dX3_takeLeast_19 : Dc cX3_takeLeast 19 (.iload 6) 2 21 := ⟨by decide +kernel, rfl⟩
theorem dX3_takeLeast_21 : Dc cX3_takeLeast 21 (.ishr) 1 22 := ⟨by decide +kernel, rfl⟩
theorem dX3_takeLeast_22 : Dc cX3_takeLeast 22 (.iconst 1) 1 23 := ⟨by decide +kernel, rfl⟩
theorem dX3_takeLeast_23 : Dc cX3_takeLeast 23 (.iand) 1 24 := ⟨by decide +kernel, rfl⟩
theorem dX3_takeLeast_24 : Dc cX3_takeLeast 24 (.iconst 1) 1 25 := ⟨by decide +kernel, rfl⟩
theorem djX3_takeLeast_25 : Dj cX3_takeLeast 25 (.if_icmp .ne 62) 3 28 62 87 := ⟨by decide +kernel, rfl, by decide⟩
theorem dX3_takeLeast_28 : Dc cX3_takeLeast 28 (.aload_n 0) 1 29 := ⟨by decide +kernel, rfl⟩
theorem dX3_takeLeast_29 : Dc cX3_takeLeast 29 (.getfield 36) 3 32 := ⟨by decide +kernel, rfl⟩
theorem dX3_takeLeast_32 : Dc cX3_takeLeast 32 (.iload_n 1) 1 33 := ⟨by decide +kernel, rfl⟩
theorem dX3_takeLeast_33 : Dc cX3_takeLeast 33 (.iload 6) 2 35 := ⟨by decide +kernel, rfl⟩
theorem dX3_takeLeast_35 : Dc cX3_takeLeast 35 (.iadd) 1 36 := ⟨by decide +kernel, rfl⟩
theorem dX3_takeLeast_36 : Dc cX3_takeLeast 36 (.iaload) 1 37 := ⟨by decide +kernel, rfl⟩
theorem dX3_takeLeast_37 : Dc cX3_takeLeast 37 (.bipush 16) 2 39 := ⟨by decide +kernel, rfl⟩
theorem djX3_takeLeast_39 : Dj cX3_takeLeast 39 (.if_icmp .ge 48) 3 42 48 87 := ⟨by decide +kernel, rfl, by decide⟩
theorem dX3_takeLeast_42 : Dc cX3_takeLeast 42 (.aload_n 0) 1 43 := ⟨by decide +kernel, rfl⟩
theorem dX3_takeLeast_43 : Dc cX3_takeLeast 43 (.iload_n 1) 1 44 := ⟨by decide +kernel, rfl⟩
theorem dX3_takeLeast_44 : Dc cX3_takeLeast 44 (.iload 6) 2 46 := ⟨by decide +kernel, rfl⟩
theorem dX3_takeLeast_46 : Dc cX3_takeLeast 46 (.invokevirtual 153) 3 49 := ⟨by decide +kernel, rfl⟩
theorem dX3_takeLeast_49 : Dc cX3_takeLeast 49 (.aload_n 0) 1 50 := ⟨by decide +kernel, rfl⟩
theorem dX3_takeLeast_50 : Dc cX3_takeLeast 50 (.getfield 156) 3 53 := ⟨by decide +kernel, rfl⟩
theorem dX3_takeLeast_53 : Dc cX3_takeLeast 53 (.iconst (-1)) 1 54 := ⟨by decide +kernel, rfl⟩
theorem djX3_takeLeast_54 : Dj cX3_takeLeast 54 (.if_icmp .eq 33) 3 57 33 87 := ⟨by decide +kernel, rfl, by decide⟩
theorem dX3_takeLeast_57 : Dc cX3_takeLeast 57 (.iload 5) 2 59 := ⟨by decide +kernel, rfl⟩
theorem dX3_takeLeast_59 : Dc cX3_takeLeast 59 (.iconst (-1)) 1 60 := ⟨by decide +kernel, rfl⟩
theorem djX3_takeLeast_60 : Dj cX3_takeLeast 60 (.if_icmp .eq 12) 3 63 12 72 := ⟨by decide +kernel, rfl, by decide⟩
theorem dX3_takeLeast_63 : Dc cX3_takeLeast 63 (.aload_n 0) 1 64 := ⟨by decide +kernel, rfl⟩
theorem dX3_takeLeast_64 : Dc cX3_takeLeast 64 (.getfield 156) 3 67 := ⟨by decide +kernel, rfl⟩
theorem dX3_takeLeast_67 : Dc cX3_takeLeast 67 (.iload 5) 2 69 := ⟨by decide +kernel, rfl⟩
theorem djX3_takeLeast_69 : Dj cX3_takeLeast 69 (.if_icmp .ge 18) 3 72 18 87 := ⟨by decide +kernel, rfl, by decide⟩
theorem dX3_takeLeast_72 : Dc cX3_takeLeast 72 (.iload 6) 2 74 := ⟨by decide +kernel, rfl⟩
theorem dX3_takeLeast_74 : Dc cX3_takeLeast 74 (.istore_n 3) 1 75 := ⟨by decide +kernel, rfl⟩
theorem dX3_takeLeast_75 : Dc cX3_takeLeast 75 (.aload_n 0) 1 76 := ⟨by decide +kernel, rfl⟩
theorem dX3_takeLeast_76 : Dc cX3_takeLeast 76 (.getfield 159) 3 79 := ⟨by decide +kernel, rfl⟩
theorem dX3_takeLeast_79 : Dc cX3_takeLeast 79 (.istore 4) 2 81 := ⟨by decide +kernel, rfl⟩
theorem dX3_takeLeast_81 : Dc cX3_takeLeast 81 (.aload_n 0) 1 82 := ⟨by decide +kernel, rfl⟩
theorem dX3_takeLeast_82 : Dc cX3_takeLeast 82 (.getfield 156) 3 85 := ⟨by decide +kernel, rfl⟩
theorem dX3_takeLeast_85 : Dc cX3_takeLeast 85 (.istore 5) 2 87 := ⟨by decide +kernel, rfl⟩
theorem dX3_takeLeast_87 : Dc cX3_takeLeast 87 (.iinc 6 1) 3 90 := ⟨by decide +kernel, rfl⟩
theorem djX3_takeLeast_90 : Dj cX3_takeLeast 90 (.goto (-79)) 3 93 (-79) 11 := ⟨by decide +kernel, rfl, by decide⟩
theorem dX3_takeLeast_93 : Dc cX3_takeLeast 93 (.iload_n 3) 1 94 := ⟨by decide +kernel, rfl⟩
theorem dX3_takeLeast_94 : Dc cX3_takeLeast 94 (.iconst (-1)) 1 95 := ⟨by decide +kernel, rfl⟩
theorem djX3_takeLeast_95 : Dj cX3_takeLeast 95 (.if_icmp .ne 5) 3 98 5 100 := ⟨by decide +kernel, rfl, by decide⟩
theorem dX3_takeLeast_98 : Dc cX3_takeLeast 98 (.iconst 0) 1 99 := ⟨by decide +kernel, rfl⟩
theorem dX3_takeLeast_99 : Dc cX3_takeLeast 99 (.ireturn) 1 100 := ⟨by decide +kernel, rfl⟩
theorem dX3_takeLeast_100 : Dc cX3_takeLeast 100 (.iload 4) 2 102 := ⟨by decide +kernel, rfl⟩
theorem dX3_takeLeast_102 : Dc cX3_takeLeast 102 (.iconst (-1)) 1 103 := ⟨by decide +kernel, rfl⟩
theorem djX3_takeLeast_103 : Dj cX3_takeLeast 103 (.if_icmp .ne 14) 3 106 14 117 := ⟨by decide +kernel, rfl, by decide⟩
theorem dX3_takeLeast_106 : Dc cX3_takeLeast 106 (.aload_n 0) 1 107 := ⟨by decide +kernel, rfl⟩
theorem dX3_takeLeast_107 : Dc cX3_takeLeast 107 (.iload_n 1) 1 108 := ⟨by decide +kernel, rfl⟩
theorem dX3_takeLeast_108 : Dc cX3_takeLeast 108 (.iload_n 3) 1 109 := ⟨by decide +kernel, rfl⟩
theorem dX3_takeLeast_109 : Dc cX3_takeLeast 109 (.iadd) 1 110 := ⟨by decide +kernel, rfl⟩
theorem dX3_takeLeast_110 : Dc cX3_takeLeast 110 (.iload_n 3) 1 111 := ⟨by decide +kernel, rfl⟩
theorem dX3_takeLeast_111 : Dc cX3_takeLeast 111 (.invokevirtual 146) 3 114 := ⟨by decide +kernel, rfl⟩
theorem djX3_takeLeast_114 : Dj cX3_takeLeast 114 (.goto 40) 3 117 40 154 := ⟨by decide +kernel, rfl, by decide⟩
theorem dX3_takeLeast_117 : Dc cX3_takeLeast 117 (.aload_n 0) 1 118 := ⟨by decide +kernel, rfl⟩
theorem dX3_takeLeast_118 : Dc cX3_takeLeast 118 (.iload_n 1) 1 119 := ⟨by decide +kernel, rfl⟩
theorem dX3_takeLeast_119 : Dc cX3_takeLeast 119 (.iload_n 3) 1 120 := ⟨by decide +kernel, rfl⟩
theorem dX3_takeLeast_120 : Dc cX3_takeLeast 120 (.iadd) 1 121 := ⟨by decide +kernel, rfl⟩
theorem dX3_takeLeast_121 : Dc cX3_takeLeast 121 (.iload 5) 2 123 := ⟨by decide +kernel, rfl⟩
theorem dX3_takeLeast_123 : Dc cX3_takeLeast 123 (.aload_n 0) 1 124 := ⟨by decide +kernel, rfl⟩
theorem dX3_takeLeast_124 : Dc cX3_takeLeast 124 (.getfield 58) 3 127 := ⟨by decide +kernel, rfl⟩
theorem dX3_takeLeast_127 : Dc cX3_takeLeast 127 (.iload 4) 2 129 := ⟨by decide +kernel, rfl⟩
theorem dX3_takeLeast_129 : Dc cX3_takeLeast 129 (.iaload) 1 130 := ⟨by decide +kernel, rfl⟩
theorem dX3_takeLeast_130 : Dc cX3_takeLeast 130 (.aload_n 0) 1 131 := ⟨by decide +kernel, rfl⟩
theorem dX3_takeLeast_131 : Dc cX3_takeLeast 131 (.getfield 61) 3 134 := ⟨by decide +kernel, rfl⟩
theorem dX3_takeLeast_134 : Dc cX3_takeLeast 134 (.iload 4) 2 136 := ⟨by decide +kernel, rfl⟩
theorem dX3_takeLeast_136 : Dc cX3_takeLeast 136 (.iaload) 1 137 := ⟨by decide +kernel, rfl⟩
theorem dX3_takeLeast_137 : Dc cX3_takeLeast 137 (.bipush 16) 2 139 := ⟨by decide +kernel, rfl⟩
theorem dX3_takeLeast_139 : Dc cX3_takeLeast 139 (.imul) 1 140 := ⟨by decide +kernel, rfl⟩
theorem dX3_takeLeast_140 : Dc cX3_takeLeast 140 (.invokevirtual 149) 3 143 := ⟨by decide +kernel, rfl⟩
theorem dX3_takeLeast_143 : Dc cX3_takeLeast 143 (.aload_n 0) 1 144 := ⟨by decide +kernel, rfl⟩
theorem dX3_takeLeast_144 : Dc cX3_takeLeast 144 (.getfield 61) 3 147 := ⟨by decide +kernel, rfl⟩
theorem dX3_takeLeast_147 : Dc cX3_takeLeast 147 (.iload 4) 2 149 := ⟨by decide +kernel, rfl⟩
theorem dX3_takeLeast_149 : Dc cX3_takeLeast 149 (.dup2) 1 150 := ⟨by decide +kernel, rfl⟩
theorem dX3_takeLeast_150 : Dc cX3_takeLeast 150 (.iaload) 1 151 := ⟨by decide +kernel, rfl⟩
theorem dX3_takeLeast_151 : Dc cX3_takeLeast 151 (.iconst 1) 1 152 := ⟨by decide +kernel, rfl⟩
theorem dX3_takeLeast_152 : Dc cX3_takeLeast 152 (.iadd) 1 153 := ⟨by decide +kernel, rfl⟩
theorem dX3_takeLeast_153 : Dc cX3_takeLeast 153 (.iastore) 1 154 := ⟨by decide +kernel, rfl⟩
theorem dX3_takeLeast_154 : Dc cX3_takeLeast 154 (.iconst 1) 1 155 := ⟨by decide +kernel, rfl⟩
theorem dX3_takeLeast_155 : Dc cX3_takeLeast 155 (.ireturn) 1 156 := ⟨by decide +kernel, rfl⟩
section
variable {p : Program} {l : Launch} {e : Env} {s : State} {m : MethodId} {args : Array Value} {below : List Frame} {meth : Method} {c : Code} {A0 : Nat → Prop} {D : va_G} {cA : Nat → ClassId} {ad : Nat → Nat} {Z : (Nat → Nat) × (Nat → Nat)} {Q : Int → St → Prop} {b : Bool}
set_option maxHeartbeats 4000000 in
set_option maxRecDepth 100000 in
theorem t_X3_takeLeast_b87 (E : Ev p s m args meth c cX3_takeLeast 7 RX3 A0 D cA ad (NC b) Z) (hr : meth.sig.returnType = (some .boolean)) {K11 : Int → Int → Int → Int → Int → Int → St → Prop} (hK11 : ∀ (x1 : Int) (x2 : Int) (x3 : Int) (x4 : Int) (x5 : Int) (x6 : Int) (σ : St), C32 x1 → C32 x2 → C32 x3 → C32 x4 → C32 x5 → C32 x6 → CanS (shC b) (NC b) σ → K11 x1 x2 x3 x4 x5 x6 σ → G p l e (rmL 4 0 0) s m args below meth c 7 A0 D cA ad (shC b) (NC b) 0 0 (MQ below (QIc D cA ad (shC b) (NC b) Q A0) args s 0 0 A0) σ 11 [some (.ref (ad 54)), some (vI x1), some (vI x2), some (vI x3), some (vI x4), some (vI x5), some (vI x6)] []) (x1 : Int) (x2 : Int) (x3 : Int) (x4 : Int) (x5 : Int) (x6 : Int) (σ : St) (c1 : C32 x1) (c2 : C32 x2) (c3 : C32 x3) (c4 : C32 x4) (c5 : C32 x5) (c6 : C32 x6) (hσ : CanS (shC b) (NC b) σ) (h : wp_X3_takeLeast_b87 Q K11 x1 x2 x3 x4 x5 x6 σ) : G p l e (rmL 4 0 0) s m args below meth c 7 A0 D cA ad (shC b) (NC b) 0 0 (MQ below (QIc D cA ad (shC b) (NC b) Q A0) args s 0 0 A0) σ 87 [some (.ref (ad 54)), some (vI x1), some (vI x2), some (vI x3), some (vI x4), some (vI x5), some (vI x6)] [] := by
  unfold wp_X3_takeLeast_b87 at h
  refine g_iinc_6 E rfl (by decide) dX3_takeLeast_87 (fun v8 ev8 => ?_)
  replace h := h v8 ev8
  have cv8 : C32 v8 := by rw [ev8]; exact c32_w _
  refine g_goto E djX3_takeLeast_90 ?_
  exact (hK11 x1 x2 x3 x4 x5 v8 σ c1 c2 c3 c4 c5 cv8 hσ h).weak (w_k (w_k (w_k (w_k (w_k (w_k (w_k w_n)))))))
set_option maxHeartbeats 4000000 in
set_option maxRecDepth 100000 in
theorem t_X3_takeLeast_b72 (E : Ev p s m args meth c cX3_takeLeast 7 RX3 A0 D cA ad (NC b) Z) (hr : meth.sig.returnType = (some .boolean)) {K11 : Int → Int → Int → Int → Int → Int → St → Prop} (hK11 : ∀ (x1 : Int) (x2 : Int) (x3 : Int) (x4 : Int) (x5 : Int) (x6 : Int) (σ : St), C32 x1 → C32 x2 → C32 x3 → C32 x4 → C32 x5 → C32 x6 → CanS (shC b) (NC b) σ → K11 x1 x2 x3 x4 x5 x6 σ → G p l e (rmL 4 0 0) s m args below meth c 7 A0 D cA ad (shC b) (NC b) 0 0 (MQ below (QIc D cA ad (shC b) (NC b) Q A0) args s 0 0 A0) σ 11 [some (.ref (ad 54)), some (vI x1), some (vI x2), some (vI x3), some (vI x4), some (vI x5), some (vI x6)] []) (x1 : Int) (x2 : Int) (x6 : Int) (σ : St) (c1 : C32 x1) (c2 : C32 x2) (c6 : C32 x6) (hσ : CanS (shC b) (NC b) σ) (h : wp_X3_takeLeast_b72 Q K11 x1 x2 x6 σ) : G p l e (rmL 4 0 0) s m args below meth c 7 A0 D cA ad (shC b) (NC b) 0 0 (MQ below (QIc D cA ad (shC b) (NC b) Q A0) args s 0 0 A0) σ 72 [some (.ref (ad 54)), some (vI x1), some (vI x2), none, none, none, some (vI x6)] [] := by
  unfold wp_X3_takeLeast_b72 at h
  refine g_iload_6 E dX3_takeLeast_72 ?_
  refine g_istore_3 E rfl (by decide) dX3_takeLeast_74 ?_
  refine g_aload_0 E dX3_takeLeast_75 ?_
  refine g_getI E fl_RX3_159 (kC_54 b) (sC_54 b) rfl dX3_takeLeast_76 ?_
  refine g_nmI (fun v9 ev9 => ?_)
  replace h := h v9 ev9
  have cv9 : C32 v9 := by rw [ev9]; exact (fC_54_17 hσ)
  refine g_istore_4 E rfl (by decide) dX3_takeLeast_79 ?_
  refine g_aload_0 E dX3_takeLeast_81 ?_
  refine g_getI E fl_RX3_156 (kC_54 b) (sC_54 b) rfl dX3_takeLeast_82 ?_
  refine g_nmI (fun v10 ev10 => ?_)
  replace h := h v10 ev10
  have cv10 : C32 v10 := by rw [ev10]; exact (fC_54_16 hσ)
  refine g_istore_5 E rfl (by decide) dX3_takeLeast_85 ?_
  exact (t_X3_takeLeast_b87 E hr hK11 x1 x2 x6 v9 v10 x6 σ c1 c2 c6 cv9 cv10 c6 hσ h).weak (w_k (w_k (w_k (w_k (w_k (w_k (w_k w_n)))))))
set_option maxHeartbeats 4000000 in
set_option maxRecDepth 100000 in
theorem t_X3_takeLeast_l11 (E : Ev p s m args meth c cX3_takeLeast 7 RX3 A0 D cA ad (NC b) Z) (hr : meth.sig.returnType = (some .boolean)) : ∀ (n : Nat) (x1 : Int) (x2 : Int) (x3 : Int) (x4 : Int) (x5 : Int) (x6 : Int) (σ : St), C32 x1 → C32 x2 → C32 x3 → C32 x4 → C32 x5 → C32 x6 → CanS (shC b) (NC b) σ → wp_X3_takeLeast_l11 Q n x1 x2 x3 x4 x5 x6 σ → G p l e (rmL 4 0 0) s m args below meth c 7 A0 D cA ad (shC b) (NC b) 0 0 (MQ below (QIc D cA ad (shC b) (NC b) Q A0) args s 0 0 A0) σ 11 [some (.ref (ad 54)), some (vI x1), some (vI x2), some (vI x3), some (vI x4), some (vI x5), some (vI x6)] [] := by
  intro n
  induction n with
  | zero => intro _ _ _ _ _ _ _ _ _ _ _ _ _ _ h; exact h.elim
  | succ n ih =>
    intro x1 x2 x3 x4 x5 x6 σ c1 c2 c3 c4 c5 c6 hσ h
    unfold wp_X3_takeLeast_l11 at h
    refine g_iload_6 E dX3_takeLeast_11 ?_
    refine g_bipush E (by decide) dX3_takeLeast_13 ?_
    refine g_icmp_ge E c6 cl_12 djX3_takeLeast_15 (fun hc => ?_) (fun hc => ?_)
    · replace h := h.1 hc
      refine g_iload_3 E dX3_takeLeast_93 ?_
      refine g_iconst E dX3_takeLeast_94 ?_
      refine g_icmp_ne E c3 cl_m1 djX3_takeLeast_95 (fun hc => ?_) (fun hc => ?_)
      · replace h := h.1 hc
        refine g_iload_4 E dX3_takeLeast_100 ?_
        refine g_iconst E dX3_takeLeast_102 ?_
        refine g_icmp_ne E c4 cl_m1 djX3_takeLeast_103 (fun hc => ?_) (fun hc => ?_)
        · replace h := h.1 hc
          refine g_aload_0 E dX3_takeLeast_117 ?_
          refine g_iload_1 E dX3_takeLeast_118 ?_
          refine g_iload_3 E dX3_takeLeast_119 ?_
          refine g_iadd E dX3_takeLeast_120 ?_
          refine g_iload_5 E dX3_takeLeast_121 ?_
          refine g_aload_0 E dX3_takeLeast_123 ?_
          refine g_getR E fl_RX3_58 (kC_54 b) (sC_54 b) rfl dX3_takeLeast_124 ?_
          refine g_iload_4 E dX3_takeLeast_127 ?_
          refine g_iald E (kC_66 b) (sC_66 b) (by decide) h.1 dX3_takeLeast_129 ?_
          replace h := h.2
          refine g_aload_0 E dX3_takeLeast_130 ?_
          refine g_getR E fl_RX3_61 (kC_54 b) (sC_54 b) rfl dX3_takeLeast_131 ?_
          refine g_iload_4 E dX3_takeLeast_134 ?_
          refine g_iald E (kC_67 b) (sC_67 b) (by decide) h.1 dX3_takeLeast_136 ?_
          replace h := h.2
          refine g_bipush E (by decide) dX3_takeLeast_137 ?_
          refine g_imul E dX3_takeLeast_139 ?_
          refine g_callvV E my_X3_append mi_X3_append msel_X3_append ml_RX3_149 (rm_ok (by decide) (by decide)) ⟨Nat.zero_le _, Nat.zero_le _⟩ (kC_54 b) (sC_54 b) rfl (m_X3_append E.2.2.1 (c32_w _) c5 (aC_66 hσ _) (c32_w _) hσ h) rfl rfl (Nat.le_of_ble_eq_true rfl) dX3_takeLeast_140 (fun σ2 r1 hσ2 h => ?_)
          refine g_aload_0 E dX3_takeLeast_143 ?_
          refine g_getR E fl_RX3_61 (kC_54 b) (sC_54 b) rfl dX3_takeLeast_144 ?_
          refine g_iload_4 E dX3_takeLeast_147 ?_
          refine g_dup2 E rfl rfl dX3_takeLeast_149 ?_
          refine g_iald E (kC_67 b) (sC_67 b) (by decide) h.1 dX3_takeLeast_150 ?_
          replace h := h.2
          refine g_iconst E dX3_takeLeast_151 ?_
          refine g_iadd E dX3_takeLeast_152 ?_
          refine g_iast E (kC_67 b) (sC_67 b) (by decide) h.1 dX3_takeLeast_153 (g_nmS (fun σ3 eσ3 => ?_))
          replace h := h.2 σ3 eσ3
          have hσ3 : CanS (shC b) (NC b) σ3 := by rw [eσ3]; exact wC_67 hσ2 (c32_w _)
          refine g_iconst E dX3_takeLeast_154 ?_
          exact g_zret E hr (Or.inr rfl) h hσ3 dX3_takeLeast_155
        · replace h := h.2 hc
          refine g_aload_0 E dX3_takeLeast_106 ?_
          refine g_iload_1 E dX3_takeLeast_107 ?_
          refine g_iload_3 E dX3_takeLeast_108 ?_
          refine g_iadd E dX3_takeLeast_109 ?_
          refine g_iload_3 E dX3_takeLeast_110 ?_
          refine g_callvV E my_X3_takeOfBase mi_X3_takeOfBase msel_X3_takeOfBase ml_RX3_146 (rm_ok (by decide) (by decide)) ⟨Nat.zero_le _, Nat.zero_le _⟩ (kC_54 b) (sC_54 b) rfl (m_X3_takeOfBase E.2.2.1 (c32_w _) c3 hσ h) rfl rfl (Nat.le_of_ble_eq_true rfl) dX3_takeLeast_111 (fun σ5 r4 hσ5 h => ?_)
          refine g_goto E djX3_takeLeast_114 ?_
          refine g_iconst E dX3_takeLeast_154 ?_
          exact g_zret E hr (Or.inr rfl) h hσ5 dX3_takeLeast_155
      · replace h := h.2 hc
        refine g_iconst E dX3_takeLeast_98 ?_
        exact g_zret E hr (Or.inl rfl) h hσ dX3_takeLeast_99
    · replace h := h.2 hc
      refine g_iload_2 E dX3_takeLeast_18 ?_
      refine g_iload_6 E dX3_takeLeast_19 ?_
      refine g_ishr E dX3_takeLeast_21 ?_
      refine g_iconst E dX3_takeLeast_22 ?_
      refine g_iand E dX3_takeLeast_23 ?_
      refine g_iconst E dX3_takeLeast_24 ?_
      refine g_icmp_ne E (c32_t _) cl_1 djX3_takeLeast_25 (fun hc => ?_) (fun hc => ?_)
      · replace h := h.1 hc
        exact (t_X3_takeLeast_b87 E hr ih x1 x2 x3 x4 x5 x6 σ c1 c2 c3 c4 c5 c6 hσ h).weak (w_k (w_k (w_k (w_k (w_k (w_k (w_k w_n)))))))
      · replace h := h.2 hc
        refine g_aload_0 E dX3_takeLeast_28 ?_
        refine g_getR E fl_RX3_36 (kC_54 b) (sC_54 b) rfl dX3_takeLeast_29 ?_
        refine g_iload_1 E dX3_takeLeast_32 ?_
        refine g_iload_6 E dX3_takeLeast_33 ?_
        refine g_iadd E dX3_takeLeast_35 ?_
        refine g_iald E (kC_59 b) (sC_59 b) (by decide) h.1 dX3_takeLeast_36 ?_
        replace h := h.2
        refine g_bipush E (by decide) dX3_takeLeast_37 ?_
        refine g_icmp_ge E (aC_59 hσ _) cl_16 djX3_takeLeast_39 (fun hc => ?_) (fun hc => ?_)
        · replace h := h.1 hc
          exact (t_X3_takeLeast_b87 E hr ih x1 x2 x3 x4 x5 x6 σ c1 c2 c3 c4 c5 c6 hσ h).weak (w_k (w_k (w_k (w_k (w_k (w_k (w_k w_n)))))))
        · replace h := h.2 hc
          refine g_aload_0 E dX3_takeLeast_42 ?_
          refine g_iload_1 E dX3_takeLeast_43 ?_
          refine g_iload_6 E dX3_takeLeast_44 ?_
          refine g_callvV E my_X3_findHead mi_X3_findHead msel_X3_findHead ml_RX3_153 (rm_ok (by decide) (by decide)) ⟨Nat.zero_le _, Nat.zero_le _⟩ (kC_54 b) (sC_54 b) rfl (m_X3_findHead E.2.2.1 c1 c6 hσ h) rfl rfl (Nat.le_of_ble_eq_true rfl) dX3_takeLeast_46 (fun σ7 r6 hσ7 h => ?_)
          refine g_aload_0 E dX3_takeLeast_49 ?_
          refine g_getI E fl_RX3_156 (kC_54 b) (sC_54 b) rfl dX3_takeLeast_50 ?_
          refine g_iconst E dX3_takeLeast_53 ?_
          refine g_icmp_eq E (fC_54_16 hσ7) cl_m1 djX3_takeLeast_54 (fun hc => ?_) (fun hc => ?_)
          · replace h := h.1 hc
            exact (t_X3_takeLeast_b87 E hr ih x1 x2 x3 x4 x5 x6 σ7 c1 c2 c3 c4 c5 c6 hσ7 h).weak (w_k (w_k (w_k (w_k (w_k (w_k (w_k w_n)))))))
          · replace h := h.2 hc
            refine g_iload_5 E dX3_takeLeast_57 ?_
            refine g_iconst E dX3_takeLeast_59 ?_
            refine g_icmp_eq E c5 cl_m1 djX3_takeLeast_60 (fun hc => ?_) (fun hc => ?_)
            · replace h := h.1 hc
              exact (t_X3_takeLeast_b72 E hr ih x1 x2 x6 σ7 c1 c2 c6 hσ7 h).weak (w_k (w_k (w_k (w_d (w_d (w_d (w_k w_n)))))))
            · replace h := h.2 hc
              refine g_aload_0 E dX3_takeLeast_63 ?_
              refine g_getI E fl_RX3_156 (kC_54 b) (sC_54 b) rfl dX3_takeLeast_64 ?_
              refine g_iload_5 E dX3_takeLeast_67 ?_
              refine g_icmp_ge E (fC_54_16 hσ7) c5 djX3_takeLeast_69 (fun hc => ?_) (fun hc => ?_)
              · replace h := h.1 hc
                exact (t_X3_takeLeast_b87 E hr ih x1 x2 x3 x4 x5 x6 σ7 c1 c2 c3 c4 c5 c6 hσ7 h).weak (w_k (w_k (w_k (w_k (w_k (w_k (w_k w_n)))))))
              · replace h := h.2 hc
                exact (t_X3_takeLeast_b72 E hr ih x1 x2 x6 σ7 c1 c2 c6 hσ7 h).weak (w_k (w_k (w_k (w_d (w_d (w_d (w_k w_n)))))))
set_option maxHeartbeats 4000000 in
set_option maxRecDepth 100000 in
theorem t_X3_takeLeast (E : Ev p s m args meth c cX3_takeLeast 7 RX3 A0 D cA ad (NC b) Z) (hr : meth.sig.returnType = (some .boolean)) (x1 : Int) (x2 : Int) (σ : St) (c1 : C32 x1) (c2 : C32 x2) (hσ : CanS (shC b) (NC b) σ) (h : wp_X3_takeLeast x1 x2 σ Q) : G p l e (rmL 4 0 0) s m args below meth c 7 A0 D cA ad (shC b) (NC b) 0 0 (MQ below (QIc D cA ad (shC b) (NC b) Q A0) args s 0 0 A0) σ 0 [some (.ref (ad 54)), some (vI x1), some (vI x2), none, none, none, none] [] := by
  unfold wp_X3_takeLeast at h
  refine g_iconst E dX3_takeLeast_0 ?_
  refine g_istore_3 E rfl (by decide) dX3_takeLeast_1 ?_
  refine g_iconst E dX3_takeLeast_2 ?_
  refine g_istore_4 E rfl (by decide) dX3_takeLeast_3 ?_
  refine g_iconst E dX3_takeLeast_5 ?_
  refine g_istore_5 E rfl (by decide) dX3_takeLeast_6 ?_
  refine g_iconst E dX3_takeLeast_8 ?_
  refine g_istore_6 E rfl (by decide) dX3_takeLeast_9 ?_
  exact (t_X3_takeLeast_l11 E hr bigN x1 x2 ((-1)) ((-1)) ((-1)) 0 σ c1 c2 cl_m1 cl_m1 cl_m1 cl_0 hσ h).weak (w_k (w_k (w_k (w_k (w_k (w_k (w_k w_n)))))))
end
theorem m_X3_takeLeast {Z : (Nat → Nat) × (Nat → Nat)} {l : Launch} {D : va_G} {cA : Nat → ClassId} {ad : Nat → Nat} {b : Bool} {x1 x2 : Int} {σ : St} {Q : Int → St → Prop} (hA : AdOk (NC b) ad) (c1 : C32 x1) (c2 : C32 x2) (hσ : CanS (shC b) (NC b) σ) (h : wp_X3_takeLeast x1 x2 σ Q) : KtI Z l D cA ad (shC b) (NC b) yX3_takeLeast cX3_takeLeast 7 (some .boolean) 4 [.ref (ad 54), vI x1, vI x2] σ Q :=
  KtI.of my_X3_takeLeast hA [some (.ref (ad 54)), some (vI x1), some (vI x2), none, none, none, none] (Nat.le_of_ble_eq_true rfl) rfl (fun p e s m args below meth c A0 E hr => t_X3_takeLeast E hr x1 x2 σ c1 c2 hσ h)
theorem dX3_growSpan_0 : Dc cX3_growSpan 0 (.iload_n 1) 1 1 := ⟨by decide +kernel, rfl⟩
theorem dX3_growSpan_1 : Dc cX3_growSpan 1 (.bipush 12) 2 3 := ⟨by decide +kernel, rfl⟩
theorem dX3_growSpan_3 : Dc cX3_growSpan 3 (.imul) 1 4 := ⟨by decide +kernel, rfl⟩
theorem dX3_growSpan_4 : Dc cX3_growSpan 4 (.istore_n 2) 1 5 := ⟨by decide +kernel, rfl⟩
theorem dX3_growSpan_5 : Dc cX3_growSpan 5 (.iconst 0) 1 6 := ⟨by decide +kernel, rfl⟩
theorem dX3_growSpan_6 : Dc cX3_growSpan 6 (.istore_n 3) 1 7 := ⟨by decide +kernel, rfl⟩
theorem dX3_growSpan_7 : Dc cX3_growSpan 7 (.iconst 0) 1 8 := ⟨by decide +kernel, rfl⟩
theorem dX3_growSpan_8 : Dc cX3_growSpan 8 (.istore 4) 2 10 := ⟨by decide +kernel, rfl⟩
theorem dX3_growSpan_10 : Dc cX3_growSpan 10 (.iload 4) 2 12 := ⟨by decide +kernel, rfl⟩
theorem dX3_growSpan_12 : Dc cX3_growSpan 12 (.aload_n 0) 1 13 := ⟨by decide +kernel, rfl⟩
theorem dX3_growSpan_13 : Dc cX3_growSpan 13 (.getfield 15) 3 16 := ⟨by decide +kernel, rfl⟩
theorem dX3_growSpan_16 : Dc cX3_growSpan 16 (.getfield 85) 3 19 := ⟨by decide +kernel, rfl⟩
theorem djX3_growSpan_19 : Dj cX3_growSpan 19 (.if_icmp .ge 69) 3 22 69 88 := ⟨by decide +kernel, rfl, by decide⟩
theorem dX3_growSpan_22 : Dc cX3_growSpan 22 (.aload_n 0) 1 23 := ⟨by decide +kernel, rfl⟩
theorem dX3_growSpan_23 : Dc cX3_growSpan 23 (.getfield 15) 3 26 := ⟨by decide +kernel, rfl⟩
theorem dX3_growSpan_26 : Dc cX3_growSpan 26 (.getfield 89) 3 29 := ⟨by decide +kernel, rfl⟩
theorem dX3_growSpan_29 : Dc cX3_growSpan 29 (.iload 4) 2 31 := ⟨by decide +kernel, rfl⟩
theorem dX3_growSpan_31 : Dc cX3_growSpan 31 (.iaload) 1 32 := ⟨by decide +kernel, rfl⟩
theorem dX3_growSpan_32 : Dc cX3_growSpan 32 (.istore 5) 2 34 := ⟨by decide +kernel, rfl⟩
theorem dX3_growSpan_34 : Dc cX3_growSpan 34 (.aload_n 0) 1 35 := ⟨by decide +kernel, rfl⟩
theorem dX3_growSpan_35 : Dc cX3_growSpan 35 (.getfield 61) 3 38 := ⟨by decide +kernel, rfl⟩
theorem dX3_growSpan_38 : Dc cX3_growSpan 38 (.iload 4) 2 40 := ⟨by decide +kernel, rfl⟩
theorem dX3_growSpan_40 : Dc cX3_growSpan 40 (.iconst 0) 1 41 := ⟨by decide +kernel, rfl⟩
theorem dX3_growSpan_41 : Dc cX3_growSpan 41 (.iastore) 1 42 := ⟨by decide +kernel, rfl⟩
theorem dX3_growSpan_42 : Dc cX3_growSpan 42 (.aload_n 0) 1 43 := ⟨by decide +kernel, rfl⟩
theorem dX3_growSpan_43 : Dc cX3_growSpan 43 (.getfield 58) 3 46 := ⟨by decide +kernel, rfl⟩
theorem dX3_growSpan_46 : Dc cX3_growSpan 46 (.iload 4) 2 48 := ⟨by decide +kernel, rfl⟩
theorem dX3_growSpan_48 : Dc cX3_growSpan 48 (.aload_n 0) 1 49 := ⟨by decide +kernel, rfl⟩
theorem dX3_growSpan_49 : Dc cX3_growSpan 49 (.iload_n 2) 1 50 := ⟨by decide +kernel, rfl⟩
theorem dX3_growSpan_50 : Dc cX3_growSpan 50 (.aload_n 0) 1 51 := ⟨by decide +kernel, rfl⟩
theorem dX3_growSpan_51 : Dc cX3_growSpan 51 (.getfield 9) 3 54 := ⟨by decide +kernel, rfl⟩
theorem dX3_growSpan_54 : Dc cX3_growSpan 54 (.getfield 92) 3 57 := ⟨by decide +kernel, rfl⟩
theorem dX3_growSpan_57 : Dc cX3_growSpan 57 (.iload 5) 2 59 := ⟨by decide +kernel, rfl⟩
theorem dX3_growSpan_59 : Dc cX3_growSpan 59 (.iaload) 1 60 := ⟨by decide +kernel, rfl⟩
theorem dX3_growSpan_60 : Dc cX3_growSpan 60 (.iadd) 1 61 := ⟨by decide +kernel, rfl⟩
theorem dX3_growSpan_61 : Dc cX3_growSpan 61 (.iload 5) 2 63 := ⟨by decide +kernel, rfl⟩
theorem dX3_growSpan_63 : Dc cX3_growSpan 63 (.invokevirtual 97) 3 66 := ⟨by decide +kernel, rfl⟩
theorem dX3_growSpan_66 : Dc cX3_growSpan 66 (.iastore) 1 67 := ⟨by decide +kernel, rfl⟩
theorem dX3_growSpan_67 : Dc cX3_growSpan 67 (.iload_n 3) 1 68 := ⟨by decide +kernel, rfl⟩
theorem dX3_growSpan_68 : Dc cX3_growSpan 68 (.iconst 1) 1 69 := ⟨by decide +kernel, rfl⟩
theorem dX3_growSpan_69 : Dc cX3_growSpan 69 (.aload_n 0) 1 70 := ⟨by decide +kernel, rfl⟩
theorem dX3_growSpan_70 : Dc cX3_growSpan 70 (.getfield 9) 3 73 := ⟨by decide +kernel, rfl⟩
theorem dX3_growSpan_73 : Dc cX3_growSpan 73 (.getfield 92) 3 76 := ⟨by decide +kernel, rfl⟩
theorem dX3_growSpan_76 : Dc cX3_growSpan 76 (.iload 5) 2 78 := ⟨by decide +kernel, rfl⟩
theorem dX3_growSpan_78 : Dc cX3_growSpan 78 (.iaload) 1 79 := ⟨by decide +kernel, rfl⟩
theorem dX3_growSpan_79 : Dc cX3_growSpan 79 (.ishl) 1 80 := ⟨by decide +kernel, rfl⟩
theorem dX3_growSpan_80 : Dc cX3_growSpan 80 (.ior) 1 81 := ⟨by decide +kernel, rfl⟩
theorem dX3_growSpan_81 : Dc cX3_growSpan 81 (.istore_n 3) 1 82 := ⟨by decide +kernel, rfl⟩
theorem dX3_growSpan_82 : Dc cX3_growSpan 82 (.iinc 4 1) 3 85 := ⟨by decide +kernel, rfl⟩
theorem djX3_growSpan_85 : Dj cX3_growSpan 85 (.goto (-75)) 3 88 (-75) 10 := ⟨by decide +kernel, rfl, by decide⟩
theorem dX3_growSpan_88 : Dc cX3_growSpan 88 (.iconst 0) 1 89 := ⟨by decide +kernel, rfl⟩
theorem dX3_growSpan_89 : Dc cX3_growSpan 89 (.istore 4) 2 91 := ⟨by decide +kernel, rfl⟩
theorem dX3_growSpan_91 : Dc cX3_growSpan 91 (.iload 4) 2 93 := ⟨by decide +kernel, rfl⟩
theorem dX3_growSpan_93 : Dc cX3_growSpan 93 (.bipush 12) 2 95 := ⟨by decide +kernel, rfl⟩
theorem djX3_growSpan_95 : Dj cX3_growSpan 95 (.if_icmp .ge 64) 3 98 64 159 := ⟨by decide +kernel, rfl, by decide⟩
theorem dX3_growSpan_98 : Dc cX3_growSpan 98 (.aload_n 0) 1 99 := ⟨by decide +kernel, rfl⟩
theorem dX3_growSpan_99 : Dc cX3_growSpan 99 (.getfield 36) 3 102 := ⟨by decide +kernel, rfl⟩
theorem dX3_growSpan_102 : Dc cX3_growSpan 102 (.iload_n 2) 1 103 := ⟨by decide +kernel, rfl⟩
theorem dX3_growSpan_103 : Dc cX3_growSpan 103 (.iload 4) 2 105 := ⟨by decide +kernel, rfl⟩
theorem dX3_growSpan_105 : Dc cX3_growSpan 105 (.iadd) 1 106 := ⟨by decide +kernel, rfl⟩
theorem dX3_growSpan_106 : Dc cX3_growSpan 106 (.iconst 0) 1 107 := ⟨by decide +kernel, rfl⟩
theorem dX3_growSpan_107 : Dc cX3_growSpan 107 (.iastore) 1 108 := ⟨by decide +kernel, rfl⟩
theorem dX3_growSpan_108 : Dc cX3_growSpan 108 (.aload_n 0) 1 109 := ⟨by decide +kernel, rfl⟩
theorem dX3_growSpan_109 : Dc cX3_growSpan 109 (.getfield 52) 3 112 := ⟨by decide +kernel, rfl⟩
theorem dX3_growSpan_112 : Dc cX3_growSpan 112 (.iload 4) 2 114 := ⟨by decide +kernel, rfl⟩
theorem dX3_growSpan_114 : Dc cX3_growSpan 114 (.iconst 0) 1 115 := ⟨by decide +kernel, rfl⟩
theorem dX3_growSpan_115 : Dc cX3_growSpan 115 (.iastore) 1 116 := ⟨by decide +kernel, rfl⟩
theorem dX3_growSpan_116 : Dc cX3_growSpan 116 (.aload_n 0) 1 117 := ⟨by decide +kernel, rfl⟩
theorem dX3_growSpan_117 : Dc cX3_growSpan 117 (.getfield 55) 3 120 := ⟨by decide +kernel, rfl⟩
theorem dX3_growSpan_120 : Dc cX3_growSpan 120 (.iload 4) 2 122 := ⟨by decide +kernel, rfl⟩
theorem dX3_growSpan_122 : Dc cX3_growSpan 122 (.iconst 0) 1 123 := ⟨by decide +kernel, rfl⟩
theorem dX3_growSpan_123 : Dc cX3_growSpan 123 (.iastore) 1 124 := ⟨by decide +kernel, rfl⟩
theorem dX3_growSpan_124 : Dc cX3_growSpan 124 (.aload_n 0) 1 125 := ⟨by decide +kernel, rfl⟩
theorem dX3_growSpan_125 : Dc cX3_growSpan 125 (.iload_n 2) 1 126 := ⟨by decide +kernel, rfl⟩
theorem dX3_growSpan_126 : Dc cX3_growSpan 126 (.iload 4) 2 128 := ⟨by decide +kernel, rfl⟩
theorem dX3_growSpan_128 : Dc cX3_growSpan 128 (.iadd) 1 129 := ⟨by decide +kernel, rfl⟩
theorem dX3_growSpan_129 : Dc cX3_growSpan 129 (.iload 4) 2 131 := ⟨by decide +kernel, rfl⟩
theorem dX3_growSpan_131 : Dc cX3_growSpan 131 (.invokevirtual 101) 3 134 := ⟨by decide +kernel, rfl⟩
theorem dX3_growSpan_134 : Dc cX3_growSpan 134 (.iload_n 3) 1 135 := ⟨by decide +kernel, rfl⟩
theorem dX3_growSpan_135 : Dc cX3_growSpan 135 (.iload 4) 2 137 := ⟨by decide +kernel, rfl⟩
theorem dX3_growSpan_137 : Dc cX3_growSpan 137 (.ishr) 1 138 := ⟨by decide +kernel, rfl⟩
theorem dX3_growSpan_138 : Dc cX3_growSpan 138 (.iconst 1) 1 139 := ⟨by decide +kernel, rfl⟩
theorem dX3_growSpan_139 : Dc cX3_growSpan 139 (.iand) 1 140 := ⟨by decide +kernel, rfl⟩
theorem djX3_growSpan_140 : Dj cX3_growSpan 140 (.ifCond .ne 13) 3 143 13 153 := ⟨by decide +kernel, rfl, by decide⟩
theorem dX3_growSpan_143 : Dc cX3_growSpan 143 (.aload_n 0) 1 144 := ⟨by decide +kernel, rfl⟩
theorem dX3_growSpan_144 : Dc cX3_growSpan 144 (.iload_n 2) 1 145 := ⟨by decide +kernel, rfl⟩
theorem dX3_growSpan_145 : Dc cX3_growSpan 145 (.iload 4) 2 147 := ⟨by decide +kernel, rfl⟩
theorem dX3_growSpan_147 : Dc cX3_growSpan 147 (.iadd) 1 148 := ⟨by decide +kernel, rfl⟩
theorem dX3_growSpan_148 : Dc cX3_growSpan 148 (.iload 4) 2 150 := ⟨by decide +kernel, rfl⟩
theorem dX3_growSpan_150 : Dc cX3_growSpan 150 (.invokevirtual 105) 3 153 := ⟨by decide +kernel, rfl⟩
theorem dX3_growSpan_153 : Dc cX3_growSpan 153 (.iinc 4 1) 3 156 := ⟨by decide +kernel, rfl⟩
theorem djX3_growSpan_156 : Dj cX3_growSpan 156 (.goto (-65)) 3 159 (-65) 91 := ⟨by decide +kernel, rfl, by decide⟩
theorem dX3_growSpan_159 : Dc cX3_growSpan 159 (.iload_n 3) 1 160 := ⟨by decide +kernel, rfl⟩
theorem djX3_growSpan_160 : Dj cX3_growSpan 160 (.ifCond .eq 7) 3 163 7 167 := ⟨by decide +kernel, rfl, by decide⟩
theorem dX3_growSpan_163 : Dc cX3_growSpan 163 (.iconst 1) 1 164 := ⟨by decide +kernel, rfl⟩
theorem djX3_growSpan_164 : Dj cX3_growSpan 164 (.goto 4) 3 167 4 168 := ⟨by decide +kernel, rfl, by decide⟩
theorem dX3_growSpan_167 : Dc cX3_growSpan 167 (.iconst 0) 1 168 := ⟨by decide +kernel, rfl⟩
theorem dX3_growSpan_168 : Dc cX3_growSpan 168 (.istore 4) 2 170 := ⟨by decide +kernel, rfl⟩
theorem dX3_growSpan_170 : Dc cX3_growSpan 170 (.iconst 0) 1 171 := ⟨by decide +kernel, rfl⟩
theorem dX3_growSpan_171 : Dc cX3_growSpan 171 (.istore 5) 2 173 := ⟨by decide +kernel, rfl⟩
theorem dX3_growSpan_173 : Dc cX3_growSpan 173 (.iload 5) 2 175 := ⟨by decide +kernel, rfl⟩
theorem dX3_growSpan_175 : Dc cX3_growSpan 175 (.sipush 192) 3 178 := ⟨by decide +kernel, rfl⟩
theorem djX3_growSpan_178 : Dj cX3_growSpan 178 (.if_icmp .ge 22) 3 181 22 200 := ⟨by decide +kernel, rfl, by decide⟩
theorem dX3_growSpan_181 : Dc cX3_growSpan 181 (.iload 4) 2 183 := ⟨by decide +kernel, rfl⟩
theorem djX3_growSpan_183 : Dj cX3_growSpan 183 (.ifCond .eq 17) 3 186 17 200 := ⟨by decide +kernel, rfl, by decide⟩
theorem dX3_growSpan_186 : Dc cX3_growSpan 186 (.aload_n 0) 1 187 := ⟨by decide +kernel, rfl⟩
theorem dX3_growSpan_187 : Dc cX3_growSpan 187 (.iload_n 2) 1 188 := ⟨by decide +kernel, rfl⟩
theorem dX3_growSpan_188 : Dc cX3_growSpan 188 (.iload_n 3) 1 189 := ⟨by decide +kernel, rfl⟩
theorem dX3_growSpan_189 : Dc cX3_growSpan 189 (.invokevirtual 108) 3 192 := ⟨by decide +kernel, rfl⟩
theorem dX3_growSpan_192 : Dc cX3_growSpan 192 (.istore 4) 2 194 := ⟨by decide +kernel, rfl⟩
theorem dX3_growSpan_194 : Dc cX3_growSpan 194 (.iinc 5 1) 3 197 := ⟨by decide +kernel, rfl⟩
theorem djX3_growSpan_197 : Dj cX3_growSpan 197 (.goto (-24)) 3 200 (-24) 173 := ⟨by decide +kernel, rfl, by decide⟩
theorem dX3_growSpan_200 : Dc cX3_growSpan 200 (.return_) 1 201 := ⟨by decide +kernel, rfl⟩
section
variable {p : Program} {l : Launch} {e : Env} {s : State} {m : MethodId} {args : Array Value} {below : List Frame} {meth : Method} {c : Code} {A0 : Nat → Prop} {D : va_G} {cA : Nat → ClassId} {ad : Nat → Nat} {Z : (Nat → Nat) × (Nat → Nat)} {Q : Int → St → Prop} {b : Bool}
set_option maxHeartbeats 4000000 in
set_option maxRecDepth 100000 in
theorem t_X3_growSpan_b153 (E : Ev p s m args meth c cX3_growSpan 6 RX3 A0 D cA ad (NC b) Z) (hr : meth.sig.returnType = none) {K91 : Int → Int → Int → St → Prop} (hK91 : ∀ (x2 : Int) (x3 : Int) (x4 : Int) (σ : St), C32 x2 → C32 x3 → C32 x4 → CanS (shC b) (NC b) σ → K91 x2 x3 x4 σ → G p l e (rmL 5 0 0) s m args below meth c 6 A0 D cA ad (shC b) (NC b) 0 0 (MQ below (QVc D cA ad (shC b) (NC b) Q A0) args s 0 0 A0) σ 91 [some (.ref (ad 54)), none, some (vI x2), some (vI x3), some (vI x4), none] []) (x2 : Int) (x3 : Int) (x4 : Int) (σ : St) (c2 : C32 x2) (c3 : C32 x3) (c4 : C32 x4) (hσ : CanS (shC b) (NC b) σ) (h : wp_X3_growSpan_b153 Q K91 x2 x3 x4 σ) : G p l e (rmL 5 0 0) s m args below meth c 6 A0 D cA ad (shC b) (NC b) 0 0 (MQ below (QVc D cA ad (shC b) (NC b) Q A0) args s 0 0 A0) σ 153 [some (.ref (ad 54)), none, some (vI x2), some (vI x3), some (vI x4), none] [] := by
  unfold wp_X3_growSpan_b153 at h
  refine g_iinc_4 E rfl (by decide) dX3_growSpan_153 (fun v16 ev16 => ?_)
  replace h := h v16 ev16
  have cv16 : C32 v16 := by rw [ev16]; exact c32_w _
  refine g_goto E djX3_growSpan_156 ?_
  exact (hK91 x2 x3 v16 σ c2 c3 cv16 hσ h).weak (w_k (w_d (w_k (w_k (w_k (w_d w_n))))))
set_option maxHeartbeats 4000000 in
set_option maxRecDepth 100000 in
theorem t_X3_growSpan_l173 (E : Ev p s m args meth c cX3_growSpan 6 RX3 A0 D cA ad (NC b) Z) (hr : meth.sig.returnType = none) : ∀ (n : Nat) (x2 : Int) (x3 : Int) (x4 : Int) (x5 : Int) (σ : St), C32 x2 → C32 x3 → C32 x4 → C32 x5 → CanS (shC b) (NC b) σ → wp_X3_growSpan_l173 Q n x2 x3 x4 x5 σ → G p l e (rmL 5 0 0) s m args below meth c 6 A0 D cA ad (shC b) (NC b) 0 0 (MQ below (QVc D cA ad (shC b) (NC b) Q A0) args s 0 0 A0) σ 173 [some (.ref (ad 54)), none, some (vI x2), some (vI x3), some (vI x4), some (vI x5)] [] := by
  intro n
  induction n with
  | zero => intro _ _ _ _ _ _ _ _ _ _ h; exact h.elim
  | succ n ih =>
    intro x2 x3 x4 x5 σ c2 c3 c4 c5 hσ h
    unfold wp_X3_growSpan_l173 at h
    refine g_iload_5 E dX3_growSpan_173 ?_
    refine g_sipush E (by decide) dX3_growSpan_175 ?_
    refine g_icmp_ge E c5 cl_192 djX3_growSpan_178 (fun hc => ?_) (fun hc => ?_)
    · replace h := h.1 hc
      exact g_vret E hr h hσ dX3_growSpan_200
    · replace h := h.2 hc
      refine g_iload_4 E dX3_growSpan_181 ?_
      refine g_if_eq E c4 djX3_growSpan_183 (fun hc => ?_) (fun hc => ?_)
      · replace h := h.1 hc
        exact g_vret E hr h hσ dX3_growSpan_200
      · replace h := h.2 hc
        refine g_aload_0 E dX3_growSpan_186 ?_
        refine g_iload_2 E dX3_growSpan_187 ?_
        refine g_iload_3 E dX3_growSpan_188 ?_
        refine g_callvI E my_X3_takeLeast mi_X3_takeLeast msel_X3_takeLeast ml_RX3_108 (rm_ok (by decide) (by decide)) ⟨Nat.zero_le _, Nat.zero_le _⟩ (kC_54 b) (sC_54 b) rfl (m_X3_takeLeast E.2.2.1 c2 c3 hσ h) rfl rfl (Nat.le_of_ble_eq_true rfl) dX3_growSpan_189 (fun r17 σ18 cr17 hσ18 h => ?_)
        refine g_istore_4 E rfl (by decide) dX3_growSpan_192 ?_
        refine g_iinc_5 E rfl (by decide) dX3_growSpan_194 (fun v19 ev19 => ?_)
        replace h := h v19 ev19
        have cv19 : C32 v19 := by rw [ev19]; exact c32_w _
        refine g_goto E djX3_growSpan_197 ?_
        exact (ih x2 x3 r17 v19 σ18 c2 c3 cr17 cv19 hσ18 h).weak (w_k (w_d (w_k (w_k (w_k (w_k w_n))))))
set_option maxHeartbeats 4000000 in
set_option maxRecDepth 100000 in
theorem t_X3_growSpan_b168 (E : Ev p s m args meth c cX3_growSpan 6 RX3 A0 D cA ad (NC b) Z) (hr : meth.sig.returnType = none) (x2 : Int) (x3 : Int) (s0 : Int) (σ : St) (c2 : C32 x2) (c3 : C32 x3) (cs0 : C32 s0) (hσ : CanS (shC b) (NC b) σ) (h : wp_X3_growSpan_b168 Q x2 x3 s0 σ) : G p l e (rmL 5 0 0) s m args below meth c 6 A0 D cA ad (shC b) (NC b) 0 0 (MQ below (QVc D cA ad (shC b) (NC b) Q A0) args s 0 0 A0) σ 168 [some (.ref (ad 54)), none, some (vI x2), some (vI x3), none, none] [vI s0] := by
  unfold wp_X3_growSpan_b168 at h
  refine g_istore_4 E rfl (by decide) dX3_growSpan_168 ?_
  refine g_iconst E dX3_growSpan_170 ?_
  refine g_istore_5 E rfl (by decide) dX3_growSpan_171 ?_
  exact (t_X3_growSpan_l173 E hr bigN x2 x3 s0 0 σ c2 c3 cs0 cl_0 hσ h).weak (w_k (w_d (w_k (w_k (w_k (w_k w_n))))))
set_option maxHeartbeats 4000000 in
set_option maxRecDepth 100000 in
theorem t_X3_growSpan_l91 (E : Ev p s m args meth c cX3_growSpan 6 RX3 A0 D cA ad (NC b) Z) (hr : meth.sig.returnType = none) : ∀ (n : Nat) (x2 : Int) (x3 : Int) (x4 : Int) (σ : St), C32 x2 → C32 x3 → C32 x4 → CanS (shC b) (NC b) σ → wp_X3_growSpan_l91 Q n x2 x3 x4 σ → G p l e (rmL 5 0 0) s m args below meth c 6 A0 D cA ad (shC b) (NC b) 0 0 (MQ below (QVc D cA ad (shC b) (NC b) Q A0) args s 0 0 A0) σ 91 [some (.ref (ad 54)), none, some (vI x2), some (vI x3), some (vI x4), none] [] := by
  intro n
  induction n with
  | zero => intro _ _ _ _ _ _ _ _ h; exact h.elim
  | succ n ih =>
    intro x2 x3 x4 σ c2 c3 c4 hσ h
    unfold wp_X3_growSpan_l91 at h
    refine g_iload_4 E dX3_growSpan_91 ?_
    refine g_bipush E (by decide) dX3_growSpan_93 ?_
    refine g_icmp_ge E c4 cl_12 djX3_growSpan_95 (fun hc => ?_) (fun hc => ?_)
    · replace h := h.1 hc
      refine g_iload_3 E dX3_growSpan_159 ?_
      refine g_if_eq E c3 djX3_growSpan_160 (fun hc => ?_) (fun hc => ?_)
      · replace h := h.1 hc
        refine g_iconst E dX3_growSpan_167 ?_
        exact (t_X3_growSpan_b168 E hr x2 x3 0 σ c2 c3 cl_0 hσ h).weak (w_k (w_d (w_k (w_k (w_d (w_d w_n))))))
      · replace h := h.2 hc
        refine g_iconst E dX3_growSpan_163 ?_
        refine g_goto E djX3_growSpan_164 ?_
        exact (t_X3_growSpan_b168 E hr x2 x3 1 σ c2 c3 cl_1 hσ h).weak (w_k (w_d (w_k (w_k (w_d (w_d w_n))))))
    · replace h := h.2 hc
      refine g_aload_0 E dX3_growSpan_98 ?_
      refine g_getR E fl_RX3_36 (kC_54 b) (sC_54 b) rfl dX3_growSpan_99 ?_
      refine g_iload_2 E dX3_growSpan_102 ?_
      refine g_iload_4 E dX3_growSpan_103 ?_
      refine g_iadd E dX3_growSpan_105 ?_
      refine g_iconst E dX3_growSpan_106 ?_
      refine g_iast E (kC_59 b) (sC_59 b) (by decide) h.1 dX3_growSpan_107 (g_nmS (fun σ9 eσ9 => ?_))
      replace h := h.2 σ9 eσ9
      have hσ9 : CanS (shC b) (NC b) σ9 := by rw [eσ9]; exact wC_59 hσ cl_0
      refine g_aload_0 E dX3_growSpan_108 ?_
      refine g_getR E fl_RX3_52 (kC_54 b) (sC_54 b) rfl dX3_growSpan_109 ?_
      refine g_iload_4 E dX3_growSpan_112 ?_
      refine g_iconst E dX3_growSpan_114 ?_
      refine g_iast E (kC_64 b) (sC_64 b) (by decide) h.1 dX3_growSpan_115 (g_nmS (fun σ10 eσ10 => ?_))
      replace h := h.2 σ10 eσ10
      have hσ10 : CanS (shC b) (NC b) σ10 := by rw [eσ10]; exact wC_64 hσ9 cl_0
      refine g_aload_0 E dX3_growSpan_116 ?_
      refine g_getR E fl_RX3_55 (kC_54 b) (sC_54 b) rfl dX3_growSpan_117 ?_
      refine g_iload_4 E dX3_growSpan_120 ?_
      refine g_iconst E dX3_growSpan_122 ?_
      refine g_iast E (kC_65 b) (sC_65 b) (by decide) h.1 dX3_growSpan_123 (g_nmS (fun σ11 eσ11 => ?_))
      replace h := h.2 σ11 eσ11
      have hσ11 : CanS (shC b) (NC b) σ11 := by rw [eσ11]; exact wC_65 hσ10 cl_0
      refine g_aload_0 E dX3_growSpan_124 ?_
      refine g_iload_2 E dX3_growSpan_125 ?_
      refine g_iload_4 E dX3_growSpan_126 ?_
      refine g_iadd E dX3_growSpan_128 ?_
      refine g_iload_4 E dX3_growSpan_129 ?_
      refine g_callvV E my_X3_gatherBase mi_X3_gatherBase msel_X3_gatherBase ml_RX3_101 (rm_ok (by decide) (by decide)) ⟨Nat.zero_le _, Nat.zero_le _⟩ (kC_54 b) (sC_54 b) rfl (m_X3_gatherBase E.2.2.1 (c32_w _) c4 hσ11 h) rfl rfl (Nat.le_of_ble_eq_true rfl) dX3_growSpan_131 (fun σ13 r12 hσ13 h => ?_)
      refine g_iload_3 E dX3_growSpan_134 ?_
      refine g_iload_4 E dX3_growSpan_135 ?_
      refine g_ishr E dX3_growSpan_137 ?_
      refine g_iconst E dX3_growSpan_138 ?_
      refine g_iand E dX3_growSpan_139 ?_
      refine g_if_ne E (c32_t _) djX3_growSpan_140 (fun hc => ?_) (fun hc => ?_)
      · replace h := h.1 hc
        exact (t_X3_growSpan_b153 E hr ih x2 x3 x4 σ13 c2 c3 c4 hσ13 h).weak (w_k (w_d (w_k (w_k (w_k (w_d w_n))))))
      · replace h := h.2 hc
        refine g_aload_0 E dX3_growSpan_143 ?_
        refine g_iload_2 E dX3_growSpan_144 ?_
        refine g_iload_4 E dX3_growSpan_145 ?_
        refine g_iadd E dX3_growSpan_147 ?_
        refine g_iload_4 E dX3_growSpan_148 ?_
        refine g_callvV E my_X3_takeAllOfBase mi_X3_takeAllOfBase msel_X3_takeAllOfBase ml_RX3_105 (rm_ok (by decide) (by decide)) ⟨Nat.zero_le _, Nat.zero_le _⟩ (kC_54 b) (sC_54 b) rfl (m_X3_takeAllOfBase E.2.2.1 (c32_w _) c4 hσ13 h) rfl rfl (Nat.le_of_ble_eq_true rfl) dX3_growSpan_150 (fun σ15 r14 hσ15 h => ?_)
        exact (t_X3_growSpan_b153 E hr ih x2 x3 x4 σ15 c2 c3 c4 hσ15 h).weak (w_k (w_d (w_k (w_k (w_k (w_d w_n))))))
set_option maxHeartbeats 4000000 in
set_option maxRecDepth 100000 in
theorem t_X3_growSpan_l10 (E : Ev p s m args meth c cX3_growSpan 6 RX3 A0 D cA ad (NC b) Z) (hr : meth.sig.returnType = none) : ∀ (n : Nat) (x2 : Int) (x3 : Int) (x4 : Int) (σ : St), C32 x2 → C32 x3 → C32 x4 → CanS (shC b) (NC b) σ → wp_X3_growSpan_l10 Q n x2 x3 x4 σ → G p l e (rmL 5 0 0) s m args below meth c 6 A0 D cA ad (shC b) (NC b) 0 0 (MQ below (QVc D cA ad (shC b) (NC b) Q A0) args s 0 0 A0) σ 10 [some (.ref (ad 54)), none, some (vI x2), some (vI x3), some (vI x4), none] [] := by
  intro n
  induction n with
  | zero => intro _ _ _ _ _ _ _ _ h; exact h.elim
  | succ n ih =>
    intro x2 x3 x4 σ c2 c3 c4 hσ h
    unfold wp_X3_growSpan_l10 at h
    refine g_iload_4 E dX3_growSpan_10 ?_
    refine g_aload_0 E dX3_growSpan_12 ?_
    refine g_getR E fl_RX3_15 (kC_54 b) (sC_54 b) rfl dX3_growSpan_13 ?_
    refine g_getI E fl_RX3_85 (kC_24 b) (sC_24 b) rfl dX3_growSpan_16 ?_
    refine g_icmp_ge E c4 (fC_24_12 hσ) djX3_growSpan_19 (fun hc => ?_) (fun hc => ?_)
    · replace h := h.1 hc
      refine g_iconst E dX3_growSpan_88 ?_
      refine g_istore_4 E rfl (by decide) dX3_growSpan_89 ?_
      exact (t_X3_growSpan_l91 E hr bigN x2 x3 0 σ c2 c3 cl_0 hσ h).weak (w_k (w_d (w_k (w_k (w_k (w_d w_n))))))
    · replace h := h.2 hc
      refine g_aload_0 E dX3_growSpan_22 ?_
      refine g_getR E fl_RX3_15 (kC_54 b) (sC_54 b) rfl dX3_growSpan_23 ?_
      refine g_getR E fl_RX3_89 (kC_24 b) (sC_24 b) rfl dX3_growSpan_26 ?_
      refine g_iload_4 E dX3_growSpan_29 ?_
      refine g_iald E (kC_33 b) (sC_33 b) (by decide) h.1 dX3_growSpan_31 ?_
      replace h := h.2
      refine g_nmI (fun v2 ev2 => ?_)
      replace h := h v2 ev2
      have cv2 : C32 v2 := by rw [ev2]; exact (aC_33 hσ _)
      refine g_istore_5 E rfl (by decide) dX3_growSpan_32 ?_
      refine g_aload_0 E dX3_growSpan_34 ?_
      refine g_getR E fl_RX3_61 (kC_54 b) (sC_54 b) rfl dX3_growSpan_35 ?_
      refine g_iload_4 E dX3_growSpan_38 ?_
      refine g_iconst E dX3_growSpan_40 ?_
      refine g_iast E (kC_67 b) (sC_67 b) (by decide) h.1 dX3_growSpan_41 (g_nmS (fun σ3 eσ3 => ?_))
      replace h := h.2 σ3 eσ3
      have hσ3 : CanS (shC b) (NC b) σ3 := by rw [eσ3]; exact wC_67 hσ cl_0
      refine g_aload_0 E dX3_growSpan_42 ?_
      refine g_getR E fl_RX3_58 (kC_54 b) (sC_54 b) rfl dX3_growSpan_43 ?_
      refine g_iload_4 E dX3_growSpan_46 ?_
      refine g_aload_0 E dX3_growSpan_48 ?_
      refine g_iload_2 E dX3_growSpan_49 ?_
      refine g_aload_0 E dX3_growSpan_50 ?_
      refine g_getR E fl_RX3_9 (kC_54 b) (sC_54 b) rfl dX3_growSpan_51 ?_
      refine g_getR E fl_RX3_92 (kC_14 b) (sC_14 b) rfl dX3_growSpan_54 ?_
      refine g_iload_5 E dX3_growSpan_57 ?_
      refine g_iald E (kC_15 b) (sC_15 b) (by decide) h.1 dX3_growSpan_59 ?_
      replace h := h.2
      refine g_iadd E dX3_growSpan_60 ?_
      refine g_iload_5 E dX3_growSpan_61 ?_
      refine g_callvI E my_X3_caseOfRule mi_X3_caseOfRule msel_X3_caseOfRule ml_RX3_97 (rm_ok (by decide) (by decide)) ⟨Nat.zero_le _, Nat.zero_le _⟩ (kC_54 b) (sC_54 b) rfl (m_X3_caseOfRule E.2.2.1 (c32_w _) cv2 hσ3 h) rfl rfl (Nat.le_of_ble_eq_true rfl) dX3_growSpan_63 (fun r4 σ5 cr4 hσ5 h => ?_)
      refine g_iast E (kC_66 b) (sC_66 b) (by decide) h.1 dX3_growSpan_66 (g_nmS (fun σ6 eσ6 => ?_))
      replace h := h.2 σ6 eσ6
      have hσ6 : CanS (shC b) (NC b) σ6 := by rw [eσ6]; exact wC_66 hσ5 cr4
      refine g_iload_3 E dX3_growSpan_67 ?_
      refine g_iconst E dX3_growSpan_68 ?_
      refine g_aload_0 E dX3_growSpan_69 ?_
      refine g_getR E fl_RX3_9 (kC_54 b) (sC_54 b) rfl dX3_growSpan_70 ?_
      refine g_getR E fl_RX3_92 (kC_14 b) (sC_14 b) rfl dX3_growSpan_73 ?_
      refine g_iload_5 E dX3_growSpan_76 ?_
      refine g_iald E (kC_15 b) (sC_15 b) (by decide) h.1 dX3_growSpan_78 ?_
      replace h := h.2
      refine g_ishl E dX3_growSpan_79 ?_
      refine g_ior E dX3_growSpan_80 ?_
      refine g_nmI (fun v7 ev7 => ?_)
      replace h := h v7 ev7
      have cv7 : C32 v7 := by rw [ev7]; exact (c32_t _)
      refine g_istore_3 E rfl (by decide) dX3_growSpan_81 ?_
      refine g_iinc_4 E rfl (by decide) dX3_growSpan_82 (fun v8 ev8 => ?_)
      replace h := h v8 ev8
      have cv8 : C32 v8 := by rw [ev8]; exact c32_w _
      refine g_goto E djX3_growSpan_85 ?_
      exact (ih x2 v7 v8 σ6 c2 cv7 cv8 hσ6 h).weak (w_k (w_d (w_k (w_k (w_k (w_d w_n))))))
set_option maxHeartbeats 4000000 in
set_option maxRecDepth 100000 in
theorem t_X3_growSpan (E : Ev p s m args meth c cX3_growSpan 6 RX3 A0 D cA ad (NC b) Z) (hr : meth.sig.returnType = none) (x1 : Int) (σ : St) (c1 : C32 x1) (hσ : CanS (shC b) (NC b) σ) (h : wp_X3_growSpan x1 σ Q) : G p l e (rmL 5 0 0) s m args below meth c 6 A0 D cA ad (shC b) (NC b) 0 0 (MQ below (QVc D cA ad (shC b) (NC b) Q A0) args s 0 0 A0) σ 0 [some (.ref (ad 54)), some (vI x1), none, none, none, none] [] := by
  unfold wp_X3_growSpan at h
  refine g_iload_1 E dX3_growSpan_0 ?_
  refine g_bipush E (by decide) dX3_growSpan_1 ?_
  refine g_imul E dX3_growSpan_3 ?_
  refine g_nmI (fun v1 ev1 => ?_)
  replace h := h v1 ev1
  have cv1 : C32 v1 := by rw [ev1]; exact (c32_w _)
  refine g_istore_2 E rfl (by decide) dX3_growSpan_4 ?_
  refine g_iconst E dX3_growSpan_5 ?_
  refine g_istore_3 E rfl (by decide) dX3_growSpan_6 ?_
  refine g_iconst E dX3_growSpan_7 ?_
  refine g_istore_4 E rfl (by decide) dX3_growSpan_8 ?_
  exact (t_X3_growSpan_l10 E hr bigN v1 0 0 σ cv1 cl_0 cl_0 hσ h).weak (w_k (w_d (w_k (w_k (w_k (w_d w_n))))))
end
theorem m_X3_growSpan {Z : (Nat → Nat) × (Nat → Nat)} {l : Launch} {D : va_G} {cA : Nat → ClassId} {ad : Nat → Nat} {b : Bool} {x1 : Int} {σ : St} {Q : Int → St → Prop} (hA : AdOk (NC b) ad) (c1 : C32 x1) (hσ : CanS (shC b) (NC b) σ) (h : wp_X3_growSpan x1 σ Q) : KtV Z l D cA ad (shC b) (NC b) yX3_growSpan cX3_growSpan 6 none 5 [.ref (ad 54), vI x1] σ Q :=
  KtV.of my_X3_growSpan hA [some (.ref (ad 54)), some (vI x1), none, none, none, none] (Nat.le_of_ble_eq_true rfl) rfl (fun p e s m args below meth c A0 E hr => t_X3_growSpan E hr x1 σ c1 hσ h)
