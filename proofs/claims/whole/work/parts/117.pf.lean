theorem dX12_casesOf_0 : Dc cX12_casesOf 0 (.iconst 0) 1 1 := ⟨by decide +kernel, rfl⟩
theorem dX12_casesOf_1 : Dc cX12_casesOf 1 (.istore 5) 2 3 := ⟨by decide +kernel, rfl⟩
theorem dX12_casesOf_3 : Dc cX12_casesOf 3 (.iconst 0) 1 4 := ⟨by decide +kernel, rfl⟩
theorem dX12_casesOf_4 : Dc cX12_casesOf 4 (.istore 6) 2 6 := ⟨by decide +kernel, rfl⟩
theorem dX12_casesOf_6 : Dc cX12_casesOf 6 (.iload 6) 2 8 := ⟨by decide +kernel, rfl⟩
theorem dX12_casesOf_8 : Dc cX12_casesOf 8 (.aload_n 0) 1 9 := ⟨by decide +kernel, rfl⟩
theorem dX12_casesOf_9 : Dc cX12_casesOf 9 (.getfield 252) 3 12 := ⟨by decide +kernel, rfl⟩
theorem djX12_casesOf_12 : Dj cX12_casesOf 12 (.if_icmp .ge 224) 3 15 224 236 := ⟨by decide +kernel, rfl, by decide⟩
theorem dX12_casesOf_15 : Dc cX12_casesOf 15 (.aload_n 0) 1 16 := ⟨by decide +kernel, rfl⟩
theorem dX12_casesOf_16 : Dc cX12_casesOf 16 (.iload 6) 2 18 := ⟨by decide +kernel, rfl⟩
theorem dX12_casesOf_18 : Dc cX12_casesOf 18 (.invokevirtual 298) 3 21 := ⟨by decide +kernel, rfl⟩
theorem djX12_casesOf_21 : Dj cX12_casesOf 21 (.ifCond .eq 209) 3 24 209 230 := ⟨by decide +kernel, rfl, by decide⟩
theorem dX12_casesOf_24 : Dc cX12_casesOf 24 (.aload_n 0) 1 25 := ⟨by decide +kernel, rfl⟩
theorem dX12_casesOf_25 : Dc cX12_casesOf 25 (.getfield 13) 3 28 := ⟨by decide +kernel, rfl⟩
theorem dX12_casesOf_28 : Dc cX12_casesOf 28 (.iload 6) 2 30 := ⟨by decide +kernel, rfl⟩
theorem dX12_casesOf_30 : Dc cX12_casesOf 30 (.iaload) 1 31 := ⟨by decide +kernel, rfl⟩
theorem dX12_casesOf_31 : Dc cX12_casesOf 31 (.iload_n 1) 1 32 := ⟨by decide +kernel, rfl⟩
theorem djX12_casesOf_32 : Dj cX12_casesOf 32 (.if_icmp .eq 6) 3 35 6 38 := ⟨by decide +kernel, rfl, by decide⟩
theorem djX12_casesOf_35 : Dj cX12_casesOf 35 (.goto 195) 3 38 195 230 := ⟨by decide +kernel, rfl, by decide⟩
theorem dX12_casesOf_38 : Dc cX12_casesOf 38 (.aload_n 0) 1 39 := ⟨by decide +kernel, rfl⟩
theorem dX12_casesOf_39 : Dc cX12_casesOf 39 (.getfield 20) 3 42 := ⟨by decide +kernel, rfl⟩
theorem dX12_casesOf_42 : Dc cX12_casesOf 42 (.iload 6) 2 44 := ⟨by decide +kernel, rfl⟩
theorem dX12_casesOf_44 : Dc cX12_casesOf 44 (.iaload) 1 45 := ⟨by decide +kernel, rfl⟩
theorem dX12_casesOf_45 : Dc cX12_casesOf 45 (.iconst (-1)) 1 46 := ⟨by decide +kernel, rfl⟩
theorem djX12_casesOf_46 : Dj cX12_casesOf 46 (.if_icmp .ne 53) 3 49 53 99 := ⟨by decide +kernel, rfl, by decide⟩
theorem dX12_casesOf_49 : Dc cX12_casesOf 49 (.iload 5) 2 51 := ⟨by decide +kernel, rfl⟩
theorem dX12_casesOf_51 : Dc cX12_casesOf 51 (.iload 4) 2 53 := ⟨by decide +kernel, rfl⟩
theorem djX12_casesOf_53 : Dj cX12_casesOf 53 (.ifCond .eq 22) 3 56 22 75 := ⟨by decide +kernel, rfl, by decide⟩
theorem dX12_casesOf_56 : Dc cX12_casesOf 56 (.aload_n 0) 1 57 := ⟨by decide +kernel, rfl⟩
theorem dX12_casesOf_57 : Dc cX12_casesOf 57 (.aload_n 0) 1 58 := ⟨by decide +kernel, rfl⟩
theorem dX12_casesOf_58 : Dc cX12_casesOf 58 (.getfield 17) 3 61 := ⟨by decide +kernel, rfl⟩
theorem dX12_casesOf_61 : Dc cX12_casesOf 61 (.iload 6) 2 63 := ⟨by decide +kernel, rfl⟩
theorem dX12_casesOf_63 : Dc cX12_casesOf 63 (.iaload) 1 64 := ⟨by decide +kernel, rfl⟩
theorem dX12_casesOf_64 : Dc cX12_casesOf 64 (.iload_n 2) 1 65 := ⟨by decide +kernel, rfl⟩
theorem dX12_casesOf_65 : Dc cX12_casesOf 65 (.iload_n 3) 1 66 := ⟨by decide +kernel, rfl⟩
theorem dX12_casesOf_66 : Dc cX12_casesOf 66 (.invokevirtual 287) 3 69 := ⟨by decide +kernel, rfl⟩
theorem djX12_casesOf_69 : Dj cX12_casesOf 69 (.ifCond .eq 26) 3 72 26 95 := ⟨by decide +kernel, rfl, by decide⟩
theorem djX12_casesOf_72 : Dj cX12_casesOf 72 (.goto 19) 3 75 19 91 := ⟨by decide +kernel, rfl, by decide⟩
theorem dX12_casesOf_75 : Dc cX12_casesOf 75 (.aload_n 0) 1 76 := ⟨by decide +kernel, rfl⟩
theorem dX12_casesOf_76 : Dc cX12_casesOf 76 (.aload_n 0) 1 77 := ⟨by decide +kernel, rfl⟩
theorem dX12_casesOf_77 : Dc cX12_casesOf 77 (.getfield 17) 3 80 := ⟨by decide +kernel, rfl⟩
theorem dX12_casesOf_80 : Dc cX12_casesOf 80 (.iload 6) 2 82 := ⟨by decide +kernel, rfl⟩
theorem dX12_casesOf_82 : Dc cX12_casesOf 82 (.iaload) 1 83 := ⟨by decide +kernel, rfl⟩
theorem dX12_casesOf_83 : Dc cX12_casesOf 83 (.iload_n 2) 1 84 := ⟨by decide +kernel, rfl⟩
theorem dX12_casesOf_84 : Dc cX12_casesOf 84 (.iload_n 3) 1 85 := ⟨by decide +kernel, rfl⟩
theorem dX12_casesOf_85 : Dc cX12_casesOf 85 (.invokevirtual 422) 3 88 := ⟨by decide +kernel, rfl⟩
theorem djX12_casesOf_88 : Dj cX12_casesOf 88 (.ifCond .eq 7) 3 91 7 95 := ⟨by decide +kernel, rfl, by decide⟩
theorem dX12_casesOf_91 : Dc cX12_casesOf 91 (.iconst 1) 1 92 := ⟨by decide +kernel, rfl⟩
theorem djX12_casesOf_92 : Dj cX12_casesOf 92 (.goto 4) 3 95 4 96 := ⟨by decide +kernel, rfl, by decide⟩
theorem dX12_casesOf_95 : Dc cX12_casesOf 95 (.iconst 0) 1 96 := ⟨by decide +kernel, rfl⟩
theorem dX12_casesOf_96 : Dc cX12_casesOf 96 (.iadd) 1 97 := ⟨by decide +kernel, rfl⟩
theorem dX12_casesOf_97 : Dc cX12_casesOf 97 (.istore 5) 2 99 := ⟨by decide +kernel, rfl⟩
theorem dX12_casesOf_99 : Dc cX12_casesOf 99 (.iload_n 2) 1 100 := ⟨by decide +kernel, rfl⟩
theorem dX12_casesOf_100 : Dc cX12_casesOf 100 (.iconst 1) 1 101 := ⟨by decide +kernel, rfl⟩
theorem dX12_casesOf_101 : Dc cX12_casesOf 101 (.iadd) 1 102 := ⟨by decide +kernel, rfl⟩
theorem dX12_casesOf_102 : Dc cX12_casesOf 102 (.istore 7) 2 104 := ⟨by decide +kernel, rfl⟩
theorem dX12_casesOf_104 : Dc cX12_casesOf 104 (.iload 7) 2 106 := ⟨by decide +kernel, rfl⟩
theorem dX12_casesOf_106 : Dc cX12_casesOf 106 (.iload_n 3) 1 107 := ⟨by decide +kernel, rfl⟩
theorem djX12_casesOf_107 : Dj cX12_casesOf 107 (.if_icmp .ge 123) 3 110 123 230 := ⟨by decide +kernel, rfl, by decide⟩
theorem dX12_casesOf_110 : Dc cX12_casesOf 110 (.aload_n 0) 1 111 := ⟨by decide +kernel, rfl⟩
theorem dX12_casesOf_111 : Dc cX12_casesOf 111 (.getfield 20) 3 114 := ⟨by decide +kernel, rfl⟩
theorem dX12_casesOf_114 : Dc cX12_casesOf 114 (.iload 6) 2 116 := ⟨by decide +kernel, rfl⟩
theorem dX12_casesOf_116 : Dc cX12_casesOf 116 (.iaload) 1 117 := ⟨by decide +kernel, rfl⟩
theorem dX12_casesOf_117 : Dc cX12_casesOf 117 (.iconst (-1)) 1 118 := ⟨by decide +kernel, rfl⟩
theorem djX12_casesOf_118 : Dj cX12_casesOf 118 (.if_icmp .eq 112) 3 121 112 230 := ⟨by decide +kernel, rfl, by decide⟩
theorem dX12_casesOf_121 : Dc cX12_casesOf 121 (.iload 4) 2 123 := ⟨by decide +kernel, rfl⟩
theorem djX12_casesOf_123 : Dj cX12_casesOf 123 (.ifCond .eq 45) 3 126 45 168 := ⟨by decide +kernel, rfl, by decide⟩
theorem dX12_casesOf_126 : Dc cX12_casesOf 126 (.aload_n 0) 1 127 := ⟨by decide +kernel, rfl⟩
theorem dX12_casesOf_127 : Dc cX12_casesOf 127 (.aload_n 0) 1 128 := ⟨by decide +kernel, rfl⟩
theorem dX12_casesOf_128 : Dc cX12_casesOf 128 (.getfield 17) 3 131 := ⟨by decide +kernel, rfl⟩
theorem dX12_casesOf_131 : Dc cX12_casesOf 131 (.iload 6) 2 133 := ⟨by decide +kernel, rfl⟩
theorem dX12_casesOf_133 : Dc cX12_casesOf 133 (.iaload) 1 134 := ⟨by decide +kernel, rfl⟩
theorem dX12_casesOf_134 : Dc cX12_casesOf 134 (.iload_n 2) 1 135 := ⟨by decide +kernel, rfl⟩
theorem dX12_casesOf_135 : Dc cX12_casesOf 135 (.iload 7) 2 137 := ⟨by decide +kernel, rfl⟩
theorem dX12_casesOf_137 : Dc cX12_casesOf 137 (.invokevirtual 287) 3 140 := ⟨by decide +kernel, rfl⟩
theorem djX12_casesOf_140 : Dj cX12_casesOf 140 (.ifCond .eq 24) 3 143 24 164 := ⟨by decide +kernel, rfl, by decide⟩
theorem dX12_casesOf_143 : Dc cX12_casesOf 143 (.aload_n 0) 1 144 := ⟨by decide +kernel, rfl⟩
theorem dX12_casesOf_144 : Dc cX12_casesOf 144 (.aload_n 0) 1 145 := ⟨by decide +kernel, rfl⟩
theorem dX12_casesOf_145 : Dc cX12_casesOf 145 (.getfield 20) 3 148 := ⟨by decide +kernel, rfl⟩
theorem dX12_casesOf_148 : Dc cX12_casesOf 148 (.iload 6) 2 150 := ⟨by decide +kernel, rfl⟩
theorem dX12_casesOf_150 : Dc cX12_casesOf 150 (.iaload) 1 151 := ⟨by decide +kernel, rfl⟩
theorem dX12_casesOf_151 : Dc cX12_casesOf 151 (.iload 7) 2 153 := ⟨by decide +kernel, rfl⟩
theorem dX12_casesOf_153 : Dc cX12_casesOf 153 (.iload_n 3) 1 154 := ⟨by decide +kernel, rfl⟩
theorem dX12_casesOf_154 : Dc cX12_casesOf 154 (.invokevirtual 287) 3 157 := ⟨by decide +kernel, rfl⟩
theorem djX12_casesOf_157 : Dj cX12_casesOf 157 (.ifCond .eq 7) 3 160 7 164 := ⟨by decide +kernel, rfl, by decide⟩
theorem dX12_casesOf_160 : Dc cX12_casesOf 160 (.iconst 1) 1 161 := ⟨by decide +kernel, rfl⟩
theorem djX12_casesOf_161 : Dj cX12_casesOf 161 (.goto 46) 3 164 46 207 := ⟨by decide +kernel, rfl, by decide⟩
theorem dX12_casesOf_164 : Dc cX12_casesOf 164 (.iconst 0) 1 165 := ⟨by decide +kernel, rfl⟩
theorem djX12_casesOf_165 : Dj cX12_casesOf 165 (.goto 42) 3 168 42 207 := ⟨by decide +kernel, rfl, by decide⟩
theorem dX12_casesOf_168 : Dc cX12_casesOf 168 (.aload_n 0) 1 169 := ⟨by decide +kernel, rfl⟩
theorem dX12_casesOf_169 : Dc cX12_casesOf 169 (.aload_n 0) 1 170 := ⟨by decide +kernel, rfl⟩
theorem dX12_casesOf_170 : Dc cX12_casesOf 170 (.getfield 17) 3 173 := ⟨by decide +kernel, rfl⟩
theorem dX12_casesOf_173 : Dc cX12_casesOf 173 (.iload 6) 2 175 := ⟨by decide +kernel, rfl⟩
theorem dX12_casesOf_175 : Dc cX12_casesOf 175 (.iaload) 1 176 := ⟨by decide +kernel, rfl⟩
theorem dX12_casesOf_176 : Dc cX12_casesOf 176 (.iload_n 2) 1 177 := ⟨by decide +kernel, rfl⟩
theorem dX12_casesOf_177 : Dc cX12_casesOf 177 (.iload 7) 2 179 := ⟨by decide +kernel, rfl⟩
theorem dX12_casesOf_179 : Dc cX12_casesOf 179 (.invokevirtual 422) 3 182 := ⟨by decide +kernel, rfl⟩
theorem djX12_casesOf_182 : Dj cX12_casesOf 182 (.ifCond .eq 24) 3 185 24 206 := ⟨by decide +kernel, rfl, by decide⟩
theorem dX12_casesOf_185 : Dc cX12_casesOf 185 (.aload_n 0) 1 186 := ⟨by decide +kernel, rfl⟩
theorem dX12_casesOf_186 : Dc cX12_casesOf 186 (.aload_n 0) 1 187 := ⟨by decide +kernel, rfl⟩
theorem dX12_casesOf_187 : Dc cX12_casesOf 187 (.getfield 20) 3 190 := ⟨by decide +kernel, rfl⟩
theorem dX12_casesOf_190 : Dc cX12_casesOf 190 (.iload 6) 2 192 := ⟨by decide +kernel, rfl⟩
theorem dX12_casesOf_192 : Dc cX12_casesOf 192 (.iaload) 1 193 := ⟨by decide +kernel, rfl⟩
theorem dX12_casesOf_193 : Dc cX12_casesOf 193 (.iload 7) 2 195 := ⟨by decide +kernel, rfl⟩
theorem dX12_casesOf_195 : Dc cX12_casesOf 195 (.iload_n 3) 1 196 := ⟨by decide +kernel, rfl⟩
theorem dX12_casesOf_196 : Dc cX12_casesOf 196 (.invokevirtual 422) 3 199 := ⟨by decide +kernel, rfl⟩
theorem djX12_casesOf_199 : Dj cX12_casesOf 199 (.ifCond .eq 7) 3 202 7 206 := ⟨by decide +kernel, rfl, by decide⟩
theorem dX12_casesOf_202 : Dc cX12_casesOf 202 (.iconst 1) 1 203 := ⟨by decide +kernel, rfl⟩
theorem djX12_casesOf_203 : Dj cX12_casesOf 203 (.goto 4) 3 206 4 207 := ⟨by decide +kernel, rfl, by decide⟩
theorem dX12_casesOf_206 : Dc cX12_casesOf 206 (.iconst 0) 1 207 := ⟨by decide +kernel, rfl⟩
theorem dX12_casesOf_207 : Dc cX12_casesOf 207 (.istore 8) 2 209 := ⟨by decide +kernel, rfl⟩
theorem dX12_casesOf_209 : Dc cX12_casesOf 209 (.iload 5) 2 211 := ⟨by decide +kernel, rfl⟩
theorem dX12_casesOf_211 : Dc cX12_casesOf 211 (.iload 8) 2 213 := ⟨by decide +kernel, rfl⟩
theorem djX12_casesOf_213 : Dj cX12_casesOf 213 (.ifCond .eq 7) 3 216 7 220 := ⟨by decide +kernel, rfl, by decide⟩
theorem dX12_casesOf_216 : Dc cX12_casesOf 216 (.iconst 1) 1 217 := ⟨by decide +kernel, rfl⟩
theorem djX12_casesOf_217 : Dj cX12_casesOf 217 (.goto 4) 3 220 4 221 := ⟨by decide +kernel, rfl, by decide⟩
theorem dX12_casesOf_220 : Dc cX12_casesOf 220 (.iconst 0) 1 221 := ⟨by decide +kernel, rfl⟩
theorem dX12_casesOf_221 : Dc cX12_casesOf 221 (.iadd) 1 222 := ⟨by decide +kernel, rfl⟩
theorem dX12_casesOf_222 : Dc cX12_casesOf 222 (.istore 5) 2 224 := ⟨by decide +kernel, rfl⟩
theorem dX12_casesOf_224 : Dc cX12_casesOf 224 (.iinc 7 1) 3 227 := ⟨by decide +kernel, rfl⟩
theorem djX12_casesOf_227 : Dj cX12_casesOf 227 (.goto (-123)) 3 230 (-123) 104 := ⟨by decide +kernel, rfl, by decide⟩
theorem dX12_casesOf_230 : Dc cX12_casesOf 230 (.iinc 6 1) 3 233 := ⟨by decide +kernel, rfl⟩
theorem djX12_casesOf_233 : Dj cX12_casesOf 233 (.goto (-227)) 3 236 (-227) 6 := ⟨by decide +kernel, rfl, by decide⟩
theorem dX12_casesOf_236 : Dc cX12_casesOf 236 (.iload 5) 2 238 := ⟨by decide +kernel, rfl⟩
theorem dX12_casesOf_238 : Dc cX12_casesOf 238 (.ireturn) 1 239 := ⟨by decide +kernel, rfl⟩
section
variable {p : Program} {l : Launch} {e : Env} {s : State} {m : MethodId} {args : Array Value} {below : List Frame} {meth : Method} {c : Code} {A0 : Nat → Prop} {D : va_G} {cA : Nat → ClassId} {ad : Nat → Nat} {Z : (Nat → Nat) × (Nat → Nat)} {Q : Int → St → Prop}
set_option maxHeartbeats 4000000 in
set_option maxRecDepth 100000 in
theorem t_X12_casesOf_b221 (E : Ev p s m args meth c cX12_casesOf 9 RX12 A0 D cA ad NR Z) (hr : meth.sig.returnType = (some .int)) {K6 : Int → Int → Int → Int → Int → Int → St → Prop} (hK6 : ∀ (x1 : Int) (x2 : Int) (x3 : Int) (x4 : Int) (x5 : Int) (x6 : Int) (σ : St), C32 x1 → C32 x2 → C32 x3 → C32 x4 → C32 x5 → C32 x6 → CanS shR NR σ → K6 x1 x2 x3 x4 x5 x6 σ → G p l e (rmL 3 0 0) s m args below meth c 9 A0 D cA ad shR NR 0 0 (MQ below (QIc D cA ad shR NR Q A0) args s 0 0 A0) σ 6 [some (.ref (ad 0)), some (vI x1), some (vI x2), some (vI x3), some (vI x4), some (vI x5), some (vI x6), none, none] []) {K104 : Int → Int → Int → Int → Int → Int → Int → St → Prop} (hK104 : ∀ (x1 : Int) (x2 : Int) (x3 : Int) (x4 : Int) (x5 : Int) (x6 : Int) (x7 : Int) (σ : St), C32 x1 → C32 x2 → C32 x3 → C32 x4 → C32 x5 → C32 x6 → C32 x7 → CanS shR NR σ → K104 x1 x2 x3 x4 x5 x6 x7 σ → G p l e (rmL 3 0 0) s m args below meth c 9 A0 D cA ad shR NR 0 0 (MQ below (QIc D cA ad shR NR Q A0) args s 0 0 A0) σ 104 [some (.ref (ad 0)), some (vI x1), some (vI x2), some (vI x3), some (vI x4), some (vI x5), some (vI x6), some (vI x7), none] []) (x1 : Int) (x2 : Int) (x3 : Int) (x4 : Int) (x6 : Int) (x7 : Int) (s0 : Int) (s1 : Int) (σ : St) (c1 : C32 x1) (c2 : C32 x2) (c3 : C32 x3) (c4 : C32 x4) (c6 : C32 x6) (c7 : C32 x7) (cs0 : C32 s0) (cs1 : C32 s1) (hσ : CanS shR NR σ) (h : wp_X12_casesOf_b221 Q K6 K104 x1 x2 x3 x4 x6 x7 s0 s1 σ) : G p l e (rmL 3 0 0) s m args below meth c 9 A0 D cA ad shR NR 0 0 (MQ below (QIc D cA ad shR NR Q A0) args s 0 0 A0) σ 221 [some (.ref (ad 0)), some (vI x1), some (vI x2), some (vI x3), some (vI x4), none, some (vI x6), some (vI x7), none] [vI s0, vI s1] := by
  unfold wp_X12_casesOf_b221 at h
  refine g_iadd E dX12_casesOf_221 ?_
  refine g_nmI (fun v18 ev18 => ?_)
  replace h := h v18 ev18
  have cv18 : C32 v18 := by rw [ev18]; exact (c32_w _)
  refine g_istore_5 E rfl (by decide) dX12_casesOf_222 ?_
  refine g_iinc_7 E rfl (by decide) dX12_casesOf_224 (fun v19 ev19 => ?_)
  replace h := h v19 ev19
  have cv19 : C32 v19 := by rw [ev19]; exact c32_w _
  refine g_goto E djX12_casesOf_227 ?_
  exact (hK104 x1 x2 x3 x4 v18 x6 v19 σ c1 c2 c3 c4 cv18 c6 cv19 hσ h).weak (w_k (w_k (w_k (w_k (w_k (w_k (w_k (w_k (w_d w_n)))))))))
set_option maxHeartbeats 4000000 in
set_option maxRecDepth 100000 in
theorem t_X12_casesOf_b207 (E : Ev p s m args meth c cX12_casesOf 9 RX12 A0 D cA ad NR Z) (hr : meth.sig.returnType = (some .int)) {K6 : Int → Int → Int → Int → Int → Int → St → Prop} (hK6 : ∀ (x1 : Int) (x2 : Int) (x3 : Int) (x4 : Int) (x5 : Int) (x6 : Int) (σ : St), C32 x1 → C32 x2 → C32 x3 → C32 x4 → C32 x5 → C32 x6 → CanS shR NR σ → K6 x1 x2 x3 x4 x5 x6 σ → G p l e (rmL 3 0 0) s m args below meth c 9 A0 D cA ad shR NR 0 0 (MQ below (QIc D cA ad shR NR Q A0) args s 0 0 A0) σ 6 [some (.ref (ad 0)), some (vI x1), some (vI x2), some (vI x3), some (vI x4), some (vI x5), some (vI x6), none, none] []) {K104 : Int → Int → Int → Int → Int → Int → Int → St → Prop} (hK104 : ∀ (x1 : Int) (x2 : Int) (x3 : Int) (x4 : Int) (x5 : Int) (x6 : Int) (x7 : Int) (σ : St), C32 x1 → C32 x2 → C32 x3 → C32 x4 → C32 x5 → C32 x6 → C32 x7 → CanS shR NR σ → K104 x1 x2 x3 x4 x5 x6 x7 σ → G p l e (rmL 3 0 0) s m args below meth c 9 A0 D cA ad shR NR 0 0 (MQ below (QIc D cA ad shR NR Q A0) args s 0 0 A0) σ 104 [some (.ref (ad 0)), some (vI x1), some (vI x2), some (vI x3), some (vI x4), some (vI x5), some (vI x6), some (vI x7), none] []) (x1 : Int) (x2 : Int) (x3 : Int) (x4 : Int) (x5 : Int) (x6 : Int) (x7 : Int) (s0 : Int) (σ : St) (c1 : C32 x1) (c2 : C32 x2) (c3 : C32 x3) (c4 : C32 x4) (c5 : C32 x5) (c6 : C32 x6) (c7 : C32 x7) (cs0 : C32 s0) (hσ : CanS shR NR σ) (h : wp_X12_casesOf_b207 Q K6 K104 x1 x2 x3 x4 x5 x6 x7 s0 σ) : G p l e (rmL 3 0 0) s m args below meth c 9 A0 D cA ad shR NR 0 0 (MQ below (QIc D cA ad shR NR Q A0) args s 0 0 A0) σ 207 [some (.ref (ad 0)), some (vI x1), some (vI x2), some (vI x3), some (vI x4), some (vI x5), some (vI x6), some (vI x7), none] [vI s0] := by
  unfold wp_X12_casesOf_b207 at h
  refine g_istore_8 E rfl (by decide) dX12_casesOf_207 ?_
  refine g_iload_5 E dX12_casesOf_209 ?_
  refine g_iload_8 E dX12_casesOf_211 ?_
  refine g_if_eq E cs0 djX12_casesOf_213 (fun hc => ?_) (fun hc => ?_)
  · replace h := h.1 hc
    refine g_iconst E dX12_casesOf_220 ?_
    exact (t_X12_casesOf_b221 E hr hK6 hK104 x1 x2 x3 x4 x6 x7 0 x5 σ c1 c2 c3 c4 c6 c7 cl_0 c5 hσ h).weak (w_k (w_k (w_k (w_k (w_k (w_d (w_k (w_k (w_d w_n)))))))))
  · replace h := h.2 hc
    refine g_iconst E dX12_casesOf_216 ?_
    refine g_goto E djX12_casesOf_217 ?_
    exact (t_X12_casesOf_b221 E hr hK6 hK104 x1 x2 x3 x4 x6 x7 1 x5 σ c1 c2 c3 c4 c6 c7 cl_1 c5 hσ h).weak (w_k (w_k (w_k (w_k (w_k (w_d (w_k (w_k (w_d w_n)))))))))
set_option maxHeartbeats 4000000 in
set_option maxRecDepth 100000 in
theorem t_X12_casesOf_b164 (E : Ev p s m args meth c cX12_casesOf 9 RX12 A0 D cA ad NR Z) (hr : meth.sig.returnType = (some .int)) {K6 : Int → Int → Int → Int → Int → Int → St → Prop} (hK6 : ∀ (x1 : Int) (x2 : Int) (x3 : Int) (x4 : Int) (x5 : Int) (x6 : Int) (σ : St), C32 x1 → C32 x2 → C32 x3 → C32 x4 → C32 x5 → C32 x6 → CanS shR NR σ → K6 x1 x2 x3 x4 x5 x6 σ → G p l e (rmL 3 0 0) s m args below meth c 9 A0 D cA ad shR NR 0 0 (MQ below (QIc D cA ad shR NR Q A0) args s 0 0 A0) σ 6 [some (.ref (ad 0)), some (vI x1), some (vI x2), some (vI x3), some (vI x4), some (vI x5), some (vI x6), none, none] []) {K104 : Int → Int → Int → Int → Int → Int → Int → St → Prop} (hK104 : ∀ (x1 : Int) (x2 : Int) (x3 : Int) (x4 : Int) (x5 : Int) (x6 : Int) (x7 : Int) (σ : St), C32 x1 → C32 x2 → C32 x3 → C32 x4 → C32 x5 → C32 x6 → C32 x7 → CanS shR NR σ → K104 x1 x2 x3 x4 x5 x6 x7 σ → G p l e (rmL 3 0 0) s m args below meth c 9 A0 D cA ad shR NR 0 0 (MQ below (QIc D cA ad shR NR Q A0) args s 0 0 A0) σ 104 [some (.ref (ad 0)), some (vI x1), some (vI x2), some (vI x3), some (vI x4), some (vI x5), some (vI x6), some (vI x7), none] []) (x1 : Int) (x2 : Int) (x3 : Int) (x4 : Int) (x5 : Int) (x6 : Int) (x7 : Int) (σ : St) (c1 : C32 x1) (c2 : C32 x2) (c3 : C32 x3) (c4 : C32 x4) (c5 : C32 x5) (c6 : C32 x6) (c7 : C32 x7) (hσ : CanS shR NR σ) (h : wp_X12_casesOf_b164 Q K6 K104 x1 x2 x3 x4 x5 x6 x7 σ) : G p l e (rmL 3 0 0) s m args below meth c 9 A0 D cA ad shR NR 0 0 (MQ below (QIc D cA ad shR NR Q A0) args s 0 0 A0) σ 164 [some (.ref (ad 0)), some (vI x1), some (vI x2), some (vI x3), some (vI x4), some (vI x5), some (vI x6), some (vI x7), none] [] := by
  unfold wp_X12_casesOf_b164 at h
  refine g_iconst E dX12_casesOf_164 ?_
  refine g_goto E djX12_casesOf_165 ?_
  exact (t_X12_casesOf_b207 E hr hK6 hK104 x1 x2 x3 x4 x5 x6 x7 0 σ c1 c2 c3 c4 c5 c6 c7 cl_0 hσ h).weak (w_k (w_k (w_k (w_k (w_k (w_k (w_k (w_k (w_d w_n)))))))))
set_option maxHeartbeats 4000000 in
set_option maxRecDepth 100000 in
theorem t_X12_casesOf_b206 (E : Ev p s m args meth c cX12_casesOf 9 RX12 A0 D cA ad NR Z) (hr : meth.sig.returnType = (some .int)) {K6 : Int → Int → Int → Int → Int → Int → St → Prop} (hK6 : ∀ (x1 : Int) (x2 : Int) (x3 : Int) (x4 : Int) (x5 : Int) (x6 : Int) (σ : St), C32 x1 → C32 x2 → C32 x3 → C32 x4 → C32 x5 → C32 x6 → CanS shR NR σ → K6 x1 x2 x3 x4 x5 x6 σ → G p l e (rmL 3 0 0) s m args below meth c 9 A0 D cA ad shR NR 0 0 (MQ below (QIc D cA ad shR NR Q A0) args s 0 0 A0) σ 6 [some (.ref (ad 0)), some (vI x1), some (vI x2), some (vI x3), some (vI x4), some (vI x5), some (vI x6), none, none] []) {K104 : Int → Int → Int → Int → Int → Int → Int → St → Prop} (hK104 : ∀ (x1 : Int) (x2 : Int) (x3 : Int) (x4 : Int) (x5 : Int) (x6 : Int) (x7 : Int) (σ : St), C32 x1 → C32 x2 → C32 x3 → C32 x4 → C32 x5 → C32 x6 → C32 x7 → CanS shR NR σ → K104 x1 x2 x3 x4 x5 x6 x7 σ → G p l e (rmL 3 0 0) s m args below meth c 9 A0 D cA ad shR NR 0 0 (MQ below (QIc D cA ad shR NR Q A0) args s 0 0 A0) σ 104 [some (.ref (ad 0)), some (vI x1), some (vI x2), some (vI x3), some (vI x4), some (vI x5), some (vI x6), some (vI x7), none] []) (x1 : Int) (x2 : Int) (x3 : Int) (x4 : Int) (x5 : Int) (x6 : Int) (x7 : Int) (σ : St) (c1 : C32 x1) (c2 : C32 x2) (c3 : C32 x3) (c4 : C32 x4) (c5 : C32 x5) (c6 : C32 x6) (c7 : C32 x7) (hσ : CanS shR NR σ) (h : wp_X12_casesOf_b206 Q K6 K104 x1 x2 x3 x4 x5 x6 x7 σ) : G p l e (rmL 3 0 0) s m args below meth c 9 A0 D cA ad shR NR 0 0 (MQ below (QIc D cA ad shR NR Q A0) args s 0 0 A0) σ 206 [some (.ref (ad 0)), some (vI x1), some (vI x2), some (vI x3), some (vI x4), some (vI x5), some (vI x6), some (vI x7), none] [] := by
  unfold wp_X12_casesOf_b206 at h
  refine g_iconst E dX12_casesOf_206 ?_
  exact (t_X12_casesOf_b207 E hr hK6 hK104 x1 x2 x3 x4 x5 x6 x7 0 σ c1 c2 c3 c4 c5 c6 c7 cl_0 hσ h).weak (w_k (w_k (w_k (w_k (w_k (w_k (w_k (w_k (w_d w_n)))))))))
set_option maxHeartbeats 4000000 in
set_option maxRecDepth 100000 in
theorem t_X12_casesOf_b230 (E : Ev p s m args meth c cX12_casesOf 9 RX12 A0 D cA ad NR Z) (hr : meth.sig.returnType = (some .int)) {K6 : Int → Int → Int → Int → Int → Int → St → Prop} (hK6 : ∀ (x1 : Int) (x2 : Int) (x3 : Int) (x4 : Int) (x5 : Int) (x6 : Int) (σ : St), C32 x1 → C32 x2 → C32 x3 → C32 x4 → C32 x5 → C32 x6 → CanS shR NR σ → K6 x1 x2 x3 x4 x5 x6 σ → G p l e (rmL 3 0 0) s m args below meth c 9 A0 D cA ad shR NR 0 0 (MQ below (QIc D cA ad shR NR Q A0) args s 0 0 A0) σ 6 [some (.ref (ad 0)), some (vI x1), some (vI x2), some (vI x3), some (vI x4), some (vI x5), some (vI x6), none, none] []) (x1 : Int) (x2 : Int) (x3 : Int) (x4 : Int) (x5 : Int) (x6 : Int) (σ : St) (c1 : C32 x1) (c2 : C32 x2) (c3 : C32 x3) (c4 : C32 x4) (c5 : C32 x5) (c6 : C32 x6) (hσ : CanS shR NR σ) (h : wp_X12_casesOf_b230 Q K6 x1 x2 x3 x4 x5 x6 σ) : G p l e (rmL 3 0 0) s m args below meth c 9 A0 D cA ad shR NR 0 0 (MQ below (QIc D cA ad shR NR Q A0) args s 0 0 A0) σ 230 [some (.ref (ad 0)), some (vI x1), some (vI x2), some (vI x3), some (vI x4), some (vI x5), some (vI x6), none, none] [] := by
  unfold wp_X12_casesOf_b230 at h
  refine g_iinc_6 E rfl (by decide) dX12_casesOf_230 (fun v7 ev7 => ?_)
  replace h := h v7 ev7
  have cv7 : C32 v7 := by rw [ev7]; exact c32_w _
  refine g_goto E djX12_casesOf_233 ?_
  exact (hK6 x1 x2 x3 x4 x5 v7 σ c1 c2 c3 c4 c5 cv7 hσ h).weak (w_k (w_k (w_k (w_k (w_k (w_k (w_k (w_d (w_d w_n)))))))))
set_option maxHeartbeats 4000000 in
set_option maxRecDepth 100000 in
theorem t_X12_casesOf_l104 (E : Ev p s m args meth c cX12_casesOf 9 RX12 A0 D cA ad NR Z) (hr : meth.sig.returnType = (some .int)) {K6 : Int → Int → Int → Int → Int → Int → St → Prop} (hK6 : ∀ (x1 : Int) (x2 : Int) (x3 : Int) (x4 : Int) (x5 : Int) (x6 : Int) (σ : St), C32 x1 → C32 x2 → C32 x3 → C32 x4 → C32 x5 → C32 x6 → CanS shR NR σ → K6 x1 x2 x3 x4 x5 x6 σ → G p l e (rmL 3 0 0) s m args below meth c 9 A0 D cA ad shR NR 0 0 (MQ below (QIc D cA ad shR NR Q A0) args s 0 0 A0) σ 6 [some (.ref (ad 0)), some (vI x1), some (vI x2), some (vI x3), some (vI x4), some (vI x5), some (vI x6), none, none] []) : ∀ (n : Nat) (x1 : Int) (x2 : Int) (x3 : Int) (x4 : Int) (x5 : Int) (x6 : Int) (x7 : Int) (σ : St), C32 x1 → C32 x2 → C32 x3 → C32 x4 → C32 x5 → C32 x6 → C32 x7 → CanS shR NR σ → wp_X12_casesOf_l104 Q K6 n x1 x2 x3 x4 x5 x6 x7 σ → G p l e (rmL 3 0 0) s m args below meth c 9 A0 D cA ad shR NR 0 0 (MQ below (QIc D cA ad shR NR Q A0) args s 0 0 A0) σ 104 [some (.ref (ad 0)), some (vI x1), some (vI x2), some (vI x3), some (vI x4), some (vI x5), some (vI x6), some (vI x7), none] [] := by
  intro n
  induction n with
  | zero => intro _ _ _ _ _ _ _ _ _ _ _ _ _ _ _ _ h; exact h.elim
  | succ n ih =>
    intro x1 x2 x3 x4 x5 x6 x7 σ c1 c2 c3 c4 c5 c6 c7 hσ h
    unfold wp_X12_casesOf_l104 at h
    refine g_iload_7 E dX12_casesOf_104 ?_
    refine g_iload_3 E dX12_casesOf_106 ?_
    refine g_icmp_ge E c7 c3 djX12_casesOf_107 (fun hc => ?_) (fun hc => ?_)
    · replace h := h.1 hc
      exact (t_X12_casesOf_b230 E hr hK6 x1 x2 x3 x4 x5 x6 σ c1 c2 c3 c4 c5 c6 hσ h).weak (w_k (w_k (w_k (w_k (w_k (w_k (w_k (w_d (w_d w_n)))))))))
    · replace h := h.2 hc
      refine g_aload_0 E dX12_casesOf_110 ?_
      refine g_getR E fl_RX12_20 kR_0 sR_0 rfl dX12_casesOf_111 ?_
      refine g_iload_6 E dX12_casesOf_114 ?_
      refine g_iald E kR_3 sR_3 (by decide) h.1 dX12_casesOf_116 ?_
      replace h := h.2
      refine g_iconst E dX12_casesOf_117 ?_
      refine g_icmp_eq E (aR_3 hσ _) cl_m1 djX12_casesOf_118 (fun hc => ?_) (fun hc => ?_)
      · replace h := h.1 hc
        exact (t_X12_casesOf_b230 E hr hK6 x1 x2 x3 x4 x5 x6 σ c1 c2 c3 c4 c5 c6 hσ h).weak (w_k (w_k (w_k (w_k (w_k (w_k (w_k (w_d (w_d w_n)))))))))
      · replace h := h.2 hc
        refine g_iload_4 E dX12_casesOf_121 ?_
        refine g_if_eq E c4 djX12_casesOf_123 (fun hc => ?_) (fun hc => ?_)
        · replace h := h.1 hc
          refine g_aload_0 E dX12_casesOf_168 ?_
          refine g_aload_0 E dX12_casesOf_169 ?_
          refine g_getR E fl_RX12_17 kR_0 sR_0 rfl dX12_casesOf_170 ?_
          refine g_iload_6 E dX12_casesOf_173 ?_
          refine g_iald E kR_2 sR_2 (by decide) h.1 dX12_casesOf_175 ?_
          replace h := h.2
          refine g_iload_2 E dX12_casesOf_176 ?_
          refine g_iload_7 E dX12_casesOf_177 ?_
          refine g_callvI E my_X12_isLetterAt mi_X12_isLetterAt msel_X12_isLetterAt ml_RX12_422 (rm_ok (by decide) (by decide)) ⟨Nat.zero_le _, Nat.zero_le _⟩ kR_0 sR_0 rfl (m_X12_isLetterAt E.2.2.1 (aR_2 hσ _) c2 c7 hσ h) rfl rfl (Nat.le_of_ble_eq_true rfl) dX12_casesOf_179 (fun r9 σ10 cr9 hσ10 h => ?_)
          refine g_if_eq E cr9 djX12_casesOf_182 (fun hc => ?_) (fun hc => ?_)
          · replace h := h.1 hc
            exact (t_X12_casesOf_b206 E hr hK6 ih x1 x2 x3 x4 x5 x6 x7 σ10 c1 c2 c3 c4 c5 c6 c7 hσ10 h).weak (w_k (w_k (w_k (w_k (w_k (w_k (w_k (w_k (w_d w_n)))))))))
          · replace h := h.2 hc
            refine g_aload_0 E dX12_casesOf_185 ?_
            refine g_aload_0 E dX12_casesOf_186 ?_
            refine g_getR E fl_RX12_20 kR_0 sR_0 rfl dX12_casesOf_187 ?_
            refine g_iload_6 E dX12_casesOf_190 ?_
            refine g_iald E kR_3 sR_3 (by decide) h.1 dX12_casesOf_192 ?_
            replace h := h.2
            refine g_iload_7 E dX12_casesOf_193 ?_
            refine g_iload_3 E dX12_casesOf_195 ?_
            refine g_callvI E my_X12_isLetterAt mi_X12_isLetterAt msel_X12_isLetterAt ml_RX12_422 (rm_ok (by decide) (by decide)) ⟨Nat.zero_le _, Nat.zero_le _⟩ kR_0 sR_0 rfl (m_X12_isLetterAt E.2.2.1 (aR_3 hσ10 _) c7 c3 hσ10 h) rfl rfl (Nat.le_of_ble_eq_true rfl) dX12_casesOf_196 (fun r11 σ12 cr11 hσ12 h => ?_)
            refine g_if_eq E cr11 djX12_casesOf_199 (fun hc => ?_) (fun hc => ?_)
            · replace h := h.1 hc
              exact (t_X12_casesOf_b206 E hr hK6 ih x1 x2 x3 x4 x5 x6 x7 σ12 c1 c2 c3 c4 c5 c6 c7 hσ12 h).weak (w_k (w_k (w_k (w_k (w_k (w_k (w_k (w_k (w_d w_n)))))))))
            · replace h := h.2 hc
              refine g_iconst E dX12_casesOf_202 ?_
              refine g_goto E djX12_casesOf_203 ?_
              exact (t_X12_casesOf_b207 E hr hK6 ih x1 x2 x3 x4 x5 x6 x7 1 σ12 c1 c2 c3 c4 c5 c6 c7 cl_1 hσ12 h).weak (w_k (w_k (w_k (w_k (w_k (w_k (w_k (w_k (w_d w_n)))))))))
        · replace h := h.2 hc
          refine g_aload_0 E dX12_casesOf_126 ?_
          refine g_aload_0 E dX12_casesOf_127 ?_
          refine g_getR E fl_RX12_17 kR_0 sR_0 rfl dX12_casesOf_128 ?_
          refine g_iload_6 E dX12_casesOf_131 ?_
          refine g_iald E kR_2 sR_2 (by decide) h.1 dX12_casesOf_133 ?_
          replace h := h.2
          refine g_iload_2 E dX12_casesOf_134 ?_
          refine g_iload_7 E dX12_casesOf_135 ?_
          refine g_callvI E my_X12_fits mi_X12_fits msel_X12_fits ml_RX12_287 (rm_ok (by decide) (by decide)) ⟨Nat.zero_le _, Nat.zero_le _⟩ kR_0 sR_0 rfl (m_X12_fits E.2.2.1 (aR_2 hσ _) c2 c7 hσ h) rfl rfl (Nat.le_of_ble_eq_true rfl) dX12_casesOf_137 (fun r13 σ14 cr13 hσ14 h => ?_)
          refine g_if_eq E cr13 djX12_casesOf_140 (fun hc => ?_) (fun hc => ?_)
          · replace h := h.1 hc
            exact (t_X12_casesOf_b164 E hr hK6 ih x1 x2 x3 x4 x5 x6 x7 σ14 c1 c2 c3 c4 c5 c6 c7 hσ14 h).weak (w_k (w_k (w_k (w_k (w_k (w_k (w_k (w_k (w_d w_n)))))))))
          · replace h := h.2 hc
            refine g_aload_0 E dX12_casesOf_143 ?_
            refine g_aload_0 E dX12_casesOf_144 ?_
            refine g_getR E fl_RX12_20 kR_0 sR_0 rfl dX12_casesOf_145 ?_
            refine g_iload_6 E dX12_casesOf_148 ?_
            refine g_iald E kR_3 sR_3 (by decide) h.1 dX12_casesOf_150 ?_
            replace h := h.2
            refine g_iload_7 E dX12_casesOf_151 ?_
            refine g_iload_3 E dX12_casesOf_153 ?_
            refine g_callvI E my_X12_fits mi_X12_fits msel_X12_fits ml_RX12_287 (rm_ok (by decide) (by decide)) ⟨Nat.zero_le _, Nat.zero_le _⟩ kR_0 sR_0 rfl (m_X12_fits E.2.2.1 (aR_3 hσ14 _) c7 c3 hσ14 h) rfl rfl (Nat.le_of_ble_eq_true rfl) dX12_casesOf_154 (fun r15 σ16 cr15 hσ16 h => ?_)
            refine g_if_eq E cr15 djX12_casesOf_157 (fun hc => ?_) (fun hc => ?_)
            · replace h := h.1 hc
              exact (t_X12_casesOf_b164 E hr hK6 ih x1 x2 x3 x4 x5 x6 x7 σ16 c1 c2 c3 c4 c5 c6 c7 hσ16 h).weak (w_k (w_k (w_k (w_k (w_k (w_k (w_k (w_k (w_d w_n)))))))))
            · replace h := h.2 hc
              refine g_iconst E dX12_casesOf_160 ?_
              refine g_goto E djX12_casesOf_161 ?_
              exact (t_X12_casesOf_b207 E hr hK6 ih x1 x2 x3 x4 x5 x6 x7 1 σ16 c1 c2 c3 c4 c5 c6 c7 cl_1 hσ16 h).weak (w_k (w_k (w_k (w_k (w_k (w_k (w_k (w_k (w_d w_n)))))))))
set_option maxHeartbeats 4000000 in
set_option maxRecDepth 100000 in
theorem t_X12_casesOf_b99 (E : Ev p s m args meth c cX12_casesOf 9 RX12 A0 D cA ad NR Z) (hr : meth.sig.returnType = (some .int)) {K6 : Int → Int → Int → Int → Int → Int → St → Prop} (hK6 : ∀ (x1 : Int) (x2 : Int) (x3 : Int) (x4 : Int) (x5 : Int) (x6 : Int) (σ : St), C32 x1 → C32 x2 → C32 x3 → C32 x4 → C32 x5 → C32 x6 → CanS shR NR σ → K6 x1 x2 x3 x4 x5 x6 σ → G p l e (rmL 3 0 0) s m args below meth c 9 A0 D cA ad shR NR 0 0 (MQ below (QIc D cA ad shR NR Q A0) args s 0 0 A0) σ 6 [some (.ref (ad 0)), some (vI x1), some (vI x2), some (vI x3), some (vI x4), some (vI x5), some (vI x6), none, none] []) (x1 : Int) (x2 : Int) (x3 : Int) (x4 : Int) (x5 : Int) (x6 : Int) (σ : St) (c1 : C32 x1) (c2 : C32 x2) (c3 : C32 x3) (c4 : C32 x4) (c5 : C32 x5) (c6 : C32 x6) (hσ : CanS shR NR σ) (h : wp_X12_casesOf_b99 Q K6 x1 x2 x3 x4 x5 x6 σ) : G p l e (rmL 3 0 0) s m args below meth c 9 A0 D cA ad shR NR 0 0 (MQ below (QIc D cA ad shR NR Q A0) args s 0 0 A0) σ 99 [some (.ref (ad 0)), some (vI x1), some (vI x2), some (vI x3), some (vI x4), some (vI x5), some (vI x6), none, none] [] := by
  unfold wp_X12_casesOf_b99 at h
  refine g_iload_2 E dX12_casesOf_99 ?_
  refine g_iconst E dX12_casesOf_100 ?_
  refine g_iadd E dX12_casesOf_101 ?_
  refine g_nmI (fun v8 ev8 => ?_)
  replace h := h v8 ev8
  have cv8 : C32 v8 := by rw [ev8]; exact (c32_w _)
  refine g_istore_7 E rfl (by decide) dX12_casesOf_102 ?_
  exact (t_X12_casesOf_l104 E hr hK6 bigN x1 x2 x3 x4 x5 x6 v8 σ c1 c2 c3 c4 c5 c6 cv8 hσ h).weak (w_k (w_k (w_k (w_k (w_k (w_k (w_k (w_k (w_d w_n)))))))))
set_option maxHeartbeats 4000000 in
set_option maxRecDepth 100000 in
theorem t_X12_casesOf_b96 (E : Ev p s m args meth c cX12_casesOf 9 RX12 A0 D cA ad NR Z) (hr : meth.sig.returnType = (some .int)) {K6 : Int → Int → Int → Int → Int → Int → St → Prop} (hK6 : ∀ (x1 : Int) (x2 : Int) (x3 : Int) (x4 : Int) (x5 : Int) (x6 : Int) (σ : St), C32 x1 → C32 x2 → C32 x3 → C32 x4 → C32 x5 → C32 x6 → CanS shR NR σ → K6 x1 x2 x3 x4 x5 x6 σ → G p l e (rmL 3 0 0) s m args below meth c 9 A0 D cA ad shR NR 0 0 (MQ below (QIc D cA ad shR NR Q A0) args s 0 0 A0) σ 6 [some (.ref (ad 0)), some (vI x1), some (vI x2), some (vI x3), some (vI x4), some (vI x5), some (vI x6), none, none] []) (x1 : Int) (x2 : Int) (x3 : Int) (x4 : Int) (x6 : Int) (s0 : Int) (s1 : Int) (σ : St) (c1 : C32 x1) (c2 : C32 x2) (c3 : C32 x3) (c4 : C32 x4) (c6 : C32 x6) (cs0 : C32 s0) (cs1 : C32 s1) (hσ : CanS shR NR σ) (h : wp_X12_casesOf_b96 Q K6 x1 x2 x3 x4 x6 s0 s1 σ) : G p l e (rmL 3 0 0) s m args below meth c 9 A0 D cA ad shR NR 0 0 (MQ below (QIc D cA ad shR NR Q A0) args s 0 0 A0) σ 96 [some (.ref (ad 0)), some (vI x1), some (vI x2), some (vI x3), some (vI x4), none, some (vI x6), none, none] [vI s0, vI s1] := by
  unfold wp_X12_casesOf_b96 at h
  refine g_iadd E dX12_casesOf_96 ?_
  refine g_nmI (fun v17 ev17 => ?_)
  replace h := h v17 ev17
  have cv17 : C32 v17 := by rw [ev17]; exact (c32_w _)
  refine g_istore_5 E rfl (by decide) dX12_casesOf_97 ?_
  exact (t_X12_casesOf_b99 E hr hK6 x1 x2 x3 x4 v17 x6 σ c1 c2 c3 c4 cv17 c6 hσ h).weak (w_k (w_k (w_k (w_k (w_k (w_k (w_k (w_d (w_d w_n)))))))))
set_option maxHeartbeats 4000000 in
set_option maxRecDepth 100000 in
theorem t_X12_casesOf_b91 (E : Ev p s m args meth c cX12_casesOf 9 RX12 A0 D cA ad NR Z) (hr : meth.sig.returnType = (some .int)) {K6 : Int → Int → Int → Int → Int → Int → St → Prop} (hK6 : ∀ (x1 : Int) (x2 : Int) (x3 : Int) (x4 : Int) (x5 : Int) (x6 : Int) (σ : St), C32 x1 → C32 x2 → C32 x3 → C32 x4 → C32 x5 → C32 x6 → CanS shR NR σ → K6 x1 x2 x3 x4 x5 x6 σ → G p l e (rmL 3 0 0) s m args below meth c 9 A0 D cA ad shR NR 0 0 (MQ below (QIc D cA ad shR NR Q A0) args s 0 0 A0) σ 6 [some (.ref (ad 0)), some (vI x1), some (vI x2), some (vI x3), some (vI x4), some (vI x5), some (vI x6), none, none] []) (x1 : Int) (x2 : Int) (x3 : Int) (x4 : Int) (x6 : Int) (s0 : Int) (σ : St) (c1 : C32 x1) (c2 : C32 x2) (c3 : C32 x3) (c4 : C32 x4) (c6 : C32 x6) (cs0 : C32 s0) (hσ : CanS shR NR σ) (h : wp_X12_casesOf_b91 Q K6 x1 x2 x3 x4 x6 s0 σ) : G p l e (rmL 3 0 0) s m args below meth c 9 A0 D cA ad shR NR 0 0 (MQ below (QIc D cA ad shR NR Q A0) args s 0 0 A0) σ 91 [some (.ref (ad 0)), some (vI x1), some (vI x2), some (vI x3), some (vI x4), none, some (vI x6), none, none] [vI s0] := by
  unfold wp_X12_casesOf_b91 at h
  refine g_iconst E dX12_casesOf_91 ?_
  refine g_goto E djX12_casesOf_92 ?_
  exact (t_X12_casesOf_b96 E hr hK6 x1 x2 x3 x4 x6 1 s0 σ c1 c2 c3 c4 c6 cl_1 cs0 hσ h).weak (w_k (w_k (w_k (w_k (w_k (w_d (w_k (w_d (w_d w_n)))))))))
set_option maxHeartbeats 4000000 in
set_option maxRecDepth 100000 in
theorem t_X12_casesOf_b95 (E : Ev p s m args meth c cX12_casesOf 9 RX12 A0 D cA ad NR Z) (hr : meth.sig.returnType = (some .int)) {K6 : Int → Int → Int → Int → Int → Int → St → Prop} (hK6 : ∀ (x1 : Int) (x2 : Int) (x3 : Int) (x4 : Int) (x5 : Int) (x6 : Int) (σ : St), C32 x1 → C32 x2 → C32 x3 → C32 x4 → C32 x5 → C32 x6 → CanS shR NR σ → K6 x1 x2 x3 x4 x5 x6 σ → G p l e (rmL 3 0 0) s m args below meth c 9 A0 D cA ad shR NR 0 0 (MQ below (QIc D cA ad shR NR Q A0) args s 0 0 A0) σ 6 [some (.ref (ad 0)), some (vI x1), some (vI x2), some (vI x3), some (vI x4), some (vI x5), some (vI x6), none, none] []) (x1 : Int) (x2 : Int) (x3 : Int) (x4 : Int) (x6 : Int) (s0 : Int) (σ : St) (c1 : C32 x1) (c2 : C32 x2) (c3 : C32 x3) (c4 : C32 x4) (c6 : C32 x6) (cs0 : C32 s0) (hσ : CanS shR NR σ) (h : wp_X12_casesOf_b95 Q K6 x1 x2 x3 x4 x6 s0 σ) : G p l e (rmL 3 0 0) s m args below meth c 9 A0 D cA ad shR NR 0 0 (MQ below (QIc D cA ad shR NR Q A0) args s 0 0 A0) σ 95 [some (.ref (ad 0)), some (vI x1), some (vI x2), some (vI x3), some (vI x4), none, some (vI x6), none, none] [vI s0] := by
  unfold wp_X12_casesOf_b95 at h
  refine g_iconst E dX12_casesOf_95 ?_
  exact (t_X12_casesOf_b96 E hr hK6 x1 x2 x3 x4 x6 0 s0 σ c1 c2 c3 c4 c6 cl_0 cs0 hσ h).weak (w_k (w_k (w_k (w_k (w_k (w_d (w_k (w_d (w_d w_n)))))))))
set_option maxHeartbeats 4000000 in
set_option maxRecDepth 100000 in
theorem t_X12_casesOf_l6 (E : Ev p s m args meth c cX12_casesOf 9 RX12 A0 D cA ad NR Z) (hr : meth.sig.returnType = (some .int)) : ∀ (n : Nat) (x1 : Int) (x2 : Int) (x3 : Int) (x4 : Int) (x5 : Int) (x6 : Int) (σ : St), C32 x1 → C32 x2 → C32 x3 → C32 x4 → C32 x5 → C32 x6 → CanS shR NR σ → wp_X12_casesOf_l6 Q n x1 x2 x3 x4 x5 x6 σ → G p l e (rmL 3 0 0) s m args below meth c 9 A0 D cA ad shR NR 0 0 (MQ below (QIc D cA ad shR NR Q A0) args s 0 0 A0) σ 6 [some (.ref (ad 0)), some (vI x1), some (vI x2), some (vI x3), some (vI x4), some (vI x5), some (vI x6), none, none] [] := by
  intro n
  induction n with
  | zero => intro _ _ _ _ _ _ _ _ _ _ _ _ _ _ h; exact h.elim
  | succ n ih =>
    intro x1 x2 x3 x4 x5 x6 σ c1 c2 c3 c4 c5 c6 hσ h
    unfold wp_X12_casesOf_l6 at h
    refine g_iload_6 E dX12_casesOf_6 ?_
    refine g_aload_0 E dX12_casesOf_8 ?_
    refine g_getI E fl_RX12_252 kR_0 sR_0 rfl dX12_casesOf_9 ?_
    refine g_icmp_ge E c6 (fR_0_1 hσ) djX12_casesOf_12 (fun hc => ?_) (fun hc => ?_)
    · replace h := h.1 hc
      refine g_iload_5 E dX12_casesOf_236 ?_
      exact g_iret E hr c5 h hσ dX12_casesOf_238
    · replace h := h.2 hc
      refine g_aload_0 E dX12_casesOf_15 ?_
      refine g_iload_6 E dX12_casesOf_16 ?_
      refine g_callvI E my_X12_isIn mi_X12_isIn msel_X12_isIn ml_RX12_298 (rm_ok (by decide) (by decide)) ⟨Nat.zero_le _, Nat.zero_le _⟩ kR_0 sR_0 rfl (m_X12_isIn E.2.2.1 c6 hσ h) rfl rfl (Nat.le_of_ble_eq_true rfl) dX12_casesOf_18 (fun r1 σ2 cr1 hσ2 h => ?_)
      refine g_if_eq E cr1 djX12_casesOf_21 (fun hc => ?_) (fun hc => ?_)
      · replace h := h.1 hc
        exact (t_X12_casesOf_b230 E hr ih x1 x2 x3 x4 x5 x6 σ2 c1 c2 c3 c4 c5 c6 hσ2 h).weak (w_k (w_k (w_k (w_k (w_k (w_k (w_k (w_d (w_d w_n)))))))))
      · replace h := h.2 hc
        refine g_aload_0 E dX12_casesOf_24 ?_
        refine g_getR E fl_RX12_13 kR_0 sR_0 rfl dX12_casesOf_25 ?_
        refine g_iload_6 E dX12_casesOf_28 ?_
        refine g_iald E kR_1 sR_1 (by decide) h.1 dX12_casesOf_30 ?_
        replace h := h.2
        refine g_iload_1 E dX12_casesOf_31 ?_
        refine g_icmp_eq E (aR_1 hσ2 _) c1 djX12_casesOf_32 (fun hc => ?_) (fun hc => ?_)
        · replace h := h.1 hc
          refine g_aload_0 E dX12_casesOf_38 ?_
          refine g_getR E fl_RX12_20 kR_0 sR_0 rfl dX12_casesOf_39 ?_
          refine g_iload_6 E dX12_casesOf_42 ?_
          refine g_iald E kR_3 sR_3 (by decide) h.1 dX12_casesOf_44 ?_
          replace h := h.2
          refine g_iconst E dX12_casesOf_45 ?_
          refine g_icmp_ne E (aR_3 hσ2 _) cl_m1 djX12_casesOf_46 (fun hc => ?_) (fun hc => ?_)
          · replace h := h.1 hc
            exact (t_X12_casesOf_b99 E hr ih x1 x2 x3 x4 x5 x6 σ2 c1 c2 c3 c4 c5 c6 hσ2 h).weak (w_k (w_k (w_k (w_k (w_k (w_k (w_k (w_d (w_d w_n)))))))))
          · replace h := h.2 hc
            refine g_iload_5 E dX12_casesOf_49 ?_
            refine g_iload_4 E dX12_casesOf_51 ?_
            refine g_if_eq E c4 djX12_casesOf_53 (fun hc => ?_) (fun hc => ?_)
            · replace h := h.1 hc
              refine g_aload_0 E dX12_casesOf_75 ?_
              refine g_aload_0 E dX12_casesOf_76 ?_
              refine g_getR E fl_RX12_17 kR_0 sR_0 rfl dX12_casesOf_77 ?_
              refine g_iload_6 E dX12_casesOf_80 ?_
              refine g_iald E kR_2 sR_2 (by decide) h.1 dX12_casesOf_82 ?_
              replace h := h.2
              refine g_iload_2 E dX12_casesOf_83 ?_
              refine g_iload_3 E dX12_casesOf_84 ?_
              refine g_callvI E my_X12_isLetterAt mi_X12_isLetterAt msel_X12_isLetterAt ml_RX12_422 (rm_ok (by decide) (by decide)) ⟨Nat.zero_le _, Nat.zero_le _⟩ kR_0 sR_0 rfl (m_X12_isLetterAt E.2.2.1 (aR_2 hσ2 _) c2 c3 hσ2 h) rfl rfl (Nat.le_of_ble_eq_true rfl) dX12_casesOf_85 (fun r3 σ4 cr3 hσ4 h => ?_)
              refine g_if_eq E cr3 djX12_casesOf_88 (fun hc => ?_) (fun hc => ?_)
              · replace h := h.1 hc
                exact (t_X12_casesOf_b95 E hr ih x1 x2 x3 x4 x6 x5 σ4 c1 c2 c3 c4 c6 c5 hσ4 h).weak (w_k (w_k (w_k (w_k (w_k (w_d (w_k (w_d (w_d w_n)))))))))
              · replace h := h.2 hc
                exact (t_X12_casesOf_b91 E hr ih x1 x2 x3 x4 x6 x5 σ4 c1 c2 c3 c4 c6 c5 hσ4 h).weak (w_k (w_k (w_k (w_k (w_k (w_d (w_k (w_d (w_d w_n)))))))))
            · replace h := h.2 hc
              refine g_aload_0 E dX12_casesOf_56 ?_
              refine g_aload_0 E dX12_casesOf_57 ?_
              refine g_getR E fl_RX12_17 kR_0 sR_0 rfl dX12_casesOf_58 ?_
              refine g_iload_6 E dX12_casesOf_61 ?_
              refine g_iald E kR_2 sR_2 (by decide) h.1 dX12_casesOf_63 ?_
              replace h := h.2
              refine g_iload_2 E dX12_casesOf_64 ?_
              refine g_iload_3 E dX12_casesOf_65 ?_
              refine g_callvI E my_X12_fits mi_X12_fits msel_X12_fits ml_RX12_287 (rm_ok (by decide) (by decide)) ⟨Nat.zero_le _, Nat.zero_le _⟩ kR_0 sR_0 rfl (m_X12_fits E.2.2.1 (aR_2 hσ2 _) c2 c3 hσ2 h) rfl rfl (Nat.le_of_ble_eq_true rfl) dX12_casesOf_66 (fun r5 σ6 cr5 hσ6 h => ?_)
              refine g_if_eq E cr5 djX12_casesOf_69 (fun hc => ?_) (fun hc => ?_)
              · replace h := h.1 hc
                exact (t_X12_casesOf_b95 E hr ih x1 x2 x3 x4 x6 x5 σ6 c1 c2 c3 c4 c6 c5 hσ6 h).weak (w_k (w_k (w_k (w_k (w_k (w_d (w_k (w_d (w_d w_n)))))))))
              · replace h := h.2 hc
                refine g_goto E djX12_casesOf_72 ?_
                exact (t_X12_casesOf_b91 E hr ih x1 x2 x3 x4 x6 x5 σ6 c1 c2 c3 c4 c6 c5 hσ6 h).weak (w_k (w_k (w_k (w_k (w_k (w_d (w_k (w_d (w_d w_n)))))))))
        · replace h := h.2 hc
          refine g_goto E djX12_casesOf_35 ?_
          exact (t_X12_casesOf_b230 E hr ih x1 x2 x3 x4 x5 x6 σ2 c1 c2 c3 c4 c5 c6 hσ2 h).weak (w_k (w_k (w_k (w_k (w_k (w_k (w_k (w_d (w_d w_n)))))))))
set_option maxHeartbeats 4000000 in
set_option maxRecDepth 100000 in
theorem t_X12_casesOf (E : Ev p s m args meth c cX12_casesOf 9 RX12 A0 D cA ad NR Z) (hr : meth.sig.returnType = (some .int)) (x1 : Int) (x2 : Int) (x3 : Int) (x4 : Int) (σ : St) (c1 : C32 x1) (c2 : C32 x2) (c3 : C32 x3) (c4 : C32 x4) (hσ : CanS shR NR σ) (h : wp_X12_casesOf x1 x2 x3 x4 σ Q) : G p l e (rmL 3 0 0) s m args below meth c 9 A0 D cA ad shR NR 0 0 (MQ below (QIc D cA ad shR NR Q A0) args s 0 0 A0) σ 0 [some (.ref (ad 0)), some (vI x1), some (vI x2), some (vI x3), some (vI x4), none, none, none, none] [] := by
  unfold wp_X12_casesOf at h
  refine g_iconst E dX12_casesOf_0 ?_
  refine g_istore_5 E rfl (by decide) dX12_casesOf_1 ?_
  refine g_iconst E dX12_casesOf_3 ?_
  refine g_istore_6 E rfl (by decide) dX12_casesOf_4 ?_
  exact (t_X12_casesOf_l6 E hr bigN x1 x2 x3 x4 0 0 σ c1 c2 c3 c4 cl_0 cl_0 hσ h).weak (w_k (w_k (w_k (w_k (w_k (w_k (w_k (w_d (w_d w_n)))))))))
end
theorem m_X12_casesOf {Z : (Nat → Nat) × (Nat → Nat)} {l : Launch} {D : va_G} {cA : Nat → ClassId} {ad : Nat → Nat} {x1 x2 x3 x4 : Int} {σ : St} {Q : Int → St → Prop} (hA : AdOk NR ad) (c1 : C32 x1) (c2 : C32 x2) (c3 : C32 x3) (c4 : C32 x4) (hσ : CanS shR NR σ) (h : wp_X12_casesOf x1 x2 x3 x4 σ Q) : KtI Z l D cA ad shR NR yX12_casesOf cX12_casesOf 9 (some .int) 3 [.ref (ad 0), vI x1, vI x2, vI x3, vI x4] σ Q :=
  KtI.of my_X12_casesOf hA [some (.ref (ad 0)), some (vI x1), some (vI x2), some (vI x3), some (vI x4), none, none, none, none] (Nat.le_of_ble_eq_true rfl) rfl (fun p e s m args below meth c A0 E hr => t_X12_casesOf E hr x1 x2 x3 x4 σ c1 c2 c3 c4 hσ h)
theorem dX12_cases_0 : Dc cX12_cases 0 (.aload_n 0) 1 1 := ⟨by decide +kernel, rfl⟩
theorem dX12_cases_1 : Dc cX12_cases 1 (.iload_n 1) 1 2 := ⟨by decide +kernel, rfl⟩
theorem dX12_cases_2 : Dc cX12_cases 2 (.iload_n 2) 1 3 := ⟨by decide +kernel, rfl⟩
theorem dX12_cases_3 : Dc cX12_cases 3 (.iload_n 3) 1 4 := ⟨by decide +kernel, rfl⟩
theorem dX12_cases_4 : Dc cX12_cases 4 (.invokevirtual 318) 3 7 := ⟨by decide +kernel, rfl⟩
theorem djX12_cases_7 : Dj cX12_cases 7 (.ifCond .eq 16) 3 10 16 23 := ⟨by decide +kernel, rfl, by decide⟩
theorem dX12_cases_10 : Dc cX12_cases 10 (.iload 4) 2 12 := ⟨by decide +kernel, rfl⟩
theorem dX12_cases_12 : Dc cX12_cases 12 (.i2l) 1 13 := ⟨by decide +kernel, rfl⟩
theorem dX12_cases_13 : Dc cX12_cases 13 (.lconst 0) 1 14 := ⟨by decide +kernel, rfl⟩
theorem dX12_cases_14 : Dc cX12_cases 14 (.ldc2_w 454) 3 17 := ⟨by decide +kernel, rfl⟩
theorem dX12_cases_17 : Dc cX12_cases 17 (.invokestatic 148) 3 20 := ⟨by decide +kernel, rfl⟩
theorem djX12_cases_20 : Dj cX12_cases 20 (.ifCond .ne 6) 3 23 6 26 := ⟨by decide +kernel, rfl, by decide⟩
theorem dX12_cases_23 : Dc cX12_cases 23 (.bipush (-2)) 2 25 := ⟨by decide +kernel, rfl⟩
theorem dX12_cases_25 : Dc cX12_cases 25 (.ireturn) 1 26 := ⟨by decide +kernel, rfl⟩
theorem dX12_cases_26 : Dc cX12_cases 26 (.aload_n 0) 1 27 := ⟨by decide +kernel, rfl⟩
theorem dX12_cases_27 : Dc cX12_cases 27 (.invokevirtual 321) 3 30 := ⟨by decide +kernel, rfl⟩
theorem dX12_cases_30 : Dc cX12_cases 30 (.iload 4) 2 32 := ⟨by decide +kernel, rfl⟩
theorem dX12_cases_32 : Dc cX12_cases 32 (.iconst 2) 1 33 := ⟨by decide +kernel, rfl⟩
theorem djX12_cases_33 : Dj cX12_cases 33 (.if_icmp .ne 13) 3 36 13 46 := ⟨by decide +kernel, rfl, by decide⟩
theorem dX12_cases_36 : Dc cX12_cases 36 (.aload_n 0) 1 37 := ⟨by decide +kernel, rfl⟩
theorem dX12_cases_37 : Dc cX12_cases 37 (.iload_n 1) 1 38 := ⟨by decide +kernel, rfl⟩
theorem dX12_cases_38 : Dc cX12_cases 38 (.iload_n 2) 1 39 := ⟨by decide +kernel, rfl⟩
theorem dX12_cases_39 : Dc cX12_cases 39 (.iload_n 3) 1 40 := ⟨by decide +kernel, rfl⟩
theorem dX12_cases_40 : Dc cX12_cases 40 (.invokevirtual 456) 3 43 := ⟨by decide +kernel, rfl⟩
theorem djX12_cases_43 : Dj cX12_cases 43 (.goto 21) 3 46 21 64 := ⟨by decide +kernel, rfl, by decide⟩
theorem dX12_cases_46 : Dc cX12_cases 46 (.aload_n 0) 1 47 := ⟨by decide +kernel, rfl⟩
theorem dX12_cases_47 : Dc cX12_cases 47 (.iload_n 1) 1 48 := ⟨by decide +kernel, rfl⟩
theorem dX12_cases_48 : Dc cX12_cases 48 (.iload_n 2) 1 49 := ⟨by decide +kernel, rfl⟩
theorem dX12_cases_49 : Dc cX12_cases 49 (.iload_n 3) 1 50 := ⟨by decide +kernel, rfl⟩
theorem dX12_cases_50 : Dc cX12_cases 50 (.iload 4) 2 52 := ⟨by decide +kernel, rfl⟩
theorem dX12_cases_52 : Dc cX12_cases 52 (.iconst 1) 1 53 := ⟨by decide +kernel, rfl⟩
theorem djX12_cases_53 : Dj cX12_cases 53 (.if_icmp .ne 7) 3 56 7 60 := ⟨by decide +kernel, rfl, by decide⟩
theorem dX12_cases_56 : Dc cX12_cases 56 (.iconst 1) 1 57 := ⟨by decide +kernel, rfl⟩
theorem djX12_cases_57 : Dj cX12_cases 57 (.goto 4) 3 60 4 61 := ⟨by decide +kernel, rfl, by decide⟩
theorem dX12_cases_60 : Dc cX12_cases 60 (.iconst 0) 1 61 := ⟨by decide +kernel, rfl⟩
theorem dX12_cases_61 : Dc cX12_cases 61 (.invokevirtual 459) 3 64 := ⟨by decide +kernel, rfl⟩
theorem dX12_cases_64 : Dc cX12_cases 64 (.ireturn) 1 65 := ⟨by decide +kernel, rfl⟩
section
variable {p : Program} {l : Launch} {e : Env} {s : State} {m : MethodId} {args : Array Value} {below : List Frame} {meth : Method} {c : Code} {A0 : Nat → Prop} {D : va_G} {cA : Nat → ClassId} {ad : Nat → Nat} {Z : (Nat → Nat) × (Nat → Nat)} {Q : Int → St → Prop}
set_option maxHeartbeats 4000000 in
set_option maxRecDepth 100000 in
theorem t_X12_cases_b61 (E : Ev p s m args meth c cX12_cases 5 RX12 A0 D cA ad NR Z) (hr : meth.sig.returnType = (some .int)) (s0 : Int) (s1 : Int) (s2 : Int) (s3 : Int) (σ : St) (cs0 : C32 s0) (cs1 : C32 s1) (cs2 : C32 s2) (cs3 : C32 s3) (hσ : CanS shR NR σ) (h : wp_X12_cases_b61 Q s0 s1 s2 s3 σ) : G p l e (rmL 7 0 0) s m args below meth c 5 A0 D cA ad shR NR 0 0 (MQ below (QIc D cA ad shR NR Q A0) args s 0 0 A0) σ 61 [none, none, none, none, none] [vI s0, vI s1, vI s2, vI s3, .ref (ad 0)] := by
  unfold wp_X12_cases_b61 at h
  refine g_callvI E my_X12_casesOf mi_X12_casesOf msel_X12_casesOf ml_RX12_459 (rm_ok (by decide) (by decide)) ⟨Nat.zero_le _, Nat.zero_le _⟩ kR_0 sR_0 rfl (m_X12_casesOf E.2.2.1 cs3 cs2 cs1 cs0 hσ h) rfl rfl (Nat.le_of_ble_eq_true rfl) dX12_cases_61 (fun r9 σ10 cr9 hσ10 h => ?_)
  exact g_iret E hr cr9 h hσ10 dX12_cases_64
set_option maxHeartbeats 4000000 in
set_option maxRecDepth 100000 in
theorem t_X12_cases (E : Ev p s m args meth c cX12_cases 5 RX12 A0 D cA ad NR Z) (hr : meth.sig.returnType = (some .int)) (x1 : Int) (x2 : Int) (x3 : Int) (x4 : Int) (σ : St) (c1 : C32 x1) (c2 : C32 x2) (c3 : C32 x3) (c4 : C32 x4) (hσ : CanS shR NR σ) (h : wp_X12_cases x1 x2 x3 x4 σ Q) : G p l e (rmL 7 0 0) s m args below meth c 5 A0 D cA ad shR NR 0 0 (MQ below (QIc D cA ad shR NR Q A0) args s 0 0 A0) σ 0 [some (.ref (ad 0)), some (vI x1), some (vI x2), some (vI x3), some (vI x4)] [] := by
  unfold wp_X12_cases at h
  refine g_aload_0 E dX12_cases_0 ?_
  refine g_iload_1 E dX12_cases_1 ?_
  refine g_iload_2 E dX12_cases_2 ?_
  refine g_iload_3 E dX12_cases_3 ?_
  refine g_callvI E my_X12_isItem mi_X12_isItem msel_X12_isItem ml_RX12_318 (rm_ok (by decide) (by decide)) ⟨Nat.zero_le _, Nat.zero_le _⟩ kR_0 sR_0 rfl (m_X12_isItem E.2.2.1 c1 c2 c3 hσ h) rfl rfl (Nat.le_of_ble_eq_true rfl) dX12_cases_4 (fun r1 σ2 cr1 hσ2 h => ?_)
  refine g_if_eq E cr1 djX12_cases_7 (fun hc => ?_) (fun hc => ?_)
  · replace h := h.1 hc
    refine g_bipush E (by decide) dX12_cases_23 ?_
    exact g_iret E hr cl_m2 h hσ2 dX12_cases_25
  · replace h := h.2 hc
    refine g_iload_4 E dX12_cases_10 ?_
    refine g_i2l E c4 dX12_cases_12 ?_
    refine g_lconst (n := 0) E (by decide) dX12_cases_13 ?_
    refine g_ldc2 (n := 2) E wc_RX12_454 dX12_cases_14 ?_
    refine g_callsI E my_X12_in ms_X12_in ml_RX12_148 (rm_ok (by decide) (by decide)) ⟨Nat.zero_le _, Nat.zero_le _⟩ (m_X12_in E.2.2.1 (c32_of_c64 c4) cL_0 cL_2 hσ2 h) rfl rfl (Nat.le_of_ble_eq_true rfl) dX12_cases_17 (fun r3 σ4 cr3 hσ4 h => ?_)
    refine g_if_ne E cr3 djX12_cases_20 (fun hc => ?_) (fun hc => ?_)
    · replace h := h.1 hc
      refine g_aload_0 E dX12_cases_26 ?_
      refine g_callvV E my_X12_looks mi_X12_looks msel_X12_looks ml_RX12_321 (rm_ok (by decide) (by decide)) ⟨Nat.zero_le _, Nat.zero_le _⟩ kR_0 sR_0 rfl (m_X12_looks E.2.2.1 hσ4 h) rfl rfl (Nat.le_of_ble_eq_true rfl) dX12_cases_27 (fun σ6 r5 hσ6 h => ?_)
      refine g_iload_4 E dX12_cases_30 ?_
      refine g_iconst E dX12_cases_32 ?_
      refine g_icmp_ne E c4 cl_2 djX12_cases_33 (fun hc => ?_) (fun hc => ?_)
      · replace h := h.1 hc
        refine g_aload_0 E dX12_cases_46 ?_
        refine g_iload_1 E dX12_cases_47 ?_
        refine g_iload_2 E dX12_cases_48 ?_
        refine g_iload_3 E dX12_cases_49 ?_
        refine g_iload_4 E dX12_cases_50 ?_
        refine g_iconst E dX12_cases_52 ?_
        refine g_icmp_ne E c4 cl_1 djX12_cases_53 (fun hc => ?_) (fun hc => ?_)
        · replace h := h.1 hc
          refine g_iconst E dX12_cases_60 ?_
          exact (t_X12_cases_b61 E hr 0 x3 x2 x1 σ6 cl_0 c3 c2 c1 hσ6 h).weak (w_d (w_d (w_d (w_d (w_d w_n)))))
        · replace h := h.2 hc
          refine g_iconst E dX12_cases_56 ?_
          refine g_goto E djX12_cases_57 ?_
          exact (t_X12_cases_b61 E hr 1 x3 x2 x1 σ6 cl_1 c3 c2 c1 hσ6 h).weak (w_d (w_d (w_d (w_d (w_d w_n)))))
      · replace h := h.2 hc
        refine g_aload_0 E dX12_cases_36 ?_
        refine g_iload_1 E dX12_cases_37 ?_
        refine g_iload_2 E dX12_cases_38 ?_
        refine g_iload_3 E dX12_cases_39 ?_
        refine g_callvI E my_X12_casesWith mi_X12_casesWith msel_X12_casesWith ml_RX12_456 (rm_ok (by decide) (by decide)) ⟨Nat.zero_le _, Nat.zero_le _⟩ kR_0 sR_0 rfl (m_X12_casesWith E.2.2.1 c1 c2 c3 hσ6 h) rfl rfl (Nat.le_of_ble_eq_true rfl) dX12_cases_40 (fun r7 σ8 cr7 hσ8 h => ?_)
        refine g_goto E djX12_cases_43 ?_
        exact g_iret E hr cr7 h hσ8 dX12_cases_64
    · replace h := h.2 hc
      refine g_bipush E (by decide) dX12_cases_23 ?_
      exact g_iret E hr cl_m2 h hσ4 dX12_cases_25
end
theorem m_X12_cases {Z : (Nat → Nat) × (Nat → Nat)} {l : Launch} {D : va_G} {cA : Nat → ClassId} {ad : Nat → Nat} {x1 x2 x3 x4 : Int} {σ : St} {Q : Int → St → Prop} (hA : AdOk NR ad) (c1 : C32 x1) (c2 : C32 x2) (c3 : C32 x3) (c4 : C32 x4) (hσ : CanS shR NR σ) (h : wp_X12_cases x1 x2 x3 x4 σ Q) : KtI Z l D cA ad shR NR yX12_cases cX12_cases 5 (some .int) 7 [.ref (ad 0), vI x1, vI x2, vI x3, vI x4] σ Q :=
  KtI.of my_X12_cases hA [some (.ref (ad 0)), some (vI x1), some (vI x2), some (vI x3), some (vI x4)] (Nat.le_of_ble_eq_true rfl) rfl (fun p e s m args below meth c A0 E hr => t_X12_cases E hr x1 x2 x3 x4 σ c1 c2 c3 c4 hσ h)
theorem dX12_itemsMany_0 : Dc cX12_itemsMany 0 (.aload_n 0) 1 1 := ⟨by decide +kernel, rfl⟩
theorem dX12_itemsMany_1 : Dc cX12_itemsMany 1 (.invokevirtual 321) 3 4 := ⟨by decide +kernel, rfl⟩
theorem dX12_itemsMany_4 : Dc cX12_itemsMany 4 (.iconst 0) 1 5 := ⟨by decide +kernel, rfl⟩
theorem dX12_itemsMany_5 : Dc cX12_itemsMany 5 (.istore_n 1) 1 6 := ⟨by decide +kernel, rfl⟩
theorem dX12_itemsMany_6 : Dc cX12_itemsMany 6 (.iconst 0) 1 7 := ⟨by decide +kernel, rfl⟩
theorem dX12_itemsMany_7 : Dc cX12_itemsMany 7 (.istore_n 2) 1 8 := ⟨by decide +kernel, rfl⟩
theorem dX12_itemsMany_8 : Dc cX12_itemsMany 8 (.iload_n 2) 1 9 := ⟨by decide +kernel, rfl⟩
theorem dX12_itemsMany_9 : Dc cX12_itemsMany 9 (.aload_n 0) 1 10 := ⟨by decide +kernel, rfl⟩
theorem dX12_itemsMany_10 : Dc cX12_itemsMany 10 (.getfield 305) 3 13 := ⟨by decide +kernel, rfl⟩
theorem djX12_itemsMany_13 : Dj cX12_itemsMany 13 (.if_icmp .ge 62) 3 16 62 75 := ⟨by decide +kernel, rfl, by decide⟩
theorem dX12_itemsMany_16 : Dc cX12_itemsMany 16 (.iload_n 2) 1 17 := ⟨by decide +kernel, rfl⟩
theorem dX12_itemsMany_17 : Dc cX12_itemsMany 17 (.iconst 1) 1 18 := ⟨by decide +kernel, rfl⟩
theorem dX12_itemsMany_18 : Dc cX12_itemsMany 18 (.iadd) 1 19 := ⟨by decide +kernel, rfl⟩
theorem dX12_itemsMany_19 : Dc cX12_itemsMany 19 (.istore_n 3) 1 20 := ⟨by decide +kernel, rfl⟩
theorem dX12_itemsMany_20 : Dc cX12_itemsMany 20 (.iload_n 3) 1 21 := ⟨by decide +kernel, rfl⟩
theorem dX12_itemsMany_21 : Dc cX12_itemsMany 21 (.aload_n 0) 1 22 := ⟨by decide +kernel, rfl⟩
theorem dX12_itemsMany_22 : Dc cX12_itemsMany 22 (.getfield 305) 3 25 := ⟨by decide +kernel, rfl⟩
theorem djX12_itemsMany_25 : Dj cX12_itemsMany 25 (.if_icmp .gt 44) 3 28 44 69 := ⟨by decide +kernel, rfl, by decide⟩
theorem dX12_itemsMany_28 : Dc cX12_itemsMany 28 (.iconst 0) 1 29 := ⟨by decide +kernel, rfl⟩
theorem dX12_itemsMany_29 : Dc cX12_itemsMany 29 (.istore 4) 2 31 := ⟨by decide +kernel, rfl⟩
theorem dX12_itemsMany_31 : Dc cX12_itemsMany 31 (.iload 4) 2 33 := ⟨by decide +kernel, rfl⟩
theorem dX12_itemsMany_33 : Dc cX12_itemsMany 33 (.bipush 12) 2 35 := ⟨by decide +kernel, rfl⟩
theorem djX12_itemsMany_35 : Dj cX12_itemsMany 35 (.if_icmp .ge 28) 3 38 28 63 := ⟨by decide +kernel, rfl, by decide⟩
theorem dX12_itemsMany_38 : Dc cX12_itemsMany 38 (.iload_n 1) 1 39 := ⟨by decide +kernel, rfl⟩
theorem dX12_itemsMany_39 : Dc cX12_itemsMany 39 (.aload_n 0) 1 40 := ⟨by decide +kernel, rfl⟩
theorem dX12_itemsMany_40 : Dc cX12_itemsMany 40 (.iload 4) 2 42 := ⟨by decide +kernel, rfl⟩
theorem dX12_itemsMany_42 : Dc cX12_itemsMany 42 (.iload_n 2) 1 43 := ⟨by decide +kernel, rfl⟩
theorem dX12_itemsMany_43 : Dc cX12_itemsMany 43 (.iload_n 3) 1 44 := ⟨by decide +kernel, rfl⟩
theorem dX12_itemsMany_44 : Dc cX12_itemsMany 44 (.invokevirtual 324) 3 47 := ⟨by decide +kernel, rfl⟩
theorem djX12_itemsMany_47 : Dj cX12_itemsMany 47 (.ifCond .eq 7) 3 50 7 54 := ⟨by decide +kernel, rfl, by decide⟩
theorem dX12_itemsMany_50 : Dc cX12_itemsMany 50 (.iconst 1) 1 51 := ⟨by decide +kernel, rfl⟩
theorem djX12_itemsMany_51 : Dj cX12_itemsMany 51 (.goto 4) 3 54 4 55 := ⟨by decide +kernel, rfl, by decide⟩
theorem dX12_itemsMany_54 : Dc cX12_itemsMany 54 (.iconst 0) 1 55 := ⟨by decide +kernel, rfl⟩
theorem dX12_itemsMany_55 : Dc cX12_itemsMany 55 (.iadd) 1 56 := ⟨by decide +kernel, rfl⟩
theorem dX12_itemsMany_56 : Dc cX12_itemsMany 56 (.istore_n 1) 1 57 := ⟨by decide +kernel, rfl⟩
theorem dX12_itemsMany_57 : Dc cX12_itemsMany 57 (.iinc 4 1) 3 60 := ⟨by decide +kernel, rfl⟩
theorem djX12_itemsMany_60 : Dj cX12_itemsMany 60 (.goto (-29)) 3 63 (-29) 31 := ⟨by decide +kernel, rfl, by decide⟩
theorem dX12_itemsMany_63 : Dc cX12_itemsMany 63 (.iinc 3 1) 3 66 := ⟨by decide +kernel, rfl⟩
theorem djX12_itemsMany_66 : Dj cX12_itemsMany 66 (.goto (-46)) 3 69 (-46) 20 := ⟨by decide +kernel, rfl, by decide⟩
theorem dX12_itemsMany_69 : Dc cX12_itemsMany 69 (.iinc 2 1) 3 72 := ⟨by decide +kernel, rfl⟩
theorem djX12_itemsMany_72 : Dj cX12_itemsMany 72 (.goto (-64)) 3 75 (-64) 8 := ⟨by decide +kernel, rfl, by decide⟩
theorem dX12_itemsMany_75 : Dc cX12_itemsMany 75 (.iload_n 1) 1 76 := ⟨by decide +kernel, rfl⟩
theorem dX12_itemsMany_76 : Dc cX12_itemsMany 76 (.ireturn) 1 77 := ⟨by decide +kernel, rfl⟩
section
variable {p : Program} {l : Launch} {e : Env} {s : State} {m : MethodId} {args : Array Value} {below : List Frame} {meth : Method} {c : Code} {A0 : Nat → Prop} {D : va_G} {cA : Nat → ClassId} {ad : Nat → Nat} {Z : (Nat → Nat) × (Nat → Nat)} {Q : Int → St → Prop}
set_option maxHeartbeats 4000000 in
set_option maxRecDepth 100000 in
theorem t_X12_itemsMany_b55 (E : Ev p s m args meth c cX12_itemsMany 5 RX12 A0 D cA ad NR Z) (hr : meth.sig.returnType = (some .int)) {K8 : Int → Int → St → Prop} (hK8 : ∀ (x1 : Int) (x2 : Int) (σ : St), C32 x1 → C32 x2 → CanS shR NR σ → K8 x1 x2 σ → G p l e (rmL 7 0 0) s m args below meth c 5 A0 D cA ad shR NR 0 0 (MQ below (QIc D cA ad shR NR Q A0) args s 0 0 A0) σ 8 [some (.ref (ad 0)), some (vI x1), some (vI x2), none, none] []) {K20 : Int → Int → Int → St → Prop} (hK20 : ∀ (x1 : Int) (x2 : Int) (x3 : Int) (σ : St), C32 x1 → C32 x2 → C32 x3 → CanS shR NR σ → K20 x1 x2 x3 σ → G p l e (rmL 7 0 0) s m args below meth c 5 A0 D cA ad shR NR 0 0 (MQ below (QIc D cA ad shR NR Q A0) args s 0 0 A0) σ 20 [some (.ref (ad 0)), some (vI x1), some (vI x2), some (vI x3), none] []) {K31 : Int → Int → Int → Int → St → Prop} (hK31 : ∀ (x1 : Int) (x2 : Int) (x3 : Int) (x4 : Int) (σ : St), C32 x1 → C32 x2 → C32 x3 → C32 x4 → CanS shR NR σ → K31 x1 x2 x3 x4 σ → G p l e (rmL 7 0 0) s m args below meth c 5 A0 D cA ad shR NR 0 0 (MQ below (QIc D cA ad shR NR Q A0) args s 0 0 A0) σ 31 [some (.ref (ad 0)), some (vI x1), some (vI x2), some (vI x3), some (vI x4)] []) (x2 : Int) (x3 : Int) (x4 : Int) (s0 : Int) (s1 : Int) (σ : St) (c2 : C32 x2) (c3 : C32 x3) (c4 : C32 x4) (cs0 : C32 s0) (cs1 : C32 s1) (hσ : CanS shR NR σ) (h : wp_X12_itemsMany_b55 Q K8 K20 K31 x2 x3 x4 s0 s1 σ) : G p l e (rmL 7 0 0) s m args below meth c 5 A0 D cA ad shR NR 0 0 (MQ below (QIc D cA ad shR NR Q A0) args s 0 0 A0) σ 55 [some (.ref (ad 0)), none, some (vI x2), some (vI x3), some (vI x4)] [vI s0, vI s1] := by
  unfold wp_X12_itemsMany_b55 at h
  refine g_iadd E dX12_itemsMany_55 ?_
  refine g_nmI (fun v8 ev8 => ?_)
  replace h := h v8 ev8
  have cv8 : C32 v8 := by rw [ev8]; exact (c32_w _)
  refine g_istore_1 E rfl (by decide) dX12_itemsMany_56 ?_
  refine g_iinc_4 E rfl (by decide) dX12_itemsMany_57 (fun v9 ev9 => ?_)
  replace h := h v9 ev9
  have cv9 : C32 v9 := by rw [ev9]; exact c32_w _
  refine g_goto E djX12_itemsMany_60 ?_
  exact (hK31 v8 x2 x3 v9 σ cv8 c2 c3 cv9 hσ h).weak (w_k (w_k (w_k (w_k (w_k w_n)))))
set_option maxHeartbeats 4000000 in
set_option maxRecDepth 100000 in
theorem t_X12_itemsMany_l31 (E : Ev p s m args meth c cX12_itemsMany 5 RX12 A0 D cA ad NR Z) (hr : meth.sig.returnType = (some .int)) {K8 : Int → Int → St → Prop} (hK8 : ∀ (x1 : Int) (x2 : Int) (σ : St), C32 x1 → C32 x2 → CanS shR NR σ → K8 x1 x2 σ → G p l e (rmL 7 0 0) s m args below meth c 5 A0 D cA ad shR NR 0 0 (MQ below (QIc D cA ad shR NR Q A0) args s 0 0 A0) σ 8 [some (.ref (ad 0)), some (vI x1), some (vI x2), none, none] []) {K20 : Int → Int → Int → St → Prop} (hK20 : ∀ (x1 : Int) (x2 : Int) (x3 : Int) (σ : St), C32 x1 → C32 x2 → C32 x3 → CanS shR NR σ → K20 x1 x2 x3 σ → G p l e (rmL 7 0 0) s m args below meth c 5 A0 D cA ad shR NR 0 0 (MQ below (QIc D cA ad shR NR Q A0) args s 0 0 A0) σ 20 [some (.ref (ad 0)), some (vI x1), some (vI x2), some (vI x3), none] []) : ∀ (n : Nat) (x1 : Int) (x2 : Int) (x3 : Int) (x4 : Int) (σ : St), C32 x1 → C32 x2 → C32 x3 → C32 x4 → CanS shR NR σ → wp_X12_itemsMany_l31 Q K8 K20 n x1 x2 x3 x4 σ → G p l e (rmL 7 0 0) s m args below meth c 5 A0 D cA ad shR NR 0 0 (MQ below (QIc D cA ad shR NR Q A0) args s 0 0 A0) σ 31 [some (.ref (ad 0)), some (vI x1), some (vI x2), some (vI x3), some (vI x4)] [] := by
  intro n
  induction n with
  | zero => intro _ _ _ _ _ _ _ _ _ _ h; exact h.elim
  | succ n ih =>
    intro x1 x2 x3 x4 σ c1 c2 c3 c4 hσ h
    unfold wp_X12_itemsMany_l31 at h
    refine g_iload_4 E dX12_itemsMany_31 ?_
    refine g_bipush E (by decide) dX12_itemsMany_33 ?_
    refine g_icmp_ge E c4 cl_12 djX12_itemsMany_35 (fun hc => ?_) (fun hc => ?_)
    · replace h := h.1 hc
      refine g_iinc_3 E rfl (by decide) dX12_itemsMany_63 (fun v5 ev5 => ?_)
      replace h := h v5 ev5
      have cv5 : C32 v5 := by rw [ev5]; exact c32_w _
      refine g_goto E djX12_itemsMany_66 ?_
      exact (hK20 x1 x2 v5 σ c1 c2 cv5 hσ h).weak (w_k (w_k (w_k (w_k (w_d w_n)))))
    · replace h := h.2 hc
      refine g_iload_1 E dX12_itemsMany_38 ?_
      refine g_aload_0 E dX12_itemsMany_39 ?_
      refine g_iload_4 E dX12_itemsMany_40 ?_
      refine g_iload_2 E dX12_itemsMany_42 ?_
      refine g_iload_3 E dX12_itemsMany_43 ?_
      refine g_callvI E my_X12_has mi_X12_has msel_X12_has ml_RX12_324 (rm_ok (by decide) (by decide)) ⟨Nat.zero_le _, Nat.zero_le _⟩ kR_0 sR_0 rfl (m_X12_has E.2.2.1 c4 c2 c3 hσ h) rfl rfl (Nat.le_of_ble_eq_true rfl) dX12_itemsMany_44 (fun r6 σ7 cr6 hσ7 h => ?_)
      refine g_if_eq E cr6 djX12_itemsMany_47 (fun hc => ?_) (fun hc => ?_)
      · replace h := h.1 hc
        refine g_iconst E dX12_itemsMany_54 ?_
        exact (t_X12_itemsMany_b55 E hr hK8 hK20 ih x2 x3 x4 0 x1 σ7 c2 c3 c4 cl_0 c1 hσ7 h).weak (w_k (w_d (w_k (w_k (w_k w_n)))))
      · replace h := h.2 hc
        refine g_iconst E dX12_itemsMany_50 ?_
        refine g_goto E djX12_itemsMany_51 ?_
        exact (t_X12_itemsMany_b55 E hr hK8 hK20 ih x2 x3 x4 1 x1 σ7 c2 c3 c4 cl_1 c1 hσ7 h).weak (w_k (w_d (w_k (w_k (w_k w_n)))))
set_option maxHeartbeats 4000000 in
set_option maxRecDepth 100000 in
theorem t_X12_itemsMany_l20 (E : Ev p s m args meth c cX12_itemsMany 5 RX12 A0 D cA ad NR Z) (hr : meth.sig.returnType = (some .int)) {K8 : Int → Int → St → Prop} (hK8 : ∀ (x1 : Int) (x2 : Int) (σ : St), C32 x1 → C32 x2 → CanS shR NR σ → K8 x1 x2 σ → G p l e (rmL 7 0 0) s m args below meth c 5 A0 D cA ad shR NR 0 0 (MQ below (QIc D cA ad shR NR Q A0) args s 0 0 A0) σ 8 [some (.ref (ad 0)), some (vI x1), some (vI x2), none, none] []) : ∀ (n : Nat) (x1 : Int) (x2 : Int) (x3 : Int) (σ : St), C32 x1 → C32 x2 → C32 x3 → CanS shR NR σ → wp_X12_itemsMany_l20 Q K8 n x1 x2 x3 σ → G p l e (rmL 7 0 0) s m args below meth c 5 A0 D cA ad shR NR 0 0 (MQ below (QIc D cA ad shR NR Q A0) args s 0 0 A0) σ 20 [some (.ref (ad 0)), some (vI x1), some (vI x2), some (vI x3), none] [] := by
  intro n
  induction n with
  | zero => intro _ _ _ _ _ _ _ _ h; exact h.elim
  | succ n ih =>
    intro x1 x2 x3 σ c1 c2 c3 hσ h
    unfold wp_X12_itemsMany_l20 at h
    refine g_iload_3 E dX12_itemsMany_20 ?_
    refine g_aload_0 E dX12_itemsMany_21 ?_
    refine g_getI E fl_RX12_305 kR_0 sR_0 rfl dX12_itemsMany_22 ?_
    refine g_icmp_gt E c3 (fR_0_27 hσ) djX12_itemsMany_25 (fun hc => ?_) (fun hc => ?_)
    · replace h := h.1 hc
      refine g_iinc_2 E rfl (by decide) dX12_itemsMany_69 (fun v4 ev4 => ?_)
      replace h := h v4 ev4
      have cv4 : C32 v4 := by rw [ev4]; exact c32_w _
      refine g_goto E djX12_itemsMany_72 ?_
      exact (hK8 x1 v4 σ c1 cv4 hσ h).weak (w_k (w_k (w_k (w_d (w_d w_n)))))
    · replace h := h.2 hc
      refine g_iconst E dX12_itemsMany_28 ?_
      refine g_istore_4 E rfl (by decide) dX12_itemsMany_29 ?_
      exact (t_X12_itemsMany_l31 E hr hK8 ih bigN x1 x2 x3 0 σ c1 c2 c3 cl_0 hσ h).weak (w_k (w_k (w_k (w_k (w_k w_n)))))
set_option maxHeartbeats 4000000 in
set_option maxRecDepth 100000 in
theorem t_X12_itemsMany_l8 (E : Ev p s m args meth c cX12_itemsMany 5 RX12 A0 D cA ad NR Z) (hr : meth.sig.returnType = (some .int)) : ∀ (n : Nat) (x1 : Int) (x2 : Int) (σ : St), C32 x1 → C32 x2 → CanS shR NR σ → wp_X12_itemsMany_l8 Q n x1 x2 σ → G p l e (rmL 7 0 0) s m args below meth c 5 A0 D cA ad shR NR 0 0 (MQ below (QIc D cA ad shR NR Q A0) args s 0 0 A0) σ 8 [some (.ref (ad 0)), some (vI x1), some (vI x2), none, none] [] := by
  intro n
  induction n with
  | zero => intro _ _ _ _ _ _ h; exact h.elim
  | succ n ih =>
    intro x1 x2 σ c1 c2 hσ h
    unfold wp_X12_itemsMany_l8 at h
    refine g_iload_2 E dX12_itemsMany_8 ?_
    refine g_aload_0 E dX12_itemsMany_9 ?_
    refine g_getI E fl_RX12_305 kR_0 sR_0 rfl dX12_itemsMany_10 ?_
    refine g_icmp_ge E c2 (fR_0_27 hσ) djX12_itemsMany_13 (fun hc => ?_) (fun hc => ?_)
    · replace h := h.1 hc
      refine g_iload_1 E dX12_itemsMany_75 ?_
      exact g_iret E hr c1 h hσ dX12_itemsMany_76
    · replace h := h.2 hc
      refine g_iload_2 E dX12_itemsMany_16 ?_
      refine g_iconst E dX12_itemsMany_17 ?_
      refine g_iadd E dX12_itemsMany_18 ?_
      refine g_nmI (fun v3 ev3 => ?_)
      replace h := h v3 ev3
      have cv3 : C32 v3 := by rw [ev3]; exact (c32_w _)
      refine g_istore_3 E rfl (by decide) dX12_itemsMany_19 ?_
      exact (t_X12_itemsMany_l20 E hr ih bigN x1 x2 v3 σ c1 c2 cv3 hσ h).weak (w_k (w_k (w_k (w_k (w_d w_n)))))
set_option maxHeartbeats 4000000 in
set_option maxRecDepth 100000 in
theorem t_X12_itemsMany (E : Ev p s m args meth c cX12_itemsMany 5 RX12 A0 D cA ad NR Z) (hr : meth.sig.returnType = (some .int)) (σ : St) (hσ : CanS shR NR σ) (h : wp_X12_itemsMany  σ Q) : G p l e (rmL 7 0 0) s m args below meth c 5 A0 D cA ad shR NR 0 0 (MQ below (QIc D cA ad shR NR Q A0) args s 0 0 A0) σ 0 [some (.ref (ad 0)), none, none, none, none] [] := by
  unfold wp_X12_itemsMany at h
  refine g_aload_0 E dX12_itemsMany_0 ?_
  refine g_callvV E my_X12_looks mi_X12_looks msel_X12_looks ml_RX12_321 (rm_ok (by decide) (by decide)) ⟨Nat.zero_le _, Nat.zero_le _⟩ kR_0 sR_0 rfl (m_X12_looks E.2.2.1 hσ h) rfl rfl (Nat.le_of_ble_eq_true rfl) dX12_itemsMany_1 (fun σ2 r1 hσ2 h => ?_)
  refine g_iconst E dX12_itemsMany_4 ?_
  refine g_istore_1 E rfl (by decide) dX12_itemsMany_5 ?_
  refine g_iconst E dX12_itemsMany_6 ?_
  refine g_istore_2 E rfl (by decide) dX12_itemsMany_7 ?_
  exact (t_X12_itemsMany_l8 E hr bigN 0 0 σ2 cl_0 cl_0 hσ2 h).weak (w_k (w_k (w_k (w_d (w_d w_n)))))
end
theorem m_X12_itemsMany {Z : (Nat → Nat) × (Nat → Nat)} {l : Launch} {D : va_G} {cA : Nat → ClassId} {ad : Nat → Nat} {σ : St} {Q : Int → St → Prop} (hA : AdOk NR ad) (hσ : CanS shR NR σ) (h : wp_X12_itemsMany  σ Q) : KtI Z l D cA ad shR NR yX12_itemsMany cX12_itemsMany 5 (some .int) 7 [.ref (ad 0)] σ Q :=
  KtI.of my_X12_itemsMany hA [some (.ref (ad 0)), none, none, none, none] (Nat.le_of_ble_eq_true rfl) rfl (fun p e s m args below meth c A0 E hr => t_X12_itemsMany E hr σ hσ h)
theorem dX12_order_0 : Dc cX12_order 0 (.iload_n 0) 1 1 := ⟨by decide +kernel, rfl⟩
theorem dX12_order_1 : Dc cX12_order 1 (.i2l) 1 2 := ⟨by decide +kernel, rfl⟩
theorem dX12_order_2 : Dc cX12_order 2 (.ldc2_w 463) 3 5 := ⟨by decide +kernel, rfl⟩
theorem dX12_order_5 : Dc cX12_order 5 (.lmul) 1 6 := ⟨by decide +kernel, rfl⟩
theorem dX12_order_6 : Dc cX12_order 6 (.iload_n 3) 1 7 := ⟨by decide +kernel, rfl⟩
theorem dX12_order_7 : Dc cX12_order 7 (.i2l) 1 8 := ⟨by decide +kernel, rfl⟩
theorem dX12_order_8 : Dc cX12_order 8 (.ladd) 1 9 := ⟨by decide +kernel, rfl⟩
theorem dX12_order_9 : Dc cX12_order 9 (.iload_n 2) 1 10 := ⟨by decide +kernel, rfl⟩
theorem dX12_order_10 : Dc cX12_order 10 (.i2l) 1 11 := ⟨by decide +kernel, rfl⟩
theorem dX12_order_11 : Dc cX12_order 11 (.lsub) 1 12 := ⟨by decide +kernel, rfl⟩
theorem dX12_order_12 : Dc cX12_order 12 (.ldc2_w 463) 3 15 := ⟨by decide +kernel, rfl⟩
theorem dX12_order_15 : Dc cX12_order 15 (.lmul) 1 16 := ⟨by decide +kernel, rfl⟩
theorem dX12_order_16 : Dc cX12_order 16 (.iload_n 2) 1 17 := ⟨by decide +kernel, rfl⟩
theorem dX12_order_17 : Dc cX12_order 17 (.i2l) 1 18 := ⟨by decide +kernel, rfl⟩
theorem dX12_order_18 : Dc cX12_order 18 (.ladd) 1 19 := ⟨by decide +kernel, rfl⟩
theorem dX12_order_19 : Dc cX12_order 19 (.ldc2_w 463) 3 22 := ⟨by decide +kernel, rfl⟩
theorem dX12_order_22 : Dc cX12_order 22 (.lmul) 1 23 := ⟨by decide +kernel, rfl⟩
theorem dX12_order_23 : Dc cX12_order 23 (.iload_n 1) 1 24 := ⟨by decide +kernel, rfl⟩
theorem dX12_order_24 : Dc cX12_order 24 (.i2l) 1 25 := ⟨by decide +kernel, rfl⟩
theorem dX12_order_25 : Dc cX12_order 25 (.ladd) 1 26 := ⟨by decide +kernel, rfl⟩
theorem dX12_order_26 : Dc cX12_order 26 (.lreturn) 1 27 := ⟨by decide +kernel, rfl⟩
section
variable {p : Program} {l : Launch} {e : Env} {s : State} {m : MethodId} {args : Array Value} {below : List Frame} {meth : Method} {c : Code} {A0 : Nat → Prop} {D : va_G} {cA : Nat → ClassId} {ad : Nat → Nat} {Z : (Nat → Nat) × (Nat → Nat)} {Q : Int → St → Prop}
set_option maxHeartbeats 4000000 in
set_option maxRecDepth 100000 in
theorem t_X12_order (E : Ev p s m args meth c cX12_order 4 RX12 A0 D cA ad NR Z) (hr : meth.sig.returnType = (some .long)) (x0 : Int) (x1 : Int) (x2 : Int) (x3 : Int) (σ : St) (c0 : C32 x0) (c1 : C32 x1) (c2 : C32 x2) (c3 : C32 x3) (hσ : CanS shR NR σ) (h : wp_X12_order x0 x1 x2 x3 σ Q) : G p l e (rmL 1 0 0) s m args below meth c 4 A0 D cA ad shR NR 0 0 (MQ below (QLc D cA ad shR NR Q A0) args s 0 0 A0) σ 0 [some (vI x0), some (vI x1), some (vI x2), some (vI x3)] [] := by
  unfold wp_X12_order at h
  refine g_iload_0 E dX12_order_0 ?_
  refine g_i2l E c0 dX12_order_1 ?_
  refine g_ldc2 (n := 16) E wc_RX12_463 dX12_order_2 ?_
  refine g_lmul E dX12_order_5 ?_
  refine g_iload_3 E dX12_order_6 ?_
  refine g_i2l E c3 dX12_order_7 ?_
  refine g_ladd E dX12_order_8 ?_
  refine g_iload_2 E dX12_order_9 ?_
  refine g_i2l E c2 dX12_order_10 ?_
  refine g_lsub E dX12_order_11 ?_
  refine g_ldc2 (n := 16) E wc_RX12_463 dX12_order_12 ?_
  refine g_lmul E dX12_order_15 ?_
  refine g_iload_2 E dX12_order_16 ?_
  refine g_i2l E c2 dX12_order_17 ?_
  refine g_ladd E dX12_order_18 ?_
  refine g_ldc2 (n := 16) E wc_RX12_463 dX12_order_19 ?_
  refine g_lmul E dX12_order_22 ?_
  refine g_iload_1 E dX12_order_23 ?_
  refine g_i2l E c1 dX12_order_24 ?_
  refine g_ladd E dX12_order_25 ?_
  exact g_lret E hr (c64_w _) h hσ dX12_order_26
end
theorem m_X12_order {Z : (Nat → Nat) × (Nat → Nat)} {l : Launch} {D : va_G} {cA : Nat → ClassId} {ad : Nat → Nat} {x0 x1 x2 x3 : Int} {σ : St} {Q : Int → St → Prop} (hA : AdOk NR ad) (c0 : C32 x0) (c1 : C32 x1) (c2 : C32 x2) (c3 : C32 x3) (hσ : CanS shR NR σ) (h : wp_X12_order x0 x1 x2 x3 σ Q) : KtL Z l D cA ad shR NR yX12_order cX12_order 4 (some .long) 1 [vI x0, vI x1, vI x2, vI x3] σ Q :=
  KtL.of my_X12_order hA [some (vI x0), some (vI x1), some (vI x2), some (vI x3)] (Nat.le_of_ble_eq_true rfl) rfl (fun p e s m args below meth c A0 E hr => t_X12_order E hr x0 x1 x2 x3 σ c0 c1 c2 c3 hσ h)
theorem dX12_settled_0 : Dc cX12_settled 0 (.iload_n 1) 1 1 := ⟨by decide +kernel, rfl⟩
theorem djX12_settled_1 : Dj cX12_settled 1 (.ifCond .lt 15) 3 4 15 16 := ⟨by decide +kernel, rfl, by decide⟩
theorem dX12_settled_4 : Dc cX12_settled 4 (.iload_n 2) 1 5 := ⟨by decide +kernel, rfl⟩
theorem dX12_settled_5 : Dc cX12_settled 5 (.i2l) 1 6 := ⟨by decide +kernel, rfl⟩
theorem dX12_settled_6 : Dc cX12_settled 6 (.lconst 0) 1 7 := ⟨by decide +kernel, rfl⟩
theorem dX12_settled_7 : Dc cX12_settled 7 (.ldc2_w 465) 3 10 := ⟨by decide +kernel, rfl⟩
theorem dX12_settled_10 : Dc cX12_settled 10 (.invokestatic 148) 3 13 := ⟨by decide +kernel, rfl⟩
theorem djX12_settled_13 : Dj cX12_settled 13 (.ifCond .ne 6) 3 16 6 19 := ⟨by decide +kernel, rfl, by decide⟩
theorem dX12_settled_16 : Dc cX12_settled 16 (.bipush (-2)) 2 18 := ⟨by decide +kernel, rfl⟩
theorem dX12_settled_18 : Dc cX12_settled 18 (.ireturn) 1 19 := ⟨by decide +kernel, rfl⟩
theorem dX12_settled_19 : Dc cX12_settled 19 (.iload_n 1) 1 20 := ⟨by decide +kernel, rfl⟩
theorem dX12_settled_20 : Dc cX12_settled 20 (.aload_n 0) 1 21 := ⟨by decide +kernel, rfl⟩
theorem dX12_settled_21 : Dc cX12_settled 21 (.invokevirtual 467) 3 24 := ⟨by decide +kernel, rfl⟩
theorem djX12_settled_24 : Dj cX12_settled 24 (.if_icmp .lt 5) 3 27 5 29 := ⟨by decide +kernel, rfl, by decide⟩
theorem dX12_settled_27 : Dc cX12_settled 27 (.iconst (-1)) 1 28 := ⟨by decide +kernel, rfl⟩
theorem dX12_settled_28 : Dc cX12_settled 28 (.ireturn) 1 29 := ⟨by decide +kernel, rfl⟩
theorem dX12_settled_29 : Dc cX12_settled 29 (.ldc2_w 275) 3 32 := ⟨by decide +kernel, rfl⟩
theorem dX12_settled_32 : Dc cX12_settled 32 (.lstore_n 3) 1 33 := ⟨by decide +kernel, rfl⟩
theorem dX12_settled_33 : Dc cX12_settled 33 (.iconst 0) 1 34 := ⟨by decide +kernel, rfl⟩
theorem dX12_settled_34 : Dc cX12_settled 34 (.istore 5) 2 36 := ⟨by decide +kernel, rfl⟩
theorem dX12_settled_36 : Dc cX12_settled 36 (.iload 5) 2 38 := ⟨by decide +kernel, rfl⟩
theorem dX12_settled_38 : Dc cX12_settled 38 (.iload_n 1) 1 39 := ⟨by decide +kernel, rfl⟩
theorem djX12_settled_39 : Dj cX12_settled 39 (.if_icmp .gt 126) 3 42 126 165 := ⟨by decide +kernel, rfl, by decide⟩
theorem dX12_settled_42 : Dc cX12_settled 42 (.ldc2_w 472) 3 45 := ⟨by decide +kernel, rfl⟩
theorem dX12_settled_45 : Dc cX12_settled 45 (.lstore 6) 2 47 := ⟨by decide +kernel, rfl⟩
theorem dX12_settled_47 : Dc cX12_settled 47 (.iconst 0) 1 48 := ⟨by decide +kernel, rfl⟩
theorem dX12_settled_48 : Dc cX12_settled 48 (.istore 8) 2 50 := ⟨by decide +kernel, rfl⟩
theorem dX12_settled_50 : Dc cX12_settled 50 (.iload 8) 2 52 := ⟨by decide +kernel, rfl⟩
theorem dX12_settled_52 : Dc cX12_settled 52 (.aload_n 0) 1 53 := ⟨by decide +kernel, rfl⟩
theorem dX12_settled_53 : Dc cX12_settled 53 (.getfield 305) 3 56 := ⟨by decide +kernel, rfl⟩
theorem djX12_settled_56 : Dj cX12_settled 56 (.if_icmp .ge 100) 3 59 100 156 := ⟨by decide +kernel, rfl, by decide⟩
theorem dX12_settled_59 : Dc cX12_settled 59 (.iload 8) 2 61 := ⟨by decide +kernel, rfl⟩
theorem dX12_settled_61 : Dc cX12_settled 61 (.iconst 1) 1 62 := ⟨by decide +kernel, rfl⟩
theorem dX12_settled_62 : Dc cX12_settled 62 (.iadd) 1 63 := ⟨by decide +kernel, rfl⟩
theorem dX12_settled_63 : Dc cX12_settled 63 (.istore 9) 2 65 := ⟨by decide +kernel, rfl⟩
theorem dX12_settled_65 : Dc cX12_settled 65 (.iload 9) 2 67 := ⟨by decide +kernel, rfl⟩
theorem dX12_settled_67 : Dc cX12_settled 67 (.aload_n 0) 1 68 := ⟨by decide +kernel, rfl⟩
theorem dX12_settled_68 : Dc cX12_settled 68 (.getfield 305) 3 71 := ⟨by decide +kernel, rfl⟩
theorem djX12_settled_71 : Dj cX12_settled 71 (.if_icmp .gt 79) 3 74 79 150 := ⟨by decide +kernel, rfl, by decide⟩
theorem dX12_settled_74 : Dc cX12_settled 74 (.iconst 0) 1 75 := ⟨by decide +kernel, rfl⟩
theorem dX12_settled_75 : Dc cX12_settled 75 (.istore 10) 2 77 := ⟨by decide +kernel, rfl⟩
theorem dX12_settled_77 : Dc cX12_settled 77 (.iload 10) 2 79 := ⟨by decide +kernel, rfl⟩
theorem dX12_settled_79 : Dc cX12_settled 79 (.bipush 12) 2 81 := ⟨by decide +kernel, rfl⟩
theorem djX12_settled_81 : Dj cX12_settled 81 (.if_icmp .ge 63) 3 84 63 144 := ⟨by decide +kernel, rfl, by decide⟩
theorem dX12_settled_84 : Dc cX12_settled 84 (.aload_n 0) 1 85 := ⟨by decide +kernel, rfl⟩
theorem dX12_settled_85 : Dc cX12_settled 85 (.getfield 60) 3 88 := ⟨by decide +kernel, rfl⟩
theorem dX12_settled_88 : Dc cX12_settled 88 (.iload 10) 2 90 := ⟨by decide +kernel, rfl⟩
theorem dX12_settled_90 : Dc cX12_settled 90 (.iload 8) 2 92 := ⟨by decide +kernel, rfl⟩
theorem dX12_settled_92 : Dc cX12_settled 92 (.iload 9) 2 94 := ⟨by decide +kernel, rfl⟩
theorem dX12_settled_94 : Dc cX12_settled 94 (.invokestatic 282) 3 97 := ⟨by decide +kernel, rfl⟩
theorem dX12_settled_97 : Dc cX12_settled 97 (.iaload) 1 98 := ⟨by decide +kernel, rfl⟩
theorem dX12_settled_98 : Dc cX12_settled 98 (.iload 10) 2 100 := ⟨by decide +kernel, rfl⟩
theorem dX12_settled_100 : Dc cX12_settled 100 (.iload 8) 2 102 := ⟨by decide +kernel, rfl⟩
theorem dX12_settled_102 : Dc cX12_settled 102 (.iload 9) 2 104 := ⟨by decide +kernel, rfl⟩
theorem dX12_settled_104 : Dc cX12_settled 104 (.invokestatic 474) 3 107 := ⟨by decide +kernel, rfl⟩
theorem dX12_settled_107 : Dc cX12_settled 107 (.lstore 11) 2 109 := ⟨by decide +kernel, rfl⟩
theorem dX12_settled_109 : Dc cX12_settled 109 (.aload_n 0) 1 110 := ⟨by decide +kernel, rfl⟩
theorem dX12_settled_110 : Dc cX12_settled 110 (.iload 10) 2 112 := ⟨by decide +kernel, rfl⟩
theorem dX12_settled_112 : Dc cX12_settled 112 (.iload 8) 2 114 := ⟨by decide +kernel, rfl⟩
theorem dX12_settled_114 : Dc cX12_settled 114 (.iload 9) 2 116 := ⟨by decide +kernel, rfl⟩
theorem dX12_settled_116 : Dc cX12_settled 116 (.invokevirtual 324) 3 119 := ⟨by decide +kernel, rfl⟩
theorem djX12_settled_119 : Dj cX12_settled 119 (.ifCond .eq 19) 3 122 19 138 := ⟨by decide +kernel, rfl, by decide⟩
theorem dX12_settled_122 : Dc cX12_settled 122 (.lload 11) 2 124 := ⟨by decide +kernel, rfl⟩
theorem dX12_settled_124 : Dc cX12_settled 124 (.lload_n 3) 1 125 := ⟨by decide +kernel, rfl⟩
theorem dX12_settled_125 : Dc cX12_settled 125 (.lcmp) 1 126 := ⟨by decide +kernel, rfl⟩
theorem djX12_settled_126 : Dj cX12_settled 126 (.ifCond .le 12) 3 129 12 138 := ⟨by decide +kernel, rfl, by decide⟩
theorem dX12_settled_129 : Dc cX12_settled 129 (.lload 6) 2 131 := ⟨by decide +kernel, rfl⟩
theorem dX12_settled_131 : Dc cX12_settled 131 (.lload 11) 2 133 := ⟨by decide +kernel, rfl⟩
theorem dX12_settled_133 : Dc cX12_settled 133 (.invokestatic 329) 3 136 := ⟨by decide +kernel, rfl⟩
theorem dX12_settled_136 : Dc cX12_settled 136 (.lstore 6) 2 138 := ⟨by decide +kernel, rfl⟩
theorem dX12_settled_138 : Dc cX12_settled 138 (.iinc 10 1) 3 141 := ⟨by decide +kernel, rfl⟩
theorem djX12_settled_141 : Dj cX12_settled 141 (.goto (-64)) 3 144 (-64) 77 := ⟨by decide +kernel, rfl, by decide⟩
theorem dX12_settled_144 : Dc cX12_settled 144 (.iinc 9 1) 3 147 := ⟨by decide +kernel, rfl⟩
theorem djX12_settled_147 : Dj cX12_settled 147 (.goto (-82)) 3 150 (-82) 65 := ⟨by decide +kernel, rfl, by decide⟩
theorem dX12_settled_150 : Dc cX12_settled 150 (.iinc 8 1) 3 153 := ⟨by decide +kernel, rfl⟩
theorem djX12_settled_153 : Dj cX12_settled 153 (.goto (-103)) 3 156 (-103) 50 := ⟨by decide +kernel, rfl, by decide⟩
theorem dX12_settled_156 : Dc cX12_settled 156 (.lload 6) 2 158 := ⟨by decide +kernel, rfl⟩
theorem dX12_settled_158 : Dc cX12_settled 158 (.lstore_n 3) 1 159 := ⟨by decide +kernel, rfl⟩
theorem dX12_settled_159 : Dc cX12_settled 159 (.iinc 5 1) 3 162 := ⟨by decide +kernel, rfl⟩
theorem djX12_settled_162 : Dj cX12_settled 162 (.goto (-126)) 3 165 (-126) 36 := ⟨by decide +kernel, rfl, by decide⟩
theorem dX12_settled_165 : Dc cX12_settled 165 (.lload_n 3) 1 166 := ⟨by decide +kernel, rfl⟩
theorem dX12_settled_166 : Dc cX12_settled 166 (.iconst 4) 1 167 := ⟨by decide +kernel, rfl⟩
theorem dX12_settled_167 : Dc cX12_settled 167 (.lshr) 1 168 := ⟨by decide +kernel, rfl⟩
theorem dX12_settled_168 : Dc cX12_settled 168 (.ldc2_w 478) 3 171 := ⟨by decide +kernel, rfl⟩
theorem dX12_settled_171 : Dc cX12_settled 171 (.land) 1 172 := ⟨by decide +kernel, rfl⟩
theorem dX12_settled_172 : Dc cX12_settled 172 (.l2i) 1 173 := ⟨by decide +kernel, rfl⟩
theorem dX12_settled_173 : Dc cX12_settled 173 (.istore 5) 2 175 := ⟨by decide +kernel, rfl⟩
theorem dX12_settled_175 : Dc cX12_settled 175 (.iload_n 2) 1 176 := ⟨by decide +kernel, rfl⟩
theorem djX12_settled_176 : Dj cX12_settled 176 (.ifCond .ne 12) 3 179 12 188 := ⟨by decide +kernel, rfl, by decide⟩
theorem dX12_settled_179 : Dc cX12_settled 179 (.lload_n 3) 1 180 := ⟨by decide +kernel, rfl⟩
theorem dX12_settled_180 : Dc cX12_settled 180 (.ldc2_w 478) 3 183 := ⟨by decide +kernel, rfl⟩
theorem dX12_settled_183 : Dc cX12_settled 183 (.land) 1 184 := ⟨by decide +kernel, rfl⟩
theorem dX12_settled_184 : Dc cX12_settled 184 (.l2i) 1 185 := ⟨by decide +kernel, rfl⟩
theorem djX12_settled_185 : Dj cX12_settled 185 (.goto 38) 3 188 38 223 := ⟨by decide +kernel, rfl, by decide⟩
theorem dX12_settled_188 : Dc cX12_settled 188 (.iload_n 2) 1 189 := ⟨by decide +kernel, rfl⟩
theorem dX12_settled_189 : Dc cX12_settled 189 (.iconst 1) 1 190 := ⟨by decide +kernel, rfl⟩
theorem djX12_settled_190 : Dj cX12_settled 190 (.if_icmp .ne 8) 3 193 8 198 := ⟨by decide +kernel, rfl, by decide⟩
theorem dX12_settled_193 : Dc cX12_settled 193 (.iload 5) 2 195 := ⟨by decide +kernel, rfl⟩
theorem djX12_settled_195 : Dj cX12_settled 195 (.goto 28) 3 198 28 223 := ⟨by decide +kernel, rfl, by decide⟩
theorem dX12_settled_198 : Dc cX12_settled 198 (.iload_n 2) 1 199 := ⟨by decide +kernel, rfl⟩
theorem dX12_settled_199 : Dc cX12_settled 199 (.iconst 2) 1 200 := ⟨by decide +kernel, rfl⟩
theorem djX12_settled_200 : Dj cX12_settled 200 (.if_icmp .ne 18) 3 203 18 218 := ⟨by decide +kernel, rfl, by decide⟩
theorem dX12_settled_203 : Dc cX12_settled 203 (.iload 5) 2 205 := ⟨by decide +kernel, rfl⟩
theorem dX12_settled_205 : Dc cX12_settled 205 (.lload_n 3) 1 206 := ⟨by decide +kernel, rfl⟩
theorem dX12_settled_206 : Dc cX12_settled 206 (.bipush 8) 2 208 := ⟨by decide +kernel, rfl⟩
theorem dX12_settled_208 : Dc cX12_settled 208 (.lshr) 1 209 := ⟨by decide +kernel, rfl⟩
theorem dX12_settled_209 : Dc cX12_settled 209 (.ldc2_w 478) 3 212 := ⟨by decide +kernel, rfl⟩
theorem dX12_settled_212 : Dc cX12_settled 212 (.land) 1 213 := ⟨by decide +kernel, rfl⟩
theorem dX12_settled_213 : Dc cX12_settled 213 (.l2i) 1 214 := ⟨by decide +kernel, rfl⟩
theorem dX12_settled_214 : Dc cX12_settled 214 (.iadd) 1 215 := ⟨by decide +kernel, rfl⟩
theorem djX12_settled_215 : Dj cX12_settled 215 (.goto 8) 3 218 8 223 := ⟨by decide +kernel, rfl, by decide⟩
theorem dX12_settled_218 : Dc cX12_settled 218 (.lload_n 3) 1 219 := ⟨by decide +kernel, rfl⟩
theorem dX12_settled_219 : Dc cX12_settled 219 (.bipush 12) 2 221 := ⟨by decide +kernel, rfl⟩
theorem dX12_settled_221 : Dc cX12_settled 221 (.lshr) 1 222 := ⟨by decide +kernel, rfl⟩
theorem dX12_settled_222 : Dc cX12_settled 222 (.l2i) 1 223 := ⟨by decide +kernel, rfl⟩
theorem dX12_settled_223 : Dc cX12_settled 223 (.ireturn) 1 224 := ⟨by decide +kernel, rfl⟩
section
variable {p : Program} {l : Launch} {e : Env} {s : State} {m : MethodId} {args : Array Value} {below : List Frame} {meth : Method} {c : Code} {A0 : Nat → Prop} {D : va_G} {cA : Nat → ClassId} {ad : Nat → Nat} {Z : (Nat → Nat) × (Nat → Nat)} {Q : Int → St → Prop}
set_option maxHeartbeats 4000000 in
set_option maxRecDepth 100000 in
theorem t_X12_settled_b138 (E : Ev p s m args meth c cX12_settled 13 RX12 A0 D cA ad NR Z) (hr : meth.sig.returnType = (some .int)) {K36 : Int → Int → Int → Int → St → Prop} (hK36 : ∀ (x1 : Int) (x2 : Int) (x3 : Int) (x5 : Int) (σ : St), C32 x1 → C32 x2 → C64 x3 → C32 x5 → CanS shR NR σ → K36 x1 x2 x3 x5 σ → G p l e (rmL 8 0 0) s m args below meth c 13 A0 D cA ad shR NR 0 0 (MQ below (QIc D cA ad shR NR Q A0) args s 0 0 A0) σ 36 [some (.ref (ad 0)), some (vI x1), some (vI x2), some (vL x3), none, some (vI x5), none, none, none, none, none, none, none] []) {K50 : Int → Int → Int → Int → Int → Int → St → Prop} (hK50 : ∀ (x1 : Int) (x2 : Int) (x3 : Int) (x5 : Int) (x6 : Int) (x8 : Int) (σ : St), C32 x1 → C32 x2 → C64 x3 → C32 x5 → C64 x6 → C32 x8 → CanS shR NR σ → K50 x1 x2 x3 x5 x6 x8 σ → G p l e (rmL 8 0 0) s m args below meth c 13 A0 D cA ad shR NR 0 0 (MQ below (QIc D cA ad shR NR Q A0) args s 0 0 A0) σ 50 [some (.ref (ad 0)), some (vI x1), some (vI x2), some (vL x3), none, some (vI x5), some (vL x6), none, some (vI x8), none, none, none, none] []) {K65 : Int → Int → Int → Int → Int → Int → Int → St → Prop} (hK65 : ∀ (x1 : Int) (x2 : Int) (x3 : Int) (x5 : Int) (x6 : Int) (x8 : Int) (x9 : Int) (σ : St), C32 x1 → C32 x2 → C64 x3 → C32 x5 → C64 x6 → C32 x8 → C32 x9 → CanS shR NR σ → K65 x1 x2 x3 x5 x6 x8 x9 σ → G p l e (rmL 8 0 0) s m args below meth c 13 A0 D cA ad shR NR 0 0 (MQ below (QIc D cA ad shR NR Q A0) args s 0 0 A0) σ 65 [some (.ref (ad 0)), some (vI x1), some (vI x2), some (vL x3), none, some (vI x5), some (vL x6), none, some (vI x8), some (vI x9), none, none, none] []) {K77 : Int → Int → Int → Int → Int → Int → Int → Int → St → Prop} (hK77 : ∀ (x1 : Int) (x2 : Int) (x3 : Int) (x5 : Int) (x6 : Int) (x8 : Int) (x9 : Int) (x10 : Int) (σ : St), C32 x1 → C32 x2 → C64 x3 → C32 x5 → C64 x6 → C32 x8 → C32 x9 → C32 x10 → CanS shR NR σ → K77 x1 x2 x3 x5 x6 x8 x9 x10 σ → G p l e (rmL 8 0 0) s m args below meth c 13 A0 D cA ad shR NR 0 0 (MQ below (QIc D cA ad shR NR Q A0) args s 0 0 A0) σ 77 [some (.ref (ad 0)), some (vI x1), some (vI x2), some (vL x3), none, some (vI x5), some (vL x6), none, some (vI x8), some (vI x9), some (vI x10), none, none] []) (x1 : Int) (x2 : Int) (x3 : Int) (x5 : Int) (x6 : Int) (x8 : Int) (x9 : Int) (x10 : Int) (σ : St) (c1 : C32 x1) (c2 : C32 x2) (c3 : C64 x3) (c5 : C32 x5) (c6 : C64 x6) (c8 : C32 x8) (c9 : C32 x9) (c10 : C32 x10) (hσ : CanS shR NR σ) (h : wp_X12_settled_b138 Q K36 K50 K65 K77 x1 x2 x3 x5 x6 x8 x9 x10 σ) : G p l e (rmL 8 0 0) s m args below meth c 13 A0 D cA ad shR NR 0 0 (MQ below (QIc D cA ad shR NR Q A0) args s 0 0 A0) σ 138 [some (.ref (ad 0)), some (vI x1), some (vI x2), some (vL x3), none, some (vI x5), some (vL x6), none, some (vI x8), some (vI x9), some (vI x10), none, none] [] := by
  unfold wp_X12_settled_b138 at h
  refine g_iinc_10 E rfl (by decide) dX12_settled_138 (fun v17 ev17 => ?_)
  replace h := h v17 ev17
  have cv17 : C32 v17 := by rw [ev17]; exact c32_w _
  refine g_goto E djX12_settled_141 ?_
  exact (hK77 x1 x2 x3 x5 x6 x8 x9 v17 σ c1 c2 c3 c5 c6 c8 c9 cv17 hσ h).weak (w_k (w_k (w_k (w_k (w_d (w_k (w_k (w_d (w_k (w_k (w_k (w_d (w_d w_n)))))))))))))
set_option maxHeartbeats 4000000 in
set_option maxRecDepth 100000 in
theorem t_X12_settled_l77 (E : Ev p s m args meth c cX12_settled 13 RX12 A0 D cA ad NR Z) (hr : meth.sig.returnType = (some .int)) {K36 : Int → Int → Int → Int → St → Prop} (hK36 : ∀ (x1 : Int) (x2 : Int) (x3 : Int) (x5 : Int) (σ : St), C32 x1 → C32 x2 → C64 x3 → C32 x5 → CanS shR NR σ → K36 x1 x2 x3 x5 σ → G p l e (rmL 8 0 0) s m args below meth c 13 A0 D cA ad shR NR 0 0 (MQ below (QIc D cA ad shR NR Q A0) args s 0 0 A0) σ 36 [some (.ref (ad 0)), some (vI x1), some (vI x2), some (vL x3), none, some (vI x5), none, none, none, none, none, none, none] []) {K50 : Int → Int → Int → Int → Int → Int → St → Prop} (hK50 : ∀ (x1 : Int) (x2 : Int) (x3 : Int) (x5 : Int) (x6 : Int) (x8 : Int) (σ : St), C32 x1 → C32 x2 → C64 x3 → C32 x5 → C64 x6 → C32 x8 → CanS shR NR σ → K50 x1 x2 x3 x5 x6 x8 σ → G p l e (rmL 8 0 0) s m args below meth c 13 A0 D cA ad shR NR 0 0 (MQ below (QIc D cA ad shR NR Q A0) args s 0 0 A0) σ 50 [some (.ref (ad 0)), some (vI x1), some (vI x2), some (vL x3), none, some (vI x5), some (vL x6), none, some (vI x8), none, none, none, none] []) {K65 : Int → Int → Int → Int → Int → Int → Int → St → Prop} (hK65 : ∀ (x1 : Int) (x2 : Int) (x3 : Int) (x5 : Int) (x6 : Int) (x8 : Int) (x9 : Int) (σ : St), C32 x1 → C32 x2 → C64 x3 → C32 x5 → C64 x6 → C32 x8 → C32 x9 → CanS shR NR σ → K65 x1 x2 x3 x5 x6 x8 x9 σ → G p l e (rmL 8 0 0) s m args below meth c 13 A0 D cA ad shR NR 0 0 (MQ below (QIc D cA ad shR NR Q A0) args s 0 0 A0) σ 65 [some (.ref (ad 0)), some (vI x1), some (vI x2), some (vL x3), none, some (vI x5), some (vL x6), none, some (vI x8), some (vI x9), none, none, none] []) : ∀ (n : Nat) (x1 : Int) (x2 : Int) (x3 : Int) (x5 : Int) (x6 : Int) (x8 : Int) (x9 : Int) (x10 : Int) (σ : St), C32 x1 → C32 x2 → C64 x3 → C32 x5 → C64 x6 → C32 x8 → C32 x9 → C32 x10 → CanS shR NR σ → wp_X12_settled_l77 Q K36 K50 K65 n x1 x2 x3 x5 x6 x8 x9 x10 σ → G p l e (rmL 8 0 0) s m args below meth c 13 A0 D cA ad shR NR 0 0 (MQ below (QIc D cA ad shR NR Q A0) args s 0 0 A0) σ 77 [some (.ref (ad 0)), some (vI x1), some (vI x2), some (vL x3), none, some (vI x5), some (vL x6), none, some (vI x8), some (vI x9), some (vI x10), none, none] [] := by
  intro n
  induction n with
  | zero => intro _ _ _ _ _ _ _ _ _ _ _ _ _ _ _ _ _ _ h; exact h.elim
  | succ n ih =>
    intro x1 x2 x3 x5 x6 x8 x9 x10 σ c1 c2 c3 c5 c6 c8 c9 c10 hσ h
    unfold wp_X12_settled_l77 at h
    refine g_iload_10 E dX12_settled_77 ?_
    refine g_bipush E (by decide) dX12_settled_79 ?_
    refine g_icmp_ge E c10 cl_12 djX12_settled_81 (fun hc => ?_) (fun hc => ?_)
    · replace h := h.1 hc
      refine g_iinc_9 E rfl (by decide) dX12_settled_144 (fun v9 ev9 => ?_)
      replace h := h v9 ev9
      have cv9 : C32 v9 := by rw [ev9]; exact c32_w _
      refine g_goto E djX12_settled_147 ?_
      exact (hK65 x1 x2 x3 x5 x6 x8 v9 σ c1 c2 c3 c5 c6 c8 cv9 hσ h).weak (w_k (w_k (w_k (w_k (w_d (w_k (w_k (w_d (w_k (w_k (w_d (w_d (w_d w_n)))))))))))))
    · replace h := h.2 hc
      refine g_aload_0 E dX12_settled_84 ?_
      refine g_getR E fl_RX12_60 kR_0 sR_0 rfl dX12_settled_85 ?_
      refine g_iload_10 E dX12_settled_88 ?_
      refine g_iload_8 E dX12_settled_90 ?_
      refine g_iload_9 E dX12_settled_92 ?_
      refine g_callsI E my_X12_item ms_X12_item ml_RX12_282 (rm_ok (by decide) (by decide)) ⟨Nat.zero_le _, Nat.zero_le _⟩ (m_X12_item E.2.2.1 c10 c8 c9 hσ h) rfl rfl (Nat.le_of_ble_eq_true rfl) dX12_settled_94 (fun r10 σ11 cr10 hσ11 h => ?_)
      refine g_iald E kR_15 sR_15 (by decide) h.1 dX12_settled_97 ?_
      replace h := h.2
      refine g_iload_10 E dX12_settled_98 ?_
      refine g_iload_8 E dX12_settled_100 ?_
      refine g_iload_9 E dX12_settled_102 ?_
      refine g_callsL E my_X12_order ms_X12_order ml_RX12_474 (rm_ok (by decide) (by decide)) ⟨Nat.zero_le _, Nat.zero_le _⟩ (m_X12_order E.2.2.1 (aR_15 hσ11 _) c10 c8 c9 hσ11 h) rfl rfl (Nat.le_of_ble_eq_true rfl) dX12_settled_104 (fun r12 σ13 cr12 hσ13 h => ?_)
      refine g_lstore_11 E rfl (by decide) dX12_settled_107 ?_
      refine g_aload_0 E dX12_settled_109 ?_
      refine g_iload_10 E dX12_settled_110 ?_
      refine g_iload_8 E dX12_settled_112 ?_
      refine g_iload_9 E dX12_settled_114 ?_
      refine g_callvI E my_X12_has mi_X12_has msel_X12_has ml_RX12_324 (rm_ok (by decide) (by decide)) ⟨Nat.zero_le _, Nat.zero_le _⟩ kR_0 sR_0 rfl (m_X12_has E.2.2.1 c10 c8 c9 hσ13 h) rfl rfl (Nat.le_of_ble_eq_true rfl) dX12_settled_116 (fun r14 σ15 cr14 hσ15 h => ?_)
      refine g_if_eq E cr14 djX12_settled_119 (fun hc => ?_) (fun hc => ?_)
      · replace h := h.1 hc
        exact (t_X12_settled_b138 E hr hK36 hK50 hK65 ih x1 x2 x3 x5 x6 x8 x9 x10 σ15 c1 c2 c3 c5 c6 c8 c9 c10 hσ15 h).weak (w_k (w_k (w_k (w_k (w_d (w_k (w_k (w_d (w_k (w_k (w_k (w_d (w_d w_n)))))))))))))
      · replace h := h.2 hc
        refine g_lload_11 E dX12_settled_122 ?_
        refine g_lload_3 E dX12_settled_124 ?_
        refine g_lcmp_le E cr12 c3 dX12_settled_125 djX12_settled_126 (fun hc => ?_) (fun hc => ?_)
        · replace h := h.1 hc
          exact (t_X12_settled_b138 E hr hK36 hK50 hK65 ih x1 x2 x3 x5 x6 x8 x9 x10 σ15 c1 c2 c3 c5 c6 c8 c9 c10 hσ15 h).weak (w_k (w_k (w_k (w_k (w_d (w_k (w_k (w_d (w_k (w_k (w_k (w_d (w_d w_n)))))))))))))
        · replace h := h.2 hc
          refine g_lload_6 E dX12_settled_129 ?_
          refine g_lload_11 E dX12_settled_131 ?_
          refine g_mminl E ml_RX12_329 c6 cr12 (Nat.le_of_ble_eq_true rfl) (rm_1 8) ⟨Nat.zero_le _, Nat.zero_le _⟩ dX12_settled_133 ?_
          refine g_nmL (fun v16 ev16 => ?_)
          replace h := h v16 ev16
          have cv16 : C64 v16 := by rw [ev16]; exact (c64_min c6 cr12)
          refine g_lstore_6 E rfl (by decide) dX12_settled_136 ?_
          exact (t_X12_settled_b138 E hr hK36 hK50 hK65 ih x1 x2 x3 x5 v16 x8 x9 x10 σ15 c1 c2 c3 c5 cv16 c8 c9 c10 hσ15 h).weak (w_k (w_k (w_k (w_k (w_d (w_k (w_k (w_d (w_k (w_k (w_k (w_d (w_d w_n)))))))))))))
set_option maxHeartbeats 4000000 in
set_option maxRecDepth 100000 in
theorem t_X12_settled_l65 (E : Ev p s m args meth c cX12_settled 13 RX12 A0 D cA ad NR Z) (hr : meth.sig.returnType = (some .int)) {K36 : Int → Int → Int → Int → St → Prop} (hK36 : ∀ (x1 : Int) (x2 : Int) (x3 : Int) (x5 : Int) (σ : St), C32 x1 → C32 x2 → C64 x3 → C32 x5 → CanS shR NR σ → K36 x1 x2 x3 x5 σ → G p l e (rmL 8 0 0) s m args below meth c 13 A0 D cA ad shR NR 0 0 (MQ below (QIc D cA ad shR NR Q A0) args s 0 0 A0) σ 36 [some (.ref (ad 0)), some (vI x1), some (vI x2), some (vL x3), none, some (vI x5), none, none, none, none, none, none, none] []) {K50 : Int → Int → Int → Int → Int → Int → St → Prop} (hK50 : ∀ (x1 : Int) (x2 : Int) (x3 : Int) (x5 : Int) (x6 : Int) (x8 : Int) (σ : St), C32 x1 → C32 x2 → C64 x3 → C32 x5 → C64 x6 → C32 x8 → CanS shR NR σ → K50 x1 x2 x3 x5 x6 x8 σ → G p l e (rmL 8 0 0) s m args below meth c 13 A0 D cA ad shR NR 0 0 (MQ below (QIc D cA ad shR NR Q A0) args s 0 0 A0) σ 50 [some (.ref (ad 0)), some (vI x1), some (vI x2), some (vL x3), none, some (vI x5), some (vL x6), none, some (vI x8), none, none, none, none] []) : ∀ (n : Nat) (x1 : Int) (x2 : Int) (x3 : Int) (x5 : Int) (x6 : Int) (x8 : Int) (x9 : Int) (σ : St), C32 x1 → C32 x2 → C64 x3 → C32 x5 → C64 x6 → C32 x8 → C32 x9 → CanS shR NR σ → wp_X12_settled_l65 Q K36 K50 n x1 x2 x3 x5 x6 x8 x9 σ → G p l e (rmL 8 0 0) s m args below meth c 13 A0 D cA ad shR NR 0 0 (MQ below (QIc D cA ad shR NR Q A0) args s 0 0 A0) σ 65 [some (.ref (ad 0)), some (vI x1), some (vI x2), some (vL x3), none, some (vI x5), some (vL x6), none, some (vI x8), some (vI x9), none, none, none] [] := by
  intro n
  induction n with
  | zero => intro _ _ _ _ _ _ _ _ _ _ _ _ _ _ _ _ h; exact h.elim
  | succ n ih =>
    intro x1 x2 x3 x5 x6 x8 x9 σ c1 c2 c3 c5 c6 c8 c9 hσ h
    unfold wp_X12_settled_l65 at h
    refine g_iload_9 E dX12_settled_65 ?_
    refine g_aload_0 E dX12_settled_67 ?_
    refine g_getI E fl_RX12_305 kR_0 sR_0 rfl dX12_settled_68 ?_
    refine g_icmp_gt E c9 (fR_0_27 hσ) djX12_settled_71 (fun hc => ?_) (fun hc => ?_)
    · replace h := h.1 hc
      refine g_iinc_8 E rfl (by decide) dX12_settled_150 (fun v8 ev8 => ?_)
      replace h := h v8 ev8
      have cv8 : C32 v8 := by rw [ev8]; exact c32_w _
      refine g_goto E djX12_settled_153 ?_
      exact (hK50 x1 x2 x3 x5 x6 v8 σ c1 c2 c3 c5 c6 cv8 hσ h).weak (w_k (w_k (w_k (w_k (w_d (w_k (w_k (w_d (w_k (w_d (w_d (w_d (w_d w_n)))))))))))))
    · replace h := h.2 hc
      refine g_iconst E dX12_settled_74 ?_
      refine g_istore_10 E rfl (by decide) dX12_settled_75 ?_
      exact (t_X12_settled_l77 E hr hK36 hK50 ih bigN x1 x2 x3 x5 x6 x8 x9 0 σ c1 c2 c3 c5 c6 c8 c9 cl_0 hσ h).weak (w_k (w_k (w_k (w_k (w_d (w_k (w_k (w_d (w_k (w_k (w_k (w_d (w_d w_n)))))))))))))
set_option maxHeartbeats 4000000 in
set_option maxRecDepth 100000 in
theorem t_X12_settled_l50 (E : Ev p s m args meth c cX12_settled 13 RX12 A0 D cA ad NR Z) (hr : meth.sig.returnType = (some .int)) {K36 : Int → Int → Int → Int → St → Prop} (hK36 : ∀ (x1 : Int) (x2 : Int) (x3 : Int) (x5 : Int) (σ : St), C32 x1 → C32 x2 → C64 x3 → C32 x5 → CanS shR NR σ → K36 x1 x2 x3 x5 σ → G p l e (rmL 8 0 0) s m args below meth c 13 A0 D cA ad shR NR 0 0 (MQ below (QIc D cA ad shR NR Q A0) args s 0 0 A0) σ 36 [some (.ref (ad 0)), some (vI x1), some (vI x2), some (vL x3), none, some (vI x5), none, none, none, none, none, none, none] []) : ∀ (n : Nat) (x1 : Int) (x2 : Int) (x3 : Int) (x5 : Int) (x6 : Int) (x8 : Int) (σ : St), C32 x1 → C32 x2 → C64 x3 → C32 x5 → C64 x6 → C32 x8 → CanS shR NR σ → wp_X12_settled_l50 Q K36 n x1 x2 x3 x5 x6 x8 σ → G p l e (rmL 8 0 0) s m args below meth c 13 A0 D cA ad shR NR 0 0 (MQ below (QIc D cA ad shR NR Q A0) args s 0 0 A0) σ 50 [some (.ref (ad 0)), some (vI x1), some (vI x2), some (vL x3), none, some (vI x5), some (vL x6), none, some (vI x8), none, none, none, none] [] := by
  intro n
  induction n with
  | zero => intro _ _ _ _ _ _ _ _ _ _ _ _ _ _ h; exact h.elim
  | succ n ih =>
    intro x1 x2 x3 x5 x6 x8 σ c1 c2 c3 c5 c6 c8 hσ h
    unfold wp_X12_settled_l50 at h
    refine g_iload_8 E dX12_settled_50 ?_
    refine g_aload_0 E dX12_settled_52 ?_
    refine g_getI E fl_RX12_305 kR_0 sR_0 rfl dX12_settled_53 ?_
    refine g_icmp_ge E c8 (fR_0_27 hσ) djX12_settled_56 (fun hc => ?_) (fun hc => ?_)
    · replace h := h.1 hc
      refine g_lload_6 E dX12_settled_156 ?_
      refine g_lstore_3 E rfl (by decide) dX12_settled_158 ?_
      refine g_iinc_5 E rfl (by decide) dX12_settled_159 (fun v6 ev6 => ?_)
      replace h := h v6 ev6
      have cv6 : C32 v6 := by rw [ev6]; exact c32_w _
      refine g_goto E djX12_settled_162 ?_
      exact (hK36 x1 x2 x6 v6 σ c1 c2 c6 cv6 hσ h).weak (w_k (w_k (w_k (w_k (w_d (w_k (w_d (w_d (w_d (w_d (w_d (w_d (w_d w_n)))))))))))))
    · replace h := h.2 hc
      refine g_iload_8 E dX12_settled_59 ?_
      refine g_iconst E dX12_settled_61 ?_
      refine g_iadd E dX12_settled_62 ?_
      refine g_nmI (fun v7 ev7 => ?_)
      replace h := h v7 ev7
      have cv7 : C32 v7 := by rw [ev7]; exact (c32_w _)
      refine g_istore_9 E rfl (by decide) dX12_settled_63 ?_
      exact (t_X12_settled_l65 E hr hK36 ih bigN x1 x2 x3 x5 x6 x8 v7 σ c1 c2 c3 c5 c6 c8 cv7 hσ h).weak (w_k (w_k (w_k (w_k (w_d (w_k (w_k (w_d (w_k (w_k (w_d (w_d (w_d w_n)))))))))))))
set_option maxHeartbeats 4000000 in
set_option maxRecDepth 100000 in
theorem t_X12_settled_l36 (E : Ev p s m args meth c cX12_settled 13 RX12 A0 D cA ad NR Z) (hr : meth.sig.returnType = (some .int)) : ∀ (n : Nat) (x1 : Int) (x2 : Int) (x3 : Int) (x5 : Int) (σ : St), C32 x1 → C32 x2 → C64 x3 → C32 x5 → CanS shR NR σ → wp_X12_settled_l36 Q n x1 x2 x3 x5 σ → G p l e (rmL 8 0 0) s m args below meth c 13 A0 D cA ad shR NR 0 0 (MQ below (QIc D cA ad shR NR Q A0) args s 0 0 A0) σ 36 [some (.ref (ad 0)), some (vI x1), some (vI x2), some (vL x3), none, some (vI x5), none, none, none, none, none, none, none] [] := by
  intro n
  induction n with
  | zero => intro _ _ _ _ _ _ _ _ _ _ h; exact h.elim
  | succ n ih =>
    intro x1 x2 x3 x5 σ c1 c2 c3 c5 hσ h
    unfold wp_X12_settled_l36 at h
    refine g_iload_5 E dX12_settled_36 ?_
    refine g_iload_1 E dX12_settled_38 ?_
    refine g_icmp_gt E c5 c1 djX12_settled_39 (fun hc => ?_) (fun hc => ?_)
    · replace h := h.1 hc
      refine g_lload_3 E dX12_settled_165 ?_
      refine g_iconst E dX12_settled_166 ?_
      refine g_lshr E dX12_settled_167 ?_
      refine g_ldc2 (n := 15) E wc_RX12_478 dX12_settled_168 ?_
      refine g_land E dX12_settled_171 ?_
      refine g_l2i E dX12_settled_172 ?_
      refine g_nmI (fun v5 ev5 => ?_)
      replace h := h v5 ev5
      have cv5 : C32 v5 := by rw [ev5]; exact (c32_t _)
      refine g_istore_5 E rfl (by decide) dX12_settled_173 ?_
      refine g_iload_2 E dX12_settled_175 ?_
      refine g_if_ne E c2 djX12_settled_176 (fun hc => ?_) (fun hc => ?_)
      · replace h := h.1 hc
        refine g_iload_2 E dX12_settled_188 ?_
        refine g_iconst E dX12_settled_189 ?_
        refine g_icmp_ne E c2 cl_1 djX12_settled_190 (fun hc => ?_) (fun hc => ?_)
        · replace h := h.1 hc
          refine g_iload_2 E dX12_settled_198 ?_
          refine g_iconst E dX12_settled_199 ?_
          refine g_icmp_ne E c2 cl_2 djX12_settled_200 (fun hc => ?_) (fun hc => ?_)
          · replace h := h.1 hc
            refine g_lload_3 E dX12_settled_218 ?_
            refine g_bipush E (by decide) dX12_settled_219 ?_
            refine g_lshr E dX12_settled_221 ?_
            refine g_l2i E dX12_settled_222 ?_
            exact g_iret E hr (c32_t _) h hσ dX12_settled_223
          · replace h := h.2 hc
            refine g_iload_5 E dX12_settled_203 ?_
            refine g_lload_3 E dX12_settled_205 ?_
            refine g_bipush E (by decide) dX12_settled_206 ?_
            refine g_lshr E dX12_settled_208 ?_
            refine g_ldc2 (n := 15) E wc_RX12_478 dX12_settled_209 ?_
            refine g_land E dX12_settled_212 ?_
            refine g_l2i E dX12_settled_213 ?_
            refine g_iadd E dX12_settled_214 ?_
            refine g_goto E djX12_settled_215 ?_
            exact g_iret E hr (c32_w _) h hσ dX12_settled_223
        · replace h := h.2 hc
          refine g_iload_5 E dX12_settled_193 ?_
          refine g_goto E djX12_settled_195 ?_
          exact g_iret E hr cv5 h hσ dX12_settled_223
      · replace h := h.2 hc
        refine g_lload_3 E dX12_settled_179 ?_
        refine g_ldc2 (n := 15) E wc_RX12_478 dX12_settled_180 ?_
        refine g_land E dX12_settled_183 ?_
        refine g_l2i E dX12_settled_184 ?_
        refine g_goto E djX12_settled_185 ?_
        exact g_iret E hr (c32_t _) h hσ dX12_settled_223
    · replace h := h.2 hc
      refine g_ldc2 (n := 9223372036854775807) E wc_RX12_472 dX12_settled_42 ?_
      refine g_lstore_6 E rfl (by decide) dX12_settled_45 ?_
      refine g_iconst E dX12_settled_47 ?_
      refine g_istore_8 E rfl (by decide) dX12_settled_48 ?_
      exact (t_X12_settled_l50 E hr ih bigN x1 x2 x3 x5 9223372036854775807 0 σ c1 c2 c3 c5 cL_9223372036854775807 cl_0 hσ h).weak (w_k (w_k (w_k (w_k (w_d (w_k (w_k (w_d (w_k (w_d (w_d (w_d (w_d w_n)))))))))))))
set_option maxHeartbeats 4000000 in
set_option maxRecDepth 100000 in
theorem t_X12_settled (E : Ev p s m args meth c cX12_settled 13 RX12 A0 D cA ad NR Z) (hr : meth.sig.returnType = (some .int)) (x1 : Int) (x2 : Int) (σ : St) (c1 : C32 x1) (c2 : C32 x2) (hσ : CanS shR NR σ) (h : wp_X12_settled x1 x2 σ Q) : G p l e (rmL 8 0 0) s m args below meth c 13 A0 D cA ad shR NR 0 0 (MQ below (QIc D cA ad shR NR Q A0) args s 0 0 A0) σ 0 [some (.ref (ad 0)), some (vI x1), some (vI x2), none, none, none, none, none, none, none, none, none, none] [] := by
  unfold wp_X12_settled at h
  refine g_iload_1 E dX12_settled_0 ?_
  refine g_if_lt E c1 djX12_settled_1 (fun hc => ?_) (fun hc => ?_)
  · replace h := h.1 hc
    refine g_bipush E (by decide) dX12_settled_16 ?_
    exact g_iret E hr cl_m2 h hσ dX12_settled_18
  · replace h := h.2 hc
    refine g_iload_2 E dX12_settled_4 ?_
    refine g_i2l E c2 dX12_settled_5 ?_
    refine g_lconst (n := 0) E (by decide) dX12_settled_6 ?_
    refine g_ldc2 (n := 3) E wc_RX12_465 dX12_settled_7 ?_
    refine g_callsI E my_X12_in ms_X12_in ml_RX12_148 (rm_ok (by decide) (by decide)) ⟨Nat.zero_le _, Nat.zero_le _⟩ (m_X12_in E.2.2.1 (c32_of_c64 c2) cL_0 cL_3 hσ h) rfl rfl (Nat.le_of_ble_eq_true rfl) dX12_settled_10 (fun r1 σ2 cr1 hσ2 h => ?_)
    refine g_if_ne E cr1 djX12_settled_13 (fun hc => ?_) (fun hc => ?_)
    · replace h := h.1 hc
      refine g_iload_1 E dX12_settled_19 ?_
      refine g_aload_0 E dX12_settled_20 ?_
      refine g_callvI E my_X12_itemsMany mi_X12_itemsMany msel_X12_itemsMany ml_RX12_467 (rm_ok (by decide) (by decide)) ⟨Nat.zero_le _, Nat.zero_le _⟩ kR_0 sR_0 rfl (m_X12_itemsMany E.2.2.1 hσ2 h) rfl rfl (Nat.le_of_ble_eq_true rfl) dX12_settled_21 (fun r3 σ4 cr3 hσ4 h => ?_)
      refine g_icmp_lt E c1 cr3 djX12_settled_24 (fun hc => ?_) (fun hc => ?_)
      · replace h := h.1 hc
        refine g_ldc2 (n := (-1)) E wc_RX12_275 dX12_settled_29 ?_
        refine g_lstore_3 E rfl (by decide) dX12_settled_32 ?_
        refine g_iconst E dX12_settled_33 ?_
        refine g_istore_5 E rfl (by decide) dX12_settled_34 ?_
        exact (t_X12_settled_l36 E hr bigN x1 x2 ((-1)) 0 σ4 c1 c2 cL_m1 cl_0 hσ4 h).weak (w_k (w_k (w_k (w_k (w_d (w_k (w_d (w_d (w_d (w_d (w_d (w_d (w_d w_n)))))))))))))
      · replace h := h.2 hc
        refine g_iconst E dX12_settled_27 ?_
        exact g_iret E hr cl_m1 h hσ4 dX12_settled_28
    · replace h := h.2 hc
      refine g_bipush E (by decide) dX12_settled_16 ?_
      exact g_iret E hr cl_m2 h hσ2 dX12_settled_18
end
theorem m_X12_settled {Z : (Nat → Nat) × (Nat → Nat)} {l : Launch} {D : va_G} {cA : Nat → ClassId} {ad : Nat → Nat} {x1 x2 : Int} {σ : St} {Q : Int → St → Prop} (hA : AdOk NR ad) (c1 : C32 x1) (c2 : C32 x2) (hσ : CanS shR NR σ) (h : wp_X12_settled x1 x2 σ Q) : KtI Z l D cA ad shR NR yX12_settled cX12_settled 13 (some .int) 8 [.ref (ad 0), vI x1, vI x2] σ Q :=
  KtI.of my_X12_settled hA [some (.ref (ad 0)), some (vI x1), some (vI x2), none, none, none, none, none, none, none, none, none, none] (Nat.le_of_ble_eq_true rfl) rfl (fun p e s m args below meth c A0 E hr => t_X12_settled E hr x1 x2 σ c1 c2 hσ h)
theorem dX12_isPlace_0 : Dc cX12_isPlace 0 (.iload_n 0) 1 1 := ⟨by decide +kernel, rfl⟩
theorem dX12_isPlace_1 : Dc cX12_isPlace 1 (.i2l) 1 2 := ⟨by decide +kernel, rfl⟩
theorem dX12_isPlace_2 : Dc cX12_isPlace 2 (.lconst 0) 1 3 := ⟨by decide +kernel, rfl⟩
theorem dX12_isPlace_3 : Dc cX12_isPlace 3 (.ldc2_w 478) 3 6 := ⟨by decide +kernel, rfl⟩
theorem dX12_isPlace_6 : Dc cX12_isPlace 6 (.invokestatic 148) 3 9 := ⟨by decide +kernel, rfl⟩
theorem dX12_isPlace_9 : Dc cX12_isPlace 9 (.ireturn) 1 10 := ⟨by decide +kernel, rfl⟩
section
variable {p : Program} {l : Launch} {e : Env} {s : State} {m : MethodId} {args : Array Value} {below : List Frame} {meth : Method} {c : Code} {A0 : Nat → Prop} {D : va_G} {cA : Nat → ClassId} {ad : Nat → Nat} {Z : (Nat → Nat) × (Nat → Nat)} {Q : Int → St → Prop}
set_option maxHeartbeats 4000000 in
set_option maxRecDepth 100000 in
theorem t_X12_isPlace (E : Ev p s m args meth c cX12_isPlace 1 RX12 A0 D cA ad NR Z) (hr : meth.sig.returnType = (some .boolean)) (x0 : Int) (σ : St) (c0 : C32 x0) (hσ : CanS shR NR σ) (h : wp_X12_isPlace x0 σ Q) : G p l e (rmL 2 0 0) s m args below meth c 1 A0 D cA ad shR NR 0 0 (MQ below (QIc D cA ad shR NR Q A0) args s 0 0 A0) σ 0 [some (vI x0)] [] := by
  unfold wp_X12_isPlace at h
  refine g_iload_0 E dX12_isPlace_0 ?_
  refine g_i2l E c0 dX12_isPlace_1 ?_
  refine g_lconst (n := 0) E (by decide) dX12_isPlace_2 ?_
  refine g_ldc2 (n := 15) E wc_RX12_478 dX12_isPlace_3 ?_
  refine g_callsI E my_X12_in ms_X12_in ml_RX12_148 (rm_ok (by decide) (by decide)) ⟨Nat.zero_le _, Nat.zero_le _⟩ (m_X12_in E.2.2.1 (c32_of_c64 c0) cL_0 cL_15 hσ h) rfl rfl (Nat.le_of_ble_eq_true rfl) dX12_isPlace_6 (fun r1 σ2 cr1 hσ2 h => ?_)
  exact g_zret E hr h.1 h.2 hσ2 dX12_isPlace_9
end
theorem m_X12_isPlace {Z : (Nat → Nat) × (Nat → Nat)} {l : Launch} {D : va_G} {cA : Nat → ClassId} {ad : Nat → Nat} {x0 : Int} {σ : St} {Q : Int → St → Prop} (hA : AdOk NR ad) (c0 : C32 x0) (hσ : CanS shR NR σ) (h : wp_X12_isPlace x0 σ Q) : KtI Z l D cA ad shR NR yX12_isPlace cX12_isPlace 1 (some .boolean) 2 [vI x0] σ Q :=
  KtI.of my_X12_isPlace hA [some (vI x0)] (Nat.le_of_ble_eq_true rfl) rfl (fun p e s m args below meth c A0 E hr => t_X12_isPlace E hr x0 σ c0 hσ h)
theorem dX12_manyOf_0 : Dc cX12_manyOf 0 (.iload_n 1) 1 1 := ⟨by decide +kernel, rfl⟩
theorem dX12_manyOf_1 : Dc cX12_manyOf 1 (.bipush 100) 2 3 := ⟨by decide +kernel, rfl⟩
theorem djX12_manyOf_3 : Dj cX12_manyOf 3 (.if_icmp .lt 21) 3 6 21 24 := ⟨by decide +kernel, rfl, by decide⟩
theorem dX12_manyOf_6 : Dc cX12_manyOf 6 (.aload_n 0) 1 7 := ⟨by decide +kernel, rfl⟩
theorem dX12_manyOf_7 : Dc cX12_manyOf 7 (.iload_n 1) 1 8 := ⟨by decide +kernel, rfl⟩
theorem dX12_manyOf_8 : Dc cX12_manyOf 8 (.iload_n 2) 1 9 := ⟨by decide +kernel, rfl⟩
theorem dX12_manyOf_9 : Dc cX12_manyOf 9 (.iload_n 3) 1 10 := ⟨by decide +kernel, rfl⟩
theorem dX12_manyOf_10 : Dc cX12_manyOf 10 (.invokevirtual 287) 3 13 := ⟨by decide +kernel, rfl⟩
theorem djX12_manyOf_13 : Dj cX12_manyOf 13 (.ifCond .eq 7) 3 16 7 20 := ⟨by decide +kernel, rfl, by decide⟩
theorem dX12_manyOf_16 : Dc cX12_manyOf 16 (.iconst 1) 1 17 := ⟨by decide +kernel, rfl⟩
theorem djX12_manyOf_17 : Dj cX12_manyOf 17 (.goto 18) 3 20 18 35 := ⟨by decide +kernel, rfl, by decide⟩
theorem dX12_manyOf_20 : Dc cX12_manyOf 20 (.iconst 0) 1 21 := ⟨by decide +kernel, rfl⟩
theorem djX12_manyOf_21 : Dj cX12_manyOf 21 (.goto 14) 3 24 14 35 := ⟨by decide +kernel, rfl, by decide⟩
theorem dX12_manyOf_24 : Dc cX12_manyOf 24 (.aload_n 0) 1 25 := ⟨by decide +kernel, rfl⟩
theorem dX12_manyOf_25 : Dc cX12_manyOf 25 (.getfield 132) 3 28 := ⟨by decide +kernel, rfl⟩
theorem dX12_manyOf_28 : Dc cX12_manyOf 28 (.iload_n 1) 1 29 := ⟨by decide +kernel, rfl⟩
theorem dX12_manyOf_29 : Dc cX12_manyOf 29 (.iload_n 2) 1 30 := ⟨by decide +kernel, rfl⟩
theorem dX12_manyOf_30 : Dc cX12_manyOf 30 (.iload_n 3) 1 31 := ⟨by decide +kernel, rfl⟩
theorem dX12_manyOf_31 : Dc cX12_manyOf 31 (.invokestatic 282) 3 34 := ⟨by decide +kernel, rfl⟩
theorem dX12_manyOf_34 : Dc cX12_manyOf 34 (.iaload) 1 35 := ⟨by decide +kernel, rfl⟩
theorem dX12_manyOf_35 : Dc cX12_manyOf 35 (.ireturn) 1 36 := ⟨by decide +kernel, rfl⟩
section
variable {p : Program} {l : Launch} {e : Env} {s : State} {m : MethodId} {args : Array Value} {below : List Frame} {meth : Method} {c : Code} {A0 : Nat → Prop} {D : va_G} {cA : Nat → ClassId} {ad : Nat → Nat} {Z : (Nat → Nat) × (Nat → Nat)} {Q : Int → St → Prop}
set_option maxHeartbeats 4000000 in
set_option maxRecDepth 100000 in
theorem t_X12_manyOf (E : Ev p s m args meth c cX12_manyOf 4 RX12 A0 D cA ad NR Z) (hr : meth.sig.returnType = (some .int)) (x1 : Int) (x2 : Int) (x3 : Int) (σ : St) (c1 : C32 x1) (c2 : C32 x2) (c3 : C32 x3) (hσ : CanS shR NR σ) (h : wp_X12_manyOf x1 x2 x3 σ Q) : G p l e (rmL 3 0 0) s m args below meth c 4 A0 D cA ad shR NR 0 0 (MQ below (QIc D cA ad shR NR Q A0) args s 0 0 A0) σ 0 [some (.ref (ad 0)), some (vI x1), some (vI x2), some (vI x3)] [] := by
  unfold wp_X12_manyOf at h
  refine g_iload_1 E dX12_manyOf_0 ?_
  refine g_bipush E (by decide) dX12_manyOf_1 ?_
  refine g_icmp_lt E c1 cl_100 djX12_manyOf_3 (fun hc => ?_) (fun hc => ?_)
  · replace h := h.1 hc
    refine g_aload_0 E dX12_manyOf_24 ?_
    refine g_getR E fl_RX12_132 kR_0 sR_0 rfl dX12_manyOf_25 ?_
    refine g_iload_1 E dX12_manyOf_28 ?_
    refine g_iload_2 E dX12_manyOf_29 ?_
    refine g_iload_3 E dX12_manyOf_30 ?_
    refine g_callsI E my_X12_item ms_X12_item ml_RX12_282 (rm_ok (by decide) (by decide)) ⟨Nat.zero_le _, Nat.zero_le _⟩ (m_X12_item E.2.2.1 c1 c2 c3 hσ h) rfl rfl (Nat.le_of_ble_eq_true rfl) dX12_manyOf_31 (fun r1 σ2 cr1 hσ2 h => ?_)
    refine g_iald E kR_38 sR_38 (by decide) h.1 dX12_manyOf_34 ?_
    replace h := h.2
    exact g_iret E hr (aR_38 hσ2 _) h hσ2 dX12_manyOf_35
  · replace h := h.2 hc
    refine g_aload_0 E dX12_manyOf_6 ?_
    refine g_iload_1 E dX12_manyOf_7 ?_
    refine g_iload_2 E dX12_manyOf_8 ?_
    refine g_iload_3 E dX12_manyOf_9 ?_
    refine g_callvI E my_X12_fits mi_X12_fits msel_X12_fits ml_RX12_287 (rm_ok (by decide) (by decide)) ⟨Nat.zero_le _, Nat.zero_le _⟩ kR_0 sR_0 rfl (m_X12_fits E.2.2.1 c1 c2 c3 hσ h) rfl rfl (Nat.le_of_ble_eq_true rfl) dX12_manyOf_10 (fun r3 σ4 cr3 hσ4 h => ?_)
    refine g_if_eq E cr3 djX12_manyOf_13 (fun hc => ?_) (fun hc => ?_)
    · replace h := h.1 hc
      refine g_iconst E dX12_manyOf_20 ?_
      refine g_goto E djX12_manyOf_21 ?_
      exact g_iret E hr cl_0 h hσ4 dX12_manyOf_35
    · replace h := h.2 hc
      refine g_iconst E dX12_manyOf_16 ?_
      refine g_goto E djX12_manyOf_17 ?_
      exact g_iret E hr cl_1 h hσ4 dX12_manyOf_35
end
theorem m_X12_manyOf {Z : (Nat → Nat) × (Nat → Nat)} {l : Launch} {D : va_G} {cA : Nat → ClassId} {ad : Nat → Nat} {x1 x2 x3 : Int} {σ : St} {Q : Int → St → Prop} (hA : AdOk NR ad) (c1 : C32 x1) (c2 : C32 x2) (c3 : C32 x3) (hσ : CanS shR NR σ) (h : wp_X12_manyOf x1 x2 x3 σ Q) : KtI Z l D cA ad shR NR yX12_manyOf cX12_manyOf 4 (some .int) 3 [.ref (ad 0), vI x1, vI x2, vI x3] σ Q :=
  KtI.of my_X12_manyOf hA [some (.ref (ad 0)), some (vI x1), some (vI x2), some (vI x3)] (Nat.le_of_ble_eq_true rfl) rfl (fun p e s m args below meth c A0 E hr => t_X12_manyOf E hr x1 x2 x3 σ c1 c2 c3 hσ h)
theorem dX12_nodeOf_0 : Dc cX12_nodeOf 0 (.iload_n 1) 1 1 := ⟨by decide +kernel, rfl⟩
theorem dX12_nodeOf_1 : Dc cX12_nodeOf 1 (.bipush 100) 2 3 := ⟨by decide +kernel, rfl⟩
theorem djX12_nodeOf_3 : Dj cX12_nodeOf 3 (.if_icmp .lt 7) 3 6 7 10 := ⟨by decide +kernel, rfl, by decide⟩
theorem dX12_nodeOf_6 : Dc cX12_nodeOf 6 (.iconst (-1)) 1 7 := ⟨by decide +kernel, rfl⟩
theorem djX12_nodeOf_7 : Dj cX12_nodeOf 7 (.goto 20) 3 10 20 27 := ⟨by decide +kernel, rfl, by decide⟩
theorem dX12_nodeOf_10 : Dc cX12_nodeOf 10 (.aload_n 0) 1 11 := ⟨by decide +kernel, rfl⟩
theorem dX12_nodeOf_11 : Dc cX12_nodeOf 11 (.getfield 129) 3 14 := ⟨by decide +kernel, rfl⟩
theorem dX12_nodeOf_14 : Dc cX12_nodeOf 14 (.iload_n 1) 1 15 := ⟨by decide +kernel, rfl⟩
theorem dX12_nodeOf_15 : Dc cX12_nodeOf 15 (.iload_n 2) 1 16 := ⟨by decide +kernel, rfl⟩
theorem dX12_nodeOf_16 : Dc cX12_nodeOf 16 (.iload_n 3) 1 17 := ⟨by decide +kernel, rfl⟩
theorem dX12_nodeOf_17 : Dc cX12_nodeOf 17 (.invokestatic 282) 3 20 := ⟨by decide +kernel, rfl⟩
theorem dX12_nodeOf_20 : Dc cX12_nodeOf 20 (.bipush 16) 2 22 := ⟨by decide +kernel, rfl⟩
theorem dX12_nodeOf_22 : Dc cX12_nodeOf 22 (.imul) 1 23 := ⟨by decide +kernel, rfl⟩
theorem dX12_nodeOf_23 : Dc cX12_nodeOf 23 (.iload 4) 2 25 := ⟨by decide +kernel, rfl⟩
theorem dX12_nodeOf_25 : Dc cX12_nodeOf 25 (.iadd) 1 26 := ⟨by decide +kernel, rfl⟩
theorem dX12_nodeOf_26 : Dc cX12_nodeOf 26 (.iaload) 1 27 := ⟨by decide +kernel, rfl⟩
theorem dX12_nodeOf_27 : Dc cX12_nodeOf 27 (.ireturn) 1 28 := ⟨by decide +kernel, rfl⟩
section
variable {p : Program} {l : Launch} {e : Env} {s : State} {m : MethodId} {args : Array Value} {below : List Frame} {meth : Method} {c : Code} {A0 : Nat → Prop} {D : va_G} {cA : Nat → ClassId} {ad : Nat → Nat} {Z : (Nat → Nat) × (Nat → Nat)} {Q : Int → St → Prop}
set_option maxHeartbeats 4000000 in
set_option maxRecDepth 100000 in
theorem t_X12_nodeOf (E : Ev p s m args meth c cX12_nodeOf 5 RX12 A0 D cA ad NR Z) (hr : meth.sig.returnType = (some .int)) (x1 : Int) (x2 : Int) (x3 : Int) (x4 : Int) (σ : St) (c1 : C32 x1) (c2 : C32 x2) (c3 : C32 x3) (c4 : C32 x4) (hσ : CanS shR NR σ) (h : wp_X12_nodeOf x1 x2 x3 x4 σ Q) : G p l e (rmL 2 0 0) s m args below meth c 5 A0 D cA ad shR NR 0 0 (MQ below (QIc D cA ad shR NR Q A0) args s 0 0 A0) σ 0 [some (.ref (ad 0)), some (vI x1), some (vI x2), some (vI x3), some (vI x4)] [] := by
  unfold wp_X12_nodeOf at h
  refine g_iload_1 E dX12_nodeOf_0 ?_
  refine g_bipush E (by decide) dX12_nodeOf_1 ?_
  refine g_icmp_lt E c1 cl_100 djX12_nodeOf_3 (fun hc => ?_) (fun hc => ?_)
  · replace h := h.1 hc
    refine g_aload_0 E dX12_nodeOf_10 ?_
    refine g_getR E fl_RX12_129 kR_0 sR_0 rfl dX12_nodeOf_11 ?_
    refine g_iload_1 E dX12_nodeOf_14 ?_
    refine g_iload_2 E dX12_nodeOf_15 ?_
    refine g_iload_3 E dX12_nodeOf_16 ?_
    refine g_callsI E my_X12_item ms_X12_item ml_RX12_282 (rm_ok (by decide) (by decide)) ⟨Nat.zero_le _, Nat.zero_le _⟩ (m_X12_item E.2.2.1 c1 c2 c3 hσ h) rfl rfl (Nat.le_of_ble_eq_true rfl) dX12_nodeOf_17 (fun r1 σ2 cr1 hσ2 h => ?_)
    refine g_bipush E (by decide) dX12_nodeOf_20 ?_
    refine g_imul E dX12_nodeOf_22 ?_
    refine g_iload_4 E dX12_nodeOf_23 ?_
    refine g_iadd E dX12_nodeOf_25 ?_
    refine g_iald E kR_37 sR_37 (by decide) h.1 dX12_nodeOf_26 ?_
    replace h := h.2
    exact g_iret E hr (aR_37 hσ2 _) h hσ2 dX12_nodeOf_27
  · replace h := h.2 hc
    refine g_iconst E dX12_nodeOf_6 ?_
    refine g_goto E djX12_nodeOf_7 ?_
    exact g_iret E hr cl_m1 h hσ dX12_nodeOf_27
end
theorem m_X12_nodeOf {Z : (Nat → Nat) × (Nat → Nat)} {l : Launch} {D : va_G} {cA : Nat → ClassId} {ad : Nat → Nat} {x1 x2 x3 x4 : Int} {σ : St} {Q : Int → St → Prop} (hA : AdOk NR ad) (c1 : C32 x1) (c2 : C32 x2) (c3 : C32 x3) (c4 : C32 x4) (hσ : CanS shR NR σ) (h : wp_X12_nodeOf x1 x2 x3 x4 σ Q) : KtI Z l D cA ad shR NR yX12_nodeOf cX12_nodeOf 5 (some .int) 2 [.ref (ad 0), vI x1, vI x2, vI x3, vI x4] σ Q :=
  KtI.of my_X12_nodeOf hA [some (.ref (ad 0)), some (vI x1), some (vI x2), some (vI x3), some (vI x4)] (Nat.le_of_ble_eq_true rfl) rfl (fun p e s m args below meth c A0 E hr => t_X12_nodeOf E hr x1 x2 x3 x4 σ c1 c2 c3 c4 hσ h)
theorem dX12_costNode_0 : Dc cX12_costNode 0 (.iload_n 1) 1 1 := ⟨by decide +kernel, rfl⟩
theorem dX12_costNode_1 : Dc cX12_costNode 1 (.iconst (-1)) 1 2 := ⟨by decide +kernel, rfl⟩
theorem djX12_costNode_2 : Dj cX12_costNode 2 (.if_icmp .ne 7) 3 5 7 9 := ⟨by decide +kernel, rfl, by decide⟩
theorem dX12_costNode_5 : Dc cX12_costNode 5 (.iconst 0) 1 6 := ⟨by decide +kernel, rfl⟩
theorem djX12_costNode_6 : Dj cX12_costNode 6 (.goto 9) 3 9 9 15 := ⟨by decide +kernel, rfl, by decide⟩
theorem dX12_costNode_9 : Dc cX12_costNode 9 (.aload_n 0) 1 10 := ⟨by decide +kernel, rfl⟩
theorem dX12_costNode_10 : Dc cX12_costNode 10 (.getfield 120) 3 13 := ⟨by decide +kernel, rfl⟩
theorem dX12_costNode_13 : Dc cX12_costNode 13 (.iload_n 1) 1 14 := ⟨by decide +kernel, rfl⟩
theorem dX12_costNode_14 : Dc cX12_costNode 14 (.iaload) 1 15 := ⟨by decide +kernel, rfl⟩
theorem dX12_costNode_15 : Dc cX12_costNode 15 (.ireturn) 1 16 := ⟨by decide +kernel, rfl⟩
section
variable {p : Program} {l : Launch} {e : Env} {s : State} {m : MethodId} {args : Array Value} {below : List Frame} {meth : Method} {c : Code} {A0 : Nat → Prop} {D : va_G} {cA : Nat → ClassId} {ad : Nat → Nat} {Z : (Nat → Nat) × (Nat → Nat)} {Q : Int → St → Prop}
set_option maxHeartbeats 4000000 in
set_option maxRecDepth 100000 in
theorem t_X12_costNode (E : Ev p s m args meth c cX12_costNode 2 RX12 A0 D cA ad NR Z) (hr : meth.sig.returnType = (some .int)) (x1 : Int) (σ : St) (c1 : C32 x1) (hσ : CanS shR NR σ) (h : wp_X12_costNode x1 σ Q) : G p l e (rmL 1 0 0) s m args below meth c 2 A0 D cA ad shR NR 0 0 (MQ below (QIc D cA ad shR NR Q A0) args s 0 0 A0) σ 0 [some (.ref (ad 0)), some (vI x1)] [] := by
  unfold wp_X12_costNode at h
  refine g_iload_1 E dX12_costNode_0 ?_
  refine g_iconst E dX12_costNode_1 ?_
  refine g_icmp_ne E c1 cl_m1 djX12_costNode_2 (fun hc => ?_) (fun hc => ?_)
  · replace h := h.1 hc
    refine g_aload_0 E dX12_costNode_9 ?_
    refine g_getR E fl_RX12_120 kR_0 sR_0 rfl dX12_costNode_10 ?_
    refine g_iload_1 E dX12_costNode_13 ?_
    refine g_iald E kR_34 sR_34 (by decide) h.1 dX12_costNode_14 ?_
    replace h := h.2
    exact g_iret E hr (aR_34 hσ _) h hσ dX12_costNode_15
  · replace h := h.2 hc
    refine g_iconst E dX12_costNode_5 ?_
    refine g_goto E djX12_costNode_6 ?_
    exact g_iret E hr cl_0 h hσ dX12_costNode_15
end
theorem m_X12_costNode {Z : (Nat → Nat) × (Nat → Nat)} {l : Launch} {D : va_G} {cA : Nat → ClassId} {ad : Nat → Nat} {x1 : Int} {σ : St} {Q : Int → St → Prop} (hA : AdOk NR ad) (c1 : C32 x1) (hσ : CanS shR NR σ) (h : wp_X12_costNode x1 σ Q) : KtI Z l D cA ad shR NR yX12_costNode cX12_costNode 2 (some .int) 1 [.ref (ad 0), vI x1] σ Q :=
  KtI.of my_X12_costNode hA [some (.ref (ad 0)), some (vI x1)] (Nat.le_of_ble_eq_true rfl) rfl (fun p e s m args below meth c A0 E hr => t_X12_costNode E hr x1 σ c1 hσ h)
theorem dX12_stepsNode_0 : Dc cX12_stepsNode 0 (.iload_n 1) 1 1 := ⟨by decide +kernel, rfl⟩
theorem dX12_stepsNode_1 : Dc cX12_stepsNode 1 (.iconst (-1)) 1 2 := ⟨by decide +kernel, rfl⟩
theorem djX12_stepsNode_2 : Dj cX12_stepsNode 2 (.if_icmp .ne 7) 3 5 7 9 := ⟨by decide +kernel, rfl, by decide⟩
theorem dX12_stepsNode_5 : Dc cX12_stepsNode 5 (.iconst 0) 1 6 := ⟨by decide +kernel, rfl⟩
theorem djX12_stepsNode_6 : Dj cX12_stepsNode 6 (.goto 9) 3 9 9 15 := ⟨by decide +kernel, rfl, by decide⟩
theorem dX12_stepsNode_9 : Dc cX12_stepsNode 9 (.aload_n 0) 1 10 := ⟨by decide +kernel, rfl⟩
theorem dX12_stepsNode_10 : Dc cX12_stepsNode 10 (.getfield 123) 3 13 := ⟨by decide +kernel, rfl⟩
theorem dX12_stepsNode_13 : Dc cX12_stepsNode 13 (.iload_n 1) 1 14 := ⟨by decide +kernel, rfl⟩
theorem dX12_stepsNode_14 : Dc cX12_stepsNode 14 (.iaload) 1 15 := ⟨by decide +kernel, rfl⟩
theorem dX12_stepsNode_15 : Dc cX12_stepsNode 15 (.ireturn) 1 16 := ⟨by decide +kernel, rfl⟩
section
variable {p : Program} {l : Launch} {e : Env} {s : State} {m : MethodId} {args : Array Value} {below : List Frame} {meth : Method} {c : Code} {A0 : Nat → Prop} {D : va_G} {cA : Nat → ClassId} {ad : Nat → Nat} {Z : (Nat → Nat) × (Nat → Nat)} {Q : Int → St → Prop}
set_option maxHeartbeats 4000000 in
set_option maxRecDepth 100000 in
theorem t_X12_stepsNode (E : Ev p s m args meth c cX12_stepsNode 2 RX12 A0 D cA ad NR Z) (hr : meth.sig.returnType = (some .int)) (x1 : Int) (σ : St) (c1 : C32 x1) (hσ : CanS shR NR σ) (h : wp_X12_stepsNode x1 σ Q) : G p l e (rmL 1 0 0) s m args below meth c 2 A0 D cA ad shR NR 0 0 (MQ below (QIc D cA ad shR NR Q A0) args s 0 0 A0) σ 0 [some (.ref (ad 0)), some (vI x1)] [] := by
  unfold wp_X12_stepsNode at h
  refine g_iload_1 E dX12_stepsNode_0 ?_
  refine g_iconst E dX12_stepsNode_1 ?_
  refine g_icmp_ne E c1 cl_m1 djX12_stepsNode_2 (fun hc => ?_) (fun hc => ?_)
  · replace h := h.1 hc
    refine g_aload_0 E dX12_stepsNode_9 ?_
    refine g_getR E fl_RX12_123 kR_0 sR_0 rfl dX12_stepsNode_10 ?_
    refine g_iload_1 E dX12_stepsNode_13 ?_
    refine g_iald E kR_35 sR_35 (by decide) h.1 dX12_stepsNode_14 ?_
    replace h := h.2
    exact g_iret E hr (aR_35 hσ _) h hσ dX12_stepsNode_15
  · replace h := h.2 hc
    refine g_iconst E dX12_stepsNode_5 ?_
    refine g_goto E djX12_stepsNode_6 ?_
    exact g_iret E hr cl_0 h hσ dX12_stepsNode_15
end
theorem m_X12_stepsNode {Z : (Nat → Nat) × (Nat → Nat)} {l : Launch} {D : va_G} {cA : Nat → ClassId} {ad : Nat → Nat} {x1 : Int} {σ : St} {Q : Int → St → Prop} (hA : AdOk NR ad) (c1 : C32 x1) (hσ : CanS shR NR σ) (h : wp_X12_stepsNode x1 σ Q) : KtI Z l D cA ad shR NR yX12_stepsNode cX12_stepsNode 2 (some .int) 1 [.ref (ad 0), vI x1] σ Q :=
  KtI.of my_X12_stepsNode hA [some (.ref (ad 0)), some (vI x1)] (Nat.le_of_ble_eq_true rfl) rfl (fun p e s m args below meth c A0 E hr => t_X12_stepsNode E hr x1 σ c1 hσ h)
theorem dX12_deepNode_0 : Dc cX12_deepNode 0 (.iload_n 1) 1 1 := ⟨by decide +kernel, rfl⟩
theorem dX12_deepNode_1 : Dc cX12_deepNode 1 (.iconst (-1)) 1 2 := ⟨by decide +kernel, rfl⟩
theorem djX12_deepNode_2 : Dj cX12_deepNode 2 (.if_icmp .ne 7) 3 5 7 9 := ⟨by decide +kernel, rfl, by decide⟩
theorem dX12_deepNode_5 : Dc cX12_deepNode 5 (.iconst 0) 1 6 := ⟨by decide +kernel, rfl⟩
theorem djX12_deepNode_6 : Dj cX12_deepNode 6 (.goto 9) 3 9 9 15 := ⟨by decide +kernel, rfl, by decide⟩
theorem dX12_deepNode_9 : Dc cX12_deepNode 9 (.aload_n 0) 1 10 := ⟨by decide +kernel, rfl⟩
theorem dX12_deepNode_10 : Dc cX12_deepNode 10 (.getfield 126) 3 13 := ⟨by decide +kernel, rfl⟩
theorem dX12_deepNode_13 : Dc cX12_deepNode 13 (.iload_n 1) 1 14 := ⟨by decide +kernel, rfl⟩
theorem dX12_deepNode_14 : Dc cX12_deepNode 14 (.iaload) 1 15 := ⟨by decide +kernel, rfl⟩
theorem dX12_deepNode_15 : Dc cX12_deepNode 15 (.ireturn) 1 16 := ⟨by decide +kernel, rfl⟩
section
variable {p : Program} {l : Launch} {e : Env} {s : State} {m : MethodId} {args : Array Value} {below : List Frame} {meth : Method} {c : Code} {A0 : Nat → Prop} {D : va_G} {cA : Nat → ClassId} {ad : Nat → Nat} {Z : (Nat → Nat) × (Nat → Nat)} {Q : Int → St → Prop}
set_option maxHeartbeats 4000000 in
set_option maxRecDepth 100000 in
theorem t_X12_deepNode (E : Ev p s m args meth c cX12_deepNode 2 RX12 A0 D cA ad NR Z) (hr : meth.sig.returnType = (some .int)) (x1 : Int) (σ : St) (c1 : C32 x1) (hσ : CanS shR NR σ) (h : wp_X12_deepNode x1 σ Q) : G p l e (rmL 1 0 0) s m args below meth c 2 A0 D cA ad shR NR 0 0 (MQ below (QIc D cA ad shR NR Q A0) args s 0 0 A0) σ 0 [some (.ref (ad 0)), some (vI x1)] [] := by
  unfold wp_X12_deepNode at h
  refine g_iload_1 E dX12_deepNode_0 ?_
  refine g_iconst E dX12_deepNode_1 ?_
  refine g_icmp_ne E c1 cl_m1 djX12_deepNode_2 (fun hc => ?_) (fun hc => ?_)
  · replace h := h.1 hc
    refine g_aload_0 E dX12_deepNode_9 ?_
    refine g_getR E fl_RX12_126 kR_0 sR_0 rfl dX12_deepNode_10 ?_
    refine g_iload_1 E dX12_deepNode_13 ?_
    refine g_iald E kR_36 sR_36 (by decide) h.1 dX12_deepNode_14 ?_
    replace h := h.2
    exact g_iret E hr (aR_36 hσ _) h hσ dX12_deepNode_15
  · replace h := h.2 hc
    refine g_iconst E dX12_deepNode_5 ?_
    refine g_goto E djX12_deepNode_6 ?_
    exact g_iret E hr cl_0 h hσ dX12_deepNode_15
end
theorem m_X12_deepNode {Z : (Nat → Nat) × (Nat → Nat)} {l : Launch} {D : va_G} {cA : Nat → ClassId} {ad : Nat → Nat} {x1 : Int} {σ : St} {Q : Int → St → Prop} (hA : AdOk NR ad) (c1 : C32 x1) (hσ : CanS shR NR σ) (h : wp_X12_deepNode x1 σ Q) : KtI Z l D cA ad shR NR yX12_deepNode cX12_deepNode 2 (some .int) 1 [.ref (ad 0), vI x1] σ Q :=
  KtI.of my_X12_deepNode hA [some (.ref (ad 0)), some (vI x1)] (Nat.le_of_ble_eq_true rfl) rfl (fun p e s m args below meth c A0 E hr => t_X12_deepNode E hr x1 σ c1 hσ h)
theorem dX12_writes_0 : Dc cX12_writes 0 (.aload_n 0) 1 1 := ⟨by decide +kernel, rfl⟩
theorem dX12_writes_1 : Dc cX12_writes 1 (.getfield 480) 3 4 := ⟨by decide +kernel, rfl⟩
theorem dX12_writes_4 : Dc cX12_writes 4 (.iconst (-1)) 1 5 := ⟨by decide +kernel, rfl⟩
theorem djX12_writes_5 : Dj cX12_writes 5 (.if_icmp .eq 10) 3 8 10 15 := ⟨by decide +kernel, rfl, by decide⟩
theorem dX12_writes_8 : Dc cX12_writes 8 (.aload_n 0) 1 9 := ⟨by decide +kernel, rfl⟩
theorem dX12_writes_9 : Dc cX12_writes 9 (.getfield 480) 3 12 := ⟨by decide +kernel, rfl⟩
theorem djX12_writes_12 : Dj cX12_writes 12 (.goto 7) 3 15 7 19 := ⟨by decide +kernel, rfl, by decide⟩
theorem dX12_writes_15 : Dc cX12_writes 15 (.aload_n 0) 1 16 := ⟨by decide +kernel, rfl⟩
theorem dX12_writes_16 : Dc cX12_writes 16 (.getfield 483) 3 19 := ⟨by decide +kernel, rfl⟩
theorem dX12_writes_19 : Dc cX12_writes 19 (.istore 7) 2 21 := ⟨by decide +kernel, rfl⟩
theorem dX12_writes_21 : Dc cX12_writes 21 (.aload_n 0) 1 22 := ⟨by decide +kernel, rfl⟩
theorem dX12_writes_22 : Dc cX12_writes 22 (.getfield 102) 3 25 := ⟨by decide +kernel, rfl⟩
theorem dX12_writes_25 : Dc cX12_writes 25 (.iload 7) 2 27 := ⟨by decide +kernel, rfl⟩
theorem dX12_writes_27 : Dc cX12_writes 27 (.iload_n 1) 1 28 := ⟨by decide +kernel, rfl⟩
theorem dX12_writes_28 : Dc cX12_writes 28 (.iastore) 1 29 := ⟨by decide +kernel, rfl⟩
theorem dX12_writes_29 : Dc cX12_writes 29 (.aload_n 0) 1 30 := ⟨by decide +kernel, rfl⟩
theorem dX12_writes_30 : Dc cX12_writes 30 (.getfield 105) 3 33 := ⟨by decide +kernel, rfl⟩
theorem dX12_writes_33 : Dc cX12_writes 33 (.iload 7) 2 35 := ⟨by decide +kernel, rfl⟩
theorem dX12_writes_35 : Dc cX12_writes 35 (.iload_n 2) 1 36 := ⟨by decide +kernel, rfl⟩
theorem dX12_writes_36 : Dc cX12_writes 36 (.iastore) 1 37 := ⟨by decide +kernel, rfl⟩
theorem dX12_writes_37 : Dc cX12_writes 37 (.aload_n 0) 1 38 := ⟨by decide +kernel, rfl⟩
theorem dX12_writes_38 : Dc cX12_writes 38 (.getfield 108) 3 41 := ⟨by decide +kernel, rfl⟩
theorem dX12_writes_41 : Dc cX12_writes 41 (.iload 7) 2 43 := ⟨by decide +kernel, rfl⟩
theorem dX12_writes_43 : Dc cX12_writes 43 (.iload_n 3) 1 44 := ⟨by decide +kernel, rfl⟩
theorem dX12_writes_44 : Dc cX12_writes 44 (.iastore) 1 45 := ⟨by decide +kernel, rfl⟩
theorem dX12_writes_45 : Dc cX12_writes 45 (.aload_n 0) 1 46 := ⟨by decide +kernel, rfl⟩
theorem dX12_writes_46 : Dc cX12_writes 46 (.getfield 111) 3 49 := ⟨by decide +kernel, rfl⟩
theorem dX12_writes_49 : Dc cX12_writes 49 (.iload 7) 2 51 := ⟨by decide +kernel, rfl⟩
theorem dX12_writes_51 : Dc cX12_writes 51 (.iload 4) 2 53 := ⟨by decide +kernel, rfl⟩
theorem dX12_writes_53 : Dc cX12_writes 53 (.iastore) 1 54 := ⟨by decide +kernel, rfl⟩
theorem dX12_writes_54 : Dc cX12_writes 54 (.aload_n 0) 1 55 := ⟨by decide +kernel, rfl⟩
theorem dX12_writes_55 : Dc cX12_writes 55 (.getfield 114) 3 58 := ⟨by decide +kernel, rfl⟩
theorem dX12_writes_58 : Dc cX12_writes 58 (.iload 7) 2 60 := ⟨by decide +kernel, rfl⟩
theorem dX12_writes_60 : Dc cX12_writes 60 (.iload 5) 2 62 := ⟨by decide +kernel, rfl⟩
theorem dX12_writes_62 : Dc cX12_writes 62 (.iastore) 1 63 := ⟨by decide +kernel, rfl⟩
theorem dX12_writes_63 : Dc cX12_writes 63 (.aload_n 0) 1 64 := ⟨by decide +kernel, rfl⟩
theorem dX12_writes_64 : Dc cX12_writes 64 (.getfield 117) 3 67 := ⟨by decide +kernel, rfl⟩
theorem dX12_writes_67 : Dc cX12_writes 67 (.iload 7) 2 69 := ⟨by decide +kernel, rfl⟩
theorem dX12_writes_69 : Dc cX12_writes 69 (.iload 6) 2 71 := ⟨by decide +kernel, rfl⟩
theorem dX12_writes_71 : Dc cX12_writes 71 (.iastore) 1 72 := ⟨by decide +kernel, rfl⟩
theorem dX12_writes_72 : Dc cX12_writes 72 (.aload_n 0) 1 73 := ⟨by decide +kernel, rfl⟩
theorem dX12_writes_73 : Dc cX12_writes 73 (.getfield 120) 3 76 := ⟨by decide +kernel, rfl⟩
theorem dX12_writes_76 : Dc cX12_writes 76 (.iload 7) 2 78 := ⟨by decide +kernel, rfl⟩
theorem dX12_writes_78 : Dc cX12_writes 78 (.aload_n 0) 1 79 := ⟨by decide +kernel, rfl⟩
theorem dX12_writes_79 : Dc cX12_writes 79 (.getfield 23) 3 82 := ⟨by decide +kernel, rfl⟩
theorem dX12_writes_82 : Dc cX12_writes 82 (.iload_n 1) 1 83 := ⟨by decide +kernel, rfl⟩
theorem dX12_writes_83 : Dc cX12_writes 83 (.iaload) 1 84 := ⟨by decide +kernel, rfl⟩
theorem dX12_writes_84 : Dc cX12_writes 84 (.aload_n 0) 1 85 := ⟨by decide +kernel, rfl⟩
theorem dX12_writes_85 : Dc cX12_writes 85 (.iload 5) 2 87 := ⟨by decide +kernel, rfl⟩
theorem dX12_writes_87 : Dc cX12_writes 87 (.invokevirtual 486) 3 90 := ⟨by decide +kernel, rfl⟩
theorem dX12_writes_90 : Dc cX12_writes 90 (.iadd) 1 91 := ⟨by decide +kernel, rfl⟩
theorem dX12_writes_91 : Dc cX12_writes 91 (.aload_n 0) 1 92 := ⟨by decide +kernel, rfl⟩
theorem dX12_writes_92 : Dc cX12_writes 92 (.iload 6) 2 94 := ⟨by decide +kernel, rfl⟩
theorem dX12_writes_94 : Dc cX12_writes 94 (.invokevirtual 486) 3 97 := ⟨by decide +kernel, rfl⟩
theorem dX12_writes_97 : Dc cX12_writes 97 (.iadd) 1 98 := ⟨by decide +kernel, rfl⟩
theorem dX12_writes_98 : Dc cX12_writes 98 (.iastore) 1 99 := ⟨by decide +kernel, rfl⟩
theorem dX12_writes_99 : Dc cX12_writes 99 (.aload_n 0) 1 100 := ⟨by decide +kernel, rfl⟩
theorem dX12_writes_100 : Dc cX12_writes 100 (.getfield 123) 3 103 := ⟨by decide +kernel, rfl⟩
theorem dX12_writes_103 : Dc cX12_writes 103 (.iload 7) 2 105 := ⟨by decide +kernel, rfl⟩
theorem dX12_writes_105 : Dc cX12_writes 105 (.iconst 1) 1 106 := ⟨by decide +kernel, rfl⟩
theorem dX12_writes_106 : Dc cX12_writes 106 (.aload_n 0) 1 107 := ⟨by decide +kernel, rfl⟩
theorem dX12_writes_107 : Dc cX12_writes 107 (.iload 5) 2 109 := ⟨by decide +kernel, rfl⟩
theorem dX12_writes_109 : Dc cX12_writes 109 (.invokevirtual 489) 3 112 := ⟨by decide +kernel, rfl⟩
theorem dX12_writes_112 : Dc cX12_writes 112 (.iadd) 1 113 := ⟨by decide +kernel, rfl⟩
theorem dX12_writes_113 : Dc cX12_writes 113 (.aload_n 0) 1 114 := ⟨by decide +kernel, rfl⟩
theorem dX12_writes_114 : Dc cX12_writes 114 (.iload 6) 2 116 := ⟨by decide +kernel, rfl⟩
theorem dX12_writes_116 : Dc cX12_writes 116 (.invokevirtual 489) 3 119 := ⟨by decide +kernel, rfl⟩
theorem dX12_writes_119 : Dc cX12_writes 119 (.iadd) 1 120 := ⟨by decide +kernel, rfl⟩
theorem dX12_writes_120 : Dc cX12_writes 120 (.iastore) 1 121 := ⟨by decide +kernel, rfl⟩
theorem dX12_writes_121 : Dc cX12_writes 121 (.aload_n 0) 1 122 := ⟨by decide +kernel, rfl⟩
theorem dX12_writes_122 : Dc cX12_writes 122 (.getfield 126) 3 125 := ⟨by decide +kernel, rfl⟩
theorem dX12_writes_125 : Dc cX12_writes 125 (.iload 7) 2 127 := ⟨by decide +kernel, rfl⟩
theorem dX12_writes_127 : Dc cX12_writes 127 (.iconst 1) 1 128 := ⟨by decide +kernel, rfl⟩
theorem dX12_writes_128 : Dc cX12_writes 128 (.aload_n 0) 1 129 := ⟨by decide +kernel, rfl⟩
theorem dX12_writes_129 : Dc cX12_writes 129 (.iload 5) 2 131 := ⟨by decide +kernel, rfl⟩
theorem dX12_writes_131 : Dc cX12_writes 131 (.invokevirtual 492) 3 134 := ⟨by decide +kernel, rfl⟩
theorem dX12_writes_134 : Dc cX12_writes 134 (.aload_n 0) 1 135 := ⟨by decide +kernel, rfl⟩
theorem dX12_writes_135 : Dc cX12_writes 135 (.iload 6) 2 137 := ⟨by decide +kernel, rfl⟩
theorem dX12_writes_137 : Dc cX12_writes 137 (.invokevirtual 492) 3 140 := ⟨by decide +kernel, rfl⟩
theorem dX12_writes_140 : Dc cX12_writes 140 (.invokestatic 374) 3 143 := ⟨by decide +kernel, rfl⟩
theorem dX12_writes_143 : Dc cX12_writes 143 (.iadd) 1 144 := ⟨by decide +kernel, rfl⟩
theorem dX12_writes_144 : Dc cX12_writes 144 (.iastore) 1 145 := ⟨by decide +kernel, rfl⟩
theorem dX12_writes_145 : Dc cX12_writes 145 (.iload 7) 2 147 := ⟨by decide +kernel, rfl⟩
theorem dX12_writes_147 : Dc cX12_writes 147 (.ireturn) 1 148 := ⟨by decide +kernel, rfl⟩
section
variable {p : Program} {l : Launch} {e : Env} {s : State} {m : MethodId} {args : Array Value} {below : List Frame} {meth : Method} {c : Code} {A0 : Nat → Prop} {D : va_G} {cA : Nat → ClassId} {ad : Nat → Nat} {Z : (Nat → Nat) × (Nat → Nat)} {Q : Int → St → Prop}
set_option maxHeartbeats 4000000 in
set_option maxRecDepth 100000 in
theorem t_X12_writes_b19 (E : Ev p s m args meth c cX12_writes 8 RX12 A0 D cA ad NR Z) (hr : meth.sig.returnType = (some .int)) (x1 : Int) (x2 : Int) (x3 : Int) (x4 : Int) (x5 : Int) (x6 : Int) (s0 : Int) (σ : St) (c1 : C32 x1) (c2 : C32 x2) (c3 : C32 x3) (c4 : C32 x4) (c5 : C32 x5) (c6 : C32 x6) (cs0 : C32 s0) (hσ : CanS shR NR σ) (h : wp_X12_writes_b19 Q x1 x2 x3 x4 x5 x6 s0 σ) : G p l e (rmL 2 0 0) s m args below meth c 8 A0 D cA ad shR NR 0 0 (MQ below (QIc D cA ad shR NR Q A0) args s 0 0 A0) σ 19 [some (.ref (ad 0)), some (vI x1), some (vI x2), some (vI x3), some (vI x4), some (vI x5), some (vI x6), none] [vI s0] := by
  unfold wp_X12_writes_b19 at h
  refine g_istore_7 E rfl (by decide) dX12_writes_19 ?_
  refine g_aload_0 E dX12_writes_21 ?_
  refine g_getR E fl_RX12_102 kR_0 sR_0 rfl dX12_writes_22 ?_
  refine g_iload_7 E dX12_writes_25 ?_
  refine g_iload_1 E dX12_writes_27 ?_
  refine g_iast E kR_28 sR_28 (by decide) h.1 dX12_writes_28 (g_nmS (fun σ1 eσ1 => ?_))
  replace h := h.2 σ1 eσ1
  have hσ1 : CanS shR NR σ1 := by rw [eσ1]; exact wR_28 hσ c1
  refine g_aload_0 E dX12_writes_29 ?_
  refine g_getR E fl_RX12_105 kR_0 sR_0 rfl dX12_writes_30 ?_
  refine g_iload_7 E dX12_writes_33 ?_
  refine g_iload_2 E dX12_writes_35 ?_
  refine g_iast E kR_29 sR_29 (by decide) h.1 dX12_writes_36 (g_nmS (fun σ2 eσ2 => ?_))
  replace h := h.2 σ2 eσ2
  have hσ2 : CanS shR NR σ2 := by rw [eσ2]; exact wR_29 hσ1 c2
  refine g_aload_0 E dX12_writes_37 ?_
  refine g_getR E fl_RX12_108 kR_0 sR_0 rfl dX12_writes_38 ?_
  refine g_iload_7 E dX12_writes_41 ?_
  refine g_iload_3 E dX12_writes_43 ?_
  refine g_iast E kR_30 sR_30 (by decide) h.1 dX12_writes_44 (g_nmS (fun σ3 eσ3 => ?_))
  replace h := h.2 σ3 eσ3
  have hσ3 : CanS shR NR σ3 := by rw [eσ3]; exact wR_30 hσ2 c3
  refine g_aload_0 E dX12_writes_45 ?_
  refine g_getR E fl_RX12_111 kR_0 sR_0 rfl dX12_writes_46 ?_
  refine g_iload_7 E dX12_writes_49 ?_
  refine g_iload_4 E dX12_writes_51 ?_
  refine g_iast E kR_31 sR_31 (by decide) h.1 dX12_writes_53 (g_nmS (fun σ4 eσ4 => ?_))
  replace h := h.2 σ4 eσ4
  have hσ4 : CanS shR NR σ4 := by rw [eσ4]; exact wR_31 hσ3 c4
  refine g_aload_0 E dX12_writes_54 ?_
  refine g_getR E fl_RX12_114 kR_0 sR_0 rfl dX12_writes_55 ?_
  refine g_iload_7 E dX12_writes_58 ?_
  refine g_iload_5 E dX12_writes_60 ?_
  refine g_iast E kR_32 sR_32 (by decide) h.1 dX12_writes_62 (g_nmS (fun σ5 eσ5 => ?_))
  replace h := h.2 σ5 eσ5
  have hσ5 : CanS shR NR σ5 := by rw [eσ5]; exact wR_32 hσ4 c5
  refine g_aload_0 E dX12_writes_63 ?_
  refine g_getR E fl_RX12_117 kR_0 sR_0 rfl dX12_writes_64 ?_
  refine g_iload_7 E dX12_writes_67 ?_
  refine g_iload_6 E dX12_writes_69 ?_
  refine g_iast E kR_33 sR_33 (by decide) h.1 dX12_writes_71 (g_nmS (fun σ6 eσ6 => ?_))
  replace h := h.2 σ6 eσ6
  have hσ6 : CanS shR NR σ6 := by rw [eσ6]; exact wR_33 hσ5 c6
  refine g_aload_0 E dX12_writes_72 ?_
  refine g_getR E fl_RX12_120 kR_0 sR_0 rfl dX12_writes_73 ?_
  refine g_iload_7 E dX12_writes_76 ?_
  refine g_aload_0 E dX12_writes_78 ?_
  refine g_getR E fl_RX12_23 kR_0 sR_0 rfl dX12_writes_79 ?_
  refine g_iload_1 E dX12_writes_82 ?_
  refine g_iald E kR_4 sR_4 (by decide) h.1 dX12_writes_83 ?_
  replace h := h.2
  refine g_aload_0 E dX12_writes_84 ?_
  refine g_iload_5 E dX12_writes_85 ?_
  refine g_callvI E my_X12_costNode mi_X12_costNode msel_X12_costNode ml_RX12_486 (rm_ok (by decide) (by decide)) ⟨Nat.zero_le _, Nat.zero_le _⟩ kR_0 sR_0 rfl (m_X12_costNode E.2.2.1 c5 hσ6 h) rfl rfl (Nat.le_of_ble_eq_true rfl) dX12_writes_87 (fun r7 σ8 cr7 hσ8 h => ?_)
  refine g_iadd E dX12_writes_90 ?_
  refine g_aload_0 E dX12_writes_91 ?_
  refine g_iload_6 E dX12_writes_92 ?_
  refine g_callvI E my_X12_costNode mi_X12_costNode msel_X12_costNode ml_RX12_486 (rm_ok (by decide) (by decide)) ⟨Nat.zero_le _, Nat.zero_le _⟩ kR_0 sR_0 rfl (m_X12_costNode E.2.2.1 c6 hσ8 h) rfl rfl (Nat.le_of_ble_eq_true rfl) dX12_writes_94 (fun r9 σ10 cr9 hσ10 h => ?_)
  refine g_iadd E dX12_writes_97 ?_
  refine g_iast E kR_34 sR_34 (by decide) h.1 dX12_writes_98 (g_nmS (fun σ11 eσ11 => ?_))
  replace h := h.2 σ11 eσ11
  have hσ11 : CanS shR NR σ11 := by rw [eσ11]; exact wR_34 hσ10 (c32_w _)
  refine g_aload_0 E dX12_writes_99 ?_
  refine g_getR E fl_RX12_123 kR_0 sR_0 rfl dX12_writes_100 ?_
  refine g_iload_7 E dX12_writes_103 ?_
  refine g_iconst E dX12_writes_105 ?_
  refine g_aload_0 E dX12_writes_106 ?_
  refine g_iload_5 E dX12_writes_107 ?_
  refine g_callvI E my_X12_stepsNode mi_X12_stepsNode msel_X12_stepsNode ml_RX12_489 (rm_ok (by decide) (by decide)) ⟨Nat.zero_le _, Nat.zero_le _⟩ kR_0 sR_0 rfl (m_X12_stepsNode E.2.2.1 c5 hσ11 h) rfl rfl (Nat.le_of_ble_eq_true rfl) dX12_writes_109 (fun r12 σ13 cr12 hσ13 h => ?_)
  refine g_iadd E dX12_writes_112 ?_
  refine g_aload_0 E dX12_writes_113 ?_
  refine g_iload_6 E dX12_writes_114 ?_
  refine g_callvI E my_X12_stepsNode mi_X12_stepsNode msel_X12_stepsNode ml_RX12_489 (rm_ok (by decide) (by decide)) ⟨Nat.zero_le _, Nat.zero_le _⟩ kR_0 sR_0 rfl (m_X12_stepsNode E.2.2.1 c6 hσ13 h) rfl rfl (Nat.le_of_ble_eq_true rfl) dX12_writes_116 (fun r14 σ15 cr14 hσ15 h => ?_)
  refine g_iadd E dX12_writes_119 ?_
  refine g_iast E kR_35 sR_35 (by decide) h.1 dX12_writes_120 (g_nmS (fun σ16 eσ16 => ?_))
  replace h := h.2 σ16 eσ16
  have hσ16 : CanS shR NR σ16 := by rw [eσ16]; exact wR_35 hσ15 (c32_w _)
  refine g_aload_0 E dX12_writes_121 ?_
  refine g_getR E fl_RX12_126 kR_0 sR_0 rfl dX12_writes_122 ?_
  refine g_iload_7 E dX12_writes_125 ?_
  refine g_iconst E dX12_writes_127 ?_
  refine g_aload_0 E dX12_writes_128 ?_
  refine g_iload_5 E dX12_writes_129 ?_
  refine g_callvI E my_X12_deepNode mi_X12_deepNode msel_X12_deepNode ml_RX12_492 (rm_ok (by decide) (by decide)) ⟨Nat.zero_le _, Nat.zero_le _⟩ kR_0 sR_0 rfl (m_X12_deepNode E.2.2.1 c5 hσ16 h) rfl rfl (Nat.le_of_ble_eq_true rfl) dX12_writes_131 (fun r17 σ18 cr17 hσ18 h => ?_)
  refine g_aload_0 E dX12_writes_134 ?_
  refine g_iload_6 E dX12_writes_135 ?_
  refine g_callvI E my_X12_deepNode mi_X12_deepNode msel_X12_deepNode ml_RX12_492 (rm_ok (by decide) (by decide)) ⟨Nat.zero_le _, Nat.zero_le _⟩ kR_0 sR_0 rfl (m_X12_deepNode E.2.2.1 c6 hσ18 h) rfl rfl (Nat.le_of_ble_eq_true rfl) dX12_writes_137 (fun r19 σ20 cr19 hσ20 h => ?_)
  refine g_mmax E ml_RX12_374 cr17 cr19 (Nat.le_of_ble_eq_true rfl) (rm_1 2) ⟨Nat.zero_le _, Nat.zero_le _⟩ dX12_writes_140 ?_
  refine g_iadd E dX12_writes_143 ?_
  refine g_iast E kR_36 sR_36 (by decide) h.1 dX12_writes_144 (g_nmS (fun σ21 eσ21 => ?_))
  replace h := h.2 σ21 eσ21
  have hσ21 : CanS shR NR σ21 := by rw [eσ21]; exact wR_36 hσ20 (c32_w _)
  refine g_iload_7 E dX12_writes_145 ?_
  exact g_iret E hr cs0 h hσ21 dX12_writes_147
set_option maxHeartbeats 4000000 in
set_option maxRecDepth 100000 in
theorem t_X12_writes (E : Ev p s m args meth c cX12_writes 8 RX12 A0 D cA ad NR Z) (hr : meth.sig.returnType = (some .int)) (x1 : Int) (x2 : Int) (x3 : Int) (x4 : Int) (x5 : Int) (x6 : Int) (σ : St) (c1 : C32 x1) (c2 : C32 x2) (c3 : C32 x3) (c4 : C32 x4) (c5 : C32 x5) (c6 : C32 x6) (hσ : CanS shR NR σ) (h : wp_X12_writes x1 x2 x3 x4 x5 x6 σ Q) : G p l e (rmL 2 0 0) s m args below meth c 8 A0 D cA ad shR NR 0 0 (MQ below (QIc D cA ad shR NR Q A0) args s 0 0 A0) σ 0 [some (.ref (ad 0)), some (vI x1), some (vI x2), some (vI x3), some (vI x4), some (vI x5), some (vI x6), none] [] := by
  unfold wp_X12_writes at h
  refine g_aload_0 E dX12_writes_0 ?_
  refine g_getI E fl_RX12_480 kR_0 sR_0 rfl dX12_writes_1 ?_
  refine g_iconst E dX12_writes_4 ?_
  refine g_icmp_eq E (fR_0_55 hσ) cl_m1 djX12_writes_5 (fun hc => ?_) (fun hc => ?_)
  · replace h := h.1 hc
    refine g_aload_0 E dX12_writes_15 ?_
    refine g_getI E fl_RX12_483 kR_0 sR_0 rfl dX12_writes_16 ?_
    exact (t_X12_writes_b19 E hr x1 x2 x3 x4 x5 x6 (σ 0 54) σ c1 c2 c3 c4 c5 c6 (fR_0_54 hσ) hσ h).weak (w_k (w_k (w_k (w_k (w_k (w_k (w_k (w_d w_n))))))))
  · replace h := h.2 hc
    refine g_aload_0 E dX12_writes_8 ?_
    refine g_getI E fl_RX12_480 kR_0 sR_0 rfl dX12_writes_9 ?_
    refine g_goto E djX12_writes_12 ?_
    exact (t_X12_writes_b19 E hr x1 x2 x3 x4 x5 x6 (σ 0 55) σ c1 c2 c3 c4 c5 c6 (fR_0_55 hσ) hσ h).weak (w_k (w_k (w_k (w_k (w_k (w_k (w_k (w_d w_n))))))))
end
theorem m_X12_writes {Z : (Nat → Nat) × (Nat → Nat)} {l : Launch} {D : va_G} {cA : Nat → ClassId} {ad : Nat → Nat} {x1 x2 x3 x4 x5 x6 : Int} {σ : St} {Q : Int → St → Prop} (hA : AdOk NR ad) (c1 : C32 x1) (c2 : C32 x2) (c3 : C32 x3) (c4 : C32 x4) (c5 : C32 x5) (c6 : C32 x6) (hσ : CanS shR NR σ) (h : wp_X12_writes x1 x2 x3 x4 x5 x6 σ Q) : KtI Z l D cA ad shR NR yX12_writes cX12_writes 8 (some .int) 2 [.ref (ad 0), vI x1, vI x2, vI x3, vI x4, vI x5, vI x6] σ Q :=
  KtI.of my_X12_writes hA [some (.ref (ad 0)), some (vI x1), some (vI x2), some (vI x3), some (vI x4), some (vI x5), some (vI x6), none] (Nat.le_of_ble_eq_true rfl) rfl (fun p e s m args below meth c A0 E hr => t_X12_writes E hr x1 x2 x3 x4 x5 x6 σ c1 c2 c3 c4 c5 c6 hσ h)
theorem dX12_formOf_0 : Dc cX12_formOf 0 (.iload_n 1) 1 1 := ⟨by decide +kernel, rfl⟩
theorem dX12_formOf_1 : Dc cX12_formOf 1 (.istore_n 3) 1 2 := ⟨by decide +kernel, rfl⟩
theorem dX12_formOf_2 : Dc cX12_formOf 2 (.iload_n 2) 1 3 := ⟨by decide +kernel, rfl⟩
theorem dX12_formOf_3 : Dc cX12_formOf 3 (.istore 4) 2 5 := ⟨by decide +kernel, rfl⟩
theorem dX12_formOf_5 : Dc cX12_formOf 5 (.iload_n 3) 1 6 := ⟨by decide +kernel, rfl⟩
theorem dX12_formOf_6 : Dc cX12_formOf 6 (.iload 4) 2 8 := ⟨by decide +kernel, rfl⟩
theorem djX12_formOf_8 : Dj cX12_formOf 8 (.if_icmp .eq 122) 3 11 122 130 := ⟨by decide +kernel, rfl, by decide⟩
theorem dX12_formOf_11 : Dc cX12_formOf 11 (.iload_n 3) 1 12 := ⟨by decide +kernel, rfl⟩
theorem dX12_formOf_12 : Dc cX12_formOf 12 (.iconst (-1)) 1 13 := ⟨by decide +kernel, rfl⟩
theorem djX12_formOf_13 : Dj cX12_formOf 13 (.if_icmp .eq 117) 3 16 117 130 := ⟨by decide +kernel, rfl, by decide⟩
theorem dX12_formOf_16 : Dc cX12_formOf 16 (.iload 4) 2 18 := ⟨by decide +kernel, rfl⟩
theorem dX12_formOf_18 : Dc cX12_formOf 18 (.iconst (-1)) 1 19 := ⟨by decide +kernel, rfl⟩
theorem djX12_formOf_19 : Dj cX12_formOf 19 (.if_icmp .eq 111) 3 22 111 130 := ⟨by decide +kernel, rfl, by decide⟩
theorem dX12_formOf_22 : Dc cX12_formOf 22 (.aload_n 0) 1 23 := ⟨by decide +kernel, rfl⟩
theorem dX12_formOf_23 : Dc cX12_formOf 23 (.getfield 102) 3 26 := ⟨by decide +kernel, rfl⟩
theorem dX12_formOf_26 : Dc cX12_formOf 26 (.iload_n 3) 1 27 := ⟨by decide +kernel, rfl⟩
theorem dX12_formOf_27 : Dc cX12_formOf 27 (.iaload) 1 28 := ⟨by decide +kernel, rfl⟩
theorem dX12_formOf_28 : Dc cX12_formOf 28 (.aload_n 0) 1 29 := ⟨by decide +kernel, rfl⟩
theorem dX12_formOf_29 : Dc cX12_formOf 29 (.getfield 102) 3 32 := ⟨by decide +kernel, rfl⟩
theorem dX12_formOf_32 : Dc cX12_formOf 32 (.iload 4) 2 34 := ⟨by decide +kernel, rfl⟩
theorem dX12_formOf_34 : Dc cX12_formOf 34 (.iaload) 1 35 := ⟨by decide +kernel, rfl⟩
theorem djX12_formOf_35 : Dj cX12_formOf 35 (.if_icmp .eq 18) 3 38 18 53 := ⟨by decide +kernel, rfl, by decide⟩
theorem dX12_formOf_38 : Dc cX12_formOf 38 (.aload_n 0) 1 39 := ⟨by decide +kernel, rfl⟩
theorem dX12_formOf_39 : Dc cX12_formOf 39 (.getfield 102) 3 42 := ⟨by decide +kernel, rfl⟩
theorem dX12_formOf_42 : Dc cX12_formOf 42 (.iload_n 3) 1 43 := ⟨by decide +kernel, rfl⟩
theorem dX12_formOf_43 : Dc cX12_formOf 43 (.iaload) 1 44 := ⟨by decide +kernel, rfl⟩
theorem dX12_formOf_44 : Dc cX12_formOf 44 (.aload_n 0) 1 45 := ⟨by decide +kernel, rfl⟩
theorem dX12_formOf_45 : Dc cX12_formOf 45 (.getfield 102) 3 48 := ⟨by decide +kernel, rfl⟩
theorem dX12_formOf_48 : Dc cX12_formOf 48 (.iload 4) 2 50 := ⟨by decide +kernel, rfl⟩
theorem dX12_formOf_50 : Dc cX12_formOf 50 (.iaload) 1 51 := ⟨by decide +kernel, rfl⟩
theorem dX12_formOf_51 : Dc cX12_formOf 51 (.isub) 1 52 := ⟨by decide +kernel, rfl⟩
theorem dX12_formOf_52 : Dc cX12_formOf 52 (.ireturn) 1 53 := ⟨by decide +kernel, rfl⟩
theorem dX12_formOf_53 : Dc cX12_formOf 53 (.aload_n 0) 1 54 := ⟨by decide +kernel, rfl⟩
theorem dX12_formOf_54 : Dc cX12_formOf 54 (.getfield 108) 3 57 := ⟨by decide +kernel, rfl⟩
theorem dX12_formOf_57 : Dc cX12_formOf 57 (.iload_n 3) 1 58 := ⟨by decide +kernel, rfl⟩
theorem dX12_formOf_58 : Dc cX12_formOf 58 (.iaload) 1 59 := ⟨by decide +kernel, rfl⟩
theorem dX12_formOf_59 : Dc cX12_formOf 59 (.aload_n 0) 1 60 := ⟨by decide +kernel, rfl⟩
theorem dX12_formOf_60 : Dc cX12_formOf 60 (.getfield 108) 3 63 := ⟨by decide +kernel, rfl⟩
theorem dX12_formOf_63 : Dc cX12_formOf 63 (.iload 4) 2 65 := ⟨by decide +kernel, rfl⟩
theorem dX12_formOf_65 : Dc cX12_formOf 65 (.iaload) 1 66 := ⟨by decide +kernel, rfl⟩
theorem djX12_formOf_66 : Dj cX12_formOf 66 (.if_icmp .eq 18) 3 69 18 84 := ⟨by decide +kernel, rfl, by decide⟩
theorem dX12_formOf_69 : Dc cX12_formOf 69 (.aload_n 0) 1 70 := ⟨by decide +kernel, rfl⟩
theorem dX12_formOf_70 : Dc cX12_formOf 70 (.getfield 108) 3 73 := ⟨by decide +kernel, rfl⟩
theorem dX12_formOf_73 : Dc cX12_formOf 73 (.iload_n 3) 1 74 := ⟨by decide +kernel, rfl⟩
theorem dX12_formOf_74 : Dc cX12_formOf 74 (.iaload) 1 75 := ⟨by decide +kernel, rfl⟩
theorem dX12_formOf_75 : Dc cX12_formOf 75 (.aload_n 0) 1 76 := ⟨by decide +kernel, rfl⟩
theorem dX12_formOf_76 : Dc cX12_formOf 76 (.getfield 108) 3 79 := ⟨by decide +kernel, rfl⟩
theorem dX12_formOf_79 : Dc cX12_formOf 79 (.iload 4) 2 81 := ⟨by decide +kernel, rfl⟩
theorem dX12_formOf_81 : Dc cX12_formOf 81 (.iaload) 1 82 := ⟨by decide +kernel, rfl⟩
theorem dX12_formOf_82 : Dc cX12_formOf 82 (.isub) 1 83 := ⟨by decide +kernel, rfl⟩
theorem dX12_formOf_83 : Dc cX12_formOf 83 (.ireturn) 1 84 := ⟨by decide +kernel, rfl⟩
theorem dX12_formOf_84 : Dc cX12_formOf 84 (.aload_n 0) 1 85 := ⟨by decide +kernel, rfl⟩
theorem dX12_formOf_85 : Dc cX12_formOf 85 (.aload_n 0) 1 86 := ⟨by decide +kernel, rfl⟩
theorem dX12_formOf_86 : Dc cX12_formOf 86 (.getfield 114) 3 89 := ⟨by decide +kernel, rfl⟩
theorem dX12_formOf_89 : Dc cX12_formOf 89 (.iload_n 3) 1 90 := ⟨by decide +kernel, rfl⟩
theorem dX12_formOf_90 : Dc cX12_formOf 90 (.iaload) 1 91 := ⟨by decide +kernel, rfl⟩
theorem dX12_formOf_91 : Dc cX12_formOf 91 (.aload_n 0) 1 92 := ⟨by decide +kernel, rfl⟩
theorem dX12_formOf_92 : Dc cX12_formOf 92 (.getfield 114) 3 95 := ⟨by decide +kernel, rfl⟩
theorem dX12_formOf_95 : Dc cX12_formOf 95 (.iload 4) 2 97 := ⟨by decide +kernel, rfl⟩
theorem dX12_formOf_97 : Dc cX12_formOf 97 (.iaload) 1 98 := ⟨by decide +kernel, rfl⟩
theorem dX12_formOf_98 : Dc cX12_formOf 98 (.invokevirtual 495) 3 101 := ⟨by decide +kernel, rfl⟩
theorem dX12_formOf_101 : Dc cX12_formOf 101 (.istore 5) 2 103 := ⟨by decide +kernel, rfl⟩
theorem dX12_formOf_103 : Dc cX12_formOf 103 (.iload 5) 2 105 := ⟨by decide +kernel, rfl⟩
theorem djX12_formOf_105 : Dj cX12_formOf 105 (.ifCond .eq 6) 3 108 6 111 := ⟨by decide +kernel, rfl, by decide⟩
theorem dX12_formOf_108 : Dc cX12_formOf 108 (.iload 5) 2 110 := ⟨by decide +kernel, rfl⟩
theorem dX12_formOf_110 : Dc cX12_formOf 110 (.ireturn) 1 111 := ⟨by decide +kernel, rfl⟩
theorem dX12_formOf_111 : Dc cX12_formOf 111 (.aload_n 0) 1 112 := ⟨by decide +kernel, rfl⟩
theorem dX12_formOf_112 : Dc cX12_formOf 112 (.getfield 117) 3 115 := ⟨by decide +kernel, rfl⟩
theorem dX12_formOf_115 : Dc cX12_formOf 115 (.iload_n 3) 1 116 := ⟨by decide +kernel, rfl⟩
theorem dX12_formOf_116 : Dc cX12_formOf 116 (.iaload) 1 117 := ⟨by decide +kernel, rfl⟩
theorem dX12_formOf_117 : Dc cX12_formOf 117 (.istore_n 3) 1 118 := ⟨by decide +kernel, rfl⟩
theorem dX12_formOf_118 : Dc cX12_formOf 118 (.aload_n 0) 1 119 := ⟨by decide +kernel, rfl⟩
theorem dX12_formOf_119 : Dc cX12_formOf 119 (.getfield 117) 3 122 := ⟨by decide +kernel, rfl⟩
theorem dX12_formOf_122 : Dc cX12_formOf 122 (.iload 4) 2 124 := ⟨by decide +kernel, rfl⟩
theorem dX12_formOf_124 : Dc cX12_formOf 124 (.iaload) 1 125 := ⟨by decide +kernel, rfl⟩
theorem dX12_formOf_125 : Dc cX12_formOf 125 (.istore 4) 2 127 := ⟨by decide +kernel, rfl⟩
theorem djX12_formOf_127 : Dj cX12_formOf 127 (.goto (-122)) 3 130 (-122) 5 := ⟨by decide +kernel, rfl, by decide⟩
theorem dX12_formOf_130 : Dc cX12_formOf 130 (.iconst 0) 1 131 := ⟨by decide +kernel, rfl⟩
theorem dX12_formOf_131 : Dc cX12_formOf 131 (.ireturn) 1 132 := ⟨by decide +kernel, rfl⟩
section
variable {p : Program} {l : Launch} {e : Env} {s : State} {m : MethodId} {args : Array Value} {below : List Frame} {meth : Method} {c : Code} {A0 : Nat → Prop} {D : va_G} {cA : Nat → ClassId} {ad : Nat → Nat} {Z : (Nat → Nat) × (Nat → Nat)} {Q : Int → St → Prop}
set_option maxHeartbeats 4000000 in
set_option maxRecDepth 100000 in
theorem t_X12_formOf_l5 (E : Ev p s m args meth c cX12_formOf 6 RX12 A0 D cA ad NR Z) (hr : meth.sig.returnType = (some .int)) {M : Int → Int → St → (Int → St → Prop) → Prop} {d : Nat} (hM : ∀ (x1 : Int) (x2 : Int) (σ : St) (Q : Int → St → Prop), C32 x1 → C32 x2 → CanS shR NR σ → M x1 x2 σ Q → KtI Z l D cA ad shR NR yX12_formOf cX12_formOf 6 (some .int) (1 + 2 * d) [.ref (ad 0), vI x1, vI x2] σ Q) : ∀ (n : Nat) (x3 : Int) (x4 : Int) (σ : St), C32 x3 → C32 x4 → CanS shR NR σ → wp_X12_formOf_l5 M Q n x3 x4 σ → G p l e (rmL (1 + 2 * (d + 1)) 0 0) s m args below meth c 6 A0 D cA ad shR NR 0 0 (MQ below (QIc D cA ad shR NR Q A0) args s 0 0 A0) σ 5 [some (.ref (ad 0)), none, none, some (vI x3), some (vI x4), none] [] := by
  intro n
  induction n with
  | zero => intro _ _ _ _ _ _ h; exact h.elim
  | succ n ih =>
    intro x3 x4 σ c3 c4 hσ h
    unfold wp_X12_formOf_l5 at h
    refine g_iload_3 E dX12_formOf_5 ?_
    refine g_iload_4 E dX12_formOf_6 ?_
    refine g_icmp_eq E c3 c4 djX12_formOf_8 (fun hc => ?_) (fun hc => ?_)
    · replace h := h.1 hc
      refine g_iconst E dX12_formOf_130 ?_
      exact g_iret E hr cl_0 h hσ dX12_formOf_131
    · replace h := h.2 hc
      refine g_iload_3 E dX12_formOf_11 ?_
      refine g_iconst E dX12_formOf_12 ?_
      refine g_icmp_eq E c3 cl_m1 djX12_formOf_13 (fun hc => ?_) (fun hc => ?_)
      · replace h := h.1 hc
        refine g_iconst E dX12_formOf_130 ?_
        exact g_iret E hr cl_0 h hσ dX12_formOf_131
      · replace h := h.2 hc
        refine g_iload_4 E dX12_formOf_16 ?_
        refine g_iconst E dX12_formOf_18 ?_
        refine g_icmp_eq E c4 cl_m1 djX12_formOf_19 (fun hc => ?_) (fun hc => ?_)
        · replace h := h.1 hc
          refine g_iconst E dX12_formOf_130 ?_
          exact g_iret E hr cl_0 h hσ dX12_formOf_131
        · replace h := h.2 hc
          refine g_aload_0 E dX12_formOf_22 ?_
          refine g_getR E fl_RX12_102 kR_0 sR_0 rfl dX12_formOf_23 ?_
          refine g_iload_3 E dX12_formOf_26 ?_
          refine g_iald E kR_28 sR_28 (by decide) h.1 dX12_formOf_27 ?_
          replace h := h.2
          refine g_aload_0 E dX12_formOf_28 ?_
          refine g_getR E fl_RX12_102 kR_0 sR_0 rfl dX12_formOf_29 ?_
          refine g_iload_4 E dX12_formOf_32 ?_
          refine g_iald E kR_28 sR_28 (by decide) h.1 dX12_formOf_34 ?_
          replace h := h.2
          refine g_icmp_eq E (aR_28 hσ _) (aR_28 hσ _) djX12_formOf_35 (fun hc => ?_) (fun hc => ?_)
          · replace h := h.1 hc
            refine g_aload_0 E dX12_formOf_53 ?_
            refine g_getR E fl_RX12_108 kR_0 sR_0 rfl dX12_formOf_54 ?_
            refine g_iload_3 E dX12_formOf_57 ?_
            refine g_iald E kR_30 sR_30 (by decide) h.1 dX12_formOf_58 ?_
            replace h := h.2
            refine g_aload_0 E dX12_formOf_59 ?_
            refine g_getR E fl_RX12_108 kR_0 sR_0 rfl dX12_formOf_60 ?_
            refine g_iload_4 E dX12_formOf_63 ?_
            refine g_iald E kR_30 sR_30 (by decide) h.1 dX12_formOf_65 ?_
            replace h := h.2
            refine g_icmp_eq E (aR_30 hσ _) (aR_30 hσ _) djX12_formOf_66 (fun hc => ?_) (fun hc => ?_)
            · replace h := h.1 hc
              refine g_aload_0 E dX12_formOf_84 ?_
              refine g_aload_0 E dX12_formOf_85 ?_
              refine g_getR E fl_RX12_114 kR_0 sR_0 rfl dX12_formOf_86 ?_
              refine g_iload_3 E dX12_formOf_89 ?_
              refine g_iald E kR_32 sR_32 (by decide) h.1 dX12_formOf_90 ?_
              replace h := h.2
              refine g_aload_0 E dX12_formOf_91 ?_
              refine g_getR E fl_RX12_114 kR_0 sR_0 rfl dX12_formOf_92 ?_
              refine g_iload_4 E dX12_formOf_95 ?_
              refine g_iald E kR_32 sR_32 (by decide) h.1 dX12_formOf_97 ?_
              replace h := h.2
              refine g_callvI E my_X12_formOf mi_X12_formOf msel_X12_formOf ml_RX12_495 (rm_ok (by omega) (by decide)) ⟨Nat.zero_le _, Nat.zero_le _⟩ kR_0 sR_0 rfl (hM (σ 32 (x3.toNat)) (σ 32 (x4.toNat)) σ _ (aR_32 hσ _) (aR_32 hσ _) hσ h) rfl rfl (Nat.le_of_ble_eq_true rfl) dX12_formOf_98 (fun r1 σ2 cr1 hσ2 h => ?_)
              refine g_istore_5 E rfl (by decide) dX12_formOf_101 ?_
              refine g_iload_5 E dX12_formOf_103 ?_
              refine g_if_eq E cr1 djX12_formOf_105 (fun hc => ?_) (fun hc => ?_)
              · replace h := h.1 hc
                refine g_aload_0 E dX12_formOf_111 ?_
                refine g_getR E fl_RX12_117 kR_0 sR_0 rfl dX12_formOf_112 ?_
                refine g_iload_3 E dX12_formOf_115 ?_
                refine g_iald E kR_33 sR_33 (by decide) h.1 dX12_formOf_116 ?_
                replace h := h.2
                refine g_nmI (fun v3 ev3 => ?_)
                replace h := h v3 ev3
                have cv3 : C32 v3 := by rw [ev3]; exact (aR_33 hσ2 _)
                refine g_istore_3 E rfl (by decide) dX12_formOf_117 ?_
                refine g_aload_0 E dX12_formOf_118 ?_
                refine g_getR E fl_RX12_117 kR_0 sR_0 rfl dX12_formOf_119 ?_
                refine g_iload_4 E dX12_formOf_122 ?_
                refine g_iald E kR_33 sR_33 (by decide) h.1 dX12_formOf_124 ?_
                replace h := h.2
                refine g_nmI (fun v4 ev4 => ?_)
                replace h := h v4 ev4
                have cv4 : C32 v4 := by rw [ev4]; exact (aR_33 hσ2 _)
                refine g_istore_4 E rfl (by decide) dX12_formOf_125 ?_
                refine g_goto E djX12_formOf_127 ?_
                exact (ih v3 v4 σ2 cv3 cv4 hσ2 h).weak (w_k (w_d (w_d (w_k (w_k (w_d w_n))))))
              · replace h := h.2 hc
                refine g_iload_5 E dX12_formOf_108 ?_
                exact g_iret E hr cr1 h hσ2 dX12_formOf_110
            · replace h := h.2 hc
              refine g_aload_0 E dX12_formOf_69 ?_
              refine g_getR E fl_RX12_108 kR_0 sR_0 rfl dX12_formOf_70 ?_
              refine g_iload_3 E dX12_formOf_73 ?_
              refine g_iald E kR_30 sR_30 (by decide) h.1 dX12_formOf_74 ?_
              replace h := h.2
              refine g_aload_0 E dX12_formOf_75 ?_
              refine g_getR E fl_RX12_108 kR_0 sR_0 rfl dX12_formOf_76 ?_
              refine g_iload_4 E dX12_formOf_79 ?_
              refine g_iald E kR_30 sR_30 (by decide) h.1 dX12_formOf_81 ?_
              replace h := h.2
              refine g_isub E dX12_formOf_82 ?_
              exact g_iret E hr (c32_w _) h hσ dX12_formOf_83
          · replace h := h.2 hc
            refine g_aload_0 E dX12_formOf_38 ?_
            refine g_getR E fl_RX12_102 kR_0 sR_0 rfl dX12_formOf_39 ?_
            refine g_iload_3 E dX12_formOf_42 ?_
            refine g_iald E kR_28 sR_28 (by decide) h.1 dX12_formOf_43 ?_
            replace h := h.2
            refine g_aload_0 E dX12_formOf_44 ?_
            refine g_getR E fl_RX12_102 kR_0 sR_0 rfl dX12_formOf_45 ?_
            refine g_iload_4 E dX12_formOf_48 ?_
            refine g_iald E kR_28 sR_28 (by decide) h.1 dX12_formOf_50 ?_
            replace h := h.2
            refine g_isub E dX12_formOf_51 ?_
            exact g_iret E hr (c32_w _) h hσ dX12_formOf_52
set_option maxHeartbeats 4000000 in
set_option maxRecDepth 100000 in
theorem t_X12_formOf (E : Ev p s m args meth c cX12_formOf 6 RX12 A0 D cA ad NR Z) (hr : meth.sig.returnType = (some .int)) {M : Int → Int → St → (Int → St → Prop) → Prop} {d : Nat} (hM : ∀ (x1 : Int) (x2 : Int) (σ : St) (Q : Int → St → Prop), C32 x1 → C32 x2 → CanS shR NR σ → M x1 x2 σ Q → KtI Z l D cA ad shR NR yX12_formOf cX12_formOf 6 (some .int) (1 + 2 * d) [.ref (ad 0), vI x1, vI x2] σ Q) (x1 : Int) (x2 : Int) (σ : St) (c1 : C32 x1) (c2 : C32 x2) (hσ : CanS shR NR σ) (h : wp_X12_formOf_l5 M Q bigN x1 x2 σ) : G p l e (rmL (1 + 2 * (d + 1)) 0 0) s m args below meth c 6 A0 D cA ad shR NR 0 0 (MQ below (QIc D cA ad shR NR Q A0) args s 0 0 A0) σ 0 [some (.ref (ad 0)), some (vI x1), some (vI x2), none, none, none] [] := by
  refine g_iload_1 E dX12_formOf_0 ?_
  refine g_istore_3 E rfl (by decide) dX12_formOf_1 ?_
  refine g_iload_2 E dX12_formOf_2 ?_
  refine g_istore_4 E rfl (by decide) dX12_formOf_3 ?_
  exact (t_X12_formOf_l5 E hr hM bigN x1 x2 σ c1 c2 hσ h).weak (w_k (w_d (w_d (w_k (w_k (w_d w_n))))))
end
theorem m_X12_formOf {Z : (Nat → Nat) × (Nat → Nat)} {l : Launch} {D : va_G} {cA : Nat → ClassId} {ad : Nat → Nat} (d : Nat) (hA : AdOk NR ad) : ∀ {x1 x2 : Int} {σ : St} {Q : Int → St → Prop}, C32 x1 → C32 x2 → CanS shR NR σ → wp_X12_formOf d x1 x2 σ Q → KtI Z l D cA ad shR NR yX12_formOf cX12_formOf 6 (some .int) (1 + 2 * d) [.ref (ad 0), vI x1, vI x2] σ Q := by
  induction d with
  | zero => intro _ _ _ _ _ _ _ h; exact h.elim
  | succ d ih =>
    intro x1 x2 σ Q c1 c2 hσ h
    unfold wp_X12_formOf at h
    exact KtI.of my_X12_formOf hA [some (.ref (ad 0)), some (vI x1), some (vI x2), none, none, none] (Nat.le_of_ble_eq_true rfl) rfl (fun p e s m args below meth c A0 E hr => t_X12_formOf E hr (fun x1 x2 σ Q c1 c2 hσ h => ih c1 c2 hσ h) x1 x2 σ c1 c2 hσ h)
theorem dX12_isAhead_0 : Dc cX12_isAhead 0 (.aload_n 0) 1 1 := ⟨by decide +kernel, rfl⟩
theorem dX12_isAhead_1 : Dc cX12_isAhead 1 (.getfield 120) 3 4 := ⟨by decide +kernel, rfl⟩
theorem dX12_isAhead_4 : Dc cX12_isAhead 4 (.iload_n 1) 1 5 := ⟨by decide +kernel, rfl⟩
theorem dX12_isAhead_5 : Dc cX12_isAhead 5 (.iaload) 1 6 := ⟨by decide +kernel, rfl⟩
theorem dX12_isAhead_6 : Dc cX12_isAhead 6 (.aload_n 0) 1 7 := ⟨by decide +kernel, rfl⟩
theorem dX12_isAhead_7 : Dc cX12_isAhead 7 (.getfield 120) 3 10 := ⟨by decide +kernel, rfl⟩
theorem dX12_isAhead_10 : Dc cX12_isAhead 10 (.iload_n 2) 1 11 := ⟨by decide +kernel, rfl⟩
theorem dX12_isAhead_11 : Dc cX12_isAhead 11 (.iaload) 1 12 := ⟨by decide +kernel, rfl⟩
theorem djX12_isAhead_12 : Dj cX12_isAhead 12 (.if_icmp .eq 26) 3 15 26 38 := ⟨by decide +kernel, rfl, by decide⟩
theorem dX12_isAhead_15 : Dc cX12_isAhead 15 (.aload_n 0) 1 16 := ⟨by decide +kernel, rfl⟩
theorem dX12_isAhead_16 : Dc cX12_isAhead 16 (.getfield 120) 3 19 := ⟨by decide +kernel, rfl⟩
theorem dX12_isAhead_19 : Dc cX12_isAhead 19 (.iload_n 1) 1 20 := ⟨by decide +kernel, rfl⟩
theorem dX12_isAhead_20 : Dc cX12_isAhead 20 (.iaload) 1 21 := ⟨by decide +kernel, rfl⟩
theorem dX12_isAhead_21 : Dc cX12_isAhead 21 (.aload_n 0) 1 22 := ⟨by decide +kernel, rfl⟩
theorem dX12_isAhead_22 : Dc cX12_isAhead 22 (.getfield 120) 3 25 := ⟨by decide +kernel, rfl⟩
theorem dX12_isAhead_25 : Dc cX12_isAhead 25 (.iload_n 2) 1 26 := ⟨by decide +kernel, rfl⟩
theorem dX12_isAhead_26 : Dc cX12_isAhead 26 (.iaload) 1 27 := ⟨by decide +kernel, rfl⟩
theorem djX12_isAhead_27 : Dj cX12_isAhead 27 (.if_icmp .ge 7) 3 30 7 34 := ⟨by decide +kernel, rfl, by decide⟩
theorem dX12_isAhead_30 : Dc cX12_isAhead 30 (.iconst 1) 1 31 := ⟨by decide +kernel, rfl⟩
theorem djX12_isAhead_31 : Dj cX12_isAhead 31 (.goto 21) 3 34 21 52 := ⟨by decide +kernel, rfl, by decide⟩
theorem dX12_isAhead_34 : Dc cX12_isAhead 34 (.iconst 0) 1 35 := ⟨by decide +kernel, rfl⟩
theorem djX12_isAhead_35 : Dj cX12_isAhead 35 (.goto 17) 3 38 17 52 := ⟨by decide +kernel, rfl, by decide⟩
theorem dX12_isAhead_38 : Dc cX12_isAhead 38 (.aload_n 0) 1 39 := ⟨by decide +kernel, rfl⟩
theorem dX12_isAhead_39 : Dc cX12_isAhead 39 (.iload_n 1) 1 40 := ⟨by decide +kernel, rfl⟩
theorem dX12_isAhead_40 : Dc cX12_isAhead 40 (.iload_n 2) 1 41 := ⟨by decide +kernel, rfl⟩
theorem dX12_isAhead_41 : Dc cX12_isAhead 41 (.invokevirtual 495) 3 44 := ⟨by decide +kernel, rfl⟩
theorem djX12_isAhead_44 : Dj cX12_isAhead 44 (.ifCond .ge 7) 3 47 7 51 := ⟨by decide +kernel, rfl, by decide⟩
theorem dX12_isAhead_47 : Dc cX12_isAhead 47 (.iconst 1) 1 48 := ⟨by decide +kernel, rfl⟩
theorem djX12_isAhead_48 : Dj cX12_isAhead 48 (.goto 4) 3 51 4 52 := ⟨by decide +kernel, rfl, by decide⟩
theorem dX12_isAhead_51 : Dc cX12_isAhead 51 (.iconst 0) 1 52 := ⟨by decide +kernel, rfl⟩
theorem dX12_isAhead_52 : Dc cX12_isAhead 52 (.ireturn) 1 53 := ⟨by decide +kernel, rfl⟩
section
variable {p : Program} {l : Launch} {e : Env} {s : State} {m : MethodId} {args : Array Value} {below : List Frame} {meth : Method} {c : Code} {A0 : Nat → Prop} {D : va_G} {cA : Nat → ClassId} {ad : Nat → Nat} {Z : (Nat → Nat) × (Nat → Nat)} {Q : Int → St → Prop}
set_option maxHeartbeats 4000000 in
set_option maxRecDepth 100000 in
theorem t_X12_isAhead (E : Ev p s m args meth c cX12_isAhead 3 RX12 A0 D cA ad NR Z) (hr : meth.sig.returnType = (some .boolean)) (x1 : Int) (x2 : Int) (σ : St) (c1 : C32 x1) (c2 : C32 x2) (hσ : CanS shR NR σ) (h : wp_X12_isAhead x1 x2 σ Q) : G p l e (rmL 802 0 0) s m args below meth c 3 A0 D cA ad shR NR 0 0 (MQ below (QIc D cA ad shR NR Q A0) args s 0 0 A0) σ 0 [some (.ref (ad 0)), some (vI x1), some (vI x2)] [] := by
  unfold wp_X12_isAhead at h
  refine g_aload_0 E dX12_isAhead_0 ?_
  refine g_getR E fl_RX12_120 kR_0 sR_0 rfl dX12_isAhead_1 ?_
  refine g_iload_1 E dX12_isAhead_4 ?_
  refine g_iald E kR_34 sR_34 (by decide) h.1 dX12_isAhead_5 ?_
  replace h := h.2
  refine g_aload_0 E dX12_isAhead_6 ?_
  refine g_getR E fl_RX12_120 kR_0 sR_0 rfl dX12_isAhead_7 ?_
  refine g_iload_2 E dX12_isAhead_10 ?_
  refine g_iald E kR_34 sR_34 (by decide) h.1 dX12_isAhead_11 ?_
  replace h := h.2
  refine g_icmp_eq E (aR_34 hσ _) (aR_34 hσ _) djX12_isAhead_12 (fun hc => ?_) (fun hc => ?_)
  · replace h := h.1 hc
    refine g_aload_0 E dX12_isAhead_38 ?_
    refine g_iload_1 E dX12_isAhead_39 ?_
    refine g_iload_2 E dX12_isAhead_40 ?_
    refine g_callvI E my_X12_formOf mi_X12_formOf msel_X12_formOf ml_RX12_495 (rm_ok (by decide) (by decide)) ⟨Nat.zero_le _, Nat.zero_le _⟩ kR_0 sR_0 rfl (m_X12_formOf 400 E.2.2.1 c1 c2 hσ h) rfl rfl (Nat.le_of_ble_eq_true rfl) dX12_isAhead_41 (fun r1 σ2 cr1 hσ2 h => ?_)
    refine g_if_ge E cr1 djX12_isAhead_44 (fun hc => ?_) (fun hc => ?_)
    · replace h := h.1 hc
      refine g_iconst E dX12_isAhead_51 ?_
      exact g_zret E hr (Or.inl rfl) h hσ2 dX12_isAhead_52
    · replace h := h.2 hc
      refine g_iconst E dX12_isAhead_47 ?_
      refine g_goto E djX12_isAhead_48 ?_
      exact g_zret E hr (Or.inr rfl) h hσ2 dX12_isAhead_52
  · replace h := h.2 hc
    refine g_aload_0 E dX12_isAhead_15 ?_
    refine g_getR E fl_RX12_120 kR_0 sR_0 rfl dX12_isAhead_16 ?_
    refine g_iload_1 E dX12_isAhead_19 ?_
    refine g_iald E kR_34 sR_34 (by decide) h.1 dX12_isAhead_20 ?_
    replace h := h.2
    refine g_aload_0 E dX12_isAhead_21 ?_
    refine g_getR E fl_RX12_120 kR_0 sR_0 rfl dX12_isAhead_22 ?_
    refine g_iload_2 E dX12_isAhead_25 ?_
    refine g_iald E kR_34 sR_34 (by decide) h.1 dX12_isAhead_26 ?_
    replace h := h.2
    refine g_icmp_ge E (aR_34 hσ _) (aR_34 hσ _) djX12_isAhead_27 (fun hc => ?_) (fun hc => ?_)
    · replace h := h.1 hc
      refine g_iconst E dX12_isAhead_34 ?_
      refine g_goto E djX12_isAhead_35 ?_
      exact g_zret E hr (Or.inl rfl) h hσ dX12_isAhead_52
    · replace h := h.2 hc
      refine g_iconst E dX12_isAhead_30 ?_
      refine g_goto E djX12_isAhead_31 ?_
      exact g_zret E hr (Or.inr rfl) h hσ dX12_isAhead_52
end
theorem m_X12_isAhead {Z : (Nat → Nat) × (Nat → Nat)} {l : Launch} {D : va_G} {cA : Nat → ClassId} {ad : Nat → Nat} {x1 x2 : Int} {σ : St} {Q : Int → St → Prop} (hA : AdOk NR ad) (c1 : C32 x1) (c2 : C32 x2) (hσ : CanS shR NR σ) (h : wp_X12_isAhead x1 x2 σ Q) : KtI Z l D cA ad shR NR yX12_isAhead cX12_isAhead 3 (some .boolean) 802 [.ref (ad 0), vI x1, vI x2] σ Q :=
  KtI.of my_X12_isAhead hA [some (.ref (ad 0)), some (vI x1), some (vI x2)] (Nat.le_of_ble_eq_true rfl) rfl (fun p e s m args below meth c A0 E hr => t_X12_isAhead E hr x1 x2 σ c1 c2 hσ h)
theorem dX12_takesNode_0 : Dc cX12_takesNode 0 (.aload_n 0) 1 1 := ⟨by decide +kernel, rfl⟩
theorem dX12_takesNode_1 : Dc cX12_takesNode 1 (.getfield 480) 3 4 := ⟨by decide +kernel, rfl⟩
theorem dX12_takesNode_4 : Dc cX12_takesNode 4 (.iconst (-1)) 1 5 := ⟨by decide +kernel, rfl⟩
theorem djX12_takesNode_5 : Dj cX12_takesNode 5 (.if_icmp .ne 13) 3 8 13 18 := ⟨by decide +kernel, rfl, by decide⟩
theorem dX12_takesNode_8 : Dc cX12_takesNode 8 (.aload_n 0) 1 9 := ⟨by decide +kernel, rfl⟩
theorem dX12_takesNode_9 : Dc cX12_takesNode 9 (.dup) 1 10 := ⟨by decide +kernel, rfl⟩
theorem dX12_takesNode_10 : Dc cX12_takesNode 10 (.getfield 483) 3 13 := ⟨by decide +kernel, rfl⟩
theorem dX12_takesNode_13 : Dc cX12_takesNode 13 (.iconst 1) 1 14 := ⟨by decide +kernel, rfl⟩
theorem dX12_takesNode_14 : Dc cX12_takesNode 14 (.iadd) 1 15 := ⟨by decide +kernel, rfl⟩
theorem dX12_takesNode_15 : Dc cX12_takesNode 15 (.putfield 483) 3 18 := ⟨by decide +kernel, rfl⟩
theorem dX12_takesNode_18 : Dc cX12_takesNode 18 (.aload_n 0) 1 19 := ⟨by decide +kernel, rfl⟩
theorem dX12_takesNode_19 : Dc cX12_takesNode 19 (.iconst (-1)) 1 20 := ⟨by decide +kernel, rfl⟩
theorem dX12_takesNode_20 : Dc cX12_takesNode 20 (.putfield 480) 3 23 := ⟨by decide +kernel, rfl⟩
theorem dX12_takesNode_23 : Dc cX12_takesNode 23 (.return_) 1 24 := ⟨by decide +kernel, rfl⟩
section
variable {p : Program} {l : Launch} {e : Env} {s : State} {m : MethodId} {args : Array Value} {below : List Frame} {meth : Method} {c : Code} {A0 : Nat → Prop} {D : va_G} {cA : Nat → ClassId} {ad : Nat → Nat} {Z : (Nat → Nat) × (Nat → Nat)} {Q : Int → St → Prop}
set_option maxHeartbeats 4000000 in
set_option maxRecDepth 100000 in
theorem t_X12_takesNode_b18 (E : Ev p s m args meth c cX12_takesNode 1 RX12 A0 D cA ad NR Z) (hr : meth.sig.returnType = none) (σ : St) (hσ : CanS shR NR σ) (h : wp_X12_takesNode_b18 Q  σ) : G p l e (rmL 1 0 0) s m args below meth c 1 A0 D cA ad shR NR 0 0 (MQ below (QVc D cA ad shR NR Q A0) args s 0 0 A0) σ 18 [some (.ref (ad 0))] [] := by
  unfold wp_X12_takesNode_b18 at h
  refine g_aload_0 E dX12_takesNode_18 ?_
  refine g_iconst E dX12_takesNode_19 ?_
  refine g_putI E fl_RX12_480 rfl rfl kR_0 sR_0 rfl dX12_takesNode_20 (g_nmS (fun σ2 eσ2 => ?_))
  replace h := h σ2 eσ2
  have hσ2 : CanS shR NR σ2 := by rw [eσ2]; exact uR_0_55 hσ cl_m1
  exact g_vret E hr h hσ2 dX12_takesNode_23
set_option maxHeartbeats 4000000 in
set_option maxRecDepth 100000 in
theorem t_X12_takesNode (E : Ev p s m args meth c cX12_takesNode 1 RX12 A0 D cA ad NR Z) (hr : meth.sig.returnType = none) (σ : St) (hσ : CanS shR NR σ) (h : wp_X12_takesNode  σ Q) : G p l e (rmL 1 0 0) s m args below meth c 1 A0 D cA ad shR NR 0 0 (MQ below (QVc D cA ad shR NR Q A0) args s 0 0 A0) σ 0 [some (.ref (ad 0))] [] := by
  unfold wp_X12_takesNode at h
  refine g_aload_0 E dX12_takesNode_0 ?_
  refine g_getI E fl_RX12_480 kR_0 sR_0 rfl dX12_takesNode_1 ?_
  refine g_iconst E dX12_takesNode_4 ?_
  refine g_icmp_ne E (fR_0_55 hσ) cl_m1 djX12_takesNode_5 (fun hc => ?_) (fun hc => ?_)
  · replace h := h.1 hc
    exact (t_X12_takesNode_b18 E hr σ hσ h).weak (w_k w_n)
  · replace h := h.2 hc
    refine g_aload_0 E dX12_takesNode_8 ?_
    refine g_dup E rfl dX12_takesNode_9 ?_
    refine g_getI E fl_RX12_483 kR_0 sR_0 rfl dX12_takesNode_10 ?_
    refine g_iconst E dX12_takesNode_13 ?_
    refine g_iadd E dX12_takesNode_14 ?_
    refine g_putI E fl_RX12_483 rfl rfl kR_0 sR_0 rfl dX12_takesNode_15 (g_nmS (fun σ1 eσ1 => ?_))
    replace h := h σ1 eσ1
    have hσ1 : CanS shR NR σ1 := by rw [eσ1]; exact uR_0_54 hσ (c32_w _)
    exact (t_X12_takesNode_b18 E hr σ1 hσ1 h).weak (w_k w_n)
end
theorem m_X12_takesNode {Z : (Nat → Nat) × (Nat → Nat)} {l : Launch} {D : va_G} {cA : Nat → ClassId} {ad : Nat → Nat} {σ : St} {Q : Int → St → Prop} (hA : AdOk NR ad) (hσ : CanS shR NR σ) (h : wp_X12_takesNode  σ Q) : KtV Z l D cA ad shR NR yX12_takesNode cX12_takesNode 1 none 1 [.ref (ad 0)] σ Q :=
  KtV.of my_X12_takesNode hA [some (.ref (ad 0))] (Nat.le_of_ble_eq_true rfl) rfl (fun p e s m args below meth c A0 E hr => t_X12_takesNode E hr σ hσ h)
theorem dX12_comes_0 : Dc cX12_comes 0 (.aload_n 0) 1 1 := ⟨by decide +kernel, rfl⟩
theorem dX12_comes_1 : Dc cX12_comes 1 (.getfield 13) 3 4 := ⟨by decide +kernel, rfl⟩
theorem dX12_comes_4 : Dc cX12_comes 4 (.aload_n 0) 1 5 := ⟨by decide +kernel, rfl⟩
theorem dX12_comes_5 : Dc cX12_comes 5 (.getfield 102) 3 8 := ⟨by decide +kernel, rfl⟩
theorem dX12_comes_8 : Dc cX12_comes 8 (.iload_n 1) 1 9 := ⟨by decide +kernel, rfl⟩
theorem dX12_comes_9 : Dc cX12_comes 9 (.iaload) 1 10 := ⟨by decide +kernel, rfl⟩
theorem dX12_comes_10 : Dc cX12_comes 10 (.iaload) 1 11 := ⟨by decide +kernel, rfl⟩
theorem dX12_comes_11 : Dc cX12_comes 11 (.aload_n 0) 1 12 := ⟨by decide +kernel, rfl⟩
theorem dX12_comes_12 : Dc cX12_comes 12 (.getfield 105) 3 15 := ⟨by decide +kernel, rfl⟩
theorem dX12_comes_15 : Dc cX12_comes 15 (.iload_n 1) 1 16 := ⟨by decide +kernel, rfl⟩
theorem dX12_comes_16 : Dc cX12_comes 16 (.iaload) 1 17 := ⟨by decide +kernel, rfl⟩
theorem dX12_comes_17 : Dc cX12_comes 17 (.aload_n 0) 1 18 := ⟨by decide +kernel, rfl⟩
theorem dX12_comes_18 : Dc cX12_comes 18 (.getfield 111) 3 21 := ⟨by decide +kernel, rfl⟩
theorem dX12_comes_21 : Dc cX12_comes 21 (.iload_n 1) 1 22 := ⟨by decide +kernel, rfl⟩
theorem dX12_comes_22 : Dc cX12_comes 22 (.iaload) 1 23 := ⟨by decide +kernel, rfl⟩
theorem dX12_comes_23 : Dc cX12_comes 23 (.invokestatic 282) 3 26 := ⟨by decide +kernel, rfl⟩
theorem dX12_comes_26 : Dc cX12_comes 26 (.istore_n 2) 1 27 := ⟨by decide +kernel, rfl⟩
theorem dX12_comes_27 : Dc cX12_comes 27 (.aload_n 0) 1 28 := ⟨by decide +kernel, rfl⟩
theorem dX12_comes_28 : Dc cX12_comes 28 (.getfield 132) 3 31 := ⟨by decide +kernel, rfl⟩
theorem dX12_comes_31 : Dc cX12_comes 31 (.iload_n 2) 1 32 := ⟨by decide +kernel, rfl⟩
theorem dX12_comes_32 : Dc cX12_comes 32 (.iaload) 1 33 := ⟨by decide +kernel, rfl⟩
theorem dX12_comes_33 : Dc cX12_comes 33 (.istore_n 3) 1 34 := ⟨by decide +kernel, rfl⟩
theorem dX12_comes_34 : Dc cX12_comes 34 (.iload_n 3) 1 35 := ⟨by decide +kernel, rfl⟩
theorem djX12_comes_35 : Dj cX12_comes 35 (.ifCond .le 30) 3 38 30 65 := ⟨by decide +kernel, rfl, by decide⟩
theorem dX12_comes_38 : Dc cX12_comes 38 (.aload_n 0) 1 39 := ⟨by decide +kernel, rfl⟩
theorem dX12_comes_39 : Dc cX12_comes 39 (.iload_n 1) 1 40 := ⟨by decide +kernel, rfl⟩
theorem dX12_comes_40 : Dc cX12_comes 40 (.aload_n 0) 1 41 := ⟨by decide +kernel, rfl⟩
theorem dX12_comes_41 : Dc cX12_comes 41 (.getfield 129) 3 44 := ⟨by decide +kernel, rfl⟩
theorem dX12_comes_44 : Dc cX12_comes 44 (.iload_n 2) 1 45 := ⟨by decide +kernel, rfl⟩
theorem dX12_comes_45 : Dc cX12_comes 45 (.bipush 16) 2 47 := ⟨by decide +kernel, rfl⟩
theorem dX12_comes_47 : Dc cX12_comes 47 (.imul) 1 48 := ⟨by decide +kernel, rfl⟩
theorem dX12_comes_48 : Dc cX12_comes 48 (.iload_n 3) 1 49 := ⟨by decide +kernel, rfl⟩
theorem dX12_comes_49 : Dc cX12_comes 49 (.iadd) 1 50 := ⟨by decide +kernel, rfl⟩
theorem dX12_comes_50 : Dc cX12_comes 50 (.iconst 1) 1 51 := ⟨by decide +kernel, rfl⟩
theorem dX12_comes_51 : Dc cX12_comes 51 (.isub) 1 52 := ⟨by decide +kernel, rfl⟩
theorem dX12_comes_52 : Dc cX12_comes 52 (.iaload) 1 53 := ⟨by decide +kernel, rfl⟩
theorem dX12_comes_53 : Dc cX12_comes 53 (.invokevirtual 498) 3 56 := ⟨by decide +kernel, rfl⟩
theorem djX12_comes_56 : Dj cX12_comes 56 (.ifCond .eq 9) 3 59 9 65 := ⟨by decide +kernel, rfl, by decide⟩
theorem dX12_comes_59 : Dc cX12_comes 59 (.iinc 3 (-1)) 3 62 := ⟨by decide +kernel, rfl⟩
theorem djX12_comes_62 : Dj cX12_comes 62 (.goto (-28)) 3 65 (-28) 34 := ⟨by decide +kernel, rfl, by decide⟩
theorem dX12_comes_65 : Dc cX12_comes 65 (.iload_n 3) 1 66 := ⟨by decide +kernel, rfl⟩
theorem dX12_comes_66 : Dc cX12_comes 66 (.bipush 16) 2 68 := ⟨by decide +kernel, rfl⟩
theorem djX12_comes_68 : Dj cX12_comes 68 (.if_icmp .ne 4) 3 71 4 72 := ⟨by decide +kernel, rfl, by decide⟩
theorem dX12_comes_71 : Dc cX12_comes 71 (.return_) 1 72 := ⟨by decide +kernel, rfl⟩
theorem dX12_comes_72 : Dc cX12_comes 72 (.aload_n 0) 1 73 := ⟨by decide +kernel, rfl⟩
theorem dX12_comes_73 : Dc cX12_comes 73 (.invokevirtual 501) 3 76 := ⟨by decide +kernel, rfl⟩
theorem dX12_comes_76 : Dc cX12_comes 76 (.aload_n 0) 1 77 := ⟨by decide +kernel, rfl⟩
theorem dX12_comes_77 : Dc cX12_comes 77 (.getfield 132) 3 80 := ⟨by decide +kernel, rfl⟩
theorem dX12_comes_80 : Dc cX12_comes 80 (.iload_n 2) 1 81 := ⟨by decide +kernel, rfl⟩
theorem dX12_comes_81 : Dc cX12_comes 81 (.iaload) 1 82 := ⟨by decide +kernel, rfl⟩
theorem dX12_comes_82 : Dc cX12_comes 82 (.bipush 16) 2 84 := ⟨by decide +kernel, rfl⟩
theorem djX12_comes_84 : Dj cX12_comes 84 (.if_icmp .ne 24) 3 87 24 108 := ⟨by decide +kernel, rfl, by decide⟩
theorem dX12_comes_87 : Dc cX12_comes 87 (.aload_n 0) 1 88 := ⟨by decide +kernel, rfl⟩
theorem dX12_comes_88 : Dc cX12_comes 88 (.aload_n 0) 1 89 := ⟨by decide +kernel, rfl⟩
theorem dX12_comes_89 : Dc cX12_comes 89 (.getfield 129) 3 92 := ⟨by decide +kernel, rfl⟩
theorem dX12_comes_92 : Dc cX12_comes 92 (.iload_n 2) 1 93 := ⟨by decide +kernel, rfl⟩
theorem dX12_comes_93 : Dc cX12_comes 93 (.bipush 16) 2 95 := ⟨by decide +kernel, rfl⟩
theorem dX12_comes_95 : Dc cX12_comes 95 (.imul) 1 96 := ⟨by decide +kernel, rfl⟩
theorem dX12_comes_96 : Dc cX12_comes 96 (.bipush 16) 2 98 := ⟨by decide +kernel, rfl⟩
theorem dX12_comes_98 : Dc cX12_comes 98 (.iadd) 1 99 := ⟨by decide +kernel, rfl⟩
theorem dX12_comes_99 : Dc cX12_comes 99 (.iconst 1) 1 100 := ⟨by decide +kernel, rfl⟩
theorem dX12_comes_100 : Dc cX12_comes 100 (.isub) 1 101 := ⟨by decide +kernel, rfl⟩
theorem dX12_comes_101 : Dc cX12_comes 101 (.iaload) 1 102 := ⟨by decide +kernel, rfl⟩
theorem dX12_comes_102 : Dc cX12_comes 102 (.putfield 480) 3 105 := ⟨by decide +kernel, rfl⟩
theorem djX12_comes_105 : Dj cX12_comes 105 (.goto 13) 3 108 13 118 := ⟨by decide +kernel, rfl, by decide⟩
theorem dX12_comes_108 : Dc cX12_comes 108 (.aload_n 0) 1 109 := ⟨by decide +kernel, rfl⟩
theorem dX12_comes_109 : Dc cX12_comes 109 (.getfield 132) 3 112 := ⟨by decide +kernel, rfl⟩
theorem dX12_comes_112 : Dc cX12_comes 112 (.iload_n 2) 1 113 := ⟨by decide +kernel, rfl⟩
theorem dX12_comes_113 : Dc cX12_comes 113 (.dup2) 1 114 := ⟨by decide +kernel, rfl⟩
theorem dX12_comes_114 : Dc cX12_comes 114 (.iaload) 1 115 := ⟨by decide +kernel, rfl⟩
theorem dX12_comes_115 : Dc cX12_comes 115 (.iconst 1) 1 116 := ⟨by decide +kernel, rfl⟩
theorem dX12_comes_116 : Dc cX12_comes 116 (.iadd) 1 117 := ⟨by decide +kernel, rfl⟩
theorem dX12_comes_117 : Dc cX12_comes 117 (.iastore) 1 118 := ⟨by decide +kernel, rfl⟩
theorem dX12_comes_118 : Dc cX12_comes 118 (.aload_n 0) 1 119 := ⟨by decide +kernel, rfl⟩
theorem dX12_comes_119 : Dc cX12_comes 119 (.getfield 132) 3 122 := ⟨by decide +kernel, rfl⟩
theorem dX12_comes_122 : Dc cX12_comes 122 (.iload_n 2) 1 123 := ⟨by decide +kernel, rfl⟩
theorem dX12_comes_123 : Dc cX12_comes 123 (.iaload) 1 124 := ⟨by decide +kernel, rfl⟩
theorem dX12_comes_124 : Dc cX12_comes 124 (.iconst 1) 1 125 := ⟨by decide +kernel, rfl⟩
theorem dX12_comes_125 : Dc cX12_comes 125 (.isub) 1 126 := ⟨by decide +kernel, rfl⟩
theorem dX12_comes_126 : Dc cX12_comes 126 (.istore 4) 2 128 := ⟨by decide +kernel, rfl⟩
theorem dX12_comes_128 : Dc cX12_comes 128 (.iload 4) 2 130 := ⟨by decide +kernel, rfl⟩
theorem dX12_comes_130 : Dc cX12_comes 130 (.iload_n 3) 1 131 := ⟨by decide +kernel, rfl⟩
theorem djX12_comes_131 : Dj cX12_comes 131 (.if_icmp .le 35) 3 134 35 166 := ⟨by decide +kernel, rfl, by decide⟩
theorem dX12_comes_134 : Dc cX12_comes 134 (.aload_n 0) 1 135 := ⟨by decide +kernel, rfl⟩
theorem dX12_comes_135 : Dc cX12_comes 135 (.getfield 129) 3 138 := ⟨by decide +kernel, rfl⟩
theorem dX12_comes_138 : Dc cX12_comes 138 (.iload_n 2) 1 139 := ⟨by decide +kernel, rfl⟩
theorem dX12_comes_139 : Dc cX12_comes 139 (.bipush 16) 2 141 := ⟨by decide +kernel, rfl⟩
theorem dX12_comes_141 : Dc cX12_comes 141 (.imul) 1 142 := ⟨by decide +kernel, rfl⟩
theorem dX12_comes_142 : Dc cX12_comes 142 (.iload 4) 2 144 := ⟨by decide +kernel, rfl⟩
theorem dX12_comes_144 : Dc cX12_comes 144 (.iadd) 1 145 := ⟨by decide +kernel, rfl⟩
theorem dX12_comes_145 : Dc cX12_comes 145 (.aload_n 0) 1 146 := ⟨by decide +kernel, rfl⟩
theorem dX12_comes_146 : Dc cX12_comes 146 (.getfield 129) 3 149 := ⟨by decide +kernel, rfl⟩
theorem dX12_comes_149 : Dc cX12_comes 149 (.iload_n 2) 1 150 := ⟨by decide +kernel, rfl⟩
theorem dX12_comes_150 : Dc cX12_comes 150 (.bipush 16) 2 152 := ⟨by decide +kernel, rfl⟩
theorem dX12_comes_152 : Dc cX12_comes 152 (.imul) 1 153 := ⟨by decide +kernel, rfl⟩
theorem dX12_comes_153 : Dc cX12_comes 153 (.iload 4) 2 155 := ⟨by decide +kernel, rfl⟩
theorem dX12_comes_155 : Dc cX12_comes 155 (.iadd) 1 156 := ⟨by decide +kernel, rfl⟩
theorem dX12_comes_156 : Dc cX12_comes 156 (.iconst 1) 1 157 := ⟨by decide +kernel, rfl⟩
theorem dX12_comes_157 : Dc cX12_comes 157 (.isub) 1 158 := ⟨by decide +kernel, rfl⟩
theorem dX12_comes_158 : Dc cX12_comes 158 (.iaload) 1 159 := ⟨by decide +kernel, rfl⟩
theorem dX12_comes_159 : Dc cX12_comes 159 (.iastore) 1 160 := ⟨by decide +kernel, rfl⟩
theorem dX12_comes_160 : Dc cX12_comes 160 (.iinc 4 (-1)) 3 163 := ⟨by decide +kernel, rfl⟩
theorem djX12_comes_163 : Dj cX12_comes 163 (.goto (-35)) 3 166 (-35) 128 := ⟨by decide +kernel, rfl, by decide⟩
theorem dX12_comes_166 : Dc cX12_comes 166 (.aload_n 0) 1 167 := ⟨by decide +kernel, rfl⟩
theorem dX12_comes_167 : Dc cX12_comes 167 (.getfield 129) 3 170 := ⟨by decide +kernel, rfl⟩
theorem dX12_comes_170 : Dc cX12_comes 170 (.iload_n 2) 1 171 := ⟨by decide +kernel, rfl⟩
theorem dX12_comes_171 : Dc cX12_comes 171 (.bipush 16) 2 173 := ⟨by decide +kernel, rfl⟩
theorem dX12_comes_173 : Dc cX12_comes 173 (.imul) 1 174 := ⟨by decide +kernel, rfl⟩
theorem dX12_comes_174 : Dc cX12_comes 174 (.iload_n 3) 1 175 := ⟨by decide +kernel, rfl⟩
theorem dX12_comes_175 : Dc cX12_comes 175 (.iadd) 1 176 := ⟨by decide +kernel, rfl⟩
theorem dX12_comes_176 : Dc cX12_comes 176 (.iload_n 1) 1 177 := ⟨by decide +kernel, rfl⟩
theorem dX12_comes_177 : Dc cX12_comes 177 (.iastore) 1 178 := ⟨by decide +kernel, rfl⟩
theorem dX12_comes_178 : Dc cX12_comes 178 (.return_) 1 179 := ⟨by decide +kernel, rfl⟩
section
variable {p : Program} {l : Launch} {e : Env} {s : State} {m : MethodId} {args : Array Value} {below : List Frame} {meth : Method} {c : Code} {A0 : Nat → Prop} {D : va_G} {cA : Nat → ClassId} {ad : Nat → Nat} {Z : (Nat → Nat) × (Nat → Nat)} {Q : Int → St → Prop}
set_option maxHeartbeats 4000000 in
set_option maxRecDepth 100000 in
theorem t_X12_comes_l128 (E : Ev p s m args meth c cX12_comes 5 RX12 A0 D cA ad NR Z) (hr : meth.sig.returnType = none) : ∀ (n : Nat) (x1 : Int) (x2 : Int) (x3 : Int) (x4 : Int) (σ : St), C32 x1 → C32 x2 → C32 x3 → C32 x4 → CanS shR NR σ → wp_X12_comes_l128 Q n x1 x2 x3 x4 σ → G p l e (rmL 803 0 0) s m args below meth c 5 A0 D cA ad shR NR 0 0 (MQ below (QVc D cA ad shR NR Q A0) args s 0 0 A0) σ 128 [some (.ref (ad 0)), some (vI x1), some (vI x2), some (vI x3), some (vI x4)] [] := by
  intro n
  induction n with
  | zero => intro _ _ _ _ _ _ _ _ _ _ h; exact h.elim
  | succ n ih =>
    intro x1 x2 x3 x4 σ c1 c2 c3 c4 hσ h
    unfold wp_X12_comes_l128 at h
    refine g_iload_4 E dX12_comes_128 ?_
    refine g_iload_3 E dX12_comes_130 ?_
    refine g_icmp_le E c4 c3 djX12_comes_131 (fun hc => ?_) (fun hc => ?_)
    · replace h := h.1 hc
      refine g_aload_0 E dX12_comes_166 ?_
      refine g_getR E fl_RX12_129 kR_0 sR_0 rfl dX12_comes_167 ?_
      refine g_iload_2 E dX12_comes_170 ?_
      refine g_bipush E (by decide) dX12_comes_171 ?_
      refine g_imul E dX12_comes_173 ?_
      refine g_iload_3 E dX12_comes_174 ?_
      refine g_iadd E dX12_comes_175 ?_
      refine g_iload_1 E dX12_comes_176 ?_
      refine g_iast E kR_37 sR_37 (by decide) h.1 dX12_comes_177 (g_nmS (fun σ12 eσ12 => ?_))
      replace h := h.2 σ12 eσ12
      have hσ12 : CanS shR NR σ12 := by rw [eσ12]; exact wR_37 hσ c1
      exact g_vret E hr h hσ12 dX12_comes_178
    · replace h := h.2 hc
      refine g_aload_0 E dX12_comes_134 ?_
      refine g_getR E fl_RX12_129 kR_0 sR_0 rfl dX12_comes_135 ?_
      refine g_iload_2 E dX12_comes_138 ?_
      refine g_bipush E (by decide) dX12_comes_139 ?_
      refine g_imul E dX12_comes_141 ?_
      refine g_iload_4 E dX12_comes_142 ?_
      refine g_iadd E dX12_comes_144 ?_
      refine g_aload_0 E dX12_comes_145 ?_
      refine g_getR E fl_RX12_129 kR_0 sR_0 rfl dX12_comes_146 ?_
      refine g_iload_2 E dX12_comes_149 ?_
      refine g_bipush E (by decide) dX12_comes_150 ?_
      refine g_imul E dX12_comes_152 ?_
      refine g_iload_4 E dX12_comes_153 ?_
      refine g_iadd E dX12_comes_155 ?_
      refine g_iconst E dX12_comes_156 ?_
      refine g_isub E dX12_comes_157 ?_
      refine g_iald E kR_37 sR_37 (by decide) h.1 dX12_comes_158 ?_
      replace h := h.2
      refine g_iast E kR_37 sR_37 (by decide) h.1 dX12_comes_159 (g_nmS (fun σ13 eσ13 => ?_))
      replace h := h.2 σ13 eσ13
      have hσ13 : CanS shR NR σ13 := by rw [eσ13]; exact wR_37 hσ (aR_37 hσ _)
      refine g_iinc_4 E rfl (by decide) dX12_comes_160 (fun v14 ev14 => ?_)
      replace h := h v14 ev14
      have cv14 : C32 v14 := by rw [ev14]; exact c32_w _
      refine g_goto E djX12_comes_163 ?_
      exact (ih x1 x2 x3 v14 σ13 c1 c2 c3 cv14 hσ13 h).weak (w_k (w_k (w_k (w_k (w_k w_n)))))
set_option maxHeartbeats 4000000 in
set_option maxRecDepth 100000 in
theorem t_X12_comes_b118 (E : Ev p s m args meth c cX12_comes 5 RX12 A0 D cA ad NR Z) (hr : meth.sig.returnType = none) (x1 : Int) (x2 : Int) (x3 : Int) (σ : St) (c1 : C32 x1) (c2 : C32 x2) (c3 : C32 x3) (hσ : CanS shR NR σ) (h : wp_X12_comes_b118 Q x1 x2 x3 σ) : G p l e (rmL 803 0 0) s m args below meth c 5 A0 D cA ad shR NR 0 0 (MQ below (QVc D cA ad shR NR Q A0) args s 0 0 A0) σ 118 [some (.ref (ad 0)), some (vI x1), some (vI x2), some (vI x3), none] [] := by
  unfold wp_X12_comes_b118 at h
  refine g_aload_0 E dX12_comes_118 ?_
  refine g_getR E fl_RX12_132 kR_0 sR_0 rfl dX12_comes_119 ?_
  refine g_iload_2 E dX12_comes_122 ?_
  refine g_iald E kR_38 sR_38 (by decide) h.1 dX12_comes_123 ?_
  replace h := h.2
  refine g_iconst E dX12_comes_124 ?_
  refine g_isub E dX12_comes_125 ?_
  refine g_nmI (fun v11 ev11 => ?_)
  replace h := h v11 ev11
  have cv11 : C32 v11 := by rw [ev11]; exact (c32_w _)
  refine g_istore_4 E rfl (by decide) dX12_comes_126 ?_
  exact (t_X12_comes_l128 E hr bigN x1 x2 x3 v11 σ c1 c2 c3 cv11 hσ h).weak (w_k (w_k (w_k (w_k (w_k w_n)))))
set_option maxHeartbeats 4000000 in
set_option maxRecDepth 100000 in
theorem t_X12_comes_b65 (E : Ev p s m args meth c cX12_comes 5 RX12 A0 D cA ad NR Z) (hr : meth.sig.returnType = none) (x1 : Int) (x2 : Int) (x3 : Int) (σ : St) (c1 : C32 x1) (c2 : C32 x2) (c3 : C32 x3) (hσ : CanS shR NR σ) (h : wp_X12_comes_b65 Q x1 x2 x3 σ) : G p l e (rmL 803 0 0) s m args below meth c 5 A0 D cA ad shR NR 0 0 (MQ below (QVc D cA ad shR NR Q A0) args s 0 0 A0) σ 65 [some (.ref (ad 0)), some (vI x1), some (vI x2), some (vI x3), none] [] := by
  unfold wp_X12_comes_b65 at h
  refine g_iload_3 E dX12_comes_65 ?_
  refine g_bipush E (by decide) dX12_comes_66 ?_
  refine g_icmp_ne E c3 cl_16 djX12_comes_68 (fun hc => ?_) (fun hc => ?_)
  · replace h := h.1 hc
    refine g_aload_0 E dX12_comes_72 ?_
    refine g_callvV E my_X12_takesNode mi_X12_takesNode msel_X12_takesNode ml_RX12_501 (rm_ok (by decide) (by decide)) ⟨Nat.zero_le _, Nat.zero_le _⟩ kR_0 sR_0 rfl (m_X12_takesNode E.2.2.1 hσ h) rfl rfl (Nat.le_of_ble_eq_true rfl) dX12_comes_73 (fun σ8 r7 hσ8 h => ?_)
    refine g_aload_0 E dX12_comes_76 ?_
    refine g_getR E fl_RX12_132 kR_0 sR_0 rfl dX12_comes_77 ?_
    refine g_iload_2 E dX12_comes_80 ?_
    refine g_iald E kR_38 sR_38 (by decide) h.1 dX12_comes_81 ?_
    replace h := h.2
    refine g_bipush E (by decide) dX12_comes_82 ?_
    refine g_icmp_ne E (aR_38 hσ8 _) cl_16 djX12_comes_84 (fun hc => ?_) (fun hc => ?_)
    · replace h := h.1 hc
      refine g_aload_0 E dX12_comes_108 ?_
      refine g_getR E fl_RX12_132 kR_0 sR_0 rfl dX12_comes_109 ?_
      refine g_iload_2 E dX12_comes_112 ?_
      refine g_dup2 E rfl rfl dX12_comes_113 ?_
      refine g_iald E kR_38 sR_38 (by decide) h.1 dX12_comes_114 ?_
      replace h := h.2
      refine g_iconst E dX12_comes_115 ?_
      refine g_iadd E dX12_comes_116 ?_
      refine g_iast E kR_38 sR_38 (by decide) h.1 dX12_comes_117 (g_nmS (fun σ9 eσ9 => ?_))
      replace h := h.2 σ9 eσ9
      have hσ9 : CanS shR NR σ9 := by rw [eσ9]; exact wR_38 hσ8 (c32_w _)
      exact (t_X12_comes_b118 E hr x1 x2 x3 σ9 c1 c2 c3 hσ9 h).weak (w_k (w_k (w_k (w_k (w_d w_n)))))
    · replace h := h.2 hc
      refine g_aload_0 E dX12_comes_87 ?_
      refine g_aload_0 E dX12_comes_88 ?_
      refine g_getR E fl_RX12_129 kR_0 sR_0 rfl dX12_comes_89 ?_
      refine g_iload_2 E dX12_comes_92 ?_
      refine g_bipush E (by decide) dX12_comes_93 ?_
      refine g_imul E dX12_comes_95 ?_
      refine g_bipush E (by decide) dX12_comes_96 ?_
      refine g_iadd E dX12_comes_98 ?_
      refine g_iconst E dX12_comes_99 ?_
      refine g_isub E dX12_comes_100 ?_
      refine g_iald E kR_37 sR_37 (by decide) h.1 dX12_comes_101 ?_
      replace h := h.2
      refine g_putI E fl_RX12_480 rfl rfl kR_0 sR_0 rfl dX12_comes_102 (g_nmS (fun σ10 eσ10 => ?_))
      replace h := h σ10 eσ10
      have hσ10 : CanS shR NR σ10 := by rw [eσ10]; exact uR_0_55 hσ8 (aR_37 hσ8 _)
      refine g_goto E djX12_comes_105 ?_
      exact (t_X12_comes_b118 E hr x1 x2 x3 σ10 c1 c2 c3 hσ10 h).weak (w_k (w_k (w_k (w_k (w_d w_n)))))
  · replace h := h.2 hc
    exact g_vret E hr h hσ dX12_comes_71
set_option maxHeartbeats 4000000 in
set_option maxRecDepth 100000 in
theorem t_X12_comes_l34 (E : Ev p s m args meth c cX12_comes 5 RX12 A0 D cA ad NR Z) (hr : meth.sig.returnType = none) : ∀ (n : Nat) (x1 : Int) (x2 : Int) (x3 : Int) (σ : St), C32 x1 → C32 x2 → C32 x3 → CanS shR NR σ → wp_X12_comes_l34 Q n x1 x2 x3 σ → G p l e (rmL 803 0 0) s m args below meth c 5 A0 D cA ad shR NR 0 0 (MQ below (QVc D cA ad shR NR Q A0) args s 0 0 A0) σ 34 [some (.ref (ad 0)), some (vI x1), some (vI x2), some (vI x3), none] [] := by
  intro n
  induction n with
  | zero => intro _ _ _ _ _ _ _ _ h; exact h.elim
  | succ n ih =>
    intro x1 x2 x3 σ c1 c2 c3 hσ h
    unfold wp_X12_comes_l34 at h
    refine g_iload_3 E dX12_comes_34 ?_
    refine g_if_le E c3 djX12_comes_35 (fun hc => ?_) (fun hc => ?_)
    · replace h := h.1 hc
      exact (t_X12_comes_b65 E hr x1 x2 x3 σ c1 c2 c3 hσ h).weak (w_k (w_k (w_k (w_k (w_d w_n)))))
    · replace h := h.2 hc
      refine g_aload_0 E dX12_comes_38 ?_
      refine g_iload_1 E dX12_comes_39 ?_
      refine g_aload_0 E dX12_comes_40 ?_
      refine g_getR E fl_RX12_129 kR_0 sR_0 rfl dX12_comes_41 ?_
      refine g_iload_2 E dX12_comes_44 ?_
      refine g_bipush E (by decide) dX12_comes_45 ?_
      refine g_imul E dX12_comes_47 ?_
      refine g_iload_3 E dX12_comes_48 ?_
      refine g_iadd E dX12_comes_49 ?_
      refine g_iconst E dX12_comes_50 ?_
      refine g_isub E dX12_comes_51 ?_
      refine g_iald E kR_37 sR_37 (by decide) h.1 dX12_comes_52 ?_
      replace h := h.2
      refine g_callvI E my_X12_isAhead mi_X12_isAhead msel_X12_isAhead ml_RX12_498 (rm_ok (by decide) (by decide)) ⟨Nat.zero_le _, Nat.zero_le _⟩ kR_0 sR_0 rfl (m_X12_isAhead E.2.2.1 c1 (aR_37 hσ _) hσ h) rfl rfl (Nat.le_of_ble_eq_true rfl) dX12_comes_53 (fun r4 σ5 cr4 hσ5 h => ?_)
      refine g_if_eq E cr4 djX12_comes_56 (fun hc => ?_) (fun hc => ?_)
      · replace h := h.1 hc
        exact (t_X12_comes_b65 E hr x1 x2 x3 σ5 c1 c2 c3 hσ5 h).weak (w_k (w_k (w_k (w_k (w_d w_n)))))
      · replace h := h.2 hc
        refine g_iinc_3 E rfl (by decide) dX12_comes_59 (fun v6 ev6 => ?_)
        replace h := h v6 ev6
        have cv6 : C32 v6 := by rw [ev6]; exact c32_w _
        refine g_goto E djX12_comes_62 ?_
        exact (ih x1 x2 v6 σ5 c1 c2 cv6 hσ5 h).weak (w_k (w_k (w_k (w_k (w_d w_n)))))
set_option maxHeartbeats 4000000 in
set_option maxRecDepth 100000 in
theorem t_X12_comes (E : Ev p s m args meth c cX12_comes 5 RX12 A0 D cA ad NR Z) (hr : meth.sig.returnType = none) (x1 : Int) (σ : St) (c1 : C32 x1) (hσ : CanS shR NR σ) (h : wp_X12_comes x1 σ Q) : G p l e (rmL 803 0 0) s m args below meth c 5 A0 D cA ad shR NR 0 0 (MQ below (QVc D cA ad shR NR Q A0) args s 0 0 A0) σ 0 [some (.ref (ad 0)), some (vI x1), none, none, none] [] := by
  unfold wp_X12_comes at h
  refine g_aload_0 E dX12_comes_0 ?_
  refine g_getR E fl_RX12_13 kR_0 sR_0 rfl dX12_comes_1 ?_
  refine g_aload_0 E dX12_comes_4 ?_
  refine g_getR E fl_RX12_102 kR_0 sR_0 rfl dX12_comes_5 ?_
  refine g_iload_1 E dX12_comes_8 ?_
  refine g_iald E kR_28 sR_28 (by decide) h.1 dX12_comes_9 ?_
  replace h := h.2
  refine g_iald E kR_1 sR_1 (by decide) h.1 dX12_comes_10 ?_
  replace h := h.2
  refine g_aload_0 E dX12_comes_11 ?_
  refine g_getR E fl_RX12_105 kR_0 sR_0 rfl dX12_comes_12 ?_
  refine g_iload_1 E dX12_comes_15 ?_
  refine g_iald E kR_29 sR_29 (by decide) h.1 dX12_comes_16 ?_
  replace h := h.2
  refine g_aload_0 E dX12_comes_17 ?_
  refine g_getR E fl_RX12_111 kR_0 sR_0 rfl dX12_comes_18 ?_
  refine g_iload_1 E dX12_comes_21 ?_
  refine g_iald E kR_31 sR_31 (by decide) h.1 dX12_comes_22 ?_
  replace h := h.2
  refine g_callsI E my_X12_item ms_X12_item ml_RX12_282 (rm_ok (by decide) (by decide)) ⟨Nat.zero_le _, Nat.zero_le _⟩ (m_X12_item E.2.2.1 (aR_1 hσ _) (aR_29 hσ _) (aR_31 hσ _) hσ h) rfl rfl (Nat.le_of_ble_eq_true rfl) dX12_comes_23 (fun r1 σ2 cr1 hσ2 h => ?_)
  refine g_istore_2 E rfl (by decide) dX12_comes_26 ?_
  refine g_aload_0 E dX12_comes_27 ?_
  refine g_getR E fl_RX12_132 kR_0 sR_0 rfl dX12_comes_28 ?_
  refine g_iload_2 E dX12_comes_31 ?_
  refine g_iald E kR_38 sR_38 (by decide) h.1 dX12_comes_32 ?_
  replace h := h.2
  refine g_nmI (fun v3 ev3 => ?_)
  replace h := h v3 ev3
  have cv3 : C32 v3 := by rw [ev3]; exact (aR_38 hσ2 _)
  refine g_istore_3 E rfl (by decide) dX12_comes_33 ?_
  exact (t_X12_comes_l34 E hr bigN x1 r1 v3 σ2 c1 cr1 cv3 hσ2 h).weak (w_k (w_k (w_k (w_k (w_d w_n)))))
end
theorem m_X12_comes {Z : (Nat → Nat) × (Nat → Nat)} {l : Launch} {D : va_G} {cA : Nat → ClassId} {ad : Nat → Nat} {x1 : Int} {σ : St} {Q : Int → St → Prop} (hA : AdOk NR ad) (c1 : C32 x1) (hσ : CanS shR NR σ) (h : wp_X12_comes x1 σ Q) : KtV Z l D cA ad shR NR yX12_comes cX12_comes 5 none 803 [.ref (ad 0), vI x1] σ Q :=
  KtV.of my_X12_comes hA [some (.ref (ad 0)), some (vI x1), none, none, none] (Nat.le_of_ble_eq_true rfl) rfl (fun p e s m args below meth c A0 E hr => t_X12_comes E hr x1 σ c1 hσ h)
