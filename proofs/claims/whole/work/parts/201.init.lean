theorem mz_X11_init : MYk yX11_init cX11_init 1 none 0 := ⟨tg (tb_1 (List.mem_of_getElem? (i := 26) rfl)) rfl, tg (tb_1 (List.mem_of_getElem? (i := 1) rfl)) rfl, ⟨by decide, by decide⟩, by decide +kernel, plainFor_of_name (by decide +kernel)⟩
theorem mzi_X11_init : Cond.instanceMethod yX11_init ∈ gtbl := tg (tb_1 (List.mem_of_getElem? (i := 25) rfl)) rfl
theorem dX11_init_0 : Dc cX11_init 0 (.aload_n 0) 1 1 := ⟨by decide +kernel, rfl⟩
theorem dX11_init_1 : Dc cX11_init 1 (.invokespecial 3) 3 4 := ⟨by decide +kernel, rfl⟩
theorem dX11_init_4 : Dc cX11_init 4 (.aload_n 0) 1 5 := ⟨by decide +kernel, rfl⟩
theorem dX11_init_5 : Dc cX11_init 5 (.sipush 1000) 3 8 := ⟨by decide +kernel, rfl⟩
theorem dX11_init_8 : Dc cX11_init 8 (.newarray .int) 2 10 := ⟨by decide +kernel, rfl⟩
theorem dX11_init_10 : Dc cX11_init 10 (.putfield 9) 3 13 := ⟨by decide +kernel, rfl⟩
theorem dX11_init_13 : Dc cX11_init 13 (.aload_n 0) 1 14 := ⟨by decide +kernel, rfl⟩
theorem dX11_init_14 : Dc cX11_init 14 (.sipush 2048) 3 17 := ⟨by decide +kernel, rfl⟩
theorem dX11_init_17 : Dc cX11_init 17 (.newarray .int) 2 19 := ⟨by decide +kernel, rfl⟩
theorem dX11_init_19 : Dc cX11_init 19 (.putfield 13) 3 22 := ⟨by decide +kernel, rfl⟩
theorem dX11_init_22 : Dc cX11_init 22 (.aload_n 0) 1 23 := ⟨by decide +kernel, rfl⟩
theorem dX11_init_23 : Dc cX11_init 23 (.new 16) 3 26 := ⟨by decide +kernel, rfl⟩
theorem dX11_init_26 : Dc cX11_init 26 (.dup) 1 27 := ⟨by decide +kernel, rfl⟩
theorem dX11_init_27 : Dc cX11_init 27 (.aload_n 0) 1 28 := ⟨by decide +kernel, rfl⟩
theorem dX11_init_28 : Dc cX11_init 28 (.getfield 9) 3 31 := ⟨by decide +kernel, rfl⟩
theorem dX11_init_31 : Dc cX11_init 31 (.invokespecial 18) 3 34 := ⟨by decide +kernel, rfl⟩
theorem dX11_init_34 : Dc cX11_init 34 (.putfield 21) 3 37 := ⟨by decide +kernel, rfl⟩
theorem dX11_init_37 : Dc cX11_init 37 (.aload_n 0) 1 38 := ⟨by decide +kernel, rfl⟩
theorem dX11_init_38 : Dc cX11_init 38 (.new 25) 3 41 := ⟨by decide +kernel, rfl⟩
theorem dX11_init_41 : Dc cX11_init 41 (.dup) 1 42 := ⟨by decide +kernel, rfl⟩
theorem dX11_init_42 : Dc cX11_init 42 (.invokespecial 27) 3 45 := ⟨by decide +kernel, rfl⟩
theorem dX11_init_45 : Dc cX11_init 45 (.putfield 28) 3 48 := ⟨by decide +kernel, rfl⟩
theorem dX11_init_48 : Dc cX11_init 48 (.aload_n 0) 1 49 := ⟨by decide +kernel, rfl⟩
theorem dX11_init_49 : Dc cX11_init 49 (.new 32) 3 52 := ⟨by decide +kernel, rfl⟩
theorem dX11_init_52 : Dc cX11_init 52 (.dup) 1 53 := ⟨by decide +kernel, rfl⟩
theorem dX11_init_53 : Dc cX11_init 53 (.aload_n 0) 1 54 := ⟨by decide +kernel, rfl⟩
theorem dX11_init_54 : Dc cX11_init 54 (.getfield 28) 3 57 := ⟨by decide +kernel, rfl⟩
theorem dX11_init_57 : Dc cX11_init 57 (.invokespecial 34) 3 60 := ⟨by decide +kernel, rfl⟩
theorem dX11_init_60 : Dc cX11_init 60 (.putfield 37) 3 63 := ⟨by decide +kernel, rfl⟩
theorem dX11_init_63 : Dc cX11_init 63 (.aload_n 0) 1 64 := ⟨by decide +kernel, rfl⟩
theorem dX11_init_64 : Dc cX11_init 64 (.new 41) 3 67 := ⟨by decide +kernel, rfl⟩
theorem dX11_init_67 : Dc cX11_init 67 (.dup) 1 68 := ⟨by decide +kernel, rfl⟩
theorem dX11_init_68 : Dc cX11_init 68 (.aload_n 0) 1 69 := ⟨by decide +kernel, rfl⟩
theorem dX11_init_69 : Dc cX11_init 69 (.getfield 28) 3 72 := ⟨by decide +kernel, rfl⟩
theorem dX11_init_72 : Dc cX11_init 72 (.aload_n 0) 1 73 := ⟨by decide +kernel, rfl⟩
theorem dX11_init_73 : Dc cX11_init 73 (.getfield 37) 3 76 := ⟨by decide +kernel, rfl⟩
theorem dX11_init_76 : Dc cX11_init 76 (.invokespecial 43) 3 79 := ⟨by decide +kernel, rfl⟩
theorem dX11_init_79 : Dc cX11_init 79 (.putfield 46) 3 82 := ⟨by decide +kernel, rfl⟩
theorem dX11_init_82 : Dc cX11_init 82 (.aload_n 0) 1 83 := ⟨by decide +kernel, rfl⟩
theorem dX11_init_83 : Dc cX11_init 83 (.new 50) 3 86 := ⟨by decide +kernel, rfl⟩
theorem dX11_init_86 : Dc cX11_init 86 (.dup) 1 87 := ⟨by decide +kernel, rfl⟩
theorem dX11_init_87 : Dc cX11_init 87 (.aload_n 0) 1 88 := ⟨by decide +kernel, rfl⟩
theorem dX11_init_88 : Dc cX11_init 88 (.getfield 28) 3 91 := ⟨by decide +kernel, rfl⟩
theorem dX11_init_91 : Dc cX11_init 91 (.aload_n 0) 1 92 := ⟨by decide +kernel, rfl⟩
theorem dX11_init_92 : Dc cX11_init 92 (.getfield 37) 3 95 := ⟨by decide +kernel, rfl⟩
theorem dX11_init_95 : Dc cX11_init 95 (.aload_n 0) 1 96 := ⟨by decide +kernel, rfl⟩
theorem dX11_init_96 : Dc cX11_init 96 (.getfield 46) 3 99 := ⟨by decide +kernel, rfl⟩
theorem dX11_init_99 : Dc cX11_init 99 (.invokespecial 52) 3 102 := ⟨by decide +kernel, rfl⟩
theorem dX11_init_102 : Dc cX11_init 102 (.putfield 55) 3 105 := ⟨by decide +kernel, rfl⟩
theorem dX11_init_105 : Dc cX11_init 105 (.aload_n 0) 1 106 := ⟨by decide +kernel, rfl⟩
theorem dX11_init_106 : Dc cX11_init 106 (.new 59) 3 109 := ⟨by decide +kernel, rfl⟩
theorem dX11_init_109 : Dc cX11_init 109 (.dup) 1 110 := ⟨by decide +kernel, rfl⟩
theorem dX11_init_110 : Dc cX11_init 110 (.aload_n 0) 1 111 := ⟨by decide +kernel, rfl⟩
theorem dX11_init_111 : Dc cX11_init 111 (.getfield 28) 3 114 := ⟨by decide +kernel, rfl⟩
theorem dX11_init_114 : Dc cX11_init 114 (.aload_n 0) 1 115 := ⟨by decide +kernel, rfl⟩
theorem dX11_init_115 : Dc cX11_init 115 (.getfield 37) 3 118 := ⟨by decide +kernel, rfl⟩
theorem dX11_init_118 : Dc cX11_init 118 (.aload_n 0) 1 119 := ⟨by decide +kernel, rfl⟩
theorem dX11_init_119 : Dc cX11_init 119 (.getfield 46) 3 122 := ⟨by decide +kernel, rfl⟩
theorem dX11_init_122 : Dc cX11_init 122 (.invokespecial 61) 3 125 := ⟨by decide +kernel, rfl⟩
theorem dX11_init_125 : Dc cX11_init 125 (.putfield 62) 3 128 := ⟨by decide +kernel, rfl⟩
theorem dX11_init_128 : Dc cX11_init 128 (.aload_n 0) 1 129 := ⟨by decide +kernel, rfl⟩
theorem dX11_init_129 : Dc cX11_init 129 (.new 66) 3 132 := ⟨by decide +kernel, rfl⟩
theorem dX11_init_132 : Dc cX11_init 132 (.dup) 1 133 := ⟨by decide +kernel, rfl⟩
theorem dX11_init_133 : Dc cX11_init 133 (.aload_n 0) 1 134 := ⟨by decide +kernel, rfl⟩
theorem dX11_init_134 : Dc cX11_init 134 (.getfield 28) 3 137 := ⟨by decide +kernel, rfl⟩
theorem dX11_init_137 : Dc cX11_init 137 (.aload_n 0) 1 138 := ⟨by decide +kernel, rfl⟩
theorem dX11_init_138 : Dc cX11_init 138 (.getfield 37) 3 141 := ⟨by decide +kernel, rfl⟩
theorem dX11_init_141 : Dc cX11_init 141 (.invokespecial 68) 3 144 := ⟨by decide +kernel, rfl⟩
theorem dX11_init_144 : Dc cX11_init 144 (.putfield 69) 3 147 := ⟨by decide +kernel, rfl⟩
theorem dX11_init_147 : Dc cX11_init 147 (.aload_n 0) 1 148 := ⟨by decide +kernel, rfl⟩
theorem dX11_init_148 : Dc cX11_init 148 (.new 73) 3 151 := ⟨by decide +kernel, rfl⟩
theorem dX11_init_151 : Dc cX11_init 151 (.dup) 1 152 := ⟨by decide +kernel, rfl⟩
theorem dX11_init_152 : Dc cX11_init 152 (.aload_n 0) 1 153 := ⟨by decide +kernel, rfl⟩
theorem dX11_init_153 : Dc cX11_init 153 (.getfield 28) 3 156 := ⟨by decide +kernel, rfl⟩
theorem dX11_init_156 : Dc cX11_init 156 (.aload_n 0) 1 157 := ⟨by decide +kernel, rfl⟩
theorem dX11_init_157 : Dc cX11_init 157 (.getfield 37) 3 160 := ⟨by decide +kernel, rfl⟩
theorem dX11_init_160 : Dc cX11_init 160 (.aload_n 0) 1 161 := ⟨by decide +kernel, rfl⟩
theorem dX11_init_161 : Dc cX11_init 161 (.getfield 46) 3 164 := ⟨by decide +kernel, rfl⟩
theorem dX11_init_164 : Dc cX11_init 164 (.invokespecial 75) 3 167 := ⟨by decide +kernel, rfl⟩
theorem dX11_init_167 : Dc cX11_init 167 (.putfield 76) 3 170 := ⟨by decide +kernel, rfl⟩
theorem dX11_init_170 : Dc cX11_init 170 (.aload_n 0) 1 171 := ⟨by decide +kernel, rfl⟩
theorem dX11_init_171 : Dc cX11_init 171 (.new 80) 3 174 := ⟨by decide +kernel, rfl⟩
theorem dX11_init_174 : Dc cX11_init 174 (.dup) 1 175 := ⟨by decide +kernel, rfl⟩
theorem dX11_init_175 : Dc cX11_init 175 (.aload_n 0) 1 176 := ⟨by decide +kernel, rfl⟩
theorem dX11_init_176 : Dc cX11_init 176 (.getfield 28) 3 179 := ⟨by decide +kernel, rfl⟩
theorem dX11_init_179 : Dc cX11_init 179 (.aload_n 0) 1 180 := ⟨by decide +kernel, rfl⟩
theorem dX11_init_180 : Dc cX11_init 180 (.getfield 37) 3 183 := ⟨by decide +kernel, rfl⟩
theorem dX11_init_183 : Dc cX11_init 183 (.aload_n 0) 1 184 := ⟨by decide +kernel, rfl⟩
theorem dX11_init_184 : Dc cX11_init 184 (.getfield 76) 3 187 := ⟨by decide +kernel, rfl⟩
theorem dX11_init_187 : Dc cX11_init 187 (.invokespecial 82) 3 190 := ⟨by decide +kernel, rfl⟩
theorem dX11_init_190 : Dc cX11_init 190 (.putfield 85) 3 193 := ⟨by decide +kernel, rfl⟩
theorem dX11_init_193 : Dc cX11_init 193 (.aload_n 0) 1 194 := ⟨by decide +kernel, rfl⟩
theorem dX11_init_194 : Dc cX11_init 194 (.new 80) 3 197 := ⟨by decide +kernel, rfl⟩
theorem dX11_init_197 : Dc cX11_init 197 (.dup) 1 198 := ⟨by decide +kernel, rfl⟩
theorem dX11_init_198 : Dc cX11_init 198 (.aload_n 0) 1 199 := ⟨by decide +kernel, rfl⟩
theorem dX11_init_199 : Dc cX11_init 199 (.getfield 28) 3 202 := ⟨by decide +kernel, rfl⟩
theorem dX11_init_202 : Dc cX11_init 202 (.aload_n 0) 1 203 := ⟨by decide +kernel, rfl⟩
theorem dX11_init_203 : Dc cX11_init 203 (.getfield 37) 3 206 := ⟨by decide +kernel, rfl⟩
theorem dX11_init_206 : Dc cX11_init 206 (.aload_n 0) 1 207 := ⟨by decide +kernel, rfl⟩
theorem dX11_init_207 : Dc cX11_init 207 (.getfield 76) 3 210 := ⟨by decide +kernel, rfl⟩
theorem dX11_init_210 : Dc cX11_init 210 (.invokespecial 82) 3 213 := ⟨by decide +kernel, rfl⟩
theorem dX11_init_213 : Dc cX11_init 213 (.putfield 89) 3 216 := ⟨by decide +kernel, rfl⟩
theorem dX11_init_216 : Dc cX11_init 216 (.aload_n 0) 1 217 := ⟨by decide +kernel, rfl⟩
theorem dX11_init_217 : Dc cX11_init 217 (.new 92) 3 220 := ⟨by decide +kernel, rfl⟩
theorem dX11_init_220 : Dc cX11_init 220 (.dup) 1 221 := ⟨by decide +kernel, rfl⟩
theorem dX11_init_221 : Dc cX11_init 221 (.aload_n 0) 1 222 := ⟨by decide +kernel, rfl⟩
theorem dX11_init_222 : Dc cX11_init 222 (.getfield 28) 3 225 := ⟨by decide +kernel, rfl⟩
theorem dX11_init_225 : Dc cX11_init 225 (.aload_n 0) 1 226 := ⟨by decide +kernel, rfl⟩
theorem dX11_init_226 : Dc cX11_init 226 (.getfield 37) 3 229 := ⟨by decide +kernel, rfl⟩
theorem dX11_init_229 : Dc cX11_init 229 (.aload_n 0) 1 230 := ⟨by decide +kernel, rfl⟩
theorem dX11_init_230 : Dc cX11_init 230 (.getfield 46) 3 233 := ⟨by decide +kernel, rfl⟩
theorem dX11_init_233 : Dc cX11_init 233 (.invokespecial 94) 3 236 := ⟨by decide +kernel, rfl⟩
theorem dX11_init_236 : Dc cX11_init 236 (.putfield 95) 3 239 := ⟨by decide +kernel, rfl⟩
theorem dX11_init_239 : Dc cX11_init 239 (.aload_n 0) 1 240 := ⟨by decide +kernel, rfl⟩
theorem dX11_init_240 : Dc cX11_init 240 (.new 99) 3 243 := ⟨by decide +kernel, rfl⟩
theorem dX11_init_243 : Dc cX11_init 243 (.dup) 1 244 := ⟨by decide +kernel, rfl⟩
theorem dX11_init_244 : Dc cX11_init 244 (.aload_n 0) 1 245 := ⟨by decide +kernel, rfl⟩
theorem dX11_init_245 : Dc cX11_init 245 (.getfield 28) 3 248 := ⟨by decide +kernel, rfl⟩
theorem dX11_init_248 : Dc cX11_init 248 (.aload_n 0) 1 249 := ⟨by decide +kernel, rfl⟩
theorem dX11_init_249 : Dc cX11_init 249 (.getfield 37) 3 252 := ⟨by decide +kernel, rfl⟩
theorem dX11_init_252 : Dc cX11_init 252 (.aload_n 0) 1 253 := ⟨by decide +kernel, rfl⟩
theorem dX11_init_253 : Dc cX11_init 253 (.getfield 46) 3 256 := ⟨by decide +kernel, rfl⟩
theorem dX11_init_256 : Dc cX11_init 256 (.invokespecial 101) 3 259 := ⟨by decide +kernel, rfl⟩
theorem dX11_init_259 : Dc cX11_init 259 (.putfield 102) 3 262 := ⟨by decide +kernel, rfl⟩
theorem dX11_init_262 : Dc cX11_init 262 (.return_) 1 263 := ⟨by decide +kernel, rfl⟩
theorem mk_RX11_3 : Cond.methodLink RX11 3 objectInit ∈ gtbl := tg (tb_1 (List.mem_of_getElem? (i := 27) rfl)) rfl
theorem fk_RX11_9 : FLk RX11 9 11 RX11 TX11 16 tyX11 0 := ⟨cls_11, by decide, rfl, tg (tb_3 (List.mem_of_getElem? (i := 100) rfl)) rfl⟩
theorem fk_RX11_13 : FLk RX11 13 11 RX11 TX11 16 tyX11 2 := ⟨cls_11, by decide, rfl, tg (tb_3 (List.mem_of_getElem? (i := 102) rfl)) rfl⟩
theorem ck_RX11_16 : Cond.classLink RX11 16 RX6 ∈ gtbl := tg (tb_1 (List.mem_of_getElem? (i := 30) rfl)) rfl
theorem ik_X6 : Cond.instantiable RX6 9 ∈ gtbl := tg (tb_1 (List.mem_of_getElem? (i := 31) rfl)) rfl
theorem nk_X6 : Cond.initialized RX6 ∈ gtbl := tg (tb_1 (List.mem_of_getElem? (i := 2) rfl)) rfl
theorem mz_X6_init : MYk yX6_init cX6_init 2 none 1 := ⟨tg (tb_1 (List.mem_of_getElem? (i := 34) rfl)) rfl, tg (tb_1 (List.mem_of_getElem? (i := 2) rfl)) rfl, ⟨by decide, by decide⟩, by decide +kernel, plainFor_of_name (by decide +kernel)⟩
theorem mzi_X6_init : Cond.instanceMethod yX6_init ∈ gtbl := tg (tb_1 (List.mem_of_getElem? (i := 33) rfl)) rfl
theorem dX6_init_0 : Dc cX6_init 0 (.aload_n 0) 1 1 := ⟨by decide +kernel, rfl⟩
theorem dX6_init_1 : Dc cX6_init 1 (.invokespecial 3) 3 4 := ⟨by decide +kernel, rfl⟩
theorem dX6_init_4 : Dc cX6_init 4 (.aload_n 0) 1 5 := ⟨by decide +kernel, rfl⟩
theorem dX6_init_5 : Dc cX6_init 5 (.aload_n 1) 1 6 := ⟨by decide +kernel, rfl⟩
theorem dX6_init_6 : Dc cX6_init 6 (.putfield 9) 3 9 := ⟨by decide +kernel, rfl⟩
theorem dX6_init_9 : Dc cX6_init 9 (.aload_n 0) 1 10 := ⟨by decide +kernel, rfl⟩
theorem dX6_init_10 : Dc cX6_init 10 (.new 15) 3 13 := ⟨by decide +kernel, rfl⟩
theorem dX6_init_13 : Dc cX6_init 13 (.dup) 1 14 := ⟨by decide +kernel, rfl⟩
theorem dX6_init_14 : Dc cX6_init 14 (.invokespecial 17) 3 17 := ⟨by decide +kernel, rfl⟩
theorem dX6_init_17 : Dc cX6_init 17 (.putfield 18) 3 20 := ⟨by decide +kernel, rfl⟩
theorem dX6_init_20 : Dc cX6_init 20 (.aload_n 0) 1 21 := ⟨by decide +kernel, rfl⟩
theorem dX6_init_21 : Dc cX6_init 21 (.iconst 0) 1 22 := ⟨by decide +kernel, rfl⟩
theorem dX6_init_22 : Dc cX6_init 22 (.putfield 22) 3 25 := ⟨by decide +kernel, rfl⟩
theorem dX6_init_25 : Dc cX6_init 25 (.aload_n 0) 1 26 := ⟨by decide +kernel, rfl⟩
theorem dX6_init_26 : Dc cX6_init 26 (.iconst (-1)) 1 27 := ⟨by decide +kernel, rfl⟩
theorem dX6_init_27 : Dc cX6_init 27 (.putfield 26) 3 30 := ⟨by decide +kernel, rfl⟩
theorem dX6_init_30 : Dc cX6_init 30 (.return_) 1 31 := ⟨by decide +kernel, rfl⟩
theorem mk_RX6_3 : Cond.methodLink RX6 3 objectInit ∈ gtbl := tg (tb_1 (List.mem_of_getElem? (i := 35) rfl)) rfl
theorem fk_RX6_9 : FLk RX6 9 6 RX6 TX6 9 tyX6 0 := ⟨cls_6, by decide, rfl, tg (tb_1 (List.mem_of_getElem? (i := 139) rfl)) rfl⟩
theorem ck_RX6_15 : Cond.classLink RX6 15 RX4 ∈ gtbl := tg (tb_1 (List.mem_of_getElem? (i := 36) rfl)) rfl
theorem ik_X4 : Cond.instantiable RX4 13 ∈ gtbl := tg (tb_1 (List.mem_of_getElem? (i := 37) rfl)) rfl
theorem nk_X4 : Cond.initialized RX4 ∈ gtbl := tg (tb_1 (List.mem_of_getElem? (i := 3) rfl)) rfl
theorem mz_X4_init : MYk yX4_init cX4_init 1 none 0 := ⟨tg (tb_1 (List.mem_of_getElem? (i := 40) rfl)) rfl, tg (tb_1 (List.mem_of_getElem? (i := 3) rfl)) rfl, ⟨by decide, by decide⟩, by decide +kernel, plainFor_of_name (by decide +kernel)⟩
theorem mzi_X4_init : Cond.instanceMethod yX4_init ∈ gtbl := tg (tb_1 (List.mem_of_getElem? (i := 39) rfl)) rfl
theorem dX4_init_0 : Dc cX4_init 0 (.aload_n 0) 1 1 := ⟨by decide +kernel, rfl⟩
theorem dX4_init_1 : Dc cX4_init 1 (.invokespecial 3) 3 4 := ⟨by decide +kernel, rfl⟩
theorem dX4_init_4 : Dc cX4_init 4 (.aload_n 0) 1 5 := ⟨by decide +kernel, rfl⟩
theorem dX4_init_5 : Dc cX4_init 5 (.bipush 40) 2 7 := ⟨by decide +kernel, rfl⟩
theorem dX4_init_7 : Dc cX4_init 7 (.newarray .int) 2 9 := ⟨by decide +kernel, rfl⟩
theorem dX4_init_9 : Dc cX4_init 9 (.putfield 9) 3 12 := ⟨by decide +kernel, rfl⟩
theorem dX4_init_12 : Dc cX4_init 12 (.aload_n 0) 1 13 := ⟨by decide +kernel, rfl⟩
theorem dX4_init_13 : Dc cX4_init 13 (.bipush 40) 2 15 := ⟨by decide +kernel, rfl⟩
theorem dX4_init_15 : Dc cX4_init 15 (.newarray .int) 2 17 := ⟨by decide +kernel, rfl⟩
theorem dX4_init_17 : Dc cX4_init 17 (.putfield 15) 3 20 := ⟨by decide +kernel, rfl⟩
theorem dX4_init_20 : Dc cX4_init 20 (.aload_n 0) 1 21 := ⟨by decide +kernel, rfl⟩
theorem dX4_init_21 : Dc cX4_init 21 (.bipush 40) 2 23 := ⟨by decide +kernel, rfl⟩
theorem dX4_init_23 : Dc cX4_init 23 (.newarray .int) 2 25 := ⟨by decide +kernel, rfl⟩
theorem dX4_init_25 : Dc cX4_init 25 (.putfield 18) 3 28 := ⟨by decide +kernel, rfl⟩
theorem dX4_init_28 : Dc cX4_init 28 (.aload_n 0) 1 29 := ⟨by decide +kernel, rfl⟩
theorem dX4_init_29 : Dc cX4_init 29 (.bipush 40) 2 31 := ⟨by decide +kernel, rfl⟩
theorem dX4_init_31 : Dc cX4_init 31 (.newarray .int) 2 33 := ⟨by decide +kernel, rfl⟩
theorem dX4_init_33 : Dc cX4_init 33 (.putfield 21) 3 36 := ⟨by decide +kernel, rfl⟩
theorem dX4_init_36 : Dc cX4_init 36 (.aload_n 0) 1 37 := ⟨by decide +kernel, rfl⟩
theorem dX4_init_37 : Dc cX4_init 37 (.bipush 40) 2 39 := ⟨by decide +kernel, rfl⟩
theorem dX4_init_39 : Dc cX4_init 39 (.newarray .int) 2 41 := ⟨by decide +kernel, rfl⟩
theorem dX4_init_41 : Dc cX4_init 41 (.putfield 24) 3 44 := ⟨by decide +kernel, rfl⟩
theorem dX4_init_44 : Dc cX4_init 44 (.aload_n 0) 1 45 := ⟨by decide +kernel, rfl⟩
theorem dX4_init_45 : Dc cX4_init 45 (.bipush 40) 2 47 := ⟨by decide +kernel, rfl⟩
theorem dX4_init_47 : Dc cX4_init 47 (.newarray .boolean) 2 49 := ⟨by decide +kernel, rfl⟩
theorem dX4_init_49 : Dc cX4_init 49 (.putfield 27) 3 52 := ⟨by decide +kernel, rfl⟩
theorem dX4_init_52 : Dc cX4_init 52 (.aload_n 0) 1 53 := ⟨by decide +kernel, rfl⟩
theorem dX4_init_53 : Dc cX4_init 53 (.bipush 25) 2 55 := ⟨by decide +kernel, rfl⟩
theorem dX4_init_55 : Dc cX4_init 55 (.newarray .int) 2 57 := ⟨by decide +kernel, rfl⟩
theorem dX4_init_57 : Dc cX4_init 57 (.putfield 31) 3 60 := ⟨by decide +kernel, rfl⟩
theorem dX4_init_60 : Dc cX4_init 60 (.aload_n 0) 1 61 := ⟨by decide +kernel, rfl⟩
theorem dX4_init_61 : Dc cX4_init 61 (.bipush 25) 2 63 := ⟨by decide +kernel, rfl⟩
theorem dX4_init_63 : Dc cX4_init 63 (.newarray .int) 2 65 := ⟨by decide +kernel, rfl⟩
theorem dX4_init_65 : Dc cX4_init 65 (.putfield 34) 3 68 := ⟨by decide +kernel, rfl⟩
theorem dX4_init_68 : Dc cX4_init 68 (.aload_n 0) 1 69 := ⟨by decide +kernel, rfl⟩
theorem dX4_init_69 : Dc cX4_init 69 (.bipush 12) 2 71 := ⟨by decide +kernel, rfl⟩
theorem dX4_init_71 : Dc cX4_init 71 (.newarray .int) 2 73 := ⟨by decide +kernel, rfl⟩
theorem dX4_init_73 : Dc cX4_init 73 (.putfield 37) 3 76 := ⟨by decide +kernel, rfl⟩
theorem dX4_init_76 : Dc cX4_init 76 (.aload_n 0) 1 77 := ⟨by decide +kernel, rfl⟩
theorem dX4_init_77 : Dc cX4_init 77 (.invokevirtual 40) 3 80 := ⟨by decide +kernel, rfl⟩
theorem dX4_init_80 : Dc cX4_init 80 (.return_) 1 81 := ⟨by decide +kernel, rfl⟩
theorem mk_RX4_3 : Cond.methodLink RX4 3 objectInit ∈ gtbl := tg (tb_1 (List.mem_of_getElem? (i := 41) rfl)) rfl
theorem fk_RX4_9 : FLk RX4 9 4 RX4 TX4 13 tyX4 1 := ⟨cls_4, by decide, rfl, tg (tb_1 (List.mem_of_getElem? (i := 52) rfl)) rfl⟩
theorem fk_RX4_15 : FLk RX4 15 4 RX4 TX4 13 tyX4 2 := ⟨cls_4, by decide, rfl, tg (tb_1 (List.mem_of_getElem? (i := 61) rfl)) rfl⟩
theorem fk_RX4_18 : FLk RX4 18 4 RX4 TX4 13 tyX4 3 := ⟨cls_4, by decide, rfl, tg (tb_1 (List.mem_of_getElem? (i := 70) rfl)) rfl⟩
theorem fk_RX4_21 : FLk RX4 21 4 RX4 TX4 13 tyX4 4 := ⟨cls_4, by decide, rfl, tg (tb_1 (List.mem_of_getElem? (i := 76) rfl)) rfl⟩
theorem fk_RX4_24 : FLk RX4 24 4 RX4 TX4 13 tyX4 5 := ⟨cls_4, by decide, rfl, tg (tb_1 (List.mem_of_getElem? (i := 84) rfl)) rfl⟩
theorem fk_RX4_27 : FLk RX4 27 4 RX4 TX4 13 tyX4 6 := ⟨cls_4, by decide, rfl, tg (tb_1 (List.mem_of_getElem? (i := 88) rfl)) rfl⟩
theorem fk_RX4_31 : FLk RX4 31 4 RX4 TX4 13 tyX4 10 := ⟨cls_4, by decide, rfl, tg (tb_1 (List.mem_of_getElem? (i := 105) rfl)) rfl⟩
theorem fk_RX4_34 : FLk RX4 34 4 RX4 TX4 13 tyX4 11 := ⟨cls_4, by decide, rfl, tg (tb_1 (List.mem_of_getElem? (i := 107) rfl)) rfl⟩
theorem fk_RX4_37 : FLk RX4 37 4 RX4 TX4 13 tyX4 12 := ⟨cls_4, by decide, rfl, tg (tb_1 (List.mem_of_getElem? (i := 109) rfl)) rfl⟩
theorem mz_X4_clear : MYk yX4_clear cX4_clear 2 none 0 := ⟨tg (tb_1 (List.mem_of_getElem? (i := 45) rfl)) rfl, tg (tb_1 (List.mem_of_getElem? (i := 3) rfl)) rfl, ⟨by decide, by decide⟩, by decide +kernel, plainFor_of_name (by decide +kernel)⟩
theorem mzi_X4_clear : Cond.instanceMethod yX4_clear ∈ gtbl := tg (tb_1 (List.mem_of_getElem? (i := 43) rfl)) rfl
theorem mzs_X4_clear : Cond.selects yX4_clear.cls yX4_clear yX4_clear ∈ gtbl := tg (tb_1 (List.mem_of_getElem? (i := 44) rfl)) rfl
theorem fk_RX4_43 : FLk RX4 43 4 RX4 TX4 13 tyX4 0 := ⟨cls_4, by decide, rfl, tg (tb_1 (List.mem_of_getElem? (i := 46) rfl)) rfl⟩
theorem fk_RX4_47 : FLk RX4 47 4 RX4 TX4 13 tyX4 7 := ⟨cls_4, by decide, rfl, tg (tb_1 (List.mem_of_getElem? (i := 93) rfl)) rfl⟩
theorem fk_RX4_50 : FLk RX4 50 4 RX4 TX4 13 tyX4 8 := ⟨cls_4, by decide, rfl, tg (tb_1 (List.mem_of_getElem? (i := 97) rfl)) rfl⟩
theorem fk_RX4_53 : FLk RX4 53 4 RX4 TX4 13 tyX4 9 := ⟨cls_4, by decide, rfl, tg (tb_1 (List.mem_of_getElem? (i := 101) rfl)) rfl⟩
def st_X4_clear_4 (σ : St) : St := (upS (upS (upS (upS (upS (upS (upS (upS (upS (upS (upS (upS σ 4 0 0) 4 7 2) 4 8 0) 4 9 1) 11 (Int.toNat 0) 0) 12 (Int.toNat 0) 0) 11 (Int.toNat 1) 1) 12 (Int.toNat 1) 0) 11 (Int.toNat 2) 1) 12 (Int.toNat 2) 0) 11 (Int.toNat 3) 1) 12 (Int.toNat 3) 1)
set_option maxHeartbeats 4000000 in
set_option maxRecDepth 100000 in
theorem k_X4_clear_4 {l : Launch} {D : va_G} {cA : Nat → ClassId} {ba : Nat} (σ : St) (g10 : σ 4 10 = 1) (g11 : σ 4 11 = 1) : KtN l D cA ba (shC false) 14 14 0 yX4_clear cX4_clear 2 1 [.ref (ba + 4)] σ (fun σ1 => σ1 = st_X4_clear_4 σ) := by
  refine KtN.of mz_X4_clear [some (.ref (ba + 4)), none] (Nat.le_of_ble_eq_true rfl) rfl (fun p e s m args below meth c E hr hnm => ?_)
  refine n_aload_0 E dX4_clear_0 ?_
  refine n_iconst E dX4_clear_1 ?_
  refine n_putI E fk_RX4_43 rfl rfl (by decide) (sC_4 false) rfl dX4_clear_2 ?_
  refine n_aload_0 E dX4_clear_5 ?_
  refine n_iconst E dX4_clear_6 ?_
  refine n_putI E fk_RX4_47 rfl rfl (by decide) (sC_4 false) rfl dX4_clear_7 ?_
  refine n_aload_0 E dX4_clear_10 ?_
  refine n_iconst E dX4_clear_11 ?_
  refine n_putI E fk_RX4_50 rfl rfl (by decide) (sC_4 false) rfl dX4_clear_12 ?_
  refine n_aload_0 E dX4_clear_15 ?_
  refine n_iconst E dX4_clear_16 ?_
  refine n_putI E fk_RX4_53 rfl rfl (by decide) (sC_4 false) rfl dX4_clear_17 ?_
  refine n_iconst E dX4_clear_20 ?_
  refine n_istore_1 E rfl (by decide) dX4_clear_21 ?_
  refine n_iload_1 E dX4_clear_22 ?_
  refine n_iconst E dX4_clear_23 ?_
  refine n_icmp_ge E (show C32 0 by unfold C32; omega) (show C32 4 by unfold C32; omega) djX4_clear_24 (fun hc => absurd hc (by decide)) (fun _ => ?_)
  refine n_aload_0 E dX4_clear_27 ?_
  refine n_getR E fk_RX4_31 (by decide) (sC_4 false) rfl (show _ = (1 : Int) from g10) dX4_clear_28 ?_
  refine n_iload_1 E dX4_clear_31 ?_
  refine n_iload_1 E dX4_clear_32 ?_
  refine n_if_ne E (show C32 0 by unfold C32; omega) djX4_clear_33 (fun hc => absurd hc (by decide)) (fun _ => ?_)
  refine n_iconst E dX4_clear_36 ?_
  refine n_goto E djX4_clear_37 ?_
  refine n_iast E (by decide) (sC_11 false) (by decide) (by decide) dX4_clear_41 ?_
  refine n_aload_0 E dX4_clear_42 ?_
  refine n_getR E fk_RX4_34 (by decide) (sC_4 false) rfl (show _ = (1 : Int) from g11) dX4_clear_43 ?_
  refine n_iload_1 E dX4_clear_46 ?_
  refine n_iload_1 E dX4_clear_47 ?_
  refine n_iconst E dX4_clear_48 ?_
  refine n_icmp_ne E (show C32 0 by unfold C32; omega) (show C32 3 by unfold C32; omega) djX4_clear_49 (fun _ => ?_) (fun hc => absurd (by decide) hc)
  refine n_iconst E dX4_clear_56 ?_
  refine n_iast E (by decide) (sC_12 false) (by decide) (by decide) dX4_clear_57 ?_
  refine n_iinc_1 E rfl (by decide) dX4_clear_58 (fun v ev => ?_)
  obtain rfl : v = 1 := ev.trans (by decide)
  refine n_goto E djX4_clear_61 ?_
  refine n_iload_1 E dX4_clear_22 ?_
  refine n_iconst E dX4_clear_23 ?_
  refine n_icmp_ge E (show C32 1 by unfold C32; omega) (show C32 4 by unfold C32; omega) djX4_clear_24 (fun hc => absurd hc (by decide)) (fun _ => ?_)
  refine n_aload_0 E dX4_clear_27 ?_
  refine n_getR E fk_RX4_31 (by decide) (sC_4 false) rfl (show _ = (1 : Int) from g10) dX4_clear_28 ?_
  refine n_iload_1 E dX4_clear_31 ?_
  refine n_iload_1 E dX4_clear_32 ?_
  refine n_if_ne E (show C32 1 by unfold C32; omega) djX4_clear_33 (fun _ => ?_) (fun hc => absurd (by decide) hc)
  refine n_iconst E dX4_clear_40 ?_
  refine n_iast E (by decide) (sC_11 false) (by decide) (by decide) dX4_clear_41 ?_
  refine n_aload_0 E dX4_clear_42 ?_
  refine n_getR E fk_RX4_34 (by decide) (sC_4 false) rfl (show _ = (1 : Int) from g11) dX4_clear_43 ?_
  refine n_iload_1 E dX4_clear_46 ?_
  refine n_iload_1 E dX4_clear_47 ?_
  refine n_iconst E dX4_clear_48 ?_
  refine n_icmp_ne E (show C32 1 by unfold C32; omega) (show C32 3 by unfold C32; omega) djX4_clear_49 (fun _ => ?_) (fun hc => absurd (by decide) hc)
  refine n_iconst E dX4_clear_56 ?_
  refine n_iast E (by decide) (sC_12 false) (by decide) (by decide) dX4_clear_57 ?_
  refine n_iinc_1 E rfl (by decide) dX4_clear_58 (fun v ev => ?_)
  obtain rfl : v = 2 := ev.trans (by decide)
  refine n_goto E djX4_clear_61 ?_
  refine n_iload_1 E dX4_clear_22 ?_
  refine n_iconst E dX4_clear_23 ?_
  refine n_icmp_ge E (show C32 2 by unfold C32; omega) (show C32 4 by unfold C32; omega) djX4_clear_24 (fun hc => absurd hc (by decide)) (fun _ => ?_)
  refine n_aload_0 E dX4_clear_27 ?_
  refine n_getR E fk_RX4_31 (by decide) (sC_4 false) rfl (show _ = (1 : Int) from g10) dX4_clear_28 ?_
  refine n_iload_1 E dX4_clear_31 ?_
  refine n_iload_1 E dX4_clear_32 ?_
  refine n_if_ne E (show C32 2 by unfold C32; omega) djX4_clear_33 (fun _ => ?_) (fun hc => absurd (by decide) hc)
  refine n_iconst E dX4_clear_40 ?_
  refine n_iast E (by decide) (sC_11 false) (by decide) (by decide) dX4_clear_41 ?_
  refine n_aload_0 E dX4_clear_42 ?_
  refine n_getR E fk_RX4_34 (by decide) (sC_4 false) rfl (show _ = (1 : Int) from g11) dX4_clear_43 ?_
  refine n_iload_1 E dX4_clear_46 ?_
  refine n_iload_1 E dX4_clear_47 ?_
  refine n_iconst E dX4_clear_48 ?_
  refine n_icmp_ne E (show C32 2 by unfold C32; omega) (show C32 3 by unfold C32; omega) djX4_clear_49 (fun _ => ?_) (fun hc => absurd (by decide) hc)
  refine n_iconst E dX4_clear_56 ?_
  refine n_iast E (by decide) (sC_12 false) (by decide) (by decide) dX4_clear_57 ?_
  refine n_iinc_1 E rfl (by decide) dX4_clear_58 (fun v ev => ?_)
  obtain rfl : v = 3 := ev.trans (by decide)
  refine n_goto E djX4_clear_61 ?_
  refine n_iload_1 E dX4_clear_22 ?_
  refine n_iconst E dX4_clear_23 ?_
  refine n_icmp_ge E (show C32 3 by unfold C32; omega) (show C32 4 by unfold C32; omega) djX4_clear_24 (fun hc => absurd hc (by decide)) (fun _ => ?_)
  refine n_aload_0 E dX4_clear_27 ?_
  refine n_getR E fk_RX4_31 (by decide) (sC_4 false) rfl (show _ = (1 : Int) from g10) dX4_clear_28 ?_
  refine n_iload_1 E dX4_clear_31 ?_
  refine n_iload_1 E dX4_clear_32 ?_
  refine n_if_ne E (show C32 3 by unfold C32; omega) djX4_clear_33 (fun _ => ?_) (fun hc => absurd (by decide) hc)
  refine n_iconst E dX4_clear_40 ?_
  refine n_iast E (by decide) (sC_11 false) (by decide) (by decide) dX4_clear_41 ?_
  refine n_aload_0 E dX4_clear_42 ?_
  refine n_getR E fk_RX4_34 (by decide) (sC_4 false) rfl (show _ = (1 : Int) from g11) dX4_clear_43 ?_
  refine n_iload_1 E dX4_clear_46 ?_
  refine n_iload_1 E dX4_clear_47 ?_
  refine n_iconst E dX4_clear_48 ?_
  refine n_icmp_ne E (show C32 3 by unfold C32; omega) (show C32 3 by unfold C32; omega) djX4_clear_49 (fun hc => absurd hc (by decide)) (fun _ => ?_)
  refine n_iconst E dX4_clear_52 ?_
  refine n_goto E djX4_clear_53 ?_
  refine n_iast E (by decide) (sC_12 false) (by decide) (by decide) dX4_clear_57 ?_
  refine n_iinc_1 E rfl (by decide) dX4_clear_58 (fun v ev => ?_)
  obtain rfl : v = 4 := ev.trans (by decide)
  refine n_goto E djX4_clear_61 ?_
  refine n_iload_1 E dX4_clear_22 ?_
  refine n_iconst E dX4_clear_23 ?_
  refine n_icmp_ge E (show C32 4 by unfold C32; omega) (show C32 4 by unfold C32; omega) djX4_clear_24 (fun _ => ?_) (fun hc => absurd (by decide) hc)
  exact n_vret E hr rfl dX4_clear_64
theorem mk_RX4_40 : Cond.methodLink RX4 40 yX4_clear ∈ gtbl := tg (tb_1 (List.mem_of_getElem? (i := 42) rfl)) rfl
def st_X4_init_4 (σ : St) : St := (st_X4_clear_4 (upS (upS (upS (upS (upS (upS (upS (upS (upS σ 4 1 1) 4 2 1) 4 3 1) 4 4 1) 4 5 1) 4 6 1) 4 10 1) 4 11 1) 4 12 1))
set_option maxHeartbeats 4000000 in
set_option maxRecDepth 100000 in
theorem k_X4_init_4 {l : Launch} {D : va_G} {cA : Nat → ClassId} {ba : Nat} (σ : St) (z5 : ∀ j, σ 5 j = 0) (z6 : ∀ j, σ 6 j = 0) (z7 : ∀ j, σ 7 j = 0) (z8 : ∀ j, σ 8 j = 0) (z9 : ∀ j, σ 9 j = 0) (z10 : ∀ j, σ 10 j = 0) (z11 : ∀ j, σ 11 j = 0) (z12 : ∀ j, σ 12 j = 0) (z13 : ∀ j, σ 13 j = 0) : KtN l D cA ba (shC false) 5 14 302 yX4_init cX4_init 1 2 [.ref (ba + 4)] σ (fun σ1 => σ1 = st_X4_init_4 σ) := by
  refine KtN.of mz_X4_init [some (.ref (ba + 4))] (Nat.le_of_ble_eq_true rfl) rfl (fun p e s m args below meth c E hr hnm => ?_)
  refine n_aload_0 E dX4_init_0 ?_
  refine n_objInit E mk_RX4_3 (Nat.le_of_ble_eq_true rfl) (by decide) dX4_init_1 ?_
  refine n_aload_0 E dX4_init_4 ?_
  refine n_bipush E (by decide) dX4_init_5 ?_
  refine n_new_int (n := 40) (slots' := 40) (cells' := 1) (N' := 6) E (sC_5 false) (fun j => z5 j) (by decide) (Nat.le_of_ble_eq_true rfl) (Nat.le_of_ble_eq_true rfl) dX4_init_7 rfl rfl rfl ?_
  refine n_putR E fk_RX4_9 rfl hnm rfl ⟨rfl, rfl⟩ (by decide) (sC_4 false) rfl dX4_init_9 ?_
  refine n_aload_0 E dX4_init_12 ?_
  refine n_bipush E (by decide) dX4_init_13 ?_
  refine n_new_int (n := 40) (slots' := 80) (cells' := 2) (N' := 7) E (sC_6 false) (fun j => z6 j) (by decide) (Nat.le_of_ble_eq_true rfl) (Nat.le_of_ble_eq_true rfl) dX4_init_15 rfl rfl rfl ?_
  refine n_putR E fk_RX4_15 rfl hnm rfl ⟨rfl, rfl⟩ (by decide) (sC_4 false) rfl dX4_init_17 ?_
  refine n_aload_0 E dX4_init_20 ?_
  refine n_bipush E (by decide) dX4_init_21 ?_
  refine n_new_int (n := 40) (slots' := 120) (cells' := 3) (N' := 8) E (sC_7 false) (fun j => z7 j) (by decide) (Nat.le_of_ble_eq_true rfl) (Nat.le_of_ble_eq_true rfl) dX4_init_23 rfl rfl rfl ?_
  refine n_putR E fk_RX4_18 rfl hnm rfl ⟨rfl, rfl⟩ (by decide) (sC_4 false) rfl dX4_init_25 ?_
  refine n_aload_0 E dX4_init_28 ?_
  refine n_bipush E (by decide) dX4_init_29 ?_
  refine n_new_int (n := 40) (slots' := 160) (cells' := 4) (N' := 9) E (sC_8 false) (fun j => z8 j) (by decide) (Nat.le_of_ble_eq_true rfl) (Nat.le_of_ble_eq_true rfl) dX4_init_31 rfl rfl rfl ?_
  refine n_putR E fk_RX4_21 rfl hnm rfl ⟨rfl, rfl⟩ (by decide) (sC_4 false) rfl dX4_init_33 ?_
  refine n_aload_0 E dX4_init_36 ?_
  refine n_bipush E (by decide) dX4_init_37 ?_
  refine n_new_int (n := 40) (slots' := 200) (cells' := 5) (N' := 10) E (sC_9 false) (fun j => z9 j) (by decide) (Nat.le_of_ble_eq_true rfl) (Nat.le_of_ble_eq_true rfl) dX4_init_39 rfl rfl rfl ?_
  refine n_putR E fk_RX4_24 rfl hnm rfl ⟨rfl, rfl⟩ (by decide) (sC_4 false) rfl dX4_init_41 ?_
  refine n_aload_0 E dX4_init_44 ?_
  refine n_bipush E (by decide) dX4_init_45 ?_
  refine n_new_boolean (n := 40) (slots' := 240) (cells' := 6) (N' := 11) E (sC_10 false) (fun j => z10 j) (by decide) (Nat.le_of_ble_eq_true rfl) (Nat.le_of_ble_eq_true rfl) dX4_init_47 rfl rfl rfl ?_
  refine n_putR E fk_RX4_27 rfl hnm rfl ⟨rfl, rfl⟩ (by decide) (sC_4 false) rfl dX4_init_49 ?_
  refine n_aload_0 E dX4_init_52 ?_
  refine n_bipush E (by decide) dX4_init_53 ?_
  refine n_new_int (n := 25) (slots' := 265) (cells' := 7) (N' := 12) E (sC_11 false) (fun j => z11 j) (by decide) (Nat.le_of_ble_eq_true rfl) (Nat.le_of_ble_eq_true rfl) dX4_init_55 rfl rfl rfl ?_
  refine n_putR E fk_RX4_31 rfl hnm rfl ⟨rfl, rfl⟩ (by decide) (sC_4 false) rfl dX4_init_57 ?_
  refine n_aload_0 E dX4_init_60 ?_
  refine n_bipush E (by decide) dX4_init_61 ?_
  refine n_new_int (n := 25) (slots' := 290) (cells' := 8) (N' := 13) E (sC_12 false) (fun j => z12 j) (by decide) (Nat.le_of_ble_eq_true rfl) (Nat.le_of_ble_eq_true rfl) dX4_init_63 rfl rfl rfl ?_
  refine n_putR E fk_RX4_34 rfl hnm rfl ⟨rfl, rfl⟩ (by decide) (sC_4 false) rfl dX4_init_65 ?_
  refine n_aload_0 E dX4_init_68 ?_
  refine n_bipush E (by decide) dX4_init_69 ?_
  refine n_new_int (n := 12) (slots' := 302) (cells' := 9) (N' := 14) E (sC_13 false) (fun j => z13 j) (by decide) (Nat.le_of_ble_eq_true rfl) (Nat.le_of_ble_eq_true rfl) dX4_init_71 rfl rfl rfl ?_
  refine n_putR E fk_RX4_37 rfl hnm rfl ⟨rfl, rfl⟩ (by decide) (sC_4 false) rfl dX4_init_73 ?_
  refine n_aload_0 E dX4_init_76 ?_
  refine n_callV (cells' := 9) (slots' := 302) E (fun q h => h) mz_X4_clear mzi_X4_clear mzs_X4_clear mk_RX4_40 (rm_ok (by decide) (by decide)) (by decide) (by decide) (sC_4 false) rfl (k_X4_clear_4 _ rfl rfl) rfl rfl (Nat.le_of_ble_eq_true rfl) dX4_init_77 rfl rfl (fun σ1 h1 => ?_)
  subst h1
  exact n_vret E hr rfl dX4_init_80
theorem mk_RX6_17 : Cond.methodLink RX6 17 yX4_init ∈ gtbl := tg (tb_1 (List.mem_of_getElem? (i := 38) rfl)) rfl
theorem fk_RX6_18 : FLk RX6 18 6 RX6 TX6 9 tyX6 1 := ⟨cls_6, by decide, rfl, tg (tb_1 (List.mem_of_getElem? (i := 140) rfl)) rfl⟩
theorem fk_RX6_22 : FLk RX6 22 6 RX6 TX6 9 tyX6 2 := ⟨cls_6, by decide, rfl, tg (tb_1 (List.mem_of_getElem? (i := 142) rfl)) rfl⟩
theorem fk_RX6_26 : FLk RX6 26 6 RX6 TX6 9 tyX6 3 := ⟨cls_6, by decide, rfl, tg (tb_1 (List.mem_of_getElem? (i := 144) rfl)) rfl⟩
def st_X6_init_3 (σ : St) : St := (upS (upS (upS (st_X4_init_4 (upS σ 3 0 1)) 3 1 1) 3 2 0) 3 3 (-1))
set_option maxHeartbeats 4000000 in
set_option maxRecDepth 100000 in
theorem k_X6_init_3 {l : Launch} {D : va_G} {cA : Nat → ClassId} {ba : Nat} (σ : St) (z4 : ∀ j, σ 4 j = 0) (z5 : ∀ j, σ 5 j = 0) (z6 : ∀ j, σ 6 j = 0) (z7 : ∀ j, σ 7 j = 0) (z8 : ∀ j, σ 8 j = 0) (z9 : ∀ j, σ 9 j = 0) (z10 : ∀ j, σ 10 j = 0) (z11 : ∀ j, σ 11 j = 0) (z12 : ∀ j, σ 12 j = 0) (z13 : ∀ j, σ 13 j = 0) : KtN l D cA ba (shC false) 4 14 315 yX6_init cX6_init 2 3 [.ref (ba + 3), .ref (ba + 1)] σ (fun σ1 => σ1 = st_X6_init_3 σ) := by
  refine KtN.of mz_X6_init [some (.ref (ba + 3)), some (.ref (ba + 1))] (Nat.le_of_ble_eq_true rfl) rfl (fun p e s m args below meth c E hr hnm => ?_)
  refine n_aload_0 E dX6_init_0 ?_
  refine n_objInit E mk_RX6_3 (Nat.le_of_ble_eq_true rfl) (by decide) dX6_init_1 ?_
  refine n_aload_0 E dX6_init_4 ?_
  refine n_aload_1 E dX6_init_5 ?_
  refine n_putR E fk_RX6_9 rfl hnm rfl ⟨rfl, rfl⟩ (by decide) (sC_3 false) rfl dX6_init_6 ?_
  refine n_aload_0 E dX6_init_9 ?_
  refine n_new (slots' := 13) (cells' := 1) (N' := 5) E cls_4 ck_RX6_15 ik_X4 nk_X4 (sC_4 false) (fun j => z4 j) (by decide) (Nat.le_of_ble_eq_true rfl) (Nat.le_of_ble_eq_true rfl) dX6_init_10 rfl rfl rfl ?_
  refine n_dup E rfl dX6_init_13 ?_
  refine n_callI (N1 := 14) (ms := 302) (cells' := 10) (slots' := 315) E (fun q h => h) mz_X4_init mzi_X4_init rfl mk_RX6_17 (rm_ok (by decide) (by decide)) (by decide) (k_X4_init_4 _ (fun j => z5 j) (fun j => z6 j) (fun j => z7 j) (fun j => z8 j) (fun j => z9 j) (fun j => z10 j) (fun j => z11 j) (fun j => z12 j) (fun j => z13 j)) rfl rfl (Nat.le_of_ble_eq_true rfl) dX6_init_14 rfl rfl (fun σ1 h1 => ?_)
  subst h1
  refine n_putR E fk_RX6_18 rfl hnm rfl ⟨rfl, rfl⟩ (by decide) (sC_3 false) rfl dX6_init_17 ?_
  refine n_aload_0 E dX6_init_20 ?_
  refine n_iconst E dX6_init_21 ?_
  refine n_putI E fk_RX6_22 rfl rfl (by decide) (sC_3 false) rfl dX6_init_22 ?_
  refine n_aload_0 E dX6_init_25 ?_
  refine n_iconst E dX6_init_26 ?_
  refine n_putI E fk_RX6_26 rfl rfl (by decide) (sC_3 false) rfl dX6_init_27 ?_
  exact n_vret E hr rfl dX6_init_30
theorem mk_RX11_18 : Cond.methodLink RX11 18 yX6_init ∈ gtbl := tg (tb_1 (List.mem_of_getElem? (i := 32) rfl)) rfl
theorem fk_RX11_21 : FLk RX11 21 11 RX11 TX11 16 tyX11 4 := ⟨cls_11, by decide, rfl, tg (tb_3 (List.mem_of_getElem? (i := 104) rfl)) rfl⟩
theorem ck_RX11_25 : Cond.classLink RX11 25 RX4 ∈ gtbl := tg (tb_1 (List.mem_of_getElem? (i := 170) rfl)) rfl
def st_X4_clear_14 (σ : St) : St := (upS (upS (upS (upS (upS (upS (upS (upS (upS (upS (upS (upS σ 14 0 0) 14 7 2) 14 8 0) 14 9 1) 21 (Int.toNat 0) 0) 22 (Int.toNat 0) 0) 21 (Int.toNat 1) 1) 22 (Int.toNat 1) 0) 21 (Int.toNat 2) 1) 22 (Int.toNat 2) 0) 21 (Int.toNat 3) 1) 22 (Int.toNat 3) 1)
set_option maxHeartbeats 4000000 in
set_option maxRecDepth 100000 in
theorem k_X4_clear_14 {l : Launch} {D : va_G} {cA : Nat → ClassId} {ba : Nat} (σ : St) (g10 : σ 14 10 = 1) (g11 : σ 14 11 = 1) : KtN l D cA ba (shC false) 24 24 0 yX4_clear cX4_clear 2 1 [.ref (ba + 14)] σ (fun σ1 => σ1 = st_X4_clear_14 σ) := by
  refine KtN.of mz_X4_clear [some (.ref (ba + 14)), none] (Nat.le_of_ble_eq_true rfl) rfl (fun p e s m args below meth c E hr hnm => ?_)
  refine n_aload_0 E dX4_clear_0 ?_
  refine n_iconst E dX4_clear_1 ?_
  refine n_putI E fk_RX4_43 rfl rfl (by decide) (sC_14 false) rfl dX4_clear_2 ?_
  refine n_aload_0 E dX4_clear_5 ?_
  refine n_iconst E dX4_clear_6 ?_
  refine n_putI E fk_RX4_47 rfl rfl (by decide) (sC_14 false) rfl dX4_clear_7 ?_
  refine n_aload_0 E dX4_clear_10 ?_
  refine n_iconst E dX4_clear_11 ?_
  refine n_putI E fk_RX4_50 rfl rfl (by decide) (sC_14 false) rfl dX4_clear_12 ?_
  refine n_aload_0 E dX4_clear_15 ?_
  refine n_iconst E dX4_clear_16 ?_
  refine n_putI E fk_RX4_53 rfl rfl (by decide) (sC_14 false) rfl dX4_clear_17 ?_
  refine n_iconst E dX4_clear_20 ?_
  refine n_istore_1 E rfl (by decide) dX4_clear_21 ?_
  refine n_iload_1 E dX4_clear_22 ?_
  refine n_iconst E dX4_clear_23 ?_
  refine n_icmp_ge E (show C32 0 by unfold C32; omega) (show C32 4 by unfold C32; omega) djX4_clear_24 (fun hc => absurd hc (by decide)) (fun _ => ?_)
  refine n_aload_0 E dX4_clear_27 ?_
  refine n_getR E fk_RX4_31 (by decide) (sC_14 false) rfl (show _ = (1 : Int) from g10) dX4_clear_28 ?_
  refine n_iload_1 E dX4_clear_31 ?_
  refine n_iload_1 E dX4_clear_32 ?_
  refine n_if_ne E (show C32 0 by unfold C32; omega) djX4_clear_33 (fun hc => absurd hc (by decide)) (fun _ => ?_)
  refine n_iconst E dX4_clear_36 ?_
  refine n_goto E djX4_clear_37 ?_
  refine n_iast E (by decide) (sC_21 false) (by decide) (by decide) dX4_clear_41 ?_
  refine n_aload_0 E dX4_clear_42 ?_
  refine n_getR E fk_RX4_34 (by decide) (sC_14 false) rfl (show _ = (1 : Int) from g11) dX4_clear_43 ?_
  refine n_iload_1 E dX4_clear_46 ?_
  refine n_iload_1 E dX4_clear_47 ?_
  refine n_iconst E dX4_clear_48 ?_
  refine n_icmp_ne E (show C32 0 by unfold C32; omega) (show C32 3 by unfold C32; omega) djX4_clear_49 (fun _ => ?_) (fun hc => absurd (by decide) hc)
  refine n_iconst E dX4_clear_56 ?_
  refine n_iast E (by decide) (sC_22 false) (by decide) (by decide) dX4_clear_57 ?_
  refine n_iinc_1 E rfl (by decide) dX4_clear_58 (fun v ev => ?_)
  obtain rfl : v = 1 := ev.trans (by decide)
  refine n_goto E djX4_clear_61 ?_
  refine n_iload_1 E dX4_clear_22 ?_
  refine n_iconst E dX4_clear_23 ?_
  refine n_icmp_ge E (show C32 1 by unfold C32; omega) (show C32 4 by unfold C32; omega) djX4_clear_24 (fun hc => absurd hc (by decide)) (fun _ => ?_)
  refine n_aload_0 E dX4_clear_27 ?_
  refine n_getR E fk_RX4_31 (by decide) (sC_14 false) rfl (show _ = (1 : Int) from g10) dX4_clear_28 ?_
  refine n_iload_1 E dX4_clear_31 ?_
  refine n_iload_1 E dX4_clear_32 ?_
  refine n_if_ne E (show C32 1 by unfold C32; omega) djX4_clear_33 (fun _ => ?_) (fun hc => absurd (by decide) hc)
  refine n_iconst E dX4_clear_40 ?_
  refine n_iast E (by decide) (sC_21 false) (by decide) (by decide) dX4_clear_41 ?_
  refine n_aload_0 E dX4_clear_42 ?_
  refine n_getR E fk_RX4_34 (by decide) (sC_14 false) rfl (show _ = (1 : Int) from g11) dX4_clear_43 ?_
  refine n_iload_1 E dX4_clear_46 ?_
  refine n_iload_1 E dX4_clear_47 ?_
  refine n_iconst E dX4_clear_48 ?_
  refine n_icmp_ne E (show C32 1 by unfold C32; omega) (show C32 3 by unfold C32; omega) djX4_clear_49 (fun _ => ?_) (fun hc => absurd (by decide) hc)
  refine n_iconst E dX4_clear_56 ?_
  refine n_iast E (by decide) (sC_22 false) (by decide) (by decide) dX4_clear_57 ?_
  refine n_iinc_1 E rfl (by decide) dX4_clear_58 (fun v ev => ?_)
  obtain rfl : v = 2 := ev.trans (by decide)
  refine n_goto E djX4_clear_61 ?_
  refine n_iload_1 E dX4_clear_22 ?_
  refine n_iconst E dX4_clear_23 ?_
  refine n_icmp_ge E (show C32 2 by unfold C32; omega) (show C32 4 by unfold C32; omega) djX4_clear_24 (fun hc => absurd hc (by decide)) (fun _ => ?_)
  refine n_aload_0 E dX4_clear_27 ?_
  refine n_getR E fk_RX4_31 (by decide) (sC_14 false) rfl (show _ = (1 : Int) from g10) dX4_clear_28 ?_
  refine n_iload_1 E dX4_clear_31 ?_
  refine n_iload_1 E dX4_clear_32 ?_
  refine n_if_ne E (show C32 2 by unfold C32; omega) djX4_clear_33 (fun _ => ?_) (fun hc => absurd (by decide) hc)
  refine n_iconst E dX4_clear_40 ?_
  refine n_iast E (by decide) (sC_21 false) (by decide) (by decide) dX4_clear_41 ?_
  refine n_aload_0 E dX4_clear_42 ?_
  refine n_getR E fk_RX4_34 (by decide) (sC_14 false) rfl (show _ = (1 : Int) from g11) dX4_clear_43 ?_
  refine n_iload_1 E dX4_clear_46 ?_
  refine n_iload_1 E dX4_clear_47 ?_
  refine n_iconst E dX4_clear_48 ?_
  refine n_icmp_ne E (show C32 2 by unfold C32; omega) (show C32 3 by unfold C32; omega) djX4_clear_49 (fun _ => ?_) (fun hc => absurd (by decide) hc)
  refine n_iconst E dX4_clear_56 ?_
  refine n_iast E (by decide) (sC_22 false) (by decide) (by decide) dX4_clear_57 ?_
  refine n_iinc_1 E rfl (by decide) dX4_clear_58 (fun v ev => ?_)
  obtain rfl : v = 3 := ev.trans (by decide)
  refine n_goto E djX4_clear_61 ?_
  refine n_iload_1 E dX4_clear_22 ?_
  refine n_iconst E dX4_clear_23 ?_
  refine n_icmp_ge E (show C32 3 by unfold C32; omega) (show C32 4 by unfold C32; omega) djX4_clear_24 (fun hc => absurd hc (by decide)) (fun _ => ?_)
  refine n_aload_0 E dX4_clear_27 ?_
  refine n_getR E fk_RX4_31 (by decide) (sC_14 false) rfl (show _ = (1 : Int) from g10) dX4_clear_28 ?_
  refine n_iload_1 E dX4_clear_31 ?_
  refine n_iload_1 E dX4_clear_32 ?_
  refine n_if_ne E (show C32 3 by unfold C32; omega) djX4_clear_33 (fun _ => ?_) (fun hc => absurd (by decide) hc)
  refine n_iconst E dX4_clear_40 ?_
  refine n_iast E (by decide) (sC_21 false) (by decide) (by decide) dX4_clear_41 ?_
  refine n_aload_0 E dX4_clear_42 ?_
  refine n_getR E fk_RX4_34 (by decide) (sC_14 false) rfl (show _ = (1 : Int) from g11) dX4_clear_43 ?_
  refine n_iload_1 E dX4_clear_46 ?_
  refine n_iload_1 E dX4_clear_47 ?_
  refine n_iconst E dX4_clear_48 ?_
  refine n_icmp_ne E (show C32 3 by unfold C32; omega) (show C32 3 by unfold C32; omega) djX4_clear_49 (fun hc => absurd hc (by decide)) (fun _ => ?_)
  refine n_iconst E dX4_clear_52 ?_
  refine n_goto E djX4_clear_53 ?_
  refine n_iast E (by decide) (sC_22 false) (by decide) (by decide) dX4_clear_57 ?_
  refine n_iinc_1 E rfl (by decide) dX4_clear_58 (fun v ev => ?_)
  obtain rfl : v = 4 := ev.trans (by decide)
  refine n_goto E djX4_clear_61 ?_
  refine n_iload_1 E dX4_clear_22 ?_
  refine n_iconst E dX4_clear_23 ?_
  refine n_icmp_ge E (show C32 4 by unfold C32; omega) (show C32 4 by unfold C32; omega) djX4_clear_24 (fun _ => ?_) (fun hc => absurd (by decide) hc)
  exact n_vret E hr rfl dX4_clear_64
def st_X4_init_14 (σ : St) : St := (st_X4_clear_14 (upS (upS (upS (upS (upS (upS (upS (upS (upS σ 14 1 1) 14 2 1) 14 3 1) 14 4 1) 14 5 1) 14 6 1) 14 10 1) 14 11 1) 14 12 1))
set_option maxHeartbeats 4000000 in
set_option maxRecDepth 100000 in
theorem k_X4_init_14 {l : Launch} {D : va_G} {cA : Nat → ClassId} {ba : Nat} (σ : St) (z15 : ∀ j, σ 15 j = 0) (z16 : ∀ j, σ 16 j = 0) (z17 : ∀ j, σ 17 j = 0) (z18 : ∀ j, σ 18 j = 0) (z19 : ∀ j, σ 19 j = 0) (z20 : ∀ j, σ 20 j = 0) (z21 : ∀ j, σ 21 j = 0) (z22 : ∀ j, σ 22 j = 0) (z23 : ∀ j, σ 23 j = 0) : KtN l D cA ba (shC false) 15 24 302 yX4_init cX4_init 1 2 [.ref (ba + 14)] σ (fun σ1 => σ1 = st_X4_init_14 σ) := by
  refine KtN.of mz_X4_init [some (.ref (ba + 14))] (Nat.le_of_ble_eq_true rfl) rfl (fun p e s m args below meth c E hr hnm => ?_)
  refine n_aload_0 E dX4_init_0 ?_
  refine n_objInit E mk_RX4_3 (Nat.le_of_ble_eq_true rfl) (by decide) dX4_init_1 ?_
  refine n_aload_0 E dX4_init_4 ?_
  refine n_bipush E (by decide) dX4_init_5 ?_
  refine n_new_int (n := 40) (slots' := 40) (cells' := 1) (N' := 16) E (sC_15 false) (fun j => z15 j) (by decide) (Nat.le_of_ble_eq_true rfl) (Nat.le_of_ble_eq_true rfl) dX4_init_7 rfl rfl rfl ?_
  refine n_putR E fk_RX4_9 rfl hnm rfl ⟨rfl, rfl⟩ (by decide) (sC_14 false) rfl dX4_init_9 ?_
  refine n_aload_0 E dX4_init_12 ?_
  refine n_bipush E (by decide) dX4_init_13 ?_
  refine n_new_int (n := 40) (slots' := 80) (cells' := 2) (N' := 17) E (sC_16 false) (fun j => z16 j) (by decide) (Nat.le_of_ble_eq_true rfl) (Nat.le_of_ble_eq_true rfl) dX4_init_15 rfl rfl rfl ?_
  refine n_putR E fk_RX4_15 rfl hnm rfl ⟨rfl, rfl⟩ (by decide) (sC_14 false) rfl dX4_init_17 ?_
  refine n_aload_0 E dX4_init_20 ?_
  refine n_bipush E (by decide) dX4_init_21 ?_
  refine n_new_int (n := 40) (slots' := 120) (cells' := 3) (N' := 18) E (sC_17 false) (fun j => z17 j) (by decide) (Nat.le_of_ble_eq_true rfl) (Nat.le_of_ble_eq_true rfl) dX4_init_23 rfl rfl rfl ?_
  refine n_putR E fk_RX4_18 rfl hnm rfl ⟨rfl, rfl⟩ (by decide) (sC_14 false) rfl dX4_init_25 ?_
  refine n_aload_0 E dX4_init_28 ?_
  refine n_bipush E (by decide) dX4_init_29 ?_
  refine n_new_int (n := 40) (slots' := 160) (cells' := 4) (N' := 19) E (sC_18 false) (fun j => z18 j) (by decide) (Nat.le_of_ble_eq_true rfl) (Nat.le_of_ble_eq_true rfl) dX4_init_31 rfl rfl rfl ?_
  refine n_putR E fk_RX4_21 rfl hnm rfl ⟨rfl, rfl⟩ (by decide) (sC_14 false) rfl dX4_init_33 ?_
  refine n_aload_0 E dX4_init_36 ?_
  refine n_bipush E (by decide) dX4_init_37 ?_
  refine n_new_int (n := 40) (slots' := 200) (cells' := 5) (N' := 20) E (sC_19 false) (fun j => z19 j) (by decide) (Nat.le_of_ble_eq_true rfl) (Nat.le_of_ble_eq_true rfl) dX4_init_39 rfl rfl rfl ?_
  refine n_putR E fk_RX4_24 rfl hnm rfl ⟨rfl, rfl⟩ (by decide) (sC_14 false) rfl dX4_init_41 ?_
  refine n_aload_0 E dX4_init_44 ?_
  refine n_bipush E (by decide) dX4_init_45 ?_
  refine n_new_boolean (n := 40) (slots' := 240) (cells' := 6) (N' := 21) E (sC_20 false) (fun j => z20 j) (by decide) (Nat.le_of_ble_eq_true rfl) (Nat.le_of_ble_eq_true rfl) dX4_init_47 rfl rfl rfl ?_
  refine n_putR E fk_RX4_27 rfl hnm rfl ⟨rfl, rfl⟩ (by decide) (sC_14 false) rfl dX4_init_49 ?_
  refine n_aload_0 E dX4_init_52 ?_
  refine n_bipush E (by decide) dX4_init_53 ?_
  refine n_new_int (n := 25) (slots' := 265) (cells' := 7) (N' := 22) E (sC_21 false) (fun j => z21 j) (by decide) (Nat.le_of_ble_eq_true rfl) (Nat.le_of_ble_eq_true rfl) dX4_init_55 rfl rfl rfl ?_
  refine n_putR E fk_RX4_31 rfl hnm rfl ⟨rfl, rfl⟩ (by decide) (sC_14 false) rfl dX4_init_57 ?_
  refine n_aload_0 E dX4_init_60 ?_
  refine n_bipush E (by decide) dX4_init_61 ?_
  refine n_new_int (n := 25) (slots' := 290) (cells' := 8) (N' := 23) E (sC_22 false) (fun j => z22 j) (by decide) (Nat.le_of_ble_eq_true rfl) (Nat.le_of_ble_eq_true rfl) dX4_init_63 rfl rfl rfl ?_
  refine n_putR E fk_RX4_34 rfl hnm rfl ⟨rfl, rfl⟩ (by decide) (sC_14 false) rfl dX4_init_65 ?_
  refine n_aload_0 E dX4_init_68 ?_
  refine n_bipush E (by decide) dX4_init_69 ?_
  refine n_new_int (n := 12) (slots' := 302) (cells' := 9) (N' := 24) E (sC_23 false) (fun j => z23 j) (by decide) (Nat.le_of_ble_eq_true rfl) (Nat.le_of_ble_eq_true rfl) dX4_init_71 rfl rfl rfl ?_
  refine n_putR E fk_RX4_37 rfl hnm rfl ⟨rfl, rfl⟩ (by decide) (sC_14 false) rfl dX4_init_73 ?_
  refine n_aload_0 E dX4_init_76 ?_
  refine n_callV (cells' := 9) (slots' := 302) E (fun q h => h) mz_X4_clear mzi_X4_clear mzs_X4_clear mk_RX4_40 (rm_ok (by decide) (by decide)) (by decide) (by decide) (sC_14 false) rfl (k_X4_clear_14 _ rfl rfl) rfl rfl (Nat.le_of_ble_eq_true rfl) dX4_init_77 rfl rfl (fun σ1 h1 => ?_)
  subst h1
  exact n_vret E hr rfl dX4_init_80
theorem mk_RX11_27 : Cond.methodLink RX11 27 yX4_init ∈ gtbl := tg (tb_1 (List.mem_of_getElem? (i := 171) rfl)) rfl
theorem fk_RX11_28 : FLk RX11 28 11 RX11 TX11 16 tyX11 5 := ⟨cls_11, by decide, rfl, tg (tb_3 (List.mem_of_getElem? (i := 105) rfl)) rfl⟩
theorem ck_RX11_32 : Cond.classLink RX11 32 RX0 ∈ gtbl := tg (tb_1 (List.mem_of_getElem? (i := 172) rfl)) rfl
theorem ik_X0 : Cond.instantiable RX0 18 ∈ gtbl := tg (tb_1 (List.mem_of_getElem? (i := 173) rfl)) rfl
theorem nk_X0 : Cond.initialized RX0 ∈ gtbl := tg (tb_1 (List.mem_of_getElem? (i := 4) rfl)) rfl
theorem mz_X0_init : MYk yX0_init cX0_init 2 none 1 := ⟨tg (tb_1 (List.mem_of_getElem? (i := 176) rfl)) rfl, tg (tb_1 (List.mem_of_getElem? (i := 4) rfl)) rfl, ⟨by decide, by decide⟩, by decide +kernel, plainFor_of_name (by decide +kernel)⟩
theorem mzi_X0_init : Cond.instanceMethod yX0_init ∈ gtbl := tg (tb_1 (List.mem_of_getElem? (i := 175) rfl)) rfl
theorem dX0_init_0 : Dc cX0_init 0 (.aload_n 0) 1 1 := ⟨by decide +kernel, rfl⟩
theorem dX0_init_1 : Dc cX0_init 1 (.invokespecial 3) 3 4 := ⟨by decide +kernel, rfl⟩
theorem dX0_init_4 : Dc cX0_init 4 (.aload_n 0) 1 5 := ⟨by decide +kernel, rfl⟩
theorem dX0_init_5 : Dc cX0_init 5 (.aload_n 1) 1 6 := ⟨by decide +kernel, rfl⟩
theorem dX0_init_6 : Dc cX0_init 6 (.putfield 9) 3 9 := ⟨by decide +kernel, rfl⟩
theorem dX0_init_9 : Dc cX0_init 9 (.aload_n 0) 1 10 := ⟨by decide +kernel, rfl⟩
theorem dX0_init_10 : Dc cX0_init 10 (.bipush 8) 2 12 := ⟨by decide +kernel, rfl⟩
theorem dX0_init_12 : Dc cX0_init 12 (.newarray .int) 2 14 := ⟨by decide +kernel, rfl⟩
theorem dX0_init_14 : Dc cX0_init 14 (.putfield 15) 3 17 := ⟨by decide +kernel, rfl⟩
theorem dX0_init_17 : Dc cX0_init 17 (.aload_n 0) 1 18 := ⟨by decide +kernel, rfl⟩
theorem dX0_init_18 : Dc cX0_init 18 (.bipush 36) 2 20 := ⟨by decide +kernel, rfl⟩
theorem dX0_init_20 : Dc cX0_init 20 (.newarray .int) 2 22 := ⟨by decide +kernel, rfl⟩
theorem dX0_init_22 : Dc cX0_init 22 (.putfield 19) 3 25 := ⟨by decide +kernel, rfl⟩
theorem dX0_init_25 : Dc cX0_init 25 (.aload_n 0) 1 26 := ⟨by decide +kernel, rfl⟩
theorem dX0_init_26 : Dc cX0_init 26 (.bipush 36) 2 28 := ⟨by decide +kernel, rfl⟩
theorem dX0_init_28 : Dc cX0_init 28 (.newarray .int) 2 30 := ⟨by decide +kernel, rfl⟩
theorem dX0_init_30 : Dc cX0_init 30 (.putfield 22) 3 33 := ⟨by decide +kernel, rfl⟩
theorem dX0_init_33 : Dc cX0_init 33 (.aload_n 0) 1 34 := ⟨by decide +kernel, rfl⟩
theorem dX0_init_34 : Dc cX0_init 34 (.bipush 81) 2 36 := ⟨by decide +kernel, rfl⟩
theorem dX0_init_36 : Dc cX0_init 36 (.newarray .int) 2 38 := ⟨by decide +kernel, rfl⟩
theorem dX0_init_38 : Dc cX0_init 38 (.putfield 25) 3 41 := ⟨by decide +kernel, rfl⟩
theorem dX0_init_41 : Dc cX0_init 41 (.aload_n 0) 1 42 := ⟨by decide +kernel, rfl⟩
theorem dX0_init_42 : Dc cX0_init 42 (.sipush 3360) 3 45 := ⟨by decide +kernel, rfl⟩
theorem dX0_init_45 : Dc cX0_init 45 (.newarray .int) 2 47 := ⟨by decide +kernel, rfl⟩
theorem dX0_init_47 : Dc cX0_init 47 (.putfield 28) 3 50 := ⟨by decide +kernel, rfl⟩
theorem dX0_init_50 : Dc cX0_init 50 (.aload_n 0) 1 51 := ⟨by decide +kernel, rfl⟩
theorem dX0_init_51 : Dc cX0_init 51 (.sipush 3360) 3 54 := ⟨by decide +kernel, rfl⟩
theorem dX0_init_54 : Dc cX0_init 54 (.newarray .int) 2 56 := ⟨by decide +kernel, rfl⟩
theorem dX0_init_56 : Dc cX0_init 56 (.putfield 31) 3 59 := ⟨by decide +kernel, rfl⟩
theorem dX0_init_59 : Dc cX0_init 59 (.aload_n 0) 1 60 := ⟨by decide +kernel, rfl⟩
theorem dX0_init_60 : Dc cX0_init 60 (.sipush 3360) 3 63 := ⟨by decide +kernel, rfl⟩
theorem dX0_init_63 : Dc cX0_init 63 (.newarray .int) 2 65 := ⟨by decide +kernel, rfl⟩
theorem dX0_init_65 : Dc cX0_init 65 (.putfield 34) 3 68 := ⟨by decide +kernel, rfl⟩
theorem dX0_init_68 : Dc cX0_init 68 (.aload_n 0) 1 69 := ⟨by decide +kernel, rfl⟩
theorem dX0_init_69 : Dc cX0_init 69 (.sipush 3360) 3 72 := ⟨by decide +kernel, rfl⟩
theorem dX0_init_72 : Dc cX0_init 72 (.newarray .int) 2 74 := ⟨by decide +kernel, rfl⟩
theorem dX0_init_74 : Dc cX0_init 74 (.putfield 37) 3 77 := ⟨by decide +kernel, rfl⟩
theorem dX0_init_77 : Dc cX0_init 77 (.aload_n 0) 1 78 := ⟨by decide +kernel, rfl⟩
theorem dX0_init_78 : Dc cX0_init 78 (.bipush 40) 2 80 := ⟨by decide +kernel, rfl⟩
theorem dX0_init_80 : Dc cX0_init 80 (.newarray .int) 2 82 := ⟨by decide +kernel, rfl⟩
theorem dX0_init_82 : Dc cX0_init 82 (.putfield 40) 3 85 := ⟨by decide +kernel, rfl⟩
theorem dX0_init_85 : Dc cX0_init 85 (.aload_n 0) 1 86 := ⟨by decide +kernel, rfl⟩
theorem dX0_init_86 : Dc cX0_init 86 (.bipush 40) 2 88 := ⟨by decide +kernel, rfl⟩
theorem dX0_init_88 : Dc cX0_init 88 (.newarray .int) 2 90 := ⟨by decide +kernel, rfl⟩
theorem dX0_init_90 : Dc cX0_init 90 (.putfield 43) 3 93 := ⟨by decide +kernel, rfl⟩
theorem dX0_init_93 : Dc cX0_init 93 (.aload_n 0) 1 94 := ⟨by decide +kernel, rfl⟩
theorem dX0_init_94 : Dc cX0_init 94 (.sipush 433) 3 97 := ⟨by decide +kernel, rfl⟩
theorem dX0_init_97 : Dc cX0_init 97 (.newarray .int) 2 99 := ⟨by decide +kernel, rfl⟩
theorem dX0_init_99 : Dc cX0_init 99 (.putfield 46) 3 102 := ⟨by decide +kernel, rfl⟩
theorem dX0_init_102 : Dc cX0_init 102 (.return_) 1 103 := ⟨by decide +kernel, rfl⟩
theorem mk_RX0_3 : Cond.methodLink RX0 3 objectInit ∈ gtbl := tg (tb_1 (List.mem_of_getElem? (i := 177) rfl)) rfl
theorem fk_RX0_9 : FLk RX0 9 0 RX0 TX0 18 tyX0 0 := ⟨cls_0, by decide, rfl, tg (tb_1 (List.mem_of_getElem? (i := 178) rfl)) rfl⟩
theorem fk_RX0_15 : FLk RX0 15 0 RX0 TX0 18 tyX0 1 := ⟨cls_0, by decide, rfl, tg (tb_1 (List.mem_of_getElem? (i := 179) rfl)) rfl⟩
theorem fk_RX0_19 : FLk RX0 19 0 RX0 TX0 18 tyX0 4 := ⟨cls_0, by decide, rfl, tg (tb_1 (List.mem_of_getElem? (i := 189) rfl)) rfl⟩
theorem fk_RX0_22 : FLk RX0 22 0 RX0 TX0 18 tyX0 5 := ⟨cls_0, by decide, rfl, tg (tb_1 (List.mem_of_getElem? (i := 191) rfl)) rfl⟩
theorem fk_RX0_25 : FLk RX0 25 0 RX0 TX0 18 tyX0 6 := ⟨cls_0, by decide, rfl, tg (tb_1 (List.mem_of_getElem? (i := 193) rfl)) rfl⟩
theorem fk_RX0_28 : FLk RX0 28 0 RX0 TX0 18 tyX0 7 := ⟨cls_0, by decide, rfl, tg (tb_1 (List.mem_of_getElem? (i := 194) rfl)) rfl⟩
theorem fk_RX0_31 : FLk RX0 31 0 RX0 TX0 18 tyX0 8 := ⟨cls_0, by decide, rfl, tg (tb_1 (List.mem_of_getElem? (i := 203) rfl)) rfl⟩
theorem fk_RX0_34 : FLk RX0 34 0 RX0 TX0 18 tyX0 9 := ⟨cls_0, by decide, rfl, tg (tb_1 (List.mem_of_getElem? (i := 207) rfl)) rfl⟩
theorem fk_RX0_37 : FLk RX0 37 0 RX0 TX0 18 tyX0 10 := ⟨cls_0, by decide, rfl, tg (tb_1 (List.mem_of_getElem? (i := 215) rfl)) rfl⟩
theorem fk_RX0_40 : FLk RX0 40 0 RX0 TX0 18 tyX0 11 := ⟨cls_0, by decide, rfl, tg (tb_1 (List.mem_of_getElem? (i := 223) rfl)) rfl⟩
theorem fk_RX0_43 : FLk RX0 43 0 RX0 TX0 18 tyX0 13 := ⟨cls_0, by decide, rfl, tg (tb_1 (List.mem_of_getElem? (i := 233) rfl)) rfl⟩
theorem fk_RX0_46 : FLk RX0 46 0 RX0 TX0 18 tyX0 15 := ⟨cls_0, by decide, rfl, tg (tb_1 (List.mem_of_getElem? (i := 235) rfl)) rfl⟩
def st_X0_init_24 (σ : St) : St := (upS (upS (upS (upS (upS (upS (upS (upS (upS (upS (upS (upS σ 24 0 1) 24 1 1) 24 4 1) 24 5 1) 24 6 1) 24 7 1) 24 8 1) 24 9 1) 24 10 1) 24 11 1) 24 13 1) 24 15 1)
set_option maxHeartbeats 4000000 in
set_option maxRecDepth 100000 in
theorem k_X0_init_24 {l : Launch} {D : va_G} {cA : Nat → ClassId} {ba : Nat} (σ : St) (z25 : ∀ j, σ 25 j = 0) (z26 : ∀ j, σ 26 j = 0) (z27 : ∀ j, σ 27 j = 0) (z28 : ∀ j, σ 28 j = 0) (z29 : ∀ j, σ 29 j = 0) (z30 : ∀ j, σ 30 j = 0) (z31 : ∀ j, σ 31 j = 0) (z32 : ∀ j, σ 32 j = 0) (z33 : ∀ j, σ 33 j = 0) (z34 : ∀ j, σ 34 j = 0) (z35 : ∀ j, σ 35 j = 0) : KtN l D cA ba (shC false) 25 36 14114 yX0_init cX0_init 2 1 [.ref (ba + 24), .ref (ba + 14)] σ (fun σ1 => σ1 = st_X0_init_24 σ) := by
  refine KtN.of mz_X0_init [some (.ref (ba + 24)), some (.ref (ba + 14))] (Nat.le_of_ble_eq_true rfl) rfl (fun p e s m args below meth c E hr hnm => ?_)
  refine n_aload_0 E dX0_init_0 ?_
  refine n_objInit E mk_RX0_3 (Nat.le_of_ble_eq_true rfl) (by decide) dX0_init_1 ?_
  refine n_aload_0 E dX0_init_4 ?_
  refine n_aload_1 E dX0_init_5 ?_
  refine n_putR E fk_RX0_9 rfl hnm rfl ⟨rfl, rfl⟩ (by decide) (sC_24 false) rfl dX0_init_6 ?_
  refine n_aload_0 E dX0_init_9 ?_
  refine n_bipush E (by decide) dX0_init_10 ?_
  refine n_new_int (n := 8) (slots' := 8) (cells' := 1) (N' := 26) E (sC_25 false) (fun j => z25 j) (by decide) (Nat.le_of_ble_eq_true rfl) (Nat.le_of_ble_eq_true rfl) dX0_init_12 rfl rfl rfl ?_
  refine n_putR E fk_RX0_15 rfl hnm rfl ⟨rfl, rfl⟩ (by decide) (sC_24 false) rfl dX0_init_14 ?_
  refine n_aload_0 E dX0_init_17 ?_
  refine n_bipush E (by decide) dX0_init_18 ?_
  refine n_new_int (n := 36) (slots' := 44) (cells' := 2) (N' := 27) E (sC_26 false) (fun j => z26 j) (by decide) (Nat.le_of_ble_eq_true rfl) (Nat.le_of_ble_eq_true rfl) dX0_init_20 rfl rfl rfl ?_
  refine n_putR E fk_RX0_19 rfl hnm rfl ⟨rfl, rfl⟩ (by decide) (sC_24 false) rfl dX0_init_22 ?_
  refine n_aload_0 E dX0_init_25 ?_
  refine n_bipush E (by decide) dX0_init_26 ?_
  refine n_new_int (n := 36) (slots' := 80) (cells' := 3) (N' := 28) E (sC_27 false) (fun j => z27 j) (by decide) (Nat.le_of_ble_eq_true rfl) (Nat.le_of_ble_eq_true rfl) dX0_init_28 rfl rfl rfl ?_
  refine n_putR E fk_RX0_22 rfl hnm rfl ⟨rfl, rfl⟩ (by decide) (sC_24 false) rfl dX0_init_30 ?_
  refine n_aload_0 E dX0_init_33 ?_
  refine n_bipush E (by decide) dX0_init_34 ?_
  refine n_new_int (n := 81) (slots' := 161) (cells' := 4) (N' := 29) E (sC_28 false) (fun j => z28 j) (by decide) (Nat.le_of_ble_eq_true rfl) (Nat.le_of_ble_eq_true rfl) dX0_init_36 rfl rfl rfl ?_
  refine n_putR E fk_RX0_25 rfl hnm rfl ⟨rfl, rfl⟩ (by decide) (sC_24 false) rfl dX0_init_38 ?_
  refine n_aload_0 E dX0_init_41 ?_
  refine n_sipush E (by decide) dX0_init_42 ?_
  refine n_new_int (n := 3360) (slots' := 3521) (cells' := 5) (N' := 30) E (sC_29 false) (fun j => z29 j) (by decide) (Nat.le_of_ble_eq_true rfl) (Nat.le_of_ble_eq_true rfl) dX0_init_45 rfl rfl rfl ?_
  refine n_putR E fk_RX0_28 rfl hnm rfl ⟨rfl, rfl⟩ (by decide) (sC_24 false) rfl dX0_init_47 ?_
  refine n_aload_0 E dX0_init_50 ?_
  refine n_sipush E (by decide) dX0_init_51 ?_
  refine n_new_int (n := 3360) (slots' := 6881) (cells' := 6) (N' := 31) E (sC_30 false) (fun j => z30 j) (by decide) (Nat.le_of_ble_eq_true rfl) (Nat.le_of_ble_eq_true rfl) dX0_init_54 rfl rfl rfl ?_
  refine n_putR E fk_RX0_31 rfl hnm rfl ⟨rfl, rfl⟩ (by decide) (sC_24 false) rfl dX0_init_56 ?_
  refine n_aload_0 E dX0_init_59 ?_
  refine n_sipush E (by decide) dX0_init_60 ?_
  refine n_new_int (n := 3360) (slots' := 10241) (cells' := 7) (N' := 32) E (sC_31 false) (fun j => z31 j) (by decide) (Nat.le_of_ble_eq_true rfl) (Nat.le_of_ble_eq_true rfl) dX0_init_63 rfl rfl rfl ?_
  refine n_putR E fk_RX0_34 rfl hnm rfl ⟨rfl, rfl⟩ (by decide) (sC_24 false) rfl dX0_init_65 ?_
  refine n_aload_0 E dX0_init_68 ?_
  refine n_sipush E (by decide) dX0_init_69 ?_
  refine n_new_int (n := 3360) (slots' := 13601) (cells' := 8) (N' := 33) E (sC_32 false) (fun j => z32 j) (by decide) (Nat.le_of_ble_eq_true rfl) (Nat.le_of_ble_eq_true rfl) dX0_init_72 rfl rfl rfl ?_
  refine n_putR E fk_RX0_37 rfl hnm rfl ⟨rfl, rfl⟩ (by decide) (sC_24 false) rfl dX0_init_74 ?_
  refine n_aload_0 E dX0_init_77 ?_
  refine n_bipush E (by decide) dX0_init_78 ?_
  refine n_new_int (n := 40) (slots' := 13641) (cells' := 9) (N' := 34) E (sC_33 false) (fun j => z33 j) (by decide) (Nat.le_of_ble_eq_true rfl) (Nat.le_of_ble_eq_true rfl) dX0_init_80 rfl rfl rfl ?_
  refine n_putR E fk_RX0_40 rfl hnm rfl ⟨rfl, rfl⟩ (by decide) (sC_24 false) rfl dX0_init_82 ?_
  refine n_aload_0 E dX0_init_85 ?_
  refine n_bipush E (by decide) dX0_init_86 ?_
  refine n_new_int (n := 40) (slots' := 13681) (cells' := 10) (N' := 35) E (sC_34 false) (fun j => z34 j) (by decide) (Nat.le_of_ble_eq_true rfl) (Nat.le_of_ble_eq_true rfl) dX0_init_88 rfl rfl rfl ?_
  refine n_putR E fk_RX0_43 rfl hnm rfl ⟨rfl, rfl⟩ (by decide) (sC_24 false) rfl dX0_init_90 ?_
  refine n_aload_0 E dX0_init_93 ?_
  refine n_sipush E (by decide) dX0_init_94 ?_
  refine n_new_int (n := 433) (slots' := 14114) (cells' := 11) (N' := 36) E (sC_35 false) (fun j => z35 j) (by decide) (Nat.le_of_ble_eq_true rfl) (Nat.le_of_ble_eq_true rfl) dX0_init_97 rfl rfl rfl ?_
  refine n_putR E fk_RX0_46 rfl hnm rfl ⟨rfl, rfl⟩ (by decide) (sC_24 false) rfl dX0_init_99 ?_
  exact n_vret E hr rfl dX0_init_102
theorem mk_RX11_34 : Cond.methodLink RX11 34 yX0_init ∈ gtbl := tg (tb_1 (List.mem_of_getElem? (i := 174) rfl)) rfl
theorem fk_RX11_37 : FLk RX11 37 11 RX11 TX11 16 tyX11 6 := ⟨cls_11, by decide, rfl, tg (tb_3 (List.mem_of_getElem? (i := 106) rfl)) rfl⟩
theorem ck_RX11_41 : Cond.classLink RX11 41 RX1 ∈ gtbl := tg (tb_2 (List.mem_of_getElem? (i := 36) rfl)) rfl
theorem ik_X1 : Cond.instantiable RX1 10 ∈ gtbl := tg (tb_2 (List.mem_of_getElem? (i := 37) rfl)) rfl
theorem nk_X1 : Cond.initialized RX1 ∈ gtbl := tg (tb_1 (List.mem_of_getElem? (i := 5) rfl)) rfl
theorem mz_X1_init : MYk yX1_init cX1_init 3 none 2 := ⟨tg (tb_2 (List.mem_of_getElem? (i := 40) rfl)) rfl, tg (tb_1 (List.mem_of_getElem? (i := 5) rfl)) rfl, ⟨by decide, by decide⟩, by decide +kernel, plainFor_of_name (by decide +kernel)⟩
theorem mzi_X1_init : Cond.instanceMethod yX1_init ∈ gtbl := tg (tb_2 (List.mem_of_getElem? (i := 39) rfl)) rfl
theorem dX1_init_0 : Dc cX1_init 0 (.aload_n 0) 1 1 := ⟨by decide +kernel, rfl⟩
theorem dX1_init_1 : Dc cX1_init 1 (.invokespecial 3) 3 4 := ⟨by decide +kernel, rfl⟩
theorem dX1_init_4 : Dc cX1_init 4 (.aload_n 0) 1 5 := ⟨by decide +kernel, rfl⟩
theorem dX1_init_5 : Dc cX1_init 5 (.aload_n 1) 1 6 := ⟨by decide +kernel, rfl⟩
theorem dX1_init_6 : Dc cX1_init 6 (.putfield 9) 3 9 := ⟨by decide +kernel, rfl⟩
theorem dX1_init_9 : Dc cX1_init 9 (.aload_n 0) 1 10 := ⟨by decide +kernel, rfl⟩
theorem dX1_init_10 : Dc cX1_init 10 (.aload_n 2) 1 11 := ⟨by decide +kernel, rfl⟩
theorem dX1_init_11 : Dc cX1_init 11 (.putfield 15) 3 14 := ⟨by decide +kernel, rfl⟩
theorem dX1_init_14 : Dc cX1_init 14 (.aload_n 0) 1 15 := ⟨by decide +kernel, rfl⟩
theorem dX1_init_15 : Dc cX1_init 15 (.sipush 432) 3 18 := ⟨by decide +kernel, rfl⟩
theorem dX1_init_18 : Dc cX1_init 18 (.newarray .int) 2 20 := ⟨by decide +kernel, rfl⟩
theorem dX1_init_20 : Dc cX1_init 20 (.putfield 19) 3 23 := ⟨by decide +kernel, rfl⟩
theorem dX1_init_23 : Dc cX1_init 23 (.aload_n 0) 1 24 := ⟨by decide +kernel, rfl⟩
theorem dX1_init_24 : Dc cX1_init 24 (.sipush 432) 3 27 := ⟨by decide +kernel, rfl⟩
theorem dX1_init_27 : Dc cX1_init 27 (.newarray .int) 2 29 := ⟨by decide +kernel, rfl⟩
theorem dX1_init_29 : Dc cX1_init 29 (.putfield 23) 3 32 := ⟨by decide +kernel, rfl⟩
theorem dX1_init_32 : Dc cX1_init 32 (.aload_n 0) 1 33 := ⟨by decide +kernel, rfl⟩
theorem dX1_init_33 : Dc cX1_init 33 (.sipush 432) 3 36 := ⟨by decide +kernel, rfl⟩
theorem dX1_init_36 : Dc cX1_init 36 (.newarray .int) 2 38 := ⟨by decide +kernel, rfl⟩
theorem dX1_init_38 : Dc cX1_init 38 (.putfield 26) 3 41 := ⟨by decide +kernel, rfl⟩
theorem dX1_init_41 : Dc cX1_init 41 (.aload_n 0) 1 42 := ⟨by decide +kernel, rfl⟩
theorem dX1_init_42 : Dc cX1_init 42 (.sipush 432) 3 45 := ⟨by decide +kernel, rfl⟩
theorem dX1_init_45 : Dc cX1_init 45 (.newarray .int) 2 47 := ⟨by decide +kernel, rfl⟩
theorem dX1_init_47 : Dc cX1_init 47 (.putfield 29) 3 50 := ⟨by decide +kernel, rfl⟩
theorem dX1_init_50 : Dc cX1_init 50 (.return_) 1 51 := ⟨by decide +kernel, rfl⟩
theorem mk_RX1_3 : Cond.methodLink RX1 3 objectInit ∈ gtbl := tg (tb_2 (List.mem_of_getElem? (i := 41) rfl)) rfl
theorem fk_RX1_9 : FLk RX1 9 1 RX1 TX1 10 tyX1 0 := ⟨cls_1, by decide, rfl, tg (tb_2 (List.mem_of_getElem? (i := 42) rfl)) rfl⟩
theorem fk_RX1_15 : FLk RX1 15 1 RX1 TX1 10 tyX1 1 := ⟨cls_1, by decide, rfl, tg (tb_2 (List.mem_of_getElem? (i := 43) rfl)) rfl⟩
theorem fk_RX1_19 : FLk RX1 19 1 RX1 TX1 10 tyX1 2 := ⟨cls_1, by decide, rfl, tg (tb_2 (List.mem_of_getElem? (i := 44) rfl)) rfl⟩
theorem fk_RX1_23 : FLk RX1 23 1 RX1 TX1 10 tyX1 3 := ⟨cls_1, by decide, rfl, tg (tb_2 (List.mem_of_getElem? (i := 47) rfl)) rfl⟩
theorem fk_RX1_26 : FLk RX1 26 1 RX1 TX1 10 tyX1 4 := ⟨cls_1, by decide, rfl, tg (tb_2 (List.mem_of_getElem? (i := 48) rfl)) rfl⟩
theorem fk_RX1_29 : FLk RX1 29 1 RX1 TX1 10 tyX1 5 := ⟨cls_1, by decide, rfl, tg (tb_2 (List.mem_of_getElem? (i := 49) rfl)) rfl⟩
def st_X1_init_36 (σ : St) : St := (upS (upS (upS (upS (upS (upS σ 36 0 1) 36 1 1) 36 2 1) 36 3 1) 36 4 1) 36 5 1)
set_option maxHeartbeats 4000000 in
set_option maxRecDepth 100000 in
theorem k_X1_init_36 {l : Launch} {D : va_G} {cA : Nat → ClassId} {ba : Nat} (σ : St) (z37 : ∀ j, σ 37 j = 0) (z38 : ∀ j, σ 38 j = 0) (z39 : ∀ j, σ 39 j = 0) (z40 : ∀ j, σ 40 j = 0) : KtN l D cA ba (shC false) 37 41 1728 yX1_init cX1_init 3 1 [.ref (ba + 36), .ref (ba + 14), .ref (ba + 24)] σ (fun σ1 => σ1 = st_X1_init_36 σ) := by
  refine KtN.of mz_X1_init [some (.ref (ba + 36)), some (.ref (ba + 14)), some (.ref (ba + 24))] (Nat.le_of_ble_eq_true rfl) rfl (fun p e s m args below meth c E hr hnm => ?_)
  refine n_aload_0 E dX1_init_0 ?_
  refine n_objInit E mk_RX1_3 (Nat.le_of_ble_eq_true rfl) (by decide) dX1_init_1 ?_
  refine n_aload_0 E dX1_init_4 ?_
  refine n_aload_1 E dX1_init_5 ?_
  refine n_putR E fk_RX1_9 rfl hnm rfl ⟨rfl, rfl⟩ (by decide) (sC_36 false) rfl dX1_init_6 ?_
  refine n_aload_0 E dX1_init_9 ?_
  refine n_aload_2 E dX1_init_10 ?_
  refine n_putR E fk_RX1_15 rfl hnm rfl ⟨rfl, rfl⟩ (by decide) (sC_36 false) rfl dX1_init_11 ?_
  refine n_aload_0 E dX1_init_14 ?_
  refine n_sipush E (by decide) dX1_init_15 ?_
  refine n_new_int (n := 432) (slots' := 432) (cells' := 1) (N' := 38) E (sC_37 false) (fun j => z37 j) (by decide) (Nat.le_of_ble_eq_true rfl) (Nat.le_of_ble_eq_true rfl) dX1_init_18 rfl rfl rfl ?_
  refine n_putR E fk_RX1_19 rfl hnm rfl ⟨rfl, rfl⟩ (by decide) (sC_36 false) rfl dX1_init_20 ?_
  refine n_aload_0 E dX1_init_23 ?_
  refine n_sipush E (by decide) dX1_init_24 ?_
  refine n_new_int (n := 432) (slots' := 864) (cells' := 2) (N' := 39) E (sC_38 false) (fun j => z38 j) (by decide) (Nat.le_of_ble_eq_true rfl) (Nat.le_of_ble_eq_true rfl) dX1_init_27 rfl rfl rfl ?_
  refine n_putR E fk_RX1_23 rfl hnm rfl ⟨rfl, rfl⟩ (by decide) (sC_36 false) rfl dX1_init_29 ?_
  refine n_aload_0 E dX1_init_32 ?_
  refine n_sipush E (by decide) dX1_init_33 ?_
  refine n_new_int (n := 432) (slots' := 1296) (cells' := 3) (N' := 40) E (sC_39 false) (fun j => z39 j) (by decide) (Nat.le_of_ble_eq_true rfl) (Nat.le_of_ble_eq_true rfl) dX1_init_36 rfl rfl rfl ?_
  refine n_putR E fk_RX1_26 rfl hnm rfl ⟨rfl, rfl⟩ (by decide) (sC_36 false) rfl dX1_init_38 ?_
  refine n_aload_0 E dX1_init_41 ?_
  refine n_sipush E (by decide) dX1_init_42 ?_
  refine n_new_int (n := 432) (slots' := 1728) (cells' := 4) (N' := 41) E (sC_40 false) (fun j => z40 j) (by decide) (Nat.le_of_ble_eq_true rfl) (Nat.le_of_ble_eq_true rfl) dX1_init_45 rfl rfl rfl ?_
  refine n_putR E fk_RX1_29 rfl hnm rfl ⟨rfl, rfl⟩ (by decide) (sC_36 false) rfl dX1_init_47 ?_
  exact n_vret E hr rfl dX1_init_50
theorem mk_RX11_43 : Cond.methodLink RX11 43 yX1_init ∈ gtbl := tg (tb_2 (List.mem_of_getElem? (i := 38) rfl)) rfl
theorem fk_RX11_46 : FLk RX11 46 11 RX11 TX11 16 tyX11 7 := ⟨cls_11, by decide, rfl, tg (tb_3 (List.mem_of_getElem? (i := 107) rfl)) rfl⟩
theorem ck_RX11_50 : Cond.classLink RX11 50 RX2 ∈ gtbl := tg (tb_2 (List.mem_of_getElem? (i := 75) rfl)) rfl
theorem ik_X2 : Cond.instantiable RX2 9 ∈ gtbl := tg (tb_2 (List.mem_of_getElem? (i := 76) rfl)) rfl
theorem nk_X2 : Cond.initialized RX2 ∈ gtbl := tg (tb_1 (List.mem_of_getElem? (i := 6) rfl)) rfl
theorem mz_X2_init : MYk yX2_init cX2_init 4 none 3 := ⟨tg (tb_2 (List.mem_of_getElem? (i := 79) rfl)) rfl, tg (tb_1 (List.mem_of_getElem? (i := 6) rfl)) rfl, ⟨by decide, by decide⟩, by decide +kernel, plainFor_of_name (by decide +kernel)⟩
theorem mzi_X2_init : Cond.instanceMethod yX2_init ∈ gtbl := tg (tb_2 (List.mem_of_getElem? (i := 78) rfl)) rfl
theorem dX2_init_0 : Dc cX2_init 0 (.aload_n 0) 1 1 := ⟨by decide +kernel, rfl⟩
theorem dX2_init_1 : Dc cX2_init 1 (.invokespecial 3) 3 4 := ⟨by decide +kernel, rfl⟩
theorem dX2_init_4 : Dc cX2_init 4 (.aload_n 0) 1 5 := ⟨by decide +kernel, rfl⟩
theorem dX2_init_5 : Dc cX2_init 5 (.aload_n 1) 1 6 := ⟨by decide +kernel, rfl⟩
theorem dX2_init_6 : Dc cX2_init 6 (.putfield 9) 3 9 := ⟨by decide +kernel, rfl⟩
theorem dX2_init_9 : Dc cX2_init 9 (.aload_n 0) 1 10 := ⟨by decide +kernel, rfl⟩
theorem dX2_init_10 : Dc cX2_init 10 (.aload_n 2) 1 11 := ⟨by decide +kernel, rfl⟩
theorem dX2_init_11 : Dc cX2_init 11 (.putfield 15) 3 14 := ⟨by decide +kernel, rfl⟩
theorem dX2_init_14 : Dc cX2_init 14 (.aload_n 0) 1 15 := ⟨by decide +kernel, rfl⟩
theorem dX2_init_15 : Dc cX2_init 15 (.aload_n 3) 1 16 := ⟨by decide +kernel, rfl⟩
theorem dX2_init_16 : Dc cX2_init 16 (.putfield 19) 3 19 := ⟨by decide +kernel, rfl⟩
theorem dX2_init_19 : Dc cX2_init 19 (.aload_n 0) 1 20 := ⟨by decide +kernel, rfl⟩
theorem dX2_init_20 : Dc cX2_init 20 (.sipush 432) 3 23 := ⟨by decide +kernel, rfl⟩
theorem dX2_init_23 : Dc cX2_init 23 (.newarray .long) 2 25 := ⟨by decide +kernel, rfl⟩
theorem dX2_init_25 : Dc cX2_init 25 (.putfield 23) 3 28 := ⟨by decide +kernel, rfl⟩
theorem dX2_init_28 : Dc cX2_init 28 (.aload_n 0) 1 29 := ⟨by decide +kernel, rfl⟩
theorem dX2_init_29 : Dc cX2_init 29 (.sipush 432) 3 32 := ⟨by decide +kernel, rfl⟩
theorem dX2_init_32 : Dc cX2_init 32 (.newarray .long) 2 34 := ⟨by decide +kernel, rfl⟩
theorem dX2_init_34 : Dc cX2_init 34 (.putfield 27) 3 37 := ⟨by decide +kernel, rfl⟩
theorem dX2_init_37 : Dc cX2_init 37 (.aload_n 0) 1 38 := ⟨by decide +kernel, rfl⟩
theorem dX2_init_38 : Dc cX2_init 38 (.sipush 432) 3 41 := ⟨by decide +kernel, rfl⟩
theorem dX2_init_41 : Dc cX2_init 41 (.newarray .long) 2 43 := ⟨by decide +kernel, rfl⟩
theorem dX2_init_43 : Dc cX2_init 43 (.putfield 30) 3 46 := ⟨by decide +kernel, rfl⟩
theorem dX2_init_46 : Dc cX2_init 46 (.return_) 1 47 := ⟨by decide +kernel, rfl⟩
theorem mk_RX2_3 : Cond.methodLink RX2 3 objectInit ∈ gtbl := tg (tb_2 (List.mem_of_getElem? (i := 80) rfl)) rfl
theorem fk_RX2_9 : FLk RX2 9 2 RX2 TX2 9 tyX2 0 := ⟨cls_2, by decide, rfl, tg (tb_2 (List.mem_of_getElem? (i := 81) rfl)) rfl⟩
theorem fk_RX2_15 : FLk RX2 15 2 RX2 TX2 9 tyX2 1 := ⟨cls_2, by decide, rfl, tg (tb_2 (List.mem_of_getElem? (i := 82) rfl)) rfl⟩
theorem fk_RX2_19 : FLk RX2 19 2 RX2 TX2 9 tyX2 2 := ⟨cls_2, by decide, rfl, tg (tb_2 (List.mem_of_getElem? (i := 83) rfl)) rfl⟩
theorem fk_RX2_23 : FLk RX2 23 2 RX2 TX2 9 tyX2 3 := ⟨cls_2, by decide, rfl, tg (tb_2 (List.mem_of_getElem? (i := 84) rfl)) rfl⟩
theorem fk_RX2_27 : FLk RX2 27 2 RX2 TX2 9 tyX2 4 := ⟨cls_2, by decide, rfl, tg (tb_2 (List.mem_of_getElem? (i := 85) rfl)) rfl⟩
theorem fk_RX2_30 : FLk RX2 30 2 RX2 TX2 9 tyX2 5 := ⟨cls_2, by decide, rfl, tg (tb_2 (List.mem_of_getElem? (i := 86) rfl)) rfl⟩
def st_X2_init_41 (σ : St) : St := (upS (upS (upS (upS (upS (upS σ 41 0 1) 41 1 1) 41 2 1) 41 3 1) 41 4 1) 41 5 1)
set_option maxHeartbeats 4000000 in
set_option maxRecDepth 100000 in
theorem k_X2_init_41 {l : Launch} {D : va_G} {cA : Nat → ClassId} {ba : Nat} (σ : St) (z42 : ∀ j, σ 42 j = 0) (z43 : ∀ j, σ 43 j = 0) (z44 : ∀ j, σ 44 j = 0) : KtN l D cA ba (shC false) 42 45 1296 yX2_init cX2_init 4 1 [.ref (ba + 41), .ref (ba + 14), .ref (ba + 24), .ref (ba + 36)] σ (fun σ1 => σ1 = st_X2_init_41 σ) := by
  refine KtN.of mz_X2_init [some (.ref (ba + 41)), some (.ref (ba + 14)), some (.ref (ba + 24)), some (.ref (ba + 36))] (Nat.le_of_ble_eq_true rfl) rfl (fun p e s m args below meth c E hr hnm => ?_)
  refine n_aload_0 E dX2_init_0 ?_
  refine n_objInit E mk_RX2_3 (Nat.le_of_ble_eq_true rfl) (by decide) dX2_init_1 ?_
  refine n_aload_0 E dX2_init_4 ?_
  refine n_aload_1 E dX2_init_5 ?_
  refine n_putR E fk_RX2_9 rfl hnm rfl ⟨rfl, rfl⟩ (by decide) (sC_41 false) rfl dX2_init_6 ?_
  refine n_aload_0 E dX2_init_9 ?_
  refine n_aload_2 E dX2_init_10 ?_
  refine n_putR E fk_RX2_15 rfl hnm rfl ⟨rfl, rfl⟩ (by decide) (sC_41 false) rfl dX2_init_11 ?_
  refine n_aload_0 E dX2_init_14 ?_
  refine n_aload_3 E dX2_init_15 ?_
  refine n_putR E fk_RX2_19 rfl hnm rfl ⟨rfl, rfl⟩ (by decide) (sC_41 false) rfl dX2_init_16 ?_
  refine n_aload_0 E dX2_init_19 ?_
  refine n_sipush E (by decide) dX2_init_20 ?_
  refine n_new_long (n := 432) (slots' := 432) (cells' := 1) (N' := 43) E (sC_42 false) (fun j => z42 j) (by decide) (Nat.le_of_ble_eq_true rfl) (Nat.le_of_ble_eq_true rfl) dX2_init_23 rfl rfl rfl ?_
  refine n_putR E fk_RX2_23 rfl hnm rfl ⟨rfl, rfl⟩ (by decide) (sC_41 false) rfl dX2_init_25 ?_
  refine n_aload_0 E dX2_init_28 ?_
  refine n_sipush E (by decide) dX2_init_29 ?_
  refine n_new_long (n := 432) (slots' := 864) (cells' := 2) (N' := 44) E (sC_43 false) (fun j => z43 j) (by decide) (Nat.le_of_ble_eq_true rfl) (Nat.le_of_ble_eq_true rfl) dX2_init_32 rfl rfl rfl ?_
  refine n_putR E fk_RX2_27 rfl hnm rfl ⟨rfl, rfl⟩ (by decide) (sC_41 false) rfl dX2_init_34 ?_
  refine n_aload_0 E dX2_init_37 ?_
  refine n_sipush E (by decide) dX2_init_38 ?_
  refine n_new_long (n := 432) (slots' := 1296) (cells' := 3) (N' := 45) E (sC_44 false) (fun j => z44 j) (by decide) (Nat.le_of_ble_eq_true rfl) (Nat.le_of_ble_eq_true rfl) dX2_init_41 rfl rfl rfl ?_
  refine n_putR E fk_RX2_30 rfl hnm rfl ⟨rfl, rfl⟩ (by decide) (sC_41 false) rfl dX2_init_43 ?_
  exact n_vret E hr rfl dX2_init_46
theorem mk_RX11_52 : Cond.methodLink RX11 52 yX2_init ∈ gtbl := tg (tb_2 (List.mem_of_getElem? (i := 77) rfl)) rfl
theorem fk_RX11_55 : FLk RX11 55 11 RX11 TX11 16 tyX11 8 := ⟨cls_11, by decide, rfl, tg (tb_3 (List.mem_of_getElem? (i := 108) rfl)) rfl⟩
theorem ck_RX11_59 : Cond.classLink RX11 59 RX7 ∈ gtbl := tg (tb_2 (List.mem_of_getElem? (i := 110) rfl)) rfl
theorem ik_X7 : Cond.instantiable RX7 8 ∈ gtbl := tg (tb_2 (List.mem_of_getElem? (i := 111) rfl)) rfl
theorem nk_X7 : Cond.initialized RX7 ∈ gtbl := tg (tb_1 (List.mem_of_getElem? (i := 7) rfl)) rfl
theorem mz_X7_init : MYk yX7_init cX7_init 4 none 3 := ⟨tg (tb_2 (List.mem_of_getElem? (i := 114) rfl)) rfl, tg (tb_1 (List.mem_of_getElem? (i := 7) rfl)) rfl, ⟨by decide, by decide⟩, by decide +kernel, plainFor_of_name (by decide +kernel)⟩
theorem mzi_X7_init : Cond.instanceMethod yX7_init ∈ gtbl := tg (tb_2 (List.mem_of_getElem? (i := 113) rfl)) rfl
theorem dX7_init_0 : Dc cX7_init 0 (.aload_n 0) 1 1 := ⟨by decide +kernel, rfl⟩
theorem dX7_init_1 : Dc cX7_init 1 (.invokespecial 3) 3 4 := ⟨by decide +kernel, rfl⟩
theorem dX7_init_4 : Dc cX7_init 4 (.aload_n 0) 1 5 := ⟨by decide +kernel, rfl⟩
theorem dX7_init_5 : Dc cX7_init 5 (.aload_n 1) 1 6 := ⟨by decide +kernel, rfl⟩
theorem dX7_init_6 : Dc cX7_init 6 (.putfield 9) 3 9 := ⟨by decide +kernel, rfl⟩
theorem dX7_init_9 : Dc cX7_init 9 (.aload_n 0) 1 10 := ⟨by decide +kernel, rfl⟩
theorem dX7_init_10 : Dc cX7_init 10 (.aload_n 2) 1 11 := ⟨by decide +kernel, rfl⟩
theorem dX7_init_11 : Dc cX7_init 11 (.putfield 15) 3 14 := ⟨by decide +kernel, rfl⟩
theorem dX7_init_14 : Dc cX7_init 14 (.aload_n 0) 1 15 := ⟨by decide +kernel, rfl⟩
theorem dX7_init_15 : Dc cX7_init 15 (.aload_n 3) 1 16 := ⟨by decide +kernel, rfl⟩
theorem dX7_init_16 : Dc cX7_init 16 (.putfield 19) 3 19 := ⟨by decide +kernel, rfl⟩
theorem dX7_init_19 : Dc cX7_init 19 (.aload_n 0) 1 20 := ⟨by decide +kernel, rfl⟩
theorem dX7_init_20 : Dc cX7_init 20 (.sipush 432) 3 23 := ⟨by decide +kernel, rfl⟩
theorem dX7_init_23 : Dc cX7_init 23 (.newarray .int) 2 25 := ⟨by decide +kernel, rfl⟩
theorem dX7_init_25 : Dc cX7_init 25 (.putfield 23) 3 28 := ⟨by decide +kernel, rfl⟩
theorem dX7_init_28 : Dc cX7_init 28 (.aload_n 0) 1 29 := ⟨by decide +kernel, rfl⟩
theorem dX7_init_29 : Dc cX7_init 29 (.bipush 36) 2 31 := ⟨by decide +kernel, rfl⟩
theorem dX7_init_31 : Dc cX7_init 31 (.newarray .boolean) 2 33 := ⟨by decide +kernel, rfl⟩
theorem dX7_init_33 : Dc cX7_init 33 (.putfield 27) 3 36 := ⟨by decide +kernel, rfl⟩
theorem dX7_init_36 : Dc cX7_init 36 (.aload_n 0) 1 37 := ⟨by decide +kernel, rfl⟩
theorem dX7_init_37 : Dc cX7_init 37 (.sipush 156) 3 40 := ⟨by decide +kernel, rfl⟩
theorem dX7_init_40 : Dc cX7_init 40 (.newarray .int) 2 42 := ⟨by decide +kernel, rfl⟩
theorem dX7_init_42 : Dc cX7_init 42 (.putfield 31) 3 45 := ⟨by decide +kernel, rfl⟩
theorem dX7_init_45 : Dc cX7_init 45 (.aload_n 0) 1 46 := ⟨by decide +kernel, rfl⟩
theorem dX7_init_46 : Dc cX7_init 46 (.bipush 12) 2 48 := ⟨by decide +kernel, rfl⟩
theorem dX7_init_48 : Dc cX7_init 48 (.newarray .int) 2 50 := ⟨by decide +kernel, rfl⟩
theorem dX7_init_50 : Dc cX7_init 50 (.putfield 34) 3 53 := ⟨by decide +kernel, rfl⟩
theorem dX7_init_53 : Dc cX7_init 53 (.return_) 1 54 := ⟨by decide +kernel, rfl⟩
theorem mk_RX7_3 : Cond.methodLink RX7 3 objectInit ∈ gtbl := tg (tb_2 (List.mem_of_getElem? (i := 115) rfl)) rfl
theorem fk_RX7_9 : FLk RX7 9 7 RX7 TX7 8 tyX7 0 := ⟨cls_7, by decide, rfl, tg (tb_2 (List.mem_of_getElem? (i := 116) rfl)) rfl⟩
theorem fk_RX7_15 : FLk RX7 15 7 RX7 TX7 8 tyX7 1 := ⟨cls_7, by decide, rfl, tg (tb_2 (List.mem_of_getElem? (i := 117) rfl)) rfl⟩
theorem fk_RX7_19 : FLk RX7 19 7 RX7 TX7 8 tyX7 2 := ⟨cls_7, by decide, rfl, tg (tb_2 (List.mem_of_getElem? (i := 118) rfl)) rfl⟩
theorem fk_RX7_23 : FLk RX7 23 7 RX7 TX7 8 tyX7 3 := ⟨cls_7, by decide, rfl, tg (tb_2 (List.mem_of_getElem? (i := 119) rfl)) rfl⟩
theorem fk_RX7_27 : FLk RX7 27 7 RX7 TX7 8 tyX7 4 := ⟨cls_7, by decide, rfl, tg (tb_2 (List.mem_of_getElem? (i := 120) rfl)) rfl⟩
theorem fk_RX7_31 : FLk RX7 31 7 RX7 TX7 8 tyX7 5 := ⟨cls_7, by decide, rfl, tg (tb_2 (List.mem_of_getElem? (i := 121) rfl)) rfl⟩
theorem fk_RX7_34 : FLk RX7 34 7 RX7 TX7 8 tyX7 6 := ⟨cls_7, by decide, rfl, tg (tb_2 (List.mem_of_getElem? (i := 122) rfl)) rfl⟩
def st_X7_init_45 (σ : St) : St := (upS (upS (upS (upS (upS (upS (upS σ 45 0 1) 45 1 1) 45 2 1) 45 3 1) 45 4 1) 45 5 1) 45 6 1)
set_option maxHeartbeats 4000000 in
set_option maxRecDepth 100000 in
theorem k_X7_init_45 {l : Launch} {D : va_G} {cA : Nat → ClassId} {ba : Nat} (σ : St) (z46 : ∀ j, σ 46 j = 0) (z47 : ∀ j, σ 47 j = 0) (z48 : ∀ j, σ 48 j = 0) (z49 : ∀ j, σ 49 j = 0) : KtN l D cA ba (shC false) 46 50 636 yX7_init cX7_init 4 1 [.ref (ba + 45), .ref (ba + 14), .ref (ba + 24), .ref (ba + 36)] σ (fun σ1 => σ1 = st_X7_init_45 σ) := by
  refine KtN.of mz_X7_init [some (.ref (ba + 45)), some (.ref (ba + 14)), some (.ref (ba + 24)), some (.ref (ba + 36))] (Nat.le_of_ble_eq_true rfl) rfl (fun p e s m args below meth c E hr hnm => ?_)
  refine n_aload_0 E dX7_init_0 ?_
  refine n_objInit E mk_RX7_3 (Nat.le_of_ble_eq_true rfl) (by decide) dX7_init_1 ?_
  refine n_aload_0 E dX7_init_4 ?_
  refine n_aload_1 E dX7_init_5 ?_
  refine n_putR E fk_RX7_9 rfl hnm rfl ⟨rfl, rfl⟩ (by decide) (sC_45 false) rfl dX7_init_6 ?_
  refine n_aload_0 E dX7_init_9 ?_
  refine n_aload_2 E dX7_init_10 ?_
  refine n_putR E fk_RX7_15 rfl hnm rfl ⟨rfl, rfl⟩ (by decide) (sC_45 false) rfl dX7_init_11 ?_
  refine n_aload_0 E dX7_init_14 ?_
  refine n_aload_3 E dX7_init_15 ?_
  refine n_putR E fk_RX7_19 rfl hnm rfl ⟨rfl, rfl⟩ (by decide) (sC_45 false) rfl dX7_init_16 ?_
  refine n_aload_0 E dX7_init_19 ?_
  refine n_sipush E (by decide) dX7_init_20 ?_
  refine n_new_int (n := 432) (slots' := 432) (cells' := 1) (N' := 47) E (sC_46 false) (fun j => z46 j) (by decide) (Nat.le_of_ble_eq_true rfl) (Nat.le_of_ble_eq_true rfl) dX7_init_23 rfl rfl rfl ?_
  refine n_putR E fk_RX7_23 rfl hnm rfl ⟨rfl, rfl⟩ (by decide) (sC_45 false) rfl dX7_init_25 ?_
  refine n_aload_0 E dX7_init_28 ?_
  refine n_bipush E (by decide) dX7_init_29 ?_
  refine n_new_boolean (n := 36) (slots' := 468) (cells' := 2) (N' := 48) E (sC_47 false) (fun j => z47 j) (by decide) (Nat.le_of_ble_eq_true rfl) (Nat.le_of_ble_eq_true rfl) dX7_init_31 rfl rfl rfl ?_
  refine n_putR E fk_RX7_27 rfl hnm rfl ⟨rfl, rfl⟩ (by decide) (sC_45 false) rfl dX7_init_33 ?_
  refine n_aload_0 E dX7_init_36 ?_
  refine n_sipush E (by decide) dX7_init_37 ?_
  refine n_new_int (n := 156) (slots' := 624) (cells' := 3) (N' := 49) E (sC_48 false) (fun j => z48 j) (by decide) (Nat.le_of_ble_eq_true rfl) (Nat.le_of_ble_eq_true rfl) dX7_init_40 rfl rfl rfl ?_
  refine n_putR E fk_RX7_31 rfl hnm rfl ⟨rfl, rfl⟩ (by decide) (sC_45 false) rfl dX7_init_42 ?_
  refine n_aload_0 E dX7_init_45 ?_
  refine n_bipush E (by decide) dX7_init_46 ?_
  refine n_new_int (n := 12) (slots' := 636) (cells' := 4) (N' := 50) E (sC_49 false) (fun j => z49 j) (by decide) (Nat.le_of_ble_eq_true rfl) (Nat.le_of_ble_eq_true rfl) dX7_init_48 rfl rfl rfl ?_
  refine n_putR E fk_RX7_34 rfl hnm rfl ⟨rfl, rfl⟩ (by decide) (sC_45 false) rfl dX7_init_50 ?_
  exact n_vret E hr rfl dX7_init_53
theorem mk_RX11_61 : Cond.methodLink RX11 61 yX7_init ∈ gtbl := tg (tb_2 (List.mem_of_getElem? (i := 112) rfl)) rfl
theorem fk_RX11_62 : FLk RX11 62 11 RX11 TX11 16 tyX11 9 := ⟨cls_11, by decide, rfl, tg (tb_3 (List.mem_of_getElem? (i := 109) rfl)) rfl⟩
theorem ck_RX11_66 : Cond.classLink RX11 66 RX9 ∈ gtbl := tg (tb_2 (List.mem_of_getElem? (i := 141) rfl)) rfl
theorem ik_X9 : Cond.instantiable RX9 7 ∈ gtbl := tg (tb_2 (List.mem_of_getElem? (i := 142) rfl)) rfl
theorem nk_X9 : Cond.initialized RX9 ∈ gtbl := tg (tb_1 (List.mem_of_getElem? (i := 8) rfl)) rfl
theorem mz_X9_init : MYk yX9_init cX9_init 3 none 2 := ⟨tg (tb_2 (List.mem_of_getElem? (i := 145) rfl)) rfl, tg (tb_1 (List.mem_of_getElem? (i := 8) rfl)) rfl, ⟨by decide, by decide⟩, by decide +kernel, plainFor_of_name (by decide +kernel)⟩
theorem mzi_X9_init : Cond.instanceMethod yX9_init ∈ gtbl := tg (tb_2 (List.mem_of_getElem? (i := 144) rfl)) rfl
theorem dX9_init_0 : Dc cX9_init 0 (.aload_n 0) 1 1 := ⟨by decide +kernel, rfl⟩
theorem dX9_init_1 : Dc cX9_init 1 (.invokespecial 3) 3 4 := ⟨by decide +kernel, rfl⟩
theorem dX9_init_4 : Dc cX9_init 4 (.aload_n 0) 1 5 := ⟨by decide +kernel, rfl⟩
theorem dX9_init_5 : Dc cX9_init 5 (.aload_n 1) 1 6 := ⟨by decide +kernel, rfl⟩
theorem dX9_init_6 : Dc cX9_init 6 (.putfield 9) 3 9 := ⟨by decide +kernel, rfl⟩
theorem dX9_init_9 : Dc cX9_init 9 (.aload_n 0) 1 10 := ⟨by decide +kernel, rfl⟩
theorem dX9_init_10 : Dc cX9_init 10 (.aload_n 2) 1 11 := ⟨by decide +kernel, rfl⟩
theorem dX9_init_11 : Dc cX9_init 11 (.putfield 15) 3 14 := ⟨by decide +kernel, rfl⟩
theorem dX9_init_14 : Dc cX9_init 14 (.aload_n 0) 1 15 := ⟨by decide +kernel, rfl⟩
theorem dX9_init_15 : Dc cX9_init 15 (.sipush 432) 3 18 := ⟨by decide +kernel, rfl⟩
theorem dX9_init_18 : Dc cX9_init 18 (.newarray .int) 2 20 := ⟨by decide +kernel, rfl⟩
theorem dX9_init_20 : Dc cX9_init 20 (.putfield 19) 3 23 := ⟨by decide +kernel, rfl⟩
theorem dX9_init_23 : Dc cX9_init 23 (.aload_n 0) 1 24 := ⟨by decide +kernel, rfl⟩
theorem dX9_init_24 : Dc cX9_init 24 (.sipush 432) 3 27 := ⟨by decide +kernel, rfl⟩
theorem dX9_init_27 : Dc cX9_init 27 (.newarray .int) 2 29 := ⟨by decide +kernel, rfl⟩
theorem dX9_init_29 : Dc cX9_init 29 (.putfield 23) 3 32 := ⟨by decide +kernel, rfl⟩
theorem dX9_init_32 : Dc cX9_init 32 (.aload_n 0) 1 33 := ⟨by decide +kernel, rfl⟩
theorem dX9_init_33 : Dc cX9_init 33 (.iconst 5) 1 34 := ⟨by decide +kernel, rfl⟩
theorem dX9_init_34 : Dc cX9_init 34 (.newarray .boolean) 2 36 := ⟨by decide +kernel, rfl⟩
theorem dX9_init_36 : Dc cX9_init 36 (.putfield 26) 3 39 := ⟨by decide +kernel, rfl⟩
theorem dX9_init_39 : Dc cX9_init 39 (.return_) 1 40 := ⟨by decide +kernel, rfl⟩
theorem mk_RX9_3 : Cond.methodLink RX9 3 objectInit ∈ gtbl := tg (tb_2 (List.mem_of_getElem? (i := 146) rfl)) rfl
theorem fk_RX9_9 : FLk RX9 9 9 RX9 TX9 7 tyX9 0 := ⟨cls_9, by decide, rfl, tg (tb_2 (List.mem_of_getElem? (i := 147) rfl)) rfl⟩
theorem fk_RX9_15 : FLk RX9 15 9 RX9 TX9 7 tyX9 1 := ⟨cls_9, by decide, rfl, tg (tb_2 (List.mem_of_getElem? (i := 148) rfl)) rfl⟩
theorem fk_RX9_19 : FLk RX9 19 9 RX9 TX9 7 tyX9 2 := ⟨cls_9, by decide, rfl, tg (tb_2 (List.mem_of_getElem? (i := 149) rfl)) rfl⟩
theorem fk_RX9_23 : FLk RX9 23 9 RX9 TX9 7 tyX9 3 := ⟨cls_9, by decide, rfl, tg (tb_2 (List.mem_of_getElem? (i := 150) rfl)) rfl⟩
theorem fk_RX9_26 : FLk RX9 26 9 RX9 TX9 7 tyX9 4 := ⟨cls_9, by decide, rfl, tg (tb_2 (List.mem_of_getElem? (i := 151) rfl)) rfl⟩
def st_X9_init_50 (σ : St) : St := (upS (upS (upS (upS (upS σ 50 0 1) 50 1 1) 50 2 1) 50 3 1) 50 4 1)
set_option maxHeartbeats 4000000 in
set_option maxRecDepth 100000 in
theorem k_X9_init_50 {l : Launch} {D : va_G} {cA : Nat → ClassId} {ba : Nat} (σ : St) (z51 : ∀ j, σ 51 j = 0) (z52 : ∀ j, σ 52 j = 0) (z53 : ∀ j, σ 53 j = 0) : KtN l D cA ba (shC false) 51 54 869 yX9_init cX9_init 3 1 [.ref (ba + 50), .ref (ba + 14), .ref (ba + 24)] σ (fun σ1 => σ1 = st_X9_init_50 σ) := by
  refine KtN.of mz_X9_init [some (.ref (ba + 50)), some (.ref (ba + 14)), some (.ref (ba + 24))] (Nat.le_of_ble_eq_true rfl) rfl (fun p e s m args below meth c E hr hnm => ?_)
  refine n_aload_0 E dX9_init_0 ?_
  refine n_objInit E mk_RX9_3 (Nat.le_of_ble_eq_true rfl) (by decide) dX9_init_1 ?_
  refine n_aload_0 E dX9_init_4 ?_
  refine n_aload_1 E dX9_init_5 ?_
  refine n_putR E fk_RX9_9 rfl hnm rfl ⟨rfl, rfl⟩ (by decide) (sC_50 false) rfl dX9_init_6 ?_
  refine n_aload_0 E dX9_init_9 ?_
  refine n_aload_2 E dX9_init_10 ?_
  refine n_putR E fk_RX9_15 rfl hnm rfl ⟨rfl, rfl⟩ (by decide) (sC_50 false) rfl dX9_init_11 ?_
  refine n_aload_0 E dX9_init_14 ?_
  refine n_sipush E (by decide) dX9_init_15 ?_
  refine n_new_int (n := 432) (slots' := 432) (cells' := 1) (N' := 52) E (sC_51 false) (fun j => z51 j) (by decide) (Nat.le_of_ble_eq_true rfl) (Nat.le_of_ble_eq_true rfl) dX9_init_18 rfl rfl rfl ?_
  refine n_putR E fk_RX9_19 rfl hnm rfl ⟨rfl, rfl⟩ (by decide) (sC_50 false) rfl dX9_init_20 ?_
  refine n_aload_0 E dX9_init_23 ?_
  refine n_sipush E (by decide) dX9_init_24 ?_
  refine n_new_int (n := 432) (slots' := 864) (cells' := 2) (N' := 53) E (sC_52 false) (fun j => z52 j) (by decide) (Nat.le_of_ble_eq_true rfl) (Nat.le_of_ble_eq_true rfl) dX9_init_27 rfl rfl rfl ?_
  refine n_putR E fk_RX9_23 rfl hnm rfl ⟨rfl, rfl⟩ (by decide) (sC_50 false) rfl dX9_init_29 ?_
  refine n_aload_0 E dX9_init_32 ?_
  refine n_iconst E dX9_init_33 ?_
  refine n_new_boolean (n := 5) (slots' := 869) (cells' := 3) (N' := 54) E (sC_53 false) (fun j => z53 j) (by decide) (Nat.le_of_ble_eq_true rfl) (Nat.le_of_ble_eq_true rfl) dX9_init_34 rfl rfl rfl ?_
  refine n_putR E fk_RX9_26 rfl hnm rfl ⟨rfl, rfl⟩ (by decide) (sC_50 false) rfl dX9_init_36 ?_
  exact n_vret E hr rfl dX9_init_39
theorem mk_RX11_68 : Cond.methodLink RX11 68 yX9_init ∈ gtbl := tg (tb_2 (List.mem_of_getElem? (i := 143) rfl)) rfl
theorem fk_RX11_69 : FLk RX11 69 11 RX11 TX11 16 tyX11 10 := ⟨cls_11, by decide, rfl, tg (tb_3 (List.mem_of_getElem? (i := 110) rfl)) rfl⟩
theorem ck_RX11_73 : Cond.classLink RX11 73 RX3 ∈ gtbl := tg (tb_2 (List.mem_of_getElem? (i := 169) rfl)) rfl
theorem ik_X3 : Cond.instantiable RX3 18 ∈ gtbl := tg (tb_2 (List.mem_of_getElem? (i := 170) rfl)) rfl
theorem nk_X3 : Cond.initialized RX3 ∈ gtbl := tg (tb_1 (List.mem_of_getElem? (i := 9) rfl)) rfl
theorem mz_X3_init : MYk yX3_init cX3_init 4 none 3 := ⟨tg (tb_2 (List.mem_of_getElem? (i := 173) rfl)) rfl, tg (tb_1 (List.mem_of_getElem? (i := 9) rfl)) rfl, ⟨by decide, by decide⟩, by decide +kernel, plainFor_of_name (by decide +kernel)⟩
theorem mzi_X3_init : Cond.instanceMethod yX3_init ∈ gtbl := tg (tb_2 (List.mem_of_getElem? (i := 172) rfl)) rfl
theorem dX3_init_0 : Dc cX3_init 0 (.aload_n 0) 1 1 := ⟨by decide +kernel, rfl⟩
theorem dX3_init_1 : Dc cX3_init 1 (.invokespecial 3) 3 4 := ⟨by decide +kernel, rfl⟩
theorem dX3_init_4 : Dc cX3_init 4 (.aload_n 0) 1 5 := ⟨by decide +kernel, rfl⟩
theorem dX3_init_5 : Dc cX3_init 5 (.aload_n 1) 1 6 := ⟨by decide +kernel, rfl⟩
theorem dX3_init_6 : Dc cX3_init 6 (.putfield 9) 3 9 := ⟨by decide +kernel, rfl⟩
theorem dX3_init_9 : Dc cX3_init 9 (.aload_n 0) 1 10 := ⟨by decide +kernel, rfl⟩
theorem dX3_init_10 : Dc cX3_init 10 (.aload_n 2) 1 11 := ⟨by decide +kernel, rfl⟩
theorem dX3_init_11 : Dc cX3_init 11 (.putfield 15) 3 14 := ⟨by decide +kernel, rfl⟩
theorem dX3_init_14 : Dc cX3_init 14 (.aload_n 0) 1 15 := ⟨by decide +kernel, rfl⟩
theorem dX3_init_15 : Dc cX3_init 15 (.aload_n 3) 1 16 := ⟨by decide +kernel, rfl⟩
theorem dX3_init_16 : Dc cX3_init 16 (.putfield 19) 3 19 := ⟨by decide +kernel, rfl⟩
theorem dX3_init_19 : Dc cX3_init 19 (.aload_n 0) 1 20 := ⟨by decide +kernel, rfl⟩
theorem dX3_init_20 : Dc cX3_init 20 (.sipush 6912) 3 23 := ⟨by decide +kernel, rfl⟩
theorem dX3_init_23 : Dc cX3_init 23 (.newarray .int) 2 25 := ⟨by decide +kernel, rfl⟩
theorem dX3_init_25 : Dc cX3_init 25 (.putfield 23) 3 28 := ⟨by decide +kernel, rfl⟩
theorem dX3_init_28 : Dc cX3_init 28 (.aload_n 0) 1 29 := ⟨by decide +kernel, rfl⟩
theorem dX3_init_29 : Dc cX3_init 29 (.sipush 6912) 3 32 := ⟨by decide +kernel, rfl⟩
theorem dX3_init_32 : Dc cX3_init 32 (.newarray .int) 2 34 := ⟨by decide +kernel, rfl⟩
theorem dX3_init_34 : Dc cX3_init 34 (.putfield 27) 3 37 := ⟨by decide +kernel, rfl⟩
theorem dX3_init_37 : Dc cX3_init 37 (.aload_n 0) 1 38 := ⟨by decide +kernel, rfl⟩
theorem dX3_init_38 : Dc cX3_init 38 (.sipush 6912) 3 41 := ⟨by decide +kernel, rfl⟩
theorem dX3_init_41 : Dc cX3_init 41 (.newarray .int) 2 43 := ⟨by decide +kernel, rfl⟩
theorem dX3_init_43 : Dc cX3_init 43 (.putfield 30) 3 46 := ⟨by decide +kernel, rfl⟩
theorem dX3_init_46 : Dc cX3_init 46 (.aload_n 0) 1 47 := ⟨by decide +kernel, rfl⟩
theorem dX3_init_47 : Dc cX3_init 47 (.sipush 6912) 3 50 := ⟨by decide +kernel, rfl⟩
theorem dX3_init_50 : Dc cX3_init 50 (.newarray .int) 2 52 := ⟨by decide +kernel, rfl⟩
theorem dX3_init_52 : Dc cX3_init 52 (.putfield 33) 3 55 := ⟨by decide +kernel, rfl⟩
theorem dX3_init_55 : Dc cX3_init 55 (.aload_n 0) 1 56 := ⟨by decide +kernel, rfl⟩
theorem dX3_init_56 : Dc cX3_init 56 (.sipush 432) 3 59 := ⟨by decide +kernel, rfl⟩
theorem dX3_init_59 : Dc cX3_init 59 (.newarray .int) 2 61 := ⟨by decide +kernel, rfl⟩
theorem dX3_init_61 : Dc cX3_init 61 (.putfield 36) 3 64 := ⟨by decide +kernel, rfl⟩
theorem dX3_init_64 : Dc cX3_init 64 (.aload_n 0) 1 65 := ⟨by decide +kernel, rfl⟩
theorem dX3_init_65 : Dc cX3_init 65 (.bipush 36) 2 67 := ⟨by decide +kernel, rfl⟩
theorem dX3_init_67 : Dc cX3_init 67 (.newarray .boolean) 2 69 := ⟨by decide +kernel, rfl⟩
theorem dX3_init_69 : Dc cX3_init 69 (.putfield 39) 3 72 := ⟨by decide +kernel, rfl⟩
theorem dX3_init_72 : Dc cX3_init 72 (.aload_n 0) 1 73 := ⟨by decide +kernel, rfl⟩
theorem dX3_init_73 : Dc cX3_init 73 (.sipush 192) 3 76 := ⟨by decide +kernel, rfl⟩
theorem dX3_init_76 : Dc cX3_init 76 (.newarray .int) 2 78 := ⟨by decide +kernel, rfl⟩
theorem dX3_init_78 : Dc cX3_init 78 (.putfield 43) 3 81 := ⟨by decide +kernel, rfl⟩
theorem dX3_init_81 : Dc cX3_init 81 (.aload_n 0) 1 82 := ⟨by decide +kernel, rfl⟩
theorem dX3_init_82 : Dc cX3_init 82 (.sipush 192) 3 85 := ⟨by decide +kernel, rfl⟩
theorem dX3_init_85 : Dc cX3_init 85 (.newarray .int) 2 87 := ⟨by decide +kernel, rfl⟩
theorem dX3_init_87 : Dc cX3_init 87 (.putfield 46) 3 90 := ⟨by decide +kernel, rfl⟩
theorem dX3_init_90 : Dc cX3_init 90 (.aload_n 0) 1 91 := ⟨by decide +kernel, rfl⟩
theorem dX3_init_91 : Dc cX3_init 91 (.sipush 192) 3 94 := ⟨by decide +kernel, rfl⟩
theorem dX3_init_94 : Dc cX3_init 94 (.newarray .int) 2 96 := ⟨by decide +kernel, rfl⟩
theorem dX3_init_96 : Dc cX3_init 96 (.putfield 49) 3 99 := ⟨by decide +kernel, rfl⟩
theorem dX3_init_99 : Dc cX3_init 99 (.aload_n 0) 1 100 := ⟨by decide +kernel, rfl⟩
theorem dX3_init_100 : Dc cX3_init 100 (.bipush 12) 2 102 := ⟨by decide +kernel, rfl⟩
theorem dX3_init_102 : Dc cX3_init 102 (.newarray .int) 2 104 := ⟨by decide +kernel, rfl⟩
theorem dX3_init_104 : Dc cX3_init 104 (.putfield 52) 3 107 := ⟨by decide +kernel, rfl⟩
theorem dX3_init_107 : Dc cX3_init 107 (.aload_n 0) 1 108 := ⟨by decide +kernel, rfl⟩
theorem dX3_init_108 : Dc cX3_init 108 (.bipush 12) 2 110 := ⟨by decide +kernel, rfl⟩
theorem dX3_init_110 : Dc cX3_init 110 (.newarray .int) 2 112 := ⟨by decide +kernel, rfl⟩
theorem dX3_init_112 : Dc cX3_init 112 (.putfield 55) 3 115 := ⟨by decide +kernel, rfl⟩
theorem dX3_init_115 : Dc cX3_init 115 (.aload_n 0) 1 116 := ⟨by decide +kernel, rfl⟩
theorem dX3_init_116 : Dc cX3_init 116 (.bipush 40) 2 118 := ⟨by decide +kernel, rfl⟩
theorem dX3_init_118 : Dc cX3_init 118 (.newarray .int) 2 120 := ⟨by decide +kernel, rfl⟩
theorem dX3_init_120 : Dc cX3_init 120 (.putfield 58) 3 123 := ⟨by decide +kernel, rfl⟩
theorem dX3_init_123 : Dc cX3_init 123 (.aload_n 0) 1 124 := ⟨by decide +kernel, rfl⟩
theorem dX3_init_124 : Dc cX3_init 124 (.bipush 40) 2 126 := ⟨by decide +kernel, rfl⟩
theorem dX3_init_126 : Dc cX3_init 126 (.newarray .int) 2 128 := ⟨by decide +kernel, rfl⟩
theorem dX3_init_128 : Dc cX3_init 128 (.putfield 61) 3 131 := ⟨by decide +kernel, rfl⟩
theorem dX3_init_131 : Dc cX3_init 131 (.return_) 1 132 := ⟨by decide +kernel, rfl⟩
theorem mk_RX3_3 : Cond.methodLink RX3 3 objectInit ∈ gtbl := tg (tb_2 (List.mem_of_getElem? (i := 174) rfl)) rfl
theorem fk_RX3_9 : FLk RX3 9 3 RX3 TX3 18 tyX3 0 := ⟨cls_3, by decide, rfl, tg (tb_2 (List.mem_of_getElem? (i := 175) rfl)) rfl⟩
theorem fk_RX3_15 : FLk RX3 15 3 RX3 TX3 18 tyX3 1 := ⟨cls_3, by decide, rfl, tg (tb_2 (List.mem_of_getElem? (i := 176) rfl)) rfl⟩
theorem fk_RX3_19 : FLk RX3 19 3 RX3 TX3 18 tyX3 2 := ⟨cls_3, by decide, rfl, tg (tb_2 (List.mem_of_getElem? (i := 177) rfl)) rfl⟩
theorem fk_RX3_23 : FLk RX3 23 3 RX3 TX3 18 tyX3 3 := ⟨cls_3, by decide, rfl, tg (tb_2 (List.mem_of_getElem? (i := 178) rfl)) rfl⟩
theorem fk_RX3_27 : FLk RX3 27 3 RX3 TX3 18 tyX3 4 := ⟨cls_3, by decide, rfl, tg (tb_2 (List.mem_of_getElem? (i := 180) rfl)) rfl⟩
theorem fk_RX3_30 : FLk RX3 30 3 RX3 TX3 18 tyX3 5 := ⟨cls_3, by decide, rfl, tg (tb_2 (List.mem_of_getElem? (i := 182) rfl)) rfl⟩
theorem fk_RX3_33 : FLk RX3 33 3 RX3 TX3 18 tyX3 6 := ⟨cls_3, by decide, rfl, tg (tb_2 (List.mem_of_getElem? (i := 183) rfl)) rfl⟩
theorem fk_RX3_36 : FLk RX3 36 3 RX3 TX3 18 tyX3 7 := ⟨cls_3, by decide, rfl, tg (tb_2 (List.mem_of_getElem? (i := 184) rfl)) rfl⟩
theorem fk_RX3_39 : FLk RX3 39 3 RX3 TX3 18 tyX3 8 := ⟨cls_3, by decide, rfl, tg (tb_2 (List.mem_of_getElem? (i := 185) rfl)) rfl⟩
theorem fk_RX3_43 : FLk RX3 43 3 RX3 TX3 18 tyX3 9 := ⟨cls_3, by decide, rfl, tg (tb_2 (List.mem_of_getElem? (i := 186) rfl)) rfl⟩
theorem fk_RX3_46 : FLk RX3 46 3 RX3 TX3 18 tyX3 10 := ⟨cls_3, by decide, rfl, tg (tb_2 (List.mem_of_getElem? (i := 187) rfl)) rfl⟩
theorem fk_RX3_49 : FLk RX3 49 3 RX3 TX3 18 tyX3 11 := ⟨cls_3, by decide, rfl, tg (tb_2 (List.mem_of_getElem? (i := 188) rfl)) rfl⟩
theorem fk_RX3_52 : FLk RX3 52 3 RX3 TX3 18 tyX3 12 := ⟨cls_3, by decide, rfl, tg (tb_2 (List.mem_of_getElem? (i := 189) rfl)) rfl⟩
theorem fk_RX3_55 : FLk RX3 55 3 RX3 TX3 18 tyX3 13 := ⟨cls_3, by decide, rfl, tg (tb_2 (List.mem_of_getElem? (i := 190) rfl)) rfl⟩
theorem fk_RX3_58 : FLk RX3 58 3 RX3 TX3 18 tyX3 14 := ⟨cls_3, by decide, rfl, tg (tb_2 (List.mem_of_getElem? (i := 191) rfl)) rfl⟩
theorem fk_RX3_61 : FLk RX3 61 3 RX3 TX3 18 tyX3 15 := ⟨cls_3, by decide, rfl, tg (tb_2 (List.mem_of_getElem? (i := 192) rfl)) rfl⟩
def st_X3_init_54 (σ : St) : St := (upS (upS (upS (upS (upS (upS (upS (upS (upS (upS (upS (upS (upS (upS (upS (upS σ 54 0 1) 54 1 1) 54 2 1) 54 3 1) 54 4 1) 54 5 1) 54 6 1) 54 7 1) 54 8 1) 54 9 1) 54 10 1) 54 11 1) 54 12 1) 54 13 1) 54 14 1) 54 15 1)
set_option maxHeartbeats 4000000 in
set_option maxRecDepth 100000 in
theorem k_X3_init_54 {l : Launch} {D : va_G} {cA : Nat → ClassId} {ba : Nat} (σ : St) (z55 : ∀ j, σ 55 j = 0) (z56 : ∀ j, σ 56 j = 0) (z57 : ∀ j, σ 57 j = 0) (z58 : ∀ j, σ 58 j = 0) (z59 : ∀ j, σ 59 j = 0) (z60 : ∀ j, σ 60 j = 0) (z61 : ∀ j, σ 61 j = 0) (z62 : ∀ j, σ 62 j = 0) (z63 : ∀ j, σ 63 j = 0) (z64 : ∀ j, σ 64 j = 0) (z65 : ∀ j, σ 65 j = 0) (z66 : ∀ j, σ 66 j = 0) (z67 : ∀ j, σ 67 j = 0) : KtN l D cA ba (shC false) 55 68 28796 yX3_init cX3_init 4 1 [.ref (ba + 54), .ref (ba + 14), .ref (ba + 24), .ref (ba + 36)] σ (fun σ1 => σ1 = st_X3_init_54 σ) := by
  refine KtN.of mz_X3_init [some (.ref (ba + 54)), some (.ref (ba + 14)), some (.ref (ba + 24)), some (.ref (ba + 36))] (Nat.le_of_ble_eq_true rfl) rfl (fun p e s m args below meth c E hr hnm => ?_)
  refine n_aload_0 E dX3_init_0 ?_
  refine n_objInit E mk_RX3_3 (Nat.le_of_ble_eq_true rfl) (by decide) dX3_init_1 ?_
  refine n_aload_0 E dX3_init_4 ?_
  refine n_aload_1 E dX3_init_5 ?_
  refine n_putR E fk_RX3_9 rfl hnm rfl ⟨rfl, rfl⟩ (by decide) (sC_54 false) rfl dX3_init_6 ?_
  refine n_aload_0 E dX3_init_9 ?_
  refine n_aload_2 E dX3_init_10 ?_
  refine n_putR E fk_RX3_15 rfl hnm rfl ⟨rfl, rfl⟩ (by decide) (sC_54 false) rfl dX3_init_11 ?_
  refine n_aload_0 E dX3_init_14 ?_
  refine n_aload_3 E dX3_init_15 ?_
  refine n_putR E fk_RX3_19 rfl hnm rfl ⟨rfl, rfl⟩ (by decide) (sC_54 false) rfl dX3_init_16 ?_
  refine n_aload_0 E dX3_init_19 ?_
  refine n_sipush E (by decide) dX3_init_20 ?_
  refine n_new_int (n := 6912) (slots' := 6912) (cells' := 1) (N' := 56) E (sC_55 false) (fun j => z55 j) (by decide) (Nat.le_of_ble_eq_true rfl) (Nat.le_of_ble_eq_true rfl) dX3_init_23 rfl rfl rfl ?_
  refine n_putR E fk_RX3_23 rfl hnm rfl ⟨rfl, rfl⟩ (by decide) (sC_54 false) rfl dX3_init_25 ?_
  refine n_aload_0 E dX3_init_28 ?_
  refine n_sipush E (by decide) dX3_init_29 ?_
  refine n_new_int (n := 6912) (slots' := 13824) (cells' := 2) (N' := 57) E (sC_56 false) (fun j => z56 j) (by decide) (Nat.le_of_ble_eq_true rfl) (Nat.le_of_ble_eq_true rfl) dX3_init_32 rfl rfl rfl ?_
  refine n_putR E fk_RX3_27 rfl hnm rfl ⟨rfl, rfl⟩ (by decide) (sC_54 false) rfl dX3_init_34 ?_
  refine n_aload_0 E dX3_init_37 ?_
  refine n_sipush E (by decide) dX3_init_38 ?_
  refine n_new_int (n := 6912) (slots' := 20736) (cells' := 3) (N' := 58) E (sC_57 false) (fun j => z57 j) (by decide) (Nat.le_of_ble_eq_true rfl) (Nat.le_of_ble_eq_true rfl) dX3_init_41 rfl rfl rfl ?_
  refine n_putR E fk_RX3_30 rfl hnm rfl ⟨rfl, rfl⟩ (by decide) (sC_54 false) rfl dX3_init_43 ?_
  refine n_aload_0 E dX3_init_46 ?_
  refine n_sipush E (by decide) dX3_init_47 ?_
  refine n_new_int (n := 6912) (slots' := 27648) (cells' := 4) (N' := 59) E (sC_58 false) (fun j => z58 j) (by decide) (Nat.le_of_ble_eq_true rfl) (Nat.le_of_ble_eq_true rfl) dX3_init_50 rfl rfl rfl ?_
  refine n_putR E fk_RX3_33 rfl hnm rfl ⟨rfl, rfl⟩ (by decide) (sC_54 false) rfl dX3_init_52 ?_
  refine n_aload_0 E dX3_init_55 ?_
  refine n_sipush E (by decide) dX3_init_56 ?_
  refine n_new_int (n := 432) (slots' := 28080) (cells' := 5) (N' := 60) E (sC_59 false) (fun j => z59 j) (by decide) (Nat.le_of_ble_eq_true rfl) (Nat.le_of_ble_eq_true rfl) dX3_init_59 rfl rfl rfl ?_
  refine n_putR E fk_RX3_36 rfl hnm rfl ⟨rfl, rfl⟩ (by decide) (sC_54 false) rfl dX3_init_61 ?_
  refine n_aload_0 E dX3_init_64 ?_
  refine n_bipush E (by decide) dX3_init_65 ?_
  refine n_new_boolean (n := 36) (slots' := 28116) (cells' := 6) (N' := 61) E (sC_60 false) (fun j => z60 j) (by decide) (Nat.le_of_ble_eq_true rfl) (Nat.le_of_ble_eq_true rfl) dX3_init_67 rfl rfl rfl ?_
  refine n_putR E fk_RX3_39 rfl hnm rfl ⟨rfl, rfl⟩ (by decide) (sC_54 false) rfl dX3_init_69 ?_
  refine n_aload_0 E dX3_init_72 ?_
  refine n_sipush E (by decide) dX3_init_73 ?_
  refine n_new_int (n := 192) (slots' := 28308) (cells' := 7) (N' := 62) E (sC_61 false) (fun j => z61 j) (by decide) (Nat.le_of_ble_eq_true rfl) (Nat.le_of_ble_eq_true rfl) dX3_init_76 rfl rfl rfl ?_
  refine n_putR E fk_RX3_43 rfl hnm rfl ⟨rfl, rfl⟩ (by decide) (sC_54 false) rfl dX3_init_78 ?_
  refine n_aload_0 E dX3_init_81 ?_
  refine n_sipush E (by decide) dX3_init_82 ?_
  refine n_new_int (n := 192) (slots' := 28500) (cells' := 8) (N' := 63) E (sC_62 false) (fun j => z62 j) (by decide) (Nat.le_of_ble_eq_true rfl) (Nat.le_of_ble_eq_true rfl) dX3_init_85 rfl rfl rfl ?_
  refine n_putR E fk_RX3_46 rfl hnm rfl ⟨rfl, rfl⟩ (by decide) (sC_54 false) rfl dX3_init_87 ?_
  refine n_aload_0 E dX3_init_90 ?_
  refine n_sipush E (by decide) dX3_init_91 ?_
  refine n_new_int (n := 192) (slots' := 28692) (cells' := 9) (N' := 64) E (sC_63 false) (fun j => z63 j) (by decide) (Nat.le_of_ble_eq_true rfl) (Nat.le_of_ble_eq_true rfl) dX3_init_94 rfl rfl rfl ?_
  refine n_putR E fk_RX3_49 rfl hnm rfl ⟨rfl, rfl⟩ (by decide) (sC_54 false) rfl dX3_init_96 ?_
  refine n_aload_0 E dX3_init_99 ?_
  refine n_bipush E (by decide) dX3_init_100 ?_
  refine n_new_int (n := 12) (slots' := 28704) (cells' := 10) (N' := 65) E (sC_64 false) (fun j => z64 j) (by decide) (Nat.le_of_ble_eq_true rfl) (Nat.le_of_ble_eq_true rfl) dX3_init_102 rfl rfl rfl ?_
  refine n_putR E fk_RX3_52 rfl hnm rfl ⟨rfl, rfl⟩ (by decide) (sC_54 false) rfl dX3_init_104 ?_
  refine n_aload_0 E dX3_init_107 ?_
  refine n_bipush E (by decide) dX3_init_108 ?_
  refine n_new_int (n := 12) (slots' := 28716) (cells' := 11) (N' := 66) E (sC_65 false) (fun j => z65 j) (by decide) (Nat.le_of_ble_eq_true rfl) (Nat.le_of_ble_eq_true rfl) dX3_init_110 rfl rfl rfl ?_
  refine n_putR E fk_RX3_55 rfl hnm rfl ⟨rfl, rfl⟩ (by decide) (sC_54 false) rfl dX3_init_112 ?_
  refine n_aload_0 E dX3_init_115 ?_
  refine n_bipush E (by decide) dX3_init_116 ?_
  refine n_new_int (n := 40) (slots' := 28756) (cells' := 12) (N' := 67) E (sC_66 false) (fun j => z66 j) (by decide) (Nat.le_of_ble_eq_true rfl) (Nat.le_of_ble_eq_true rfl) dX3_init_118 rfl rfl rfl ?_
  refine n_putR E fk_RX3_58 rfl hnm rfl ⟨rfl, rfl⟩ (by decide) (sC_54 false) rfl dX3_init_120 ?_
  refine n_aload_0 E dX3_init_123 ?_
  refine n_bipush E (by decide) dX3_init_124 ?_
  refine n_new_int (n := 40) (slots' := 28796) (cells' := 13) (N' := 68) E (sC_67 false) (fun j => z67 j) (by decide) (Nat.le_of_ble_eq_true rfl) (Nat.le_of_ble_eq_true rfl) dX3_init_126 rfl rfl rfl ?_
  refine n_putR E fk_RX3_61 rfl hnm rfl ⟨rfl, rfl⟩ (by decide) (sC_54 false) rfl dX3_init_128 ?_
  exact n_vret E hr rfl dX3_init_131
theorem mk_RX11_75 : Cond.methodLink RX11 75 yX3_init ∈ gtbl := tg (tb_2 (List.mem_of_getElem? (i := 171) rfl)) rfl
theorem fk_RX11_76 : FLk RX11 76 11 RX11 TX11 16 tyX11 11 := ⟨cls_11, by decide, rfl, tg (tb_3 (List.mem_of_getElem? (i := 111) rfl)) rfl⟩
theorem ck_RX11_80 : Cond.classLink RX11 80 RX10 ∈ gtbl := tg (tb_2 (List.mem_of_getElem? (i := 232) rfl)) rfl
theorem ik_X10 : Cond.instantiable RX10 10 ∈ gtbl := tg (tb_2 (List.mem_of_getElem? (i := 233) rfl)) rfl
theorem nk_X10 : Cond.initialized RX10 ∈ gtbl := tg (tb_1 (List.mem_of_getElem? (i := 10) rfl)) rfl
theorem mz_X10_init : MYk yX10_init cX10_init 4 none 3 := ⟨tg (tb_2 (List.mem_of_getElem? (i := 236) rfl)) rfl, tg (tb_1 (List.mem_of_getElem? (i := 10) rfl)) rfl, ⟨by decide, by decide⟩, by decide +kernel, plainFor_of_name (by decide +kernel)⟩
theorem mzi_X10_init : Cond.instanceMethod yX10_init ∈ gtbl := tg (tb_2 (List.mem_of_getElem? (i := 235) rfl)) rfl
theorem dX10_init_0 : Dc cX10_init 0 (.aload_n 0) 1 1 := ⟨by decide +kernel, rfl⟩
theorem dX10_init_1 : Dc cX10_init 1 (.invokespecial 3) 3 4 := ⟨by decide +kernel, rfl⟩
theorem dX10_init_4 : Dc cX10_init 4 (.aload_n 0) 1 5 := ⟨by decide +kernel, rfl⟩
theorem dX10_init_5 : Dc cX10_init 5 (.aload_n 1) 1 6 := ⟨by decide +kernel, rfl⟩
theorem dX10_init_6 : Dc cX10_init 6 (.putfield 9) 3 9 := ⟨by decide +kernel, rfl⟩
theorem dX10_init_9 : Dc cX10_init 9 (.aload_n 0) 1 10 := ⟨by decide +kernel, rfl⟩
theorem dX10_init_10 : Dc cX10_init 10 (.aload_n 2) 1 11 := ⟨by decide +kernel, rfl⟩
theorem dX10_init_11 : Dc cX10_init 11 (.putfield 15) 3 14 := ⟨by decide +kernel, rfl⟩
theorem dX10_init_14 : Dc cX10_init 14 (.aload_n 0) 1 15 := ⟨by decide +kernel, rfl⟩
theorem dX10_init_15 : Dc cX10_init 15 (.aload_n 3) 1 16 := ⟨by decide +kernel, rfl⟩
theorem dX10_init_16 : Dc cX10_init 16 (.putfield 19) 3 19 := ⟨by decide +kernel, rfl⟩
theorem dX10_init_19 : Dc cX10_init 19 (.aload_n 0) 1 20 := ⟨by decide +kernel, rfl⟩
theorem dX10_init_20 : Dc cX10_init 20 (.sipush 2560) 3 23 := ⟨by decide +kernel, rfl⟩
theorem dX10_init_23 : Dc cX10_init 23 (.newarray .int) 2 25 := ⟨by decide +kernel, rfl⟩
theorem dX10_init_25 : Dc cX10_init 25 (.putfield 23) 3 28 := ⟨by decide +kernel, rfl⟩
theorem dX10_init_28 : Dc cX10_init 28 (.aload_n 0) 1 29 := ⟨by decide +kernel, rfl⟩
theorem dX10_init_29 : Dc cX10_init 29 (.sipush 2560) 3 32 := ⟨by decide +kernel, rfl⟩
theorem dX10_init_32 : Dc cX10_init 32 (.newarray .int) 2 34 := ⟨by decide +kernel, rfl⟩
theorem dX10_init_34 : Dc cX10_init 34 (.putfield 27) 3 37 := ⟨by decide +kernel, rfl⟩
theorem dX10_init_37 : Dc cX10_init 37 (.aload_n 0) 1 38 := ⟨by decide +kernel, rfl⟩
theorem dX10_init_38 : Dc cX10_init 38 (.sipush 512) 3 41 := ⟨by decide +kernel, rfl⟩
theorem dX10_init_41 : Dc cX10_init 41 (.newarray .int) 2 43 := ⟨by decide +kernel, rfl⟩
theorem dX10_init_43 : Dc cX10_init 43 (.putfield 30) 3 46 := ⟨by decide +kernel, rfl⟩
theorem dX10_init_46 : Dc cX10_init 46 (.return_) 1 47 := ⟨by decide +kernel, rfl⟩
theorem mk_RX10_3 : Cond.methodLink RX10 3 objectInit ∈ gtbl := tg (tb_2 (List.mem_of_getElem? (i := 237) rfl)) rfl
theorem fk_RX10_9 : FLk RX10 9 10 RX10 TX10 10 tyX10 0 := ⟨cls_10, by decide, rfl, tg (tb_2 (List.mem_of_getElem? (i := 238) rfl)) rfl⟩
theorem fk_RX10_15 : FLk RX10 15 10 RX10 TX10 10 tyX10 1 := ⟨cls_10, by decide, rfl, tg (tb_2 (List.mem_of_getElem? (i := 239) rfl)) rfl⟩
theorem fk_RX10_19 : FLk RX10 19 10 RX10 TX10 10 tyX10 2 := ⟨cls_10, by decide, rfl, tg (tb_3 (List.mem_of_getElem? (i := 0) rfl)) rfl⟩
theorem fk_RX10_23 : FLk RX10 23 10 RX10 TX10 10 tyX10 3 := ⟨cls_10, by decide, rfl, tg (tb_3 (List.mem_of_getElem? (i := 1) rfl)) rfl⟩
theorem fk_RX10_27 : FLk RX10 27 10 RX10 TX10 10 tyX10 4 := ⟨cls_10, by decide, rfl, tg (tb_3 (List.mem_of_getElem? (i := 2) rfl)) rfl⟩
theorem fk_RX10_30 : FLk RX10 30 10 RX10 TX10 10 tyX10 5 := ⟨cls_10, by decide, rfl, tg (tb_3 (List.mem_of_getElem? (i := 3) rfl)) rfl⟩
def st_X10_init_68 (σ : St) : St := (upS (upS (upS (upS (upS (upS σ 68 0 1) 68 1 1) 68 2 1) 68 3 1) 68 4 1) 68 5 1)
set_option maxHeartbeats 4000000 in
set_option maxRecDepth 100000 in
theorem k_X10_init_68 {l : Launch} {D : va_G} {cA : Nat → ClassId} {ba : Nat} (σ : St) (z69 : ∀ j, σ 69 j = 0) (z70 : ∀ j, σ 70 j = 0) (z71 : ∀ j, σ 71 j = 0) : KtN l D cA ba (shC false) 69 72 5632 yX10_init cX10_init 4 1 [.ref (ba + 68), .ref (ba + 14), .ref (ba + 24), .ref (ba + 54)] σ (fun σ1 => σ1 = st_X10_init_68 σ) := by
  refine KtN.of mz_X10_init [some (.ref (ba + 68)), some (.ref (ba + 14)), some (.ref (ba + 24)), some (.ref (ba + 54))] (Nat.le_of_ble_eq_true rfl) rfl (fun p e s m args below meth c E hr hnm => ?_)
  refine n_aload_0 E dX10_init_0 ?_
  refine n_objInit E mk_RX10_3 (Nat.le_of_ble_eq_true rfl) (by decide) dX10_init_1 ?_
  refine n_aload_0 E dX10_init_4 ?_
  refine n_aload_1 E dX10_init_5 ?_
  refine n_putR E fk_RX10_9 rfl hnm rfl ⟨rfl, rfl⟩ (by decide) (sC_68 false) rfl dX10_init_6 ?_
  refine n_aload_0 E dX10_init_9 ?_
  refine n_aload_2 E dX10_init_10 ?_
  refine n_putR E fk_RX10_15 rfl hnm rfl ⟨rfl, rfl⟩ (by decide) (sC_68 false) rfl dX10_init_11 ?_
  refine n_aload_0 E dX10_init_14 ?_
  refine n_aload_3 E dX10_init_15 ?_
  refine n_putR E fk_RX10_19 rfl hnm rfl ⟨rfl, rfl⟩ (by decide) (sC_68 false) rfl dX10_init_16 ?_
  refine n_aload_0 E dX10_init_19 ?_
  refine n_sipush E (by decide) dX10_init_20 ?_
  refine n_new_int (n := 2560) (slots' := 2560) (cells' := 1) (N' := 70) E (sC_69 false) (fun j => z69 j) (by decide) (Nat.le_of_ble_eq_true rfl) (Nat.le_of_ble_eq_true rfl) dX10_init_23 rfl rfl rfl ?_
  refine n_putR E fk_RX10_23 rfl hnm rfl ⟨rfl, rfl⟩ (by decide) (sC_68 false) rfl dX10_init_25 ?_
  refine n_aload_0 E dX10_init_28 ?_
  refine n_sipush E (by decide) dX10_init_29 ?_
  refine n_new_int (n := 2560) (slots' := 5120) (cells' := 2) (N' := 71) E (sC_70 false) (fun j => z70 j) (by decide) (Nat.le_of_ble_eq_true rfl) (Nat.le_of_ble_eq_true rfl) dX10_init_32 rfl rfl rfl ?_
  refine n_putR E fk_RX10_27 rfl hnm rfl ⟨rfl, rfl⟩ (by decide) (sC_68 false) rfl dX10_init_34 ?_
  refine n_aload_0 E dX10_init_37 ?_
  refine n_sipush E (by decide) dX10_init_38 ?_
  refine n_new_int (n := 512) (slots' := 5632) (cells' := 3) (N' := 72) E (sC_71 false) (fun j => z71 j) (by decide) (Nat.le_of_ble_eq_true rfl) (Nat.le_of_ble_eq_true rfl) dX10_init_41 rfl rfl rfl ?_
  refine n_putR E fk_RX10_30 rfl hnm rfl ⟨rfl, rfl⟩ (by decide) (sC_68 false) rfl dX10_init_43 ?_
  exact n_vret E hr rfl dX10_init_46
theorem mk_RX11_82 : Cond.methodLink RX11 82 yX10_init ∈ gtbl := tg (tb_2 (List.mem_of_getElem? (i := 234) rfl)) rfl
theorem fk_RX11_85 : FLk RX11 85 11 RX11 TX11 16 tyX11 12 := ⟨cls_11, by decide, rfl, tg (tb_3 (List.mem_of_getElem? (i := 112) rfl)) rfl⟩
def st_X10_init_72 (σ : St) : St := (upS (upS (upS (upS (upS (upS σ 72 0 1) 72 1 1) 72 2 1) 72 3 1) 72 4 1) 72 5 1)
set_option maxHeartbeats 4000000 in
set_option maxRecDepth 100000 in
theorem k_X10_init_72 {l : Launch} {D : va_G} {cA : Nat → ClassId} {ba : Nat} (σ : St) (z73 : ∀ j, σ 73 j = 0) (z74 : ∀ j, σ 74 j = 0) (z75 : ∀ j, σ 75 j = 0) : KtN l D cA ba (shC false) 73 76 5632 yX10_init cX10_init 4 1 [.ref (ba + 72), .ref (ba + 14), .ref (ba + 24), .ref (ba + 54)] σ (fun σ1 => σ1 = st_X10_init_72 σ) := by
  refine KtN.of mz_X10_init [some (.ref (ba + 72)), some (.ref (ba + 14)), some (.ref (ba + 24)), some (.ref (ba + 54))] (Nat.le_of_ble_eq_true rfl) rfl (fun p e s m args below meth c E hr hnm => ?_)
  refine n_aload_0 E dX10_init_0 ?_
  refine n_objInit E mk_RX10_3 (Nat.le_of_ble_eq_true rfl) (by decide) dX10_init_1 ?_
  refine n_aload_0 E dX10_init_4 ?_
  refine n_aload_1 E dX10_init_5 ?_
  refine n_putR E fk_RX10_9 rfl hnm rfl ⟨rfl, rfl⟩ (by decide) (sC_72 false) rfl dX10_init_6 ?_
  refine n_aload_0 E dX10_init_9 ?_
  refine n_aload_2 E dX10_init_10 ?_
  refine n_putR E fk_RX10_15 rfl hnm rfl ⟨rfl, rfl⟩ (by decide) (sC_72 false) rfl dX10_init_11 ?_
  refine n_aload_0 E dX10_init_14 ?_
  refine n_aload_3 E dX10_init_15 ?_
  refine n_putR E fk_RX10_19 rfl hnm rfl ⟨rfl, rfl⟩ (by decide) (sC_72 false) rfl dX10_init_16 ?_
  refine n_aload_0 E dX10_init_19 ?_
  refine n_sipush E (by decide) dX10_init_20 ?_
  refine n_new_int (n := 2560) (slots' := 2560) (cells' := 1) (N' := 74) E (sC_73 false) (fun j => z73 j) (by decide) (Nat.le_of_ble_eq_true rfl) (Nat.le_of_ble_eq_true rfl) dX10_init_23 rfl rfl rfl ?_
  refine n_putR E fk_RX10_23 rfl hnm rfl ⟨rfl, rfl⟩ (by decide) (sC_72 false) rfl dX10_init_25 ?_
  refine n_aload_0 E dX10_init_28 ?_
  refine n_sipush E (by decide) dX10_init_29 ?_
  refine n_new_int (n := 2560) (slots' := 5120) (cells' := 2) (N' := 75) E (sC_74 false) (fun j => z74 j) (by decide) (Nat.le_of_ble_eq_true rfl) (Nat.le_of_ble_eq_true rfl) dX10_init_32 rfl rfl rfl ?_
  refine n_putR E fk_RX10_27 rfl hnm rfl ⟨rfl, rfl⟩ (by decide) (sC_72 false) rfl dX10_init_34 ?_
  refine n_aload_0 E dX10_init_37 ?_
  refine n_sipush E (by decide) dX10_init_38 ?_
  refine n_new_int (n := 512) (slots' := 5632) (cells' := 3) (N' := 76) E (sC_75 false) (fun j => z75 j) (by decide) (Nat.le_of_ble_eq_true rfl) (Nat.le_of_ble_eq_true rfl) dX10_init_41 rfl rfl rfl ?_
  refine n_putR E fk_RX10_30 rfl hnm rfl ⟨rfl, rfl⟩ (by decide) (sC_72 false) rfl dX10_init_43 ?_
  exact n_vret E hr rfl dX10_init_46
theorem fk_RX11_89 : FLk RX11 89 11 RX11 TX11 16 tyX11 13 := ⟨cls_11, by decide, rfl, tg (tb_3 (List.mem_of_getElem? (i := 113) rfl)) rfl⟩
theorem ck_RX11_92 : Cond.classLink RX11 92 RX8 ∈ gtbl := tg (tb_3 (List.mem_of_getElem? (i := 31) rfl)) rfl
theorem ik_X8 : Cond.instantiable RX8 7 ∈ gtbl := tg (tb_3 (List.mem_of_getElem? (i := 32) rfl)) rfl
theorem nk_X8 : Cond.initialized RX8 ∈ gtbl := tg (tb_1 (List.mem_of_getElem? (i := 11) rfl)) rfl
theorem mz_X8_init : MYk yX8_init cX8_init 4 none 3 := ⟨tg (tb_3 (List.mem_of_getElem? (i := 35) rfl)) rfl, tg (tb_1 (List.mem_of_getElem? (i := 11) rfl)) rfl, ⟨by decide, by decide⟩, by decide +kernel, plainFor_of_name (by decide +kernel)⟩
theorem mzi_X8_init : Cond.instanceMethod yX8_init ∈ gtbl := tg (tb_3 (List.mem_of_getElem? (i := 34) rfl)) rfl
theorem dX8_init_0 : Dc cX8_init 0 (.aload_n 0) 1 1 := ⟨by decide +kernel, rfl⟩
theorem dX8_init_1 : Dc cX8_init 1 (.invokespecial 3) 3 4 := ⟨by decide +kernel, rfl⟩
theorem dX8_init_4 : Dc cX8_init 4 (.aload_n 0) 1 5 := ⟨by decide +kernel, rfl⟩
theorem dX8_init_5 : Dc cX8_init 5 (.aload_n 1) 1 6 := ⟨by decide +kernel, rfl⟩
theorem dX8_init_6 : Dc cX8_init 6 (.putfield 9) 3 9 := ⟨by decide +kernel, rfl⟩
theorem dX8_init_9 : Dc cX8_init 9 (.aload_n 0) 1 10 := ⟨by decide +kernel, rfl⟩
theorem dX8_init_10 : Dc cX8_init 10 (.aload_n 2) 1 11 := ⟨by decide +kernel, rfl⟩
theorem dX8_init_11 : Dc cX8_init 11 (.putfield 15) 3 14 := ⟨by decide +kernel, rfl⟩
theorem dX8_init_14 : Dc cX8_init 14 (.aload_n 0) 1 15 := ⟨by decide +kernel, rfl⟩
theorem dX8_init_15 : Dc cX8_init 15 (.aload_n 3) 1 16 := ⟨by decide +kernel, rfl⟩
theorem dX8_init_16 : Dc cX8_init 16 (.putfield 19) 3 19 := ⟨by decide +kernel, rfl⟩
theorem dX8_init_19 : Dc cX8_init 19 (.aload_n 0) 1 20 := ⟨by decide +kernel, rfl⟩
theorem dX8_init_20 : Dc cX8_init 20 (.bipush 36) 2 22 := ⟨by decide +kernel, rfl⟩
theorem dX8_init_22 : Dc cX8_init 22 (.newarray .int) 2 24 := ⟨by decide +kernel, rfl⟩
theorem dX8_init_24 : Dc cX8_init 24 (.putfield 23) 3 27 := ⟨by decide +kernel, rfl⟩
theorem dX8_init_27 : Dc cX8_init 27 (.aload_n 0) 1 28 := ⟨by decide +kernel, rfl⟩
theorem dX8_init_28 : Dc cX8_init 28 (.sipush 432) 3 31 := ⟨by decide +kernel, rfl⟩
theorem dX8_init_31 : Dc cX8_init 31 (.newarray .int) 2 33 := ⟨by decide +kernel, rfl⟩
theorem dX8_init_33 : Dc cX8_init 33 (.putfield 27) 3 36 := ⟨by decide +kernel, rfl⟩
theorem dX8_init_36 : Dc cX8_init 36 (.aload_n 0) 1 37 := ⟨by decide +kernel, rfl⟩
theorem dX8_init_37 : Dc cX8_init 37 (.sipush 432) 3 40 := ⟨by decide +kernel, rfl⟩
theorem dX8_init_40 : Dc cX8_init 40 (.newarray .long) 2 42 := ⟨by decide +kernel, rfl⟩
theorem dX8_init_42 : Dc cX8_init 42 (.putfield 30) 3 45 := ⟨by decide +kernel, rfl⟩
theorem dX8_init_45 : Dc cX8_init 45 (.return_) 1 46 := ⟨by decide +kernel, rfl⟩
theorem mk_RX8_3 : Cond.methodLink RX8 3 objectInit ∈ gtbl := tg (tb_3 (List.mem_of_getElem? (i := 36) rfl)) rfl
theorem fk_RX8_9 : FLk RX8 9 8 RX8 TX8 7 tyX8 0 := ⟨cls_8, by decide, rfl, tg (tb_3 (List.mem_of_getElem? (i := 37) rfl)) rfl⟩
theorem fk_RX8_15 : FLk RX8 15 8 RX8 TX8 7 tyX8 1 := ⟨cls_8, by decide, rfl, tg (tb_3 (List.mem_of_getElem? (i := 38) rfl)) rfl⟩
theorem fk_RX8_19 : FLk RX8 19 8 RX8 TX8 7 tyX8 2 := ⟨cls_8, by decide, rfl, tg (tb_3 (List.mem_of_getElem? (i := 39) rfl)) rfl⟩
theorem fk_RX8_23 : FLk RX8 23 8 RX8 TX8 7 tyX8 3 := ⟨cls_8, by decide, rfl, tg (tb_3 (List.mem_of_getElem? (i := 40) rfl)) rfl⟩
theorem fk_RX8_27 : FLk RX8 27 8 RX8 TX8 7 tyX8 4 := ⟨cls_8, by decide, rfl, tg (tb_3 (List.mem_of_getElem? (i := 41) rfl)) rfl⟩
theorem fk_RX8_30 : FLk RX8 30 8 RX8 TX8 7 tyX8 5 := ⟨cls_8, by decide, rfl, tg (tb_3 (List.mem_of_getElem? (i := 42) rfl)) rfl⟩
def st_X8_init_76 (σ : St) : St := (upS (upS (upS (upS (upS (upS σ 76 0 1) 76 1 1) 76 2 1) 76 3 1) 76 4 1) 76 5 1)
set_option maxHeartbeats 4000000 in
set_option maxRecDepth 100000 in
theorem k_X8_init_76 {l : Launch} {D : va_G} {cA : Nat → ClassId} {ba : Nat} (σ : St) (z77 : ∀ j, σ 77 j = 0) (z78 : ∀ j, σ 78 j = 0) (z79 : ∀ j, σ 79 j = 0) : KtN l D cA ba (shC false) 77 80 900 yX8_init cX8_init 4 1 [.ref (ba + 76), .ref (ba + 14), .ref (ba + 24), .ref (ba + 36)] σ (fun σ1 => σ1 = st_X8_init_76 σ) := by
  refine KtN.of mz_X8_init [some (.ref (ba + 76)), some (.ref (ba + 14)), some (.ref (ba + 24)), some (.ref (ba + 36))] (Nat.le_of_ble_eq_true rfl) rfl (fun p e s m args below meth c E hr hnm => ?_)
  refine n_aload_0 E dX8_init_0 ?_
  refine n_objInit E mk_RX8_3 (Nat.le_of_ble_eq_true rfl) (by decide) dX8_init_1 ?_
  refine n_aload_0 E dX8_init_4 ?_
  refine n_aload_1 E dX8_init_5 ?_
  refine n_putR E fk_RX8_9 rfl hnm rfl ⟨rfl, rfl⟩ (by decide) sC_76f rfl dX8_init_6 ?_
  refine n_aload_0 E dX8_init_9 ?_
  refine n_aload_2 E dX8_init_10 ?_
  refine n_putR E fk_RX8_15 rfl hnm rfl ⟨rfl, rfl⟩ (by decide) sC_76f rfl dX8_init_11 ?_
  refine n_aload_0 E dX8_init_14 ?_
  refine n_aload_3 E dX8_init_15 ?_
  refine n_putR E fk_RX8_19 rfl hnm rfl ⟨rfl, rfl⟩ (by decide) sC_76f rfl dX8_init_16 ?_
  refine n_aload_0 E dX8_init_19 ?_
  refine n_bipush E (by decide) dX8_init_20 ?_
  refine n_new_int (n := 36) (slots' := 36) (cells' := 1) (N' := 78) E (sC_77 false) (fun j => z77 j) (by decide) (Nat.le_of_ble_eq_true rfl) (Nat.le_of_ble_eq_true rfl) dX8_init_22 rfl rfl rfl ?_
  refine n_putR E fk_RX8_23 rfl hnm rfl ⟨rfl, rfl⟩ (by decide) sC_76f rfl dX8_init_24 ?_
  refine n_aload_0 E dX8_init_27 ?_
  refine n_sipush E (by decide) dX8_init_28 ?_
  refine n_new_int (n := 432) (slots' := 468) (cells' := 2) (N' := 79) E (sC_78 false) (fun j => z78 j) (by decide) (Nat.le_of_ble_eq_true rfl) (Nat.le_of_ble_eq_true rfl) dX8_init_31 rfl rfl rfl ?_
  refine n_putR E fk_RX8_27 rfl hnm rfl ⟨rfl, rfl⟩ (by decide) sC_76f rfl dX8_init_33 ?_
  refine n_aload_0 E dX8_init_36 ?_
  refine n_sipush E (by decide) dX8_init_37 ?_
  refine n_new_long (n := 432) (slots' := 900) (cells' := 3) (N' := 80) E (sC_79 false) (fun j => z79 j) (by decide) (Nat.le_of_ble_eq_true rfl) (Nat.le_of_ble_eq_true rfl) dX8_init_40 rfl rfl rfl ?_
  refine n_putR E fk_RX8_30 rfl hnm rfl ⟨rfl, rfl⟩ (by decide) sC_76f rfl dX8_init_42 ?_
  exact n_vret E hr rfl dX8_init_45
theorem mk_RX11_94 : Cond.methodLink RX11 94 yX8_init ∈ gtbl := tg (tb_3 (List.mem_of_getElem? (i := 33) rfl)) rfl
theorem fk_RX11_95 : FLk RX11 95 11 RX11 TX11 16 tyX11 14 := ⟨cls_11, by decide, rfl, tg (tb_3 (List.mem_of_getElem? (i := 114) rfl)) rfl⟩
theorem ck_RX11_99 : Cond.classLink RX11 99 RX5 ∈ gtbl := tg (tb_3 (List.mem_of_getElem? (i := 59) rfl)) rfl
theorem ik_X5 : Cond.instantiable RX5 10 ∈ gtbl := tg (tb_3 (List.mem_of_getElem? (i := 60) rfl)) rfl
theorem nk_X5 : Cond.initialized RX5 ∈ gtbl := tg (tb_1 (List.mem_of_getElem? (i := 12) rfl)) rfl
theorem mz_X5_init : MYk yX5_init cX5_init 4 none 3 := ⟨tg (tb_3 (List.mem_of_getElem? (i := 63) rfl)) rfl, tg (tb_1 (List.mem_of_getElem? (i := 12) rfl)) rfl, ⟨by decide, by decide⟩, by decide +kernel, plainFor_of_name (by decide +kernel)⟩
theorem mzi_X5_init : Cond.instanceMethod yX5_init ∈ gtbl := tg (tb_3 (List.mem_of_getElem? (i := 62) rfl)) rfl
theorem dX5_init_0 : Dc cX5_init 0 (.aload_n 0) 1 1 := ⟨by decide +kernel, rfl⟩
theorem dX5_init_1 : Dc cX5_init 1 (.invokespecial 3) 3 4 := ⟨by decide +kernel, rfl⟩
theorem dX5_init_4 : Dc cX5_init 4 (.aload_n 0) 1 5 := ⟨by decide +kernel, rfl⟩
theorem dX5_init_5 : Dc cX5_init 5 (.aload_n 1) 1 6 := ⟨by decide +kernel, rfl⟩
theorem dX5_init_6 : Dc cX5_init 6 (.putfield 9) 3 9 := ⟨by decide +kernel, rfl⟩
theorem dX5_init_9 : Dc cX5_init 9 (.aload_n 0) 1 10 := ⟨by decide +kernel, rfl⟩
theorem dX5_init_10 : Dc cX5_init 10 (.aload_n 2) 1 11 := ⟨by decide +kernel, rfl⟩
theorem dX5_init_11 : Dc cX5_init 11 (.putfield 15) 3 14 := ⟨by decide +kernel, rfl⟩
theorem dX5_init_14 : Dc cX5_init 14 (.aload_n 0) 1 15 := ⟨by decide +kernel, rfl⟩
theorem dX5_init_15 : Dc cX5_init 15 (.aload_n 3) 1 16 := ⟨by decide +kernel, rfl⟩
theorem dX5_init_16 : Dc cX5_init 16 (.putfield 19) 3 19 := ⟨by decide +kernel, rfl⟩
theorem dX5_init_19 : Dc cX5_init 19 (.aload_n 0) 1 20 := ⟨by decide +kernel, rfl⟩
theorem dX5_init_20 : Dc cX5_init 20 (.sipush 432) 3 23 := ⟨by decide +kernel, rfl⟩
theorem dX5_init_23 : Dc cX5_init 23 (.newarray .int) 2 25 := ⟨by decide +kernel, rfl⟩
theorem dX5_init_25 : Dc cX5_init 25 (.putfield 23) 3 28 := ⟨by decide +kernel, rfl⟩
theorem dX5_init_28 : Dc cX5_init 28 (.aload_n 0) 1 29 := ⟨by decide +kernel, rfl⟩
theorem dX5_init_29 : Dc cX5_init 29 (.sipush 208) 3 32 := ⟨by decide +kernel, rfl⟩
theorem dX5_init_32 : Dc cX5_init 32 (.newarray .int) 2 34 := ⟨by decide +kernel, rfl⟩
theorem dX5_init_34 : Dc cX5_init 34 (.putfield 27) 3 37 := ⟨by decide +kernel, rfl⟩
theorem dX5_init_37 : Dc cX5_init 37 (.return_) 1 38 := ⟨by decide +kernel, rfl⟩
theorem mk_RX5_3 : Cond.methodLink RX5 3 objectInit ∈ gtbl := tg (tb_3 (List.mem_of_getElem? (i := 64) rfl)) rfl
theorem fk_RX5_9 : FLk RX5 9 5 RX5 TX5 10 tyX5 0 := ⟨cls_5, by decide, rfl, tg (tb_3 (List.mem_of_getElem? (i := 65) rfl)) rfl⟩
theorem fk_RX5_15 : FLk RX5 15 5 RX5 TX5 10 tyX5 1 := ⟨cls_5, by decide, rfl, tg (tb_3 (List.mem_of_getElem? (i := 66) rfl)) rfl⟩
theorem fk_RX5_19 : FLk RX5 19 5 RX5 TX5 10 tyX5 2 := ⟨cls_5, by decide, rfl, tg (tb_3 (List.mem_of_getElem? (i := 67) rfl)) rfl⟩
theorem fk_RX5_23 : FLk RX5 23 5 RX5 TX5 10 tyX5 3 := ⟨cls_5, by decide, rfl, tg (tb_3 (List.mem_of_getElem? (i := 68) rfl)) rfl⟩
theorem fk_RX5_27 : FLk RX5 27 5 RX5 TX5 10 tyX5 4 := ⟨cls_5, by decide, rfl, tg (tb_3 (List.mem_of_getElem? (i := 69) rfl)) rfl⟩
def st_X5_init_80 (σ : St) : St := (upS (upS (upS (upS (upS σ 80 0 1) 80 1 1) 80 2 1) 80 3 1) 80 4 1)
set_option maxHeartbeats 4000000 in
set_option maxRecDepth 100000 in
theorem k_X5_init_80 {l : Launch} {D : va_G} {cA : Nat → ClassId} {ba : Nat} (σ : St) (z81 : ∀ j, σ 81 j = 0) (z82 : ∀ j, σ 82 j = 0) : KtN l D cA ba (shC false) 81 83 640 yX5_init cX5_init 4 1 [.ref (ba + 80), .ref (ba + 14), .ref (ba + 24), .ref (ba + 36)] σ (fun σ1 => σ1 = st_X5_init_80 σ) := by
  refine KtN.of mz_X5_init [some (.ref (ba + 80)), some (.ref (ba + 14)), some (.ref (ba + 24)), some (.ref (ba + 36))] (Nat.le_of_ble_eq_true rfl) rfl (fun p e s m args below meth c E hr hnm => ?_)
  refine n_aload_0 E dX5_init_0 ?_
  refine n_objInit E mk_RX5_3 (Nat.le_of_ble_eq_true rfl) (by decide) dX5_init_1 ?_
  refine n_aload_0 E dX5_init_4 ?_
  refine n_aload_1 E dX5_init_5 ?_
  refine n_putR E fk_RX5_9 rfl hnm rfl ⟨rfl, rfl⟩ (by decide) (sC_80 false) rfl dX5_init_6 ?_
  refine n_aload_0 E dX5_init_9 ?_
  refine n_aload_2 E dX5_init_10 ?_
  refine n_putR E fk_RX5_15 rfl hnm rfl ⟨rfl, rfl⟩ (by decide) (sC_80 false) rfl dX5_init_11 ?_
  refine n_aload_0 E dX5_init_14 ?_
  refine n_aload_3 E dX5_init_15 ?_
  refine n_putR E fk_RX5_19 rfl hnm rfl ⟨rfl, rfl⟩ (by decide) (sC_80 false) rfl dX5_init_16 ?_
  refine n_aload_0 E dX5_init_19 ?_
  refine n_sipush E (by decide) dX5_init_20 ?_
  refine n_new_int (n := 432) (slots' := 432) (cells' := 1) (N' := 82) E (sC_81 false) (fun j => z81 j) (by decide) (Nat.le_of_ble_eq_true rfl) (Nat.le_of_ble_eq_true rfl) dX5_init_23 rfl rfl rfl ?_
  refine n_putR E fk_RX5_23 rfl hnm rfl ⟨rfl, rfl⟩ (by decide) (sC_80 false) rfl dX5_init_25 ?_
  refine n_aload_0 E dX5_init_28 ?_
  refine n_sipush E (by decide) dX5_init_29 ?_
  refine n_new_int (n := 208) (slots' := 640) (cells' := 2) (N' := 83) E (sC_82 false) (fun j => z82 j) (by decide) (Nat.le_of_ble_eq_true rfl) (Nat.le_of_ble_eq_true rfl) dX5_init_32 rfl rfl rfl ?_
  refine n_putR E fk_RX5_27 rfl hnm rfl ⟨rfl, rfl⟩ (by decide) (sC_80 false) rfl dX5_init_34 ?_
  exact n_vret E hr rfl dX5_init_37
theorem mk_RX11_101 : Cond.methodLink RX11 101 yX5_init ∈ gtbl := tg (tb_3 (List.mem_of_getElem? (i := 61) rfl)) rfl
theorem fk_RX11_102 : FLk RX11 102 11 RX11 TX11 16 tyX11 15 := ⟨cls_11, by decide, rfl, tg (tb_3 (List.mem_of_getElem? (i := 115) rfl)) rfl⟩
def st_X11_init_0 (σ : St) : St := (upS (st_X5_init_80 (upS (st_X8_init_76 (upS (st_X10_init_72 (upS (st_X10_init_68 (upS (st_X3_init_54 (upS (st_X9_init_50 (upS (st_X7_init_45 (upS (st_X2_init_41 (upS (st_X1_init_36 (upS (st_X0_init_24 (upS (st_X4_init_14 (upS (st_X6_init_3 (upS (upS σ 0 0 1) 0 2 1)) 0 4 1)) 0 5 1)) 0 6 1)) 0 7 1)) 0 8 1)) 0 9 1)) 0 10 1)) 0 11 1)) 0 12 1)) 0 13 1)) 0 14 1)) 0 15 1)
set_option maxHeartbeats 4000000 in
set_option maxRecDepth 100000 in
theorem k_X11_init_0 {l : Launch} {D : va_G} {cA : Nat → ClassId} {ba : Nat} (σ : St) (z1 : ∀ j, σ 1 j = 0) (z2 : ∀ j, σ 2 j = 0) (z3 : ∀ j, σ 3 j = 0) (z4 : ∀ j, σ 4 j = 0) (z5 : ∀ j, σ 5 j = 0) (z6 : ∀ j, σ 6 j = 0) (z7 : ∀ j, σ 7 j = 0) (z8 : ∀ j, σ 8 j = 0) (z9 : ∀ j, σ 9 j = 0) (z10 : ∀ j, σ 10 j = 0) (z11 : ∀ j, σ 11 j = 0) (z12 : ∀ j, σ 12 j = 0) (z13 : ∀ j, σ 13 j = 0) (z14 : ∀ j, σ 14 j = 0) (z15 : ∀ j, σ 15 j = 0) (z16 : ∀ j, σ 16 j = 0) (z17 : ∀ j, σ 17 j = 0) (z18 : ∀ j, σ 18 j = 0) (z19 : ∀ j, σ 19 j = 0) (z20 : ∀ j, σ 20 j = 0) (z21 : ∀ j, σ 21 j = 0) (z22 : ∀ j, σ 22 j = 0) (z23 : ∀ j, σ 23 j = 0) (z24 : ∀ j, σ 24 j = 0) (z25 : ∀ j, σ 25 j = 0) (z26 : ∀ j, σ 26 j = 0) (z27 : ∀ j, σ 27 j = 0) (z28 : ∀ j, σ 28 j = 0) (z29 : ∀ j, σ 29 j = 0) (z30 : ∀ j, σ 30 j = 0) (z31 : ∀ j, σ 31 j = 0) (z32 : ∀ j, σ 32 j = 0) (z33 : ∀ j, σ 33 j = 0) (z34 : ∀ j, σ 34 j = 0) (z35 : ∀ j, σ 35 j = 0) (z36 : ∀ j, σ 36 j = 0) (z37 : ∀ j, σ 37 j = 0) (z38 : ∀ j, σ 38 j = 0) (z39 : ∀ j, σ 39 j = 0) (z40 : ∀ j, σ 40 j = 0) (z41 : ∀ j, σ 41 j = 0) (z42 : ∀ j, σ 42 j = 0) (z43 : ∀ j, σ 43 j = 0) (z44 : ∀ j, σ 44 j = 0) (z45 : ∀ j, σ 45 j = 0) (z46 : ∀ j, σ 46 j = 0) (z47 : ∀ j, σ 47 j = 0) (z48 : ∀ j, σ 48 j = 0) (z49 : ∀ j, σ 49 j = 0) (z50 : ∀ j, σ 50 j = 0) (z51 : ∀ j, σ 51 j = 0) (z52 : ∀ j, σ 52 j = 0) (z53 : ∀ j, σ 53 j = 0) (z54 : ∀ j, σ 54 j = 0) (z55 : ∀ j, σ 55 j = 0) (z56 : ∀ j, σ 56 j = 0) (z57 : ∀ j, σ 57 j = 0) (z58 : ∀ j, σ 58 j = 0) (z59 : ∀ j, σ 59 j = 0) (z60 : ∀ j, σ 60 j = 0) (z61 : ∀ j, σ 61 j = 0) (z62 : ∀ j, σ 62 j = 0) (z63 : ∀ j, σ 63 j = 0) (z64 : ∀ j, σ 64 j = 0) (z65 : ∀ j, σ 65 j = 0) (z66 : ∀ j, σ 66 j = 0) (z67 : ∀ j, σ 67 j = 0) (z68 : ∀ j, σ 68 j = 0) (z69 : ∀ j, σ 69 j = 0) (z70 : ∀ j, σ 70 j = 0) (z71 : ∀ j, σ 71 j = 0) (z72 : ∀ j, σ 72 j = 0) (z73 : ∀ j, σ 73 j = 0) (z74 : ∀ j, σ 74 j = 0) (z75 : ∀ j, σ 75 j = 0) (z76 : ∀ j, σ 76 j = 0) (z77 : ∀ j, σ 77 j = 0) (z78 : ∀ j, σ 78 j = 0) (z79 : ∀ j, σ 79 j = 0) (z80 : ∀ j, σ 80 j = 0) (z81 : ∀ j, σ 81 j = 0) (z82 : ∀ j, σ 82 j = 0) : KtN l D cA ba (shC false) 1 83 64037 yX11_init cX11_init 1 4 [.ref (ba + 0)] σ (fun σ1 => σ1 = st_X11_init_0 σ) := by
  refine KtN.of mz_X11_init [some (.ref (ba + 0))] (Nat.le_of_ble_eq_true rfl) rfl (fun p e s m args below meth c E hr hnm => ?_)
  refine n_aload_0 E dX11_init_0 ?_
  refine n_objInit E mk_RX11_3 (Nat.le_of_ble_eq_true rfl) (by decide) dX11_init_1 ?_
  refine n_aload_0 E dX11_init_4 ?_
  refine n_sipush E (by decide) dX11_init_5 ?_
  refine n_new_int (n := 1000) (slots' := 1000) (cells' := 1) (N' := 2) E (sC_1 false) (fun j => z1 j) (by decide) (Nat.le_of_ble_eq_true rfl) (Nat.le_of_ble_eq_true rfl) dX11_init_8 rfl rfl rfl ?_
  refine n_putR E fk_RX11_9 rfl hnm rfl ⟨rfl, rfl⟩ (by decide) (sC_0 false) rfl dX11_init_10 ?_
  refine n_aload_0 E dX11_init_13 ?_
  refine n_sipush E (by decide) dX11_init_14 ?_
  refine n_new_int (n := 2048) (slots' := 3048) (cells' := 2) (N' := 3) E (sC_2 false) (fun j => z2 j) (by decide) (Nat.le_of_ble_eq_true rfl) (Nat.le_of_ble_eq_true rfl) dX11_init_17 rfl rfl rfl ?_
  refine n_putR E fk_RX11_13 rfl hnm rfl ⟨rfl, rfl⟩ (by decide) (sC_0 false) rfl dX11_init_19 ?_
  refine n_aload_0 E dX11_init_22 ?_
  refine n_new (slots' := 3057) (cells' := 3) (N' := 4) E cls_6 ck_RX11_16 ik_X6 nk_X6 (sC_3 false) (fun j => z3 j) (by decide) (Nat.le_of_ble_eq_true rfl) (Nat.le_of_ble_eq_true rfl) dX11_init_23 rfl rfl rfl ?_
  refine n_dup E rfl dX11_init_26 ?_
  refine n_aload_0 E dX11_init_27 ?_
  refine n_getR E fk_RX11_9 (by decide) (sC_0 false) rfl rfl dX11_init_28 ?_
  refine n_callI (N1 := 14) (ms := 315) (cells' := 13) (slots' := 3372) E (fun q h => h) mz_X6_init mzi_X6_init rfl mk_RX11_18 (rm_ok (by decide) (by decide)) (by decide) (k_X6_init_3 _ (fun j => z4 j) (fun j => z5 j) (fun j => z6 j) (fun j => z7 j) (fun j => z8 j) (fun j => z9 j) (fun j => z10 j) (fun j => z11 j) (fun j => z12 j) (fun j => z13 j)) rfl rfl (Nat.le_of_ble_eq_true rfl) dX11_init_31 rfl rfl (fun σ1 h1 => ?_)
  subst h1
  refine n_putR E fk_RX11_21 rfl hnm rfl ⟨rfl, rfl⟩ (by decide) (sC_0 false) rfl dX11_init_34 ?_
  refine n_aload_0 E dX11_init_37 ?_
  refine n_new (slots' := 3385) (cells' := 14) (N' := 15) E cls_4 ck_RX11_25 ik_X4 nk_X4 (sC_14 false) (fun j => z14 j) (by decide) (Nat.le_of_ble_eq_true rfl) (Nat.le_of_ble_eq_true rfl) dX11_init_38 rfl rfl rfl ?_
  refine n_dup E rfl dX11_init_41 ?_
  refine n_callI (N1 := 24) (ms := 302) (cells' := 23) (slots' := 3687) E (fun q h => h) mz_X4_init mzi_X4_init rfl mk_RX11_27 (rm_ok (by decide) (by decide)) (by decide) (k_X4_init_14 _ (fun j => z15 j) (fun j => z16 j) (fun j => z17 j) (fun j => z18 j) (fun j => z19 j) (fun j => z20 j) (fun j => z21 j) (fun j => z22 j) (fun j => z23 j)) rfl rfl (Nat.le_of_ble_eq_true rfl) dX11_init_42 rfl rfl (fun σ1 h1 => ?_)
  subst h1
  refine n_putR E fk_RX11_28 rfl hnm rfl ⟨rfl, rfl⟩ (by decide) (sC_0 false) rfl dX11_init_45 ?_
  refine n_aload_0 E dX11_init_48 ?_
  refine n_new (slots' := 3705) (cells' := 24) (N' := 25) E cls_0 ck_RX11_32 ik_X0 nk_X0 (sC_24 false) (fun j => z24 j) (by decide) (Nat.le_of_ble_eq_true rfl) (Nat.le_of_ble_eq_true rfl) dX11_init_49 rfl rfl rfl ?_
  refine n_dup E rfl dX11_init_52 ?_
  refine n_aload_0 E dX11_init_53 ?_
  refine n_getR E fk_RX11_28 (by decide) (sC_0 false) rfl rfl dX11_init_54 ?_
  refine n_callI (N1 := 36) (ms := 14114) (cells' := 35) (slots' := 17819) E (fun q h => h) mz_X0_init mzi_X0_init rfl mk_RX11_34 (rm_ok (by decide) (by decide)) (by decide) (k_X0_init_24 _ (fun j => z25 j) (fun j => z26 j) (fun j => z27 j) (fun j => z28 j) (fun j => z29 j) (fun j => z30 j) (fun j => z31 j) (fun j => z32 j) (fun j => z33 j) (fun j => z34 j) (fun j => z35 j)) rfl rfl (Nat.le_of_ble_eq_true rfl) dX11_init_57 rfl rfl (fun σ1 h1 => ?_)
  subst h1
  refine n_putR E fk_RX11_37 rfl hnm rfl ⟨rfl, rfl⟩ (by decide) (sC_0 false) rfl dX11_init_60 ?_
  refine n_aload_0 E dX11_init_63 ?_
  refine n_new (slots' := 17829) (cells' := 36) (N' := 37) E cls_1 ck_RX11_41 ik_X1 nk_X1 (sC_36 false) (fun j => z36 j) (by decide) (Nat.le_of_ble_eq_true rfl) (Nat.le_of_ble_eq_true rfl) dX11_init_64 rfl rfl rfl ?_
  refine n_dup E rfl dX11_init_67 ?_
  refine n_aload_0 E dX11_init_68 ?_
  refine n_getR E fk_RX11_28 (by decide) (sC_0 false) rfl rfl dX11_init_69 ?_
  refine n_aload_0 E dX11_init_72 ?_
  refine n_getR E fk_RX11_37 (by decide) (sC_0 false) rfl rfl dX11_init_73 ?_
  refine n_callI (N1 := 41) (ms := 1728) (cells' := 40) (slots' := 19557) E (fun q h => h) mz_X1_init mzi_X1_init rfl mk_RX11_43 (rm_ok (by decide) (by decide)) (by decide) (k_X1_init_36 _ (fun j => z37 j) (fun j => z38 j) (fun j => z39 j) (fun j => z40 j)) rfl rfl (Nat.le_of_ble_eq_true rfl) dX11_init_76 rfl rfl (fun σ1 h1 => ?_)
  subst h1
  refine n_putR E fk_RX11_46 rfl hnm rfl ⟨rfl, rfl⟩ (by decide) (sC_0 false) rfl dX11_init_79 ?_
  refine n_aload_0 E dX11_init_82 ?_
  refine n_new (slots' := 19566) (cells' := 41) (N' := 42) E cls_2 ck_RX11_50 ik_X2 nk_X2 (sC_41 false) (fun j => z41 j) (by decide) (Nat.le_of_ble_eq_true rfl) (Nat.le_of_ble_eq_true rfl) dX11_init_83 rfl rfl rfl ?_
  refine n_dup E rfl dX11_init_86 ?_
  refine n_aload_0 E dX11_init_87 ?_
  refine n_getR E fk_RX11_28 (by decide) (sC_0 false) rfl rfl dX11_init_88 ?_
  refine n_aload_0 E dX11_init_91 ?_
  refine n_getR E fk_RX11_37 (by decide) (sC_0 false) rfl rfl dX11_init_92 ?_
  refine n_aload_0 E dX11_init_95 ?_
  refine n_getR E fk_RX11_46 (by decide) (sC_0 false) rfl rfl dX11_init_96 ?_
  refine n_callI (N1 := 45) (ms := 1296) (cells' := 44) (slots' := 20862) E (fun q h => h) mz_X2_init mzi_X2_init rfl mk_RX11_52 (rm_ok (by decide) (by decide)) (by decide) (k_X2_init_41 _ (fun j => z42 j) (fun j => z43 j) (fun j => z44 j)) rfl rfl (Nat.le_of_ble_eq_true rfl) dX11_init_99 rfl rfl (fun σ1 h1 => ?_)
  subst h1
  refine n_putR E fk_RX11_55 rfl hnm rfl ⟨rfl, rfl⟩ (by decide) (sC_0 false) rfl dX11_init_102 ?_
  refine n_aload_0 E dX11_init_105 ?_
  refine n_new (slots' := 20870) (cells' := 45) (N' := 46) E cls_7 ck_RX11_59 ik_X7 nk_X7 (sC_45 false) (fun j => z45 j) (by decide) (Nat.le_of_ble_eq_true rfl) (Nat.le_of_ble_eq_true rfl) dX11_init_106 rfl rfl rfl ?_
  refine n_dup E rfl dX11_init_109 ?_
  refine n_aload_0 E dX11_init_110 ?_
  refine n_getR E fk_RX11_28 (by decide) (sC_0 false) rfl rfl dX11_init_111 ?_
  refine n_aload_0 E dX11_init_114 ?_
  refine n_getR E fk_RX11_37 (by decide) (sC_0 false) rfl rfl dX11_init_115 ?_
  refine n_aload_0 E dX11_init_118 ?_
  refine n_getR E fk_RX11_46 (by decide) (sC_0 false) rfl rfl dX11_init_119 ?_
  refine n_callI (N1 := 50) (ms := 636) (cells' := 49) (slots' := 21506) E (fun q h => h) mz_X7_init mzi_X7_init rfl mk_RX11_61 (rm_ok (by decide) (by decide)) (by decide) (k_X7_init_45 _ (fun j => z46 j) (fun j => z47 j) (fun j => z48 j) (fun j => z49 j)) rfl rfl (Nat.le_of_ble_eq_true rfl) dX11_init_122 rfl rfl (fun σ1 h1 => ?_)
  subst h1
  refine n_putR E fk_RX11_62 rfl hnm rfl ⟨rfl, rfl⟩ (by decide) (sC_0 false) rfl dX11_init_125 ?_
  refine n_aload_0 E dX11_init_128 ?_
  refine n_new (slots' := 21513) (cells' := 50) (N' := 51) E cls_9 ck_RX11_66 ik_X9 nk_X9 (sC_50 false) (fun j => z50 j) (by decide) (Nat.le_of_ble_eq_true rfl) (Nat.le_of_ble_eq_true rfl) dX11_init_129 rfl rfl rfl ?_
  refine n_dup E rfl dX11_init_132 ?_
  refine n_aload_0 E dX11_init_133 ?_
  refine n_getR E fk_RX11_28 (by decide) (sC_0 false) rfl rfl dX11_init_134 ?_
  refine n_aload_0 E dX11_init_137 ?_
  refine n_getR E fk_RX11_37 (by decide) (sC_0 false) rfl rfl dX11_init_138 ?_
  refine n_callI (N1 := 54) (ms := 869) (cells' := 53) (slots' := 22382) E (fun q h => h) mz_X9_init mzi_X9_init rfl mk_RX11_68 (rm_ok (by decide) (by decide)) (by decide) (k_X9_init_50 _ (fun j => z51 j) (fun j => z52 j) (fun j => z53 j)) rfl rfl (Nat.le_of_ble_eq_true rfl) dX11_init_141 rfl rfl (fun σ1 h1 => ?_)
  subst h1
  refine n_putR E fk_RX11_69 rfl hnm rfl ⟨rfl, rfl⟩ (by decide) (sC_0 false) rfl dX11_init_144 ?_
  refine n_aload_0 E dX11_init_147 ?_
  refine n_new (slots' := 22400) (cells' := 54) (N' := 55) E cls_3 ck_RX11_73 ik_X3 nk_X3 (sC_54 false) (fun j => z54 j) (by decide) (Nat.le_of_ble_eq_true rfl) (Nat.le_of_ble_eq_true rfl) dX11_init_148 rfl rfl rfl ?_
  refine n_dup E rfl dX11_init_151 ?_
  refine n_aload_0 E dX11_init_152 ?_
  refine n_getR E fk_RX11_28 (by decide) (sC_0 false) rfl rfl dX11_init_153 ?_
  refine n_aload_0 E dX11_init_156 ?_
  refine n_getR E fk_RX11_37 (by decide) (sC_0 false) rfl rfl dX11_init_157 ?_
  refine n_aload_0 E dX11_init_160 ?_
  refine n_getR E fk_RX11_46 (by decide) (sC_0 false) rfl rfl dX11_init_161 ?_
  refine n_callI (N1 := 68) (ms := 28796) (cells' := 67) (slots' := 51196) E (fun q h => h) mz_X3_init mzi_X3_init rfl mk_RX11_75 (rm_ok (by decide) (by decide)) (by decide) (k_X3_init_54 _ (fun j => z55 j) (fun j => z56 j) (fun j => z57 j) (fun j => z58 j) (fun j => z59 j) (fun j => z60 j) (fun j => z61 j) (fun j => z62 j) (fun j => z63 j) (fun j => z64 j) (fun j => z65 j) (fun j => z66 j) (fun j => z67 j)) rfl rfl (Nat.le_of_ble_eq_true rfl) dX11_init_164 rfl rfl (fun σ1 h1 => ?_)
  subst h1
  refine n_putR E fk_RX11_76 rfl hnm rfl ⟨rfl, rfl⟩ (by decide) (sC_0 false) rfl dX11_init_167 ?_
  refine n_aload_0 E dX11_init_170 ?_
  refine n_new (slots' := 51206) (cells' := 68) (N' := 69) E cls_10 ck_RX11_80 ik_X10 nk_X10 (sC_68 false) (fun j => z68 j) (by decide) (Nat.le_of_ble_eq_true rfl) (Nat.le_of_ble_eq_true rfl) dX11_init_171 rfl rfl rfl ?_
  refine n_dup E rfl dX11_init_174 ?_
  refine n_aload_0 E dX11_init_175 ?_
  refine n_getR E fk_RX11_28 (by decide) (sC_0 false) rfl rfl dX11_init_176 ?_
  refine n_aload_0 E dX11_init_179 ?_
  refine n_getR E fk_RX11_37 (by decide) (sC_0 false) rfl rfl dX11_init_180 ?_
  refine n_aload_0 E dX11_init_183 ?_
  refine n_getR E fk_RX11_76 (by decide) (sC_0 false) rfl rfl dX11_init_184 ?_
  refine n_callI (N1 := 72) (ms := 5632) (cells' := 71) (slots' := 56838) E (fun q h => h) mz_X10_init mzi_X10_init rfl mk_RX11_82 (rm_ok (by decide) (by decide)) (by decide) (k_X10_init_68 _ (fun j => z69 j) (fun j => z70 j) (fun j => z71 j)) rfl rfl (Nat.le_of_ble_eq_true rfl) dX11_init_187 rfl rfl (fun σ1 h1 => ?_)
  subst h1
  refine n_putR E fk_RX11_85 rfl hnm rfl ⟨rfl, rfl⟩ (by decide) (sC_0 false) rfl dX11_init_190 ?_
  refine n_aload_0 E dX11_init_193 ?_
  refine n_new (slots' := 56848) (cells' := 72) (N' := 73) E cls_10 ck_RX11_80 ik_X10 nk_X10 (sC_72 false) (fun j => z72 j) (by decide) (Nat.le_of_ble_eq_true rfl) (Nat.le_of_ble_eq_true rfl) dX11_init_194 rfl rfl rfl ?_
  refine n_dup E rfl dX11_init_197 ?_
  refine n_aload_0 E dX11_init_198 ?_
  refine n_getR E fk_RX11_28 (by decide) (sC_0 false) rfl rfl dX11_init_199 ?_
  refine n_aload_0 E dX11_init_202 ?_
  refine n_getR E fk_RX11_37 (by decide) (sC_0 false) rfl rfl dX11_init_203 ?_
  refine n_aload_0 E dX11_init_206 ?_
  refine n_getR E fk_RX11_76 (by decide) (sC_0 false) rfl rfl dX11_init_207 ?_
  refine n_callI (N1 := 76) (ms := 5632) (cells' := 75) (slots' := 62480) E (fun q h => h) mz_X10_init mzi_X10_init rfl mk_RX11_82 (rm_ok (by decide) (by decide)) (by decide) (k_X10_init_72 _ (fun j => z73 j) (fun j => z74 j) (fun j => z75 j)) rfl rfl (Nat.le_of_ble_eq_true rfl) dX11_init_210 rfl rfl (fun σ1 h1 => ?_)
  subst h1
  refine n_putR E fk_RX11_89 rfl hnm rfl ⟨rfl, rfl⟩ (by decide) (sC_0 false) rfl dX11_init_213 ?_
  refine n_aload_0 E dX11_init_216 ?_
  refine n_new (slots' := 62487) (cells' := 76) (N' := 77) E cls_8 ck_RX11_92 ik_X8 nk_X8 sC_76f (fun j => z76 j) (by decide) (Nat.le_of_ble_eq_true rfl) (Nat.le_of_ble_eq_true rfl) dX11_init_217 rfl rfl rfl ?_
  refine n_dup E rfl dX11_init_220 ?_
  refine n_aload_0 E dX11_init_221 ?_
  refine n_getR E fk_RX11_28 (by decide) (sC_0 false) rfl rfl dX11_init_222 ?_
  refine n_aload_0 E dX11_init_225 ?_
  refine n_getR E fk_RX11_37 (by decide) (sC_0 false) rfl rfl dX11_init_226 ?_
  refine n_aload_0 E dX11_init_229 ?_
  refine n_getR E fk_RX11_46 (by decide) (sC_0 false) rfl rfl dX11_init_230 ?_
  refine n_callI (N1 := 80) (ms := 900) (cells' := 79) (slots' := 63387) E (fun q h => h) mz_X8_init mzi_X8_init rfl mk_RX11_94 (rm_ok (by decide) (by decide)) (by decide) (k_X8_init_76 _ (fun j => z77 j) (fun j => z78 j) (fun j => z79 j)) rfl rfl (Nat.le_of_ble_eq_true rfl) dX11_init_233 rfl rfl (fun σ1 h1 => ?_)
  subst h1
  refine n_putR E fk_RX11_95 rfl hnm rfl ⟨rfl, rfl⟩ (by decide) (sC_0 false) rfl dX11_init_236 ?_
  refine n_aload_0 E dX11_init_239 ?_
  refine n_new (slots' := 63397) (cells' := 80) (N' := 81) E cls_5 ck_RX11_99 ik_X5 nk_X5 (sC_80 false) (fun j => z80 j) (by decide) (Nat.le_of_ble_eq_true rfl) (Nat.le_of_ble_eq_true rfl) dX11_init_240 rfl rfl rfl ?_
  refine n_dup E rfl dX11_init_243 ?_
  refine n_aload_0 E dX11_init_244 ?_
  refine n_getR E fk_RX11_28 (by decide) (sC_0 false) rfl rfl dX11_init_245 ?_
  refine n_aload_0 E dX11_init_248 ?_
  refine n_getR E fk_RX11_37 (by decide) (sC_0 false) rfl rfl dX11_init_249 ?_
  refine n_aload_0 E dX11_init_252 ?_
  refine n_getR E fk_RX11_46 (by decide) (sC_0 false) rfl rfl dX11_init_253 ?_
  refine n_callI (N1 := 83) (ms := 640) (cells' := 82) (slots' := 64037) E (fun q h => h) mz_X5_init mzi_X5_init rfl mk_RX11_101 (rm_ok (by decide) (by decide)) (by decide) (k_X5_init_80 _ (fun j => z81 j) (fun j => z82 j)) rfl rfl (Nat.le_of_ble_eq_true rfl) dX11_init_256 rfl rfl (fun σ1 h1 => ?_)
  subst h1
  refine n_putR E fk_RX11_102 rfl hnm rfl ⟨rfl, rfl⟩ (by decide) (sC_0 false) rfl dX11_init_259 ?_
  exact n_vret E hr rfl dX11_init_262
theorem mz_X12_init : MYk yX12_init cX12_init 1 none 0 := ⟨tg (tb_7 (List.mem_of_getElem? (i := 64) rfl)) rfl, tg (tb_1 (List.mem_of_getElem? (i := 13) rfl)) rfl, ⟨by decide, by decide⟩, by decide +kernel, plainFor_of_name (by decide +kernel)⟩
theorem mzi_X12_init : Cond.instanceMethod yX12_init ∈ gtbl := tg (tb_7 (List.mem_of_getElem? (i := 63) rfl)) rfl
theorem dX12_init_0 : Dc cX12_init 0 (.aload_n 0) 1 1 := ⟨by decide +kernel, rfl⟩
theorem dX12_init_1 : Dc cX12_init 1 (.invokespecial 7) 3 4 := ⟨by decide +kernel, rfl⟩
theorem dX12_init_4 : Dc cX12_init 4 (.aload_n 0) 1 5 := ⟨by decide +kernel, rfl⟩
theorem dX12_init_5 : Dc cX12_init 5 (.bipush 80) 2 7 := ⟨by decide +kernel, rfl⟩
theorem dX12_init_7 : Dc cX12_init 7 (.newarray .int) 2 9 := ⟨by decide +kernel, rfl⟩
theorem dX12_init_9 : Dc cX12_init 9 (.putfield 13) 3 12 := ⟨by decide +kernel, rfl⟩
theorem dX12_init_12 : Dc cX12_init 12 (.aload_n 0) 1 13 := ⟨by decide +kernel, rfl⟩
theorem dX12_init_13 : Dc cX12_init 13 (.bipush 80) 2 15 := ⟨by decide +kernel, rfl⟩
theorem dX12_init_15 : Dc cX12_init 15 (.newarray .int) 2 17 := ⟨by decide +kernel, rfl⟩
theorem dX12_init_17 : Dc cX12_init 17 (.putfield 17) 3 20 := ⟨by decide +kernel, rfl⟩
theorem dX12_init_20 : Dc cX12_init 20 (.aload_n 0) 1 21 := ⟨by decide +kernel, rfl⟩
theorem dX12_init_21 : Dc cX12_init 21 (.bipush 80) 2 23 := ⟨by decide +kernel, rfl⟩
theorem dX12_init_23 : Dc cX12_init 23 (.newarray .int) 2 25 := ⟨by decide +kernel, rfl⟩
theorem dX12_init_25 : Dc cX12_init 25 (.putfield 20) 3 28 := ⟨by decide +kernel, rfl⟩
theorem dX12_init_28 : Dc cX12_init 28 (.aload_n 0) 1 29 := ⟨by decide +kernel, rfl⟩
theorem dX12_init_29 : Dc cX12_init 29 (.bipush 80) 2 31 := ⟨by decide +kernel, rfl⟩
theorem dX12_init_31 : Dc cX12_init 31 (.newarray .int) 2 33 := ⟨by decide +kernel, rfl⟩
theorem dX12_init_33 : Dc cX12_init 33 (.putfield 23) 3 36 := ⟨by decide +kernel, rfl⟩
theorem dX12_init_36 : Dc cX12_init 36 (.aload_n 0) 1 37 := ⟨by decide +kernel, rfl⟩
theorem dX12_init_37 : Dc cX12_init 37 (.bipush 80) 2 39 := ⟨by decide +kernel, rfl⟩
theorem dX12_init_39 : Dc cX12_init 39 (.newarray .int) 2 41 := ⟨by decide +kernel, rfl⟩
theorem dX12_init_41 : Dc cX12_init 41 (.putfield 26) 3 44 := ⟨by decide +kernel, rfl⟩
theorem dX12_init_44 : Dc cX12_init 44 (.aload_n 0) 1 45 := ⟨by decide +kernel, rfl⟩
theorem dX12_init_45 : Dc cX12_init 45 (.iconst 2) 1 46 := ⟨by decide +kernel, rfl⟩
theorem dX12_init_46 : Dc cX12_init 46 (.newarray .int) 2 48 := ⟨by decide +kernel, rfl⟩
theorem dX12_init_48 : Dc cX12_init 48 (.dup) 1 49 := ⟨by decide +kernel, rfl⟩
theorem dX12_init_49 : Dc cX12_init 49 (.iconst 0) 1 50 := ⟨by decide +kernel, rfl⟩
theorem dX12_init_50 : Dc cX12_init 50 (.iconst 2) 1 51 := ⟨by decide +kernel, rfl⟩
theorem dX12_init_51 : Dc cX12_init 51 (.iastore) 1 52 := ⟨by decide +kernel, rfl⟩
theorem dX12_init_52 : Dc cX12_init 52 (.dup) 1 53 := ⟨by decide +kernel, rfl⟩
theorem dX12_init_53 : Dc cX12_init 53 (.iconst 1) 1 54 := ⟨by decide +kernel, rfl⟩
theorem dX12_init_54 : Dc cX12_init 54 (.iconst 2) 1 55 := ⟨by decide +kernel, rfl⟩
theorem dX12_init_55 : Dc cX12_init 55 (.iastore) 1 56 := ⟨by decide +kernel, rfl⟩
theorem dX12_init_56 : Dc cX12_init 56 (.putfield 29) 3 59 := ⟨by decide +kernel, rfl⟩
theorem dX12_init_59 : Dc cX12_init 59 (.aload_n 0) 1 60 := ⟨by decide +kernel, rfl⟩
theorem dX12_init_60 : Dc cX12_init 60 (.iconst 2) 1 61 := ⟨by decide +kernel, rfl⟩
theorem dX12_init_61 : Dc cX12_init 61 (.newarray .int) 2 63 := ⟨by decide +kernel, rfl⟩
theorem dX12_init_63 : Dc cX12_init 63 (.dup) 1 64 := ⟨by decide +kernel, rfl⟩
theorem dX12_init_64 : Dc cX12_init 64 (.iconst 0) 1 65 := ⟨by decide +kernel, rfl⟩
theorem dX12_init_65 : Dc cX12_init 65 (.iconst 0) 1 66 := ⟨by decide +kernel, rfl⟩
theorem dX12_init_66 : Dc cX12_init 66 (.iastore) 1 67 := ⟨by decide +kernel, rfl⟩
theorem dX12_init_67 : Dc cX12_init 67 (.dup) 1 68 := ⟨by decide +kernel, rfl⟩
theorem dX12_init_68 : Dc cX12_init 68 (.iconst 1) 1 69 := ⟨by decide +kernel, rfl⟩
theorem dX12_init_69 : Dc cX12_init 69 (.iconst 0) 1 70 := ⟨by decide +kernel, rfl⟩
theorem dX12_init_70 : Dc cX12_init 70 (.iastore) 1 71 := ⟨by decide +kernel, rfl⟩
theorem dX12_init_71 : Dc cX12_init 71 (.putfield 32) 3 74 := ⟨by decide +kernel, rfl⟩
theorem dX12_init_74 : Dc cX12_init 74 (.aload_n 0) 1 75 := ⟨by decide +kernel, rfl⟩
theorem dX12_init_75 : Dc cX12_init 75 (.iconst 2) 1 76 := ⟨by decide +kernel, rfl⟩
theorem dX12_init_76 : Dc cX12_init 76 (.newarray .int) 2 78 := ⟨by decide +kernel, rfl⟩
theorem dX12_init_78 : Dc cX12_init 78 (.dup) 1 79 := ⟨by decide +kernel, rfl⟩
theorem dX12_init_79 : Dc cX12_init 79 (.iconst 0) 1 80 := ⟨by decide +kernel, rfl⟩
theorem dX12_init_80 : Dc cX12_init 80 (.iconst 1) 1 81 := ⟨by decide +kernel, rfl⟩
theorem dX12_init_81 : Dc cX12_init 81 (.iastore) 1 82 := ⟨by decide +kernel, rfl⟩
theorem dX12_init_82 : Dc cX12_init 82 (.dup) 1 83 := ⟨by decide +kernel, rfl⟩
theorem dX12_init_83 : Dc cX12_init 83 (.iconst 1) 1 84 := ⟨by decide +kernel, rfl⟩
theorem dX12_init_84 : Dc cX12_init 84 (.iconst 1) 1 85 := ⟨by decide +kernel, rfl⟩
theorem dX12_init_85 : Dc cX12_init 85 (.iastore) 1 86 := ⟨by decide +kernel, rfl⟩
theorem dX12_init_86 : Dc cX12_init 86 (.putfield 35) 3 89 := ⟨by decide +kernel, rfl⟩
theorem dX12_init_89 : Dc cX12_init 89 (.aload_n 0) 1 90 := ⟨by decide +kernel, rfl⟩
theorem dX12_init_90 : Dc cX12_init 90 (.bipush 50) 2 92 := ⟨by decide +kernel, rfl⟩
theorem dX12_init_92 : Dc cX12_init 92 (.newarray .int) 2 94 := ⟨by decide +kernel, rfl⟩
theorem dX12_init_94 : Dc cX12_init 94 (.putfield 38) 3 97 := ⟨by decide +kernel, rfl⟩
theorem dX12_init_97 : Dc cX12_init 97 (.aload_n 0) 1 98 := ⟨by decide +kernel, rfl⟩
theorem dX12_init_98 : Dc cX12_init 98 (.bipush 50) 2 100 := ⟨by decide +kernel, rfl⟩
theorem dX12_init_100 : Dc cX12_init 100 (.newarray .int) 2 102 := ⟨by decide +kernel, rfl⟩
theorem dX12_init_102 : Dc cX12_init 102 (.putfield 41) 3 105 := ⟨by decide +kernel, rfl⟩
theorem dX12_init_105 : Dc cX12_init 105 (.aload_n 0) 1 106 := ⟨by decide +kernel, rfl⟩
theorem dX12_init_106 : Dc cX12_init 106 (.bipush 8) 2 108 := ⟨by decide +kernel, rfl⟩
theorem dX12_init_108 : Dc cX12_init 108 (.newarray .int) 2 110 := ⟨by decide +kernel, rfl⟩
theorem dX12_init_110 : Dc cX12_init 110 (.putfield 44) 3 113 := ⟨by decide +kernel, rfl⟩
theorem dX12_init_113 : Dc cX12_init 113 (.aload_n 0) 1 114 := ⟨by decide +kernel, rfl⟩
theorem dX12_init_114 : Dc cX12_init 114 (.sipush 1000) 3 117 := ⟨by decide +kernel, rfl⟩
theorem dX12_init_117 : Dc cX12_init 117 (.newarray .byte) 2 119 := ⟨by decide +kernel, rfl⟩
theorem dX12_init_119 : Dc cX12_init 119 (.putfield 47) 3 122 := ⟨by decide +kernel, rfl⟩
theorem dX12_init_122 : Dc cX12_init 122 (.aload_n 0) 1 123 := ⟨by decide +kernel, rfl⟩
theorem dX12_init_123 : Dc cX12_init 123 (.iconst 5) 1 124 := ⟨by decide +kernel, rfl⟩
theorem dX12_init_124 : Dc cX12_init 124 (.newarray .int) 2 126 := ⟨by decide +kernel, rfl⟩
theorem dX12_init_126 : Dc cX12_init 126 (.putfield 51) 3 129 := ⟨by decide +kernel, rfl⟩
theorem dX12_init_129 : Dc cX12_init 129 (.aload_n 0) 1 130 := ⟨by decide +kernel, rfl⟩
theorem dX12_init_130 : Dc cX12_init 130 (.iconst (-1)) 1 131 := ⟨by decide +kernel, rfl⟩
theorem dX12_init_131 : Dc cX12_init 131 (.putfield 54) 3 134 := ⟨by decide +kernel, rfl⟩
theorem dX12_init_134 : Dc cX12_init 134 (.aload_n 0) 1 135 := ⟨by decide +kernel, rfl⟩
theorem dX12_init_135 : Dc cX12_init 135 (.bipush 8) 2 137 := ⟨by decide +kernel, rfl⟩
theorem dX12_init_137 : Dc cX12_init 137 (.newarray .int) 2 139 := ⟨by decide +kernel, rfl⟩
theorem dX12_init_139 : Dc cX12_init 139 (.putfield 57) 3 142 := ⟨by decide +kernel, rfl⟩
theorem dX12_init_142 : Dc cX12_init 142 (.aload_n 0) 1 143 := ⟨by decide +kernel, rfl⟩
theorem dX12_init_143 : Dc cX12_init 143 (.sipush 768) 3 146 := ⟨by decide +kernel, rfl⟩
theorem dX12_init_146 : Dc cX12_init 146 (.newarray .int) 2 148 := ⟨by decide +kernel, rfl⟩
theorem dX12_init_148 : Dc cX12_init 148 (.putfield 60) 3 151 := ⟨by decide +kernel, rfl⟩
theorem dX12_init_151 : Dc cX12_init 151 (.aload_n 0) 1 152 := ⟨by decide +kernel, rfl⟩
theorem dX12_init_152 : Dc cX12_init 152 (.sipush 768) 3 155 := ⟨by decide +kernel, rfl⟩
theorem dX12_init_155 : Dc cX12_init 155 (.newarray .boolean) 2 157 := ⟨by decide +kernel, rfl⟩
theorem dX12_init_157 : Dc cX12_init 157 (.putfield 63) 3 160 := ⟨by decide +kernel, rfl⟩
theorem dX12_init_160 : Dc cX12_init 160 (.aload_n 0) 1 161 := ⟨by decide +kernel, rfl⟩
theorem dX12_init_161 : Dc cX12_init 161 (.sipush 768) 3 164 := ⟨by decide +kernel, rfl⟩
theorem dX12_init_164 : Dc cX12_init 164 (.newarray .boolean) 2 166 := ⟨by decide +kernel, rfl⟩
theorem dX12_init_166 : Dc cX12_init 166 (.putfield 67) 3 169 := ⟨by decide +kernel, rfl⟩
theorem dX12_init_169 : Dc cX12_init 169 (.aload_n 0) 1 170 := ⟨by decide +kernel, rfl⟩
theorem dX12_init_170 : Dc cX12_init 170 (.sipush 768) 3 173 := ⟨by decide +kernel, rfl⟩
theorem dX12_init_173 : Dc cX12_init 173 (.newarray .long) 2 175 := ⟨by decide +kernel, rfl⟩
theorem dX12_init_175 : Dc cX12_init 175 (.putfield 70) 3 178 := ⟨by decide +kernel, rfl⟩
theorem dX12_init_178 : Dc cX12_init 178 (.aload_n 0) 1 179 := ⟨by decide +kernel, rfl⟩
theorem dX12_init_179 : Dc cX12_init 179 (.bipush 12) 2 181 := ⟨by decide +kernel, rfl⟩
theorem dX12_init_181 : Dc cX12_init 181 (.newarray .int) 2 183 := ⟨by decide +kernel, rfl⟩
theorem dX12_init_183 : Dc cX12_init 183 (.putfield 74) 3 186 := ⟨by decide +kernel, rfl⟩
theorem dX12_init_186 : Dc cX12_init 186 (.aload_n 0) 1 187 := ⟨by decide +kernel, rfl⟩
theorem dX12_init_187 : Dc cX12_init 187 (.sipush 768) 3 190 := ⟨by decide +kernel, rfl⟩
theorem dX12_init_190 : Dc cX12_init 190 (.newarray .int) 2 192 := ⟨by decide +kernel, rfl⟩
theorem dX12_init_192 : Dc cX12_init 192 (.putfield 77) 3 195 := ⟨by decide +kernel, rfl⟩
theorem dX12_init_195 : Dc cX12_init 195 (.aload_n 0) 1 196 := ⟨by decide +kernel, rfl⟩
theorem dX12_init_196 : Dc cX12_init 196 (.sipush 768) 3 199 := ⟨by decide +kernel, rfl⟩
theorem dX12_init_199 : Dc cX12_init 199 (.newarray .boolean) 2 201 := ⟨by decide +kernel, rfl⟩
theorem dX12_init_201 : Dc cX12_init 201 (.putfield 80) 3 204 := ⟨by decide +kernel, rfl⟩
theorem dX12_init_204 : Dc cX12_init 204 (.aload_n 0) 1 205 := ⟨by decide +kernel, rfl⟩
theorem dX12_init_205 : Dc cX12_init 205 (.sipush 768) 3 208 := ⟨by decide +kernel, rfl⟩
theorem dX12_init_208 : Dc cX12_init 208 (.newarray .long) 2 210 := ⟨by decide +kernel, rfl⟩
theorem dX12_init_210 : Dc cX12_init 210 (.putfield 83) 3 213 := ⟨by decide +kernel, rfl⟩
theorem dX12_init_213 : Dc cX12_init 213 (.aload_n 0) 1 214 := ⟨by decide +kernel, rfl⟩
theorem dX12_init_214 : Dc cX12_init 214 (.bipush 64) 2 216 := ⟨by decide +kernel, rfl⟩
theorem dX12_init_216 : Dc cX12_init 216 (.newarray .boolean) 2 218 := ⟨by decide +kernel, rfl⟩
theorem dX12_init_218 : Dc cX12_init 218 (.putfield 86) 3 221 := ⟨by decide +kernel, rfl⟩
theorem dX12_init_221 : Dc cX12_init 221 (.aload_n 0) 1 222 := ⟨by decide +kernel, rfl⟩
theorem dX12_init_222 : Dc cX12_init 222 (.sipush 156) 3 225 := ⟨by decide +kernel, rfl⟩
theorem dX12_init_225 : Dc cX12_init 225 (.newarray .long) 2 227 := ⟨by decide +kernel, rfl⟩
theorem dX12_init_227 : Dc cX12_init 227 (.putfield 89) 3 230 := ⟨by decide +kernel, rfl⟩
theorem dX12_init_230 : Dc cX12_init 230 (.aload_n 0) 1 231 := ⟨by decide +kernel, rfl⟩
theorem dX12_init_231 : Dc cX12_init 231 (.bipush 12) 2 233 := ⟨by decide +kernel, rfl⟩
theorem dX12_init_233 : Dc cX12_init 233 (.newarray .int) 2 235 := ⟨by decide +kernel, rfl⟩
theorem dX12_init_235 : Dc cX12_init 235 (.putfield 92) 3 238 := ⟨by decide +kernel, rfl⟩
theorem dX12_init_238 : Dc cX12_init 238 (.aload_n 0) 1 239 := ⟨by decide +kernel, rfl⟩
theorem dX12_init_239 : Dc cX12_init 239 (.sipush 768) 3 242 := ⟨by decide +kernel, rfl⟩
theorem dX12_init_242 : Dc cX12_init 242 (.newarray .int) 2 244 := ⟨by decide +kernel, rfl⟩
theorem dX12_init_244 : Dc cX12_init 244 (.putfield 95) 3 247 := ⟨by decide +kernel, rfl⟩
theorem dX12_init_247 : Dc cX12_init 247 (.aload_n 0) 1 248 := ⟨by decide +kernel, rfl⟩
theorem dX12_init_248 : Dc cX12_init 248 (.sipush 768) 3 251 := ⟨by decide +kernel, rfl⟩
theorem dX12_init_251 : Dc cX12_init 251 (.newarray .int) 2 253 := ⟨by decide +kernel, rfl⟩
theorem dX12_init_253 : Dc cX12_init 253 (.putfield 98) 3 256 := ⟨by decide +kernel, rfl⟩
theorem dX12_init_256 : Dc cX12_init 256 (.aload_n 0) 1 257 := ⟨by decide +kernel, rfl⟩
theorem dX12_init_257 : Dc cX12_init 257 (.ldc 101) 2 259 := ⟨by decide +kernel, rfl⟩
theorem dX12_init_259 : Dc cX12_init 259 (.newarray .int) 2 261 := ⟨by decide +kernel, rfl⟩
theorem dX12_init_261 : Dc cX12_init 261 (.putfield 102) 3 264 := ⟨by decide +kernel, rfl⟩
theorem dX12_init_264 : Dc cX12_init 264 (.aload_n 0) 1 265 := ⟨by decide +kernel, rfl⟩
theorem dX12_init_265 : Dc cX12_init 265 (.ldc 101) 2 267 := ⟨by decide +kernel, rfl⟩
theorem dX12_init_267 : Dc cX12_init 267 (.newarray .int) 2 269 := ⟨by decide +kernel, rfl⟩
theorem dX12_init_269 : Dc cX12_init 269 (.putfield 105) 3 272 := ⟨by decide +kernel, rfl⟩
theorem dX12_init_272 : Dc cX12_init 272 (.aload_n 0) 1 273 := ⟨by decide +kernel, rfl⟩
theorem dX12_init_273 : Dc cX12_init 273 (.ldc 101) 2 275 := ⟨by decide +kernel, rfl⟩
theorem dX12_init_275 : Dc cX12_init 275 (.newarray .int) 2 277 := ⟨by decide +kernel, rfl⟩
theorem dX12_init_277 : Dc cX12_init 277 (.putfield 108) 3 280 := ⟨by decide +kernel, rfl⟩
theorem dX12_init_280 : Dc cX12_init 280 (.aload_n 0) 1 281 := ⟨by decide +kernel, rfl⟩
theorem dX12_init_281 : Dc cX12_init 281 (.ldc 101) 2 283 := ⟨by decide +kernel, rfl⟩
theorem dX12_init_283 : Dc cX12_init 283 (.newarray .int) 2 285 := ⟨by decide +kernel, rfl⟩
theorem dX12_init_285 : Dc cX12_init 285 (.putfield 111) 3 288 := ⟨by decide +kernel, rfl⟩
theorem dX12_init_288 : Dc cX12_init 288 (.aload_n 0) 1 289 := ⟨by decide +kernel, rfl⟩
theorem dX12_init_289 : Dc cX12_init 289 (.ldc 101) 2 291 := ⟨by decide +kernel, rfl⟩
theorem dX12_init_291 : Dc cX12_init 291 (.newarray .int) 2 293 := ⟨by decide +kernel, rfl⟩
theorem dX12_init_293 : Dc cX12_init 293 (.putfield 114) 3 296 := ⟨by decide +kernel, rfl⟩
theorem dX12_init_296 : Dc cX12_init 296 (.aload_n 0) 1 297 := ⟨by decide +kernel, rfl⟩
theorem dX12_init_297 : Dc cX12_init 297 (.ldc 101) 2 299 := ⟨by decide +kernel, rfl⟩
theorem dX12_init_299 : Dc cX12_init 299 (.newarray .int) 2 301 := ⟨by decide +kernel, rfl⟩
theorem dX12_init_301 : Dc cX12_init 301 (.putfield 117) 3 304 := ⟨by decide +kernel, rfl⟩
theorem dX12_init_304 : Dc cX12_init 304 (.aload_n 0) 1 305 := ⟨by decide +kernel, rfl⟩
theorem dX12_init_305 : Dc cX12_init 305 (.ldc 101) 2 307 := ⟨by decide +kernel, rfl⟩
theorem dX12_init_307 : Dc cX12_init 307 (.newarray .int) 2 309 := ⟨by decide +kernel, rfl⟩
theorem dX12_init_309 : Dc cX12_init 309 (.putfield 120) 3 312 := ⟨by decide +kernel, rfl⟩
theorem dX12_init_312 : Dc cX12_init 312 (.aload_n 0) 1 313 := ⟨by decide +kernel, rfl⟩
theorem dX12_init_313 : Dc cX12_init 313 (.ldc 101) 2 315 := ⟨by decide +kernel, rfl⟩
theorem dX12_init_315 : Dc cX12_init 315 (.newarray .int) 2 317 := ⟨by decide +kernel, rfl⟩
theorem dX12_init_317 : Dc cX12_init 317 (.putfield 123) 3 320 := ⟨by decide +kernel, rfl⟩
theorem dX12_init_320 : Dc cX12_init 320 (.aload_n 0) 1 321 := ⟨by decide +kernel, rfl⟩
theorem dX12_init_321 : Dc cX12_init 321 (.ldc 101) 2 323 := ⟨by decide +kernel, rfl⟩
theorem dX12_init_323 : Dc cX12_init 323 (.newarray .int) 2 325 := ⟨by decide +kernel, rfl⟩
theorem dX12_init_325 : Dc cX12_init 325 (.putfield 126) 3 328 := ⟨by decide +kernel, rfl⟩
theorem dX12_init_328 : Dc cX12_init 328 (.aload_n 0) 1 329 := ⟨by decide +kernel, rfl⟩
theorem dX12_init_329 : Dc cX12_init 329 (.sipush 12288) 3 332 := ⟨by decide +kernel, rfl⟩
theorem dX12_init_332 : Dc cX12_init 332 (.newarray .int) 2 334 := ⟨by decide +kernel, rfl⟩
theorem dX12_init_334 : Dc cX12_init 334 (.putfield 129) 3 337 := ⟨by decide +kernel, rfl⟩
theorem dX12_init_337 : Dc cX12_init 337 (.aload_n 0) 1 338 := ⟨by decide +kernel, rfl⟩
theorem dX12_init_338 : Dc cX12_init 338 (.sipush 768) 3 341 := ⟨by decide +kernel, rfl⟩
theorem dX12_init_341 : Dc cX12_init 341 (.newarray .int) 2 343 := ⟨by decide +kernel, rfl⟩
theorem dX12_init_343 : Dc cX12_init 343 (.putfield 132) 3 346 := ⟨by decide +kernel, rfl⟩
theorem dX12_init_346 : Dc cX12_init 346 (.aload_n 0) 1 347 := ⟨by decide +kernel, rfl⟩
theorem dX12_init_347 : Dc cX12_init 347 (.sipush 1000) 3 350 := ⟨by decide +kernel, rfl⟩
theorem dX12_init_350 : Dc cX12_init 350 (.newarray .int) 2 352 := ⟨by decide +kernel, rfl⟩
theorem dX12_init_352 : Dc cX12_init 352 (.putfield 135) 3 355 := ⟨by decide +kernel, rfl⟩
theorem dX12_init_355 : Dc cX12_init 355 (.aload_n 0) 1 356 := ⟨by decide +kernel, rfl⟩
theorem dX12_init_356 : Dc cX12_init 356 (.sipush 20000) 3 359 := ⟨by decide +kernel, rfl⟩
theorem dX12_init_359 : Dc cX12_init 359 (.newarray .byte) 2 361 := ⟨by decide +kernel, rfl⟩
theorem dX12_init_361 : Dc cX12_init 361 (.putfield 138) 3 364 := ⟨by decide +kernel, rfl⟩
theorem dX12_init_364 : Dc cX12_init 364 (.aload_n 0) 1 365 := ⟨by decide +kernel, rfl⟩
theorem dX12_init_365 : Dc cX12_init 365 (.ldc 141) 2 367 := ⟨by decide +kernel, rfl⟩
theorem dX12_init_367 : Dc cX12_init 367 (.newarray .long) 2 369 := ⟨by decide +kernel, rfl⟩
theorem dX12_init_369 : Dc cX12_init 369 (.putfield 142) 3 372 := ⟨by decide +kernel, rfl⟩
theorem dX12_init_372 : Dc cX12_init 372 (.aload_n 0) 1 373 := ⟨by decide +kernel, rfl⟩
theorem dX12_init_373 : Dc cX12_init 373 (.getfield 38) 3 376 := ⟨by decide +kernel, rfl⟩
theorem dX12_init_376 : Dc cX12_init 376 (.iconst 1) 1 377 := ⟨by decide +kernel, rfl⟩
theorem dX12_init_377 : Dc cX12_init 377 (.iconst 1) 1 378 := ⟨by decide +kernel, rfl⟩
theorem dX12_init_378 : Dc cX12_init 378 (.iastore) 1 379 := ⟨by decide +kernel, rfl⟩
theorem dX12_init_379 : Dc cX12_init 379 (.aload_n 0) 1 380 := ⟨by decide +kernel, rfl⟩
theorem dX12_init_380 : Dc cX12_init 380 (.getfield 38) 3 383 := ⟨by decide +kernel, rfl⟩
theorem dX12_init_383 : Dc cX12_init 383 (.iconst 2) 1 384 := ⟨by decide +kernel, rfl⟩
theorem dX12_init_384 : Dc cX12_init 384 (.iconst 1) 1 385 := ⟨by decide +kernel, rfl⟩
theorem dX12_init_385 : Dc cX12_init 385 (.iastore) 1 386 := ⟨by decide +kernel, rfl⟩
theorem dX12_init_386 : Dc cX12_init 386 (.aload_n 0) 1 387 := ⟨by decide +kernel, rfl⟩
theorem dX12_init_387 : Dc cX12_init 387 (.getfield 38) 3 390 := ⟨by decide +kernel, rfl⟩
theorem dX12_init_390 : Dc cX12_init 390 (.iconst 3) 1 391 := ⟨by decide +kernel, rfl⟩
theorem dX12_init_391 : Dc cX12_init 391 (.iconst 1) 1 392 := ⟨by decide +kernel, rfl⟩
theorem dX12_init_392 : Dc cX12_init 392 (.iastore) 1 393 := ⟨by decide +kernel, rfl⟩
theorem dX12_init_393 : Dc cX12_init 393 (.aload_n 0) 1 394 := ⟨by decide +kernel, rfl⟩
theorem dX12_init_394 : Dc cX12_init 394 (.getfield 41) 3 397 := ⟨by decide +kernel, rfl⟩
theorem dX12_init_397 : Dc cX12_init 397 (.iconst 3) 1 398 := ⟨by decide +kernel, rfl⟩
theorem dX12_init_398 : Dc cX12_init 398 (.iconst 1) 1 399 := ⟨by decide +kernel, rfl⟩
theorem dX12_init_399 : Dc cX12_init 399 (.iastore) 1 400 := ⟨by decide +kernel, rfl⟩
theorem dX12_init_400 : Dc cX12_init 400 (.return_) 1 401 := ⟨by decide +kernel, rfl⟩
theorem mk_RX12_7 : Cond.methodLink RX12 7 objectInit ∈ gtbl := tg (tb_7 (List.mem_of_getElem? (i := 65) rfl)) rfl
theorem fk_RX12_13 : FLk RX12 13 12 RX12 TX12 66 tyX12 3 := ⟨cls_12, by decide, rfl, tg (tb_7 (List.mem_of_getElem? (i := 70) rfl)) rfl⟩
theorem fk_RX12_17 : FLk RX12 17 12 RX12 TX12 66 tyX12 4 := ⟨cls_12, by decide, rfl, tg (tb_7 (List.mem_of_getElem? (i := 71) rfl)) rfl⟩
theorem fk_RX12_20 : FLk RX12 20 12 RX12 TX12 66 tyX12 5 := ⟨cls_12, by decide, rfl, tg (tb_7 (List.mem_of_getElem? (i := 72) rfl)) rfl⟩
theorem fk_RX12_23 : FLk RX12 23 12 RX12 TX12 66 tyX12 6 := ⟨cls_12, by decide, rfl, tg (tb_7 (List.mem_of_getElem? (i := 73) rfl)) rfl⟩
theorem fk_RX12_26 : FLk RX12 26 12 RX12 TX12 66 tyX12 7 := ⟨cls_12, by decide, rfl, tg (tb_7 (List.mem_of_getElem? (i := 74) rfl)) rfl⟩
theorem fk_RX12_29 : FLk RX12 29 12 RX12 TX12 66 tyX12 8 := ⟨cls_12, by decide, rfl, tg (tb_7 (List.mem_of_getElem? (i := 75) rfl)) rfl⟩
theorem fk_RX12_32 : FLk RX12 32 12 RX12 TX12 66 tyX12 9 := ⟨cls_12, by decide, rfl, tg (tb_7 (List.mem_of_getElem? (i := 76) rfl)) rfl⟩
theorem fk_RX12_35 : FLk RX12 35 12 RX12 TX12 66 tyX12 10 := ⟨cls_12, by decide, rfl, tg (tb_7 (List.mem_of_getElem? (i := 77) rfl)) rfl⟩
theorem fk_RX12_38 : FLk RX12 38 12 RX12 TX12 66 tyX12 11 := ⟨cls_12, by decide, rfl, tg (tb_7 (List.mem_of_getElem? (i := 78) rfl)) rfl⟩
theorem fk_RX12_41 : FLk RX12 41 12 RX12 TX12 66 tyX12 12 := ⟨cls_12, by decide, rfl, tg (tb_7 (List.mem_of_getElem? (i := 79) rfl)) rfl⟩
theorem fk_RX12_44 : FLk RX12 44 12 RX12 TX12 66 tyX12 14 := ⟨cls_12, by decide, rfl, tg (tb_7 (List.mem_of_getElem? (i := 81) rfl)) rfl⟩
theorem fk_RX12_47 : FLk RX12 47 12 RX12 TX12 66 tyX12 16 := ⟨cls_12, by decide, rfl, tg (tb_7 (List.mem_of_getElem? (i := 83) rfl)) rfl⟩
theorem fk_RX12_51 : FLk RX12 51 12 RX12 TX12 66 tyX12 18 := ⟨cls_12, by decide, rfl, tg (tb_7 (List.mem_of_getElem? (i := 85) rfl)) rfl⟩
theorem fk_RX12_54 : FLk RX12 54 12 RX12 TX12 66 tyX12 25 := ⟨cls_12, by decide, rfl, tg (tb_7 (List.mem_of_getElem? (i := 92) rfl)) rfl⟩
theorem fk_RX12_57 : FLk RX12 57 12 RX12 TX12 66 tyX12 26 := ⟨cls_12, by decide, rfl, tg (tb_7 (List.mem_of_getElem? (i := 93) rfl)) rfl⟩
theorem fk_RX12_60 : FLk RX12 60 12 RX12 TX12 66 tyX12 29 := ⟨cls_12, by decide, rfl, tg (tb_7 (List.mem_of_getElem? (i := 96) rfl)) rfl⟩
theorem fk_RX12_63 : FLk RX12 63 12 RX12 TX12 66 tyX12 30 := ⟨cls_12, by decide, rfl, tg (tb_7 (List.mem_of_getElem? (i := 97) rfl)) rfl⟩
theorem fk_RX12_67 : FLk RX12 67 12 RX12 TX12 66 tyX12 31 := ⟨cls_12, by decide, rfl, tg (tb_7 (List.mem_of_getElem? (i := 98) rfl)) rfl⟩
theorem fk_RX12_70 : FLk RX12 70 12 RX12 TX12 66 tyX12 32 := ⟨cls_12, by decide, rfl, tg (tb_7 (List.mem_of_getElem? (i := 99) rfl)) rfl⟩
theorem fk_RX12_74 : FLk RX12 74 12 RX12 TX12 66 tyX12 33 := ⟨cls_12, by decide, rfl, tg (tb_7 (List.mem_of_getElem? (i := 100) rfl)) rfl⟩
theorem fk_RX12_77 : FLk RX12 77 12 RX12 TX12 66 tyX12 34 := ⟨cls_12, by decide, rfl, tg (tb_7 (List.mem_of_getElem? (i := 101) rfl)) rfl⟩
theorem fk_RX12_80 : FLk RX12 80 12 RX12 TX12 66 tyX12 35 := ⟨cls_12, by decide, rfl, tg (tb_7 (List.mem_of_getElem? (i := 102) rfl)) rfl⟩
theorem fk_RX12_83 : FLk RX12 83 12 RX12 TX12 66 tyX12 37 := ⟨cls_12, by decide, rfl, tg (tb_7 (List.mem_of_getElem? (i := 104) rfl)) rfl⟩
theorem fk_RX12_86 : FLk RX12 86 12 RX12 TX12 66 tyX12 38 := ⟨cls_12, by decide, rfl, tg (tb_7 (List.mem_of_getElem? (i := 105) rfl)) rfl⟩
theorem fk_RX12_89 : FLk RX12 89 12 RX12 TX12 66 tyX12 39 := ⟨cls_12, by decide, rfl, tg (tb_7 (List.mem_of_getElem? (i := 106) rfl)) rfl⟩
theorem fk_RX12_92 : FLk RX12 92 12 RX12 TX12 66 tyX12 40 := ⟨cls_12, by decide, rfl, tg (tb_7 (List.mem_of_getElem? (i := 107) rfl)) rfl⟩
theorem fk_RX12_95 : FLk RX12 95 12 RX12 TX12 66 tyX12 42 := ⟨cls_12, by decide, rfl, tg (tb_7 (List.mem_of_getElem? (i := 109) rfl)) rfl⟩
theorem fk_RX12_98 : FLk RX12 98 12 RX12 TX12 66 tyX12 43 := ⟨cls_12, by decide, rfl, tg (tb_7 (List.mem_of_getElem? (i := 110) rfl)) rfl⟩
theorem wk_RX12_101 : Jvm.Cond.constant RX12 101 (Int32.ofInt 40000) ∈ gtbl := tg (tb_7 (List.mem_of_getElem? (i := 66) rfl)) rfl
theorem fk_RX12_102 : FLk RX12 102 12 RX12 TX12 66 tyX12 45 := ⟨cls_12, by decide, rfl, tg (tb_7 (List.mem_of_getElem? (i := 112) rfl)) rfl⟩
theorem fk_RX12_105 : FLk RX12 105 12 RX12 TX12 66 tyX12 46 := ⟨cls_12, by decide, rfl, tg (tb_7 (List.mem_of_getElem? (i := 113) rfl)) rfl⟩
theorem fk_RX12_108 : FLk RX12 108 12 RX12 TX12 66 tyX12 47 := ⟨cls_12, by decide, rfl, tg (tb_7 (List.mem_of_getElem? (i := 114) rfl)) rfl⟩
theorem fk_RX12_111 : FLk RX12 111 12 RX12 TX12 66 tyX12 48 := ⟨cls_12, by decide, rfl, tg (tb_7 (List.mem_of_getElem? (i := 115) rfl)) rfl⟩
theorem fk_RX12_114 : FLk RX12 114 12 RX12 TX12 66 tyX12 49 := ⟨cls_12, by decide, rfl, tg (tb_7 (List.mem_of_getElem? (i := 116) rfl)) rfl⟩
theorem fk_RX12_117 : FLk RX12 117 12 RX12 TX12 66 tyX12 50 := ⟨cls_12, by decide, rfl, tg (tb_7 (List.mem_of_getElem? (i := 117) rfl)) rfl⟩
theorem fk_RX12_120 : FLk RX12 120 12 RX12 TX12 66 tyX12 51 := ⟨cls_12, by decide, rfl, tg (tb_7 (List.mem_of_getElem? (i := 118) rfl)) rfl⟩
theorem fk_RX12_123 : FLk RX12 123 12 RX12 TX12 66 tyX12 52 := ⟨cls_12, by decide, rfl, tg (tb_7 (List.mem_of_getElem? (i := 119) rfl)) rfl⟩
theorem fk_RX12_126 : FLk RX12 126 12 RX12 TX12 66 tyX12 53 := ⟨cls_12, by decide, rfl, tg (tb_7 (List.mem_of_getElem? (i := 120) rfl)) rfl⟩
theorem fk_RX12_129 : FLk RX12 129 12 RX12 TX12 66 tyX12 56 := ⟨cls_12, by decide, rfl, tg (tb_7 (List.mem_of_getElem? (i := 123) rfl)) rfl⟩
theorem fk_RX12_132 : FLk RX12 132 12 RX12 TX12 66 tyX12 57 := ⟨cls_12, by decide, rfl, tg (tb_7 (List.mem_of_getElem? (i := 124) rfl)) rfl⟩
theorem fk_RX12_135 : FLk RX12 135 12 RX12 TX12 66 tyX12 58 := ⟨cls_12, by decide, rfl, tg (tb_7 (List.mem_of_getElem? (i := 125) rfl)) rfl⟩
theorem fk_RX12_138 : FLk RX12 138 12 RX12 TX12 66 tyX12 60 := ⟨cls_12, by decide, rfl, tg (tb_7 (List.mem_of_getElem? (i := 127) rfl)) rfl⟩
theorem wk_RX12_141 : Jvm.Cond.constant RX12 141 (Int32.ofInt 231168) ∈ gtbl := tg (tb_7 (List.mem_of_getElem? (i := 67) rfl)) rfl
theorem fk_RX12_142 : FLk RX12 142 12 RX12 TX12 66 tyX12 62 := ⟨cls_12, by decide, rfl, tg (tb_7 (List.mem_of_getElem? (i := 129) rfl)) rfl⟩
def st_X12_init_0 (σ : St) : St := (upS (upS (upS (upS (upS (upS (upS (upS (upS (upS (upS (upS (upS (upS (upS (upS (upS (upS (upS (upS (upS (upS (upS (upS (upS (upS (upS (upS (upS (upS (upS (upS (upS (upS (upS (upS (upS (upS (upS (upS (upS (upS (upS (upS (upS (upS (upS (upS (upS (upS (upS (upS σ 0 3 1) 0 4 1) 0 5 1) 0 6 1) 0 7 1) 6 (Int.toNat 0) 2) 6 (Int.toNat 1) 2) 0 8 1) 7 (Int.toNat 0) 0) 7 (Int.toNat 1) 0) 0 9 1) 8 (Int.toNat 0) 1) 8 (Int.toNat 1) 1) 0 10 1) 0 11 1) 0 12 1) 0 14 1) 0 16 1) 0 18 1) 0 25 (-1)) 0 26 1) 0 29 1) 0 30 1) 0 31 1) 0 32 1) 0 33 1) 0 34 1) 0 35 1) 0 37 1) 0 38 1) 0 39 1) 0 40 1) 0 42 1) 0 43 1) 0 45 1) 0 46 1) 0 47 1) 0 48 1) 0 49 1) 0 50 1) 0 51 1) 0 52 1) 0 53 1) 0 56 1) 0 57 1) 0 58 1) 0 60 1) 0 62 1) 9 (Int.toNat 1) 1) 9 (Int.toNat 2) 1) 9 (Int.toNat 3) 1) 10 (Int.toNat 3) 1)
set_option maxHeartbeats 4000000 in
set_option maxRecDepth 100000 in
theorem k_X12_init_0 {l : Launch} {D : va_G} {cA : Nat → ClassId} {ba : Nat} (σ : St) (z1 : ∀ j, σ 1 j = 0) (z2 : ∀ j, σ 2 j = 0) (z3 : ∀ j, σ 3 j = 0) (z4 : ∀ j, σ 4 j = 0) (z5 : ∀ j, σ 5 j = 0) (z6 : ∀ j, σ 6 j = 0) (z7 : ∀ j, σ 7 j = 0) (z8 : ∀ j, σ 8 j = 0) (z9 : ∀ j, σ 9 j = 0) (z10 : ∀ j, σ 10 j = 0) (z11 : ∀ j, σ 11 j = 0) (z12 : ∀ j, σ 12 j = 0) (z13 : ∀ j, σ 13 j = 0) (z14 : ∀ j, σ 14 j = 0) (z15 : ∀ j, σ 15 j = 0) (z16 : ∀ j, σ 16 j = 0) (z17 : ∀ j, σ 17 j = 0) (z18 : ∀ j, σ 18 j = 0) (z19 : ∀ j, σ 19 j = 0) (z20 : ∀ j, σ 20 j = 0) (z21 : ∀ j, σ 21 j = 0) (z22 : ∀ j, σ 22 j = 0) (z23 : ∀ j, σ 23 j = 0) (z24 : ∀ j, σ 24 j = 0) (z25 : ∀ j, σ 25 j = 0) (z26 : ∀ j, σ 26 j = 0) (z27 : ∀ j, σ 27 j = 0) (z28 : ∀ j, σ 28 j = 0) (z29 : ∀ j, σ 29 j = 0) (z30 : ∀ j, σ 30 j = 0) (z31 : ∀ j, σ 31 j = 0) (z32 : ∀ j, σ 32 j = 0) (z33 : ∀ j, σ 33 j = 0) (z34 : ∀ j, σ 34 j = 0) (z35 : ∀ j, σ 35 j = 0) (z36 : ∀ j, σ 36 j = 0) (z37 : ∀ j, σ 37 j = 0) (z38 : ∀ j, σ 38 j = 0) (z39 : ∀ j, σ 39 j = 0) (z40 : ∀ j, σ 40 j = 0) (z41 : ∀ j, σ 41 j = 0) : KtN l D cA ba shR 1 42 633907 yX12_init cX12_init 1 1 [.ref (ba + 0)] σ (fun σ1 => σ1 = st_X12_init_0 σ) := by
  refine KtN.of mz_X12_init [some (.ref (ba + 0))] (Nat.le_of_ble_eq_true rfl) rfl (fun p e s m args below meth c E hr hnm => ?_)
  refine n_aload_0 E dX12_init_0 ?_
  refine n_objInit E mk_RX12_7 (Nat.le_of_ble_eq_true rfl) (by decide) dX12_init_1 ?_
  refine n_aload_0 E dX12_init_4 ?_
  refine n_bipush E (by decide) dX12_init_5 ?_
  refine n_new_int (n := 80) (slots' := 80) (cells' := 1) (N' := 2) E sR_1 (fun j => z1 j) (by decide) (Nat.le_of_ble_eq_true rfl) (Nat.le_of_ble_eq_true rfl) dX12_init_7 rfl rfl rfl ?_
  refine n_putR E fk_RX12_13 rfl hnm rfl ⟨rfl, rfl⟩ (by decide) sR_0 rfl dX12_init_9 ?_
  refine n_aload_0 E dX12_init_12 ?_
  refine n_bipush E (by decide) dX12_init_13 ?_
  refine n_new_int (n := 80) (slots' := 160) (cells' := 2) (N' := 3) E sR_2 (fun j => z2 j) (by decide) (Nat.le_of_ble_eq_true rfl) (Nat.le_of_ble_eq_true rfl) dX12_init_15 rfl rfl rfl ?_
  refine n_putR E fk_RX12_17 rfl hnm rfl ⟨rfl, rfl⟩ (by decide) sR_0 rfl dX12_init_17 ?_
  refine n_aload_0 E dX12_init_20 ?_
  refine n_bipush E (by decide) dX12_init_21 ?_
  refine n_new_int (n := 80) (slots' := 240) (cells' := 3) (N' := 4) E sR_3 (fun j => z3 j) (by decide) (Nat.le_of_ble_eq_true rfl) (Nat.le_of_ble_eq_true rfl) dX12_init_23 rfl rfl rfl ?_
  refine n_putR E fk_RX12_20 rfl hnm rfl ⟨rfl, rfl⟩ (by decide) sR_0 rfl dX12_init_25 ?_
  refine n_aload_0 E dX12_init_28 ?_
  refine n_bipush E (by decide) dX12_init_29 ?_
  refine n_new_int (n := 80) (slots' := 320) (cells' := 4) (N' := 5) E sR_4 (fun j => z4 j) (by decide) (Nat.le_of_ble_eq_true rfl) (Nat.le_of_ble_eq_true rfl) dX12_init_31 rfl rfl rfl ?_
  refine n_putR E fk_RX12_23 rfl hnm rfl ⟨rfl, rfl⟩ (by decide) sR_0 rfl dX12_init_33 ?_
  refine n_aload_0 E dX12_init_36 ?_
  refine n_bipush E (by decide) dX12_init_37 ?_
  refine n_new_int (n := 80) (slots' := 400) (cells' := 5) (N' := 6) E sR_5 (fun j => z5 j) (by decide) (Nat.le_of_ble_eq_true rfl) (Nat.le_of_ble_eq_true rfl) dX12_init_39 rfl rfl rfl ?_
  refine n_putR E fk_RX12_26 rfl hnm rfl ⟨rfl, rfl⟩ (by decide) sR_0 rfl dX12_init_41 ?_
  refine n_aload_0 E dX12_init_44 ?_
  refine n_iconst E dX12_init_45 ?_
  refine n_new_int (n := 2) (slots' := 402) (cells' := 6) (N' := 7) E sR_6 (fun j => z6 j) (by decide) (Nat.le_of_ble_eq_true rfl) (Nat.le_of_ble_eq_true rfl) dX12_init_46 rfl rfl rfl ?_
  refine n_dup E rfl dX12_init_48 ?_
  refine n_iconst E dX12_init_49 ?_
  refine n_iconst E dX12_init_50 ?_
  refine n_iast E (by decide) sR_6 (by decide) (by decide) dX12_init_51 ?_
  refine n_dup E rfl dX12_init_52 ?_
  refine n_iconst E dX12_init_53 ?_
  refine n_iconst E dX12_init_54 ?_
  refine n_iast E (by decide) sR_6 (by decide) (by decide) dX12_init_55 ?_
  refine n_putR E fk_RX12_29 rfl hnm rfl ⟨rfl, rfl⟩ (by decide) sR_0 rfl dX12_init_56 ?_
  refine n_aload_0 E dX12_init_59 ?_
  refine n_iconst E dX12_init_60 ?_
  refine n_new_int (n := 2) (slots' := 404) (cells' := 7) (N' := 8) E sR_7 (fun j => z7 j) (by decide) (Nat.le_of_ble_eq_true rfl) (Nat.le_of_ble_eq_true rfl) dX12_init_61 rfl rfl rfl ?_
  refine n_dup E rfl dX12_init_63 ?_
  refine n_iconst E dX12_init_64 ?_
  refine n_iconst E dX12_init_65 ?_
  refine n_iast E (by decide) sR_7 (by decide) (by decide) dX12_init_66 ?_
  refine n_dup E rfl dX12_init_67 ?_
  refine n_iconst E dX12_init_68 ?_
  refine n_iconst E dX12_init_69 ?_
  refine n_iast E (by decide) sR_7 (by decide) (by decide) dX12_init_70 ?_
  refine n_putR E fk_RX12_32 rfl hnm rfl ⟨rfl, rfl⟩ (by decide) sR_0 rfl dX12_init_71 ?_
  refine n_aload_0 E dX12_init_74 ?_
  refine n_iconst E dX12_init_75 ?_
  refine n_new_int (n := 2) (slots' := 406) (cells' := 8) (N' := 9) E sR_8 (fun j => z8 j) (by decide) (Nat.le_of_ble_eq_true rfl) (Nat.le_of_ble_eq_true rfl) dX12_init_76 rfl rfl rfl ?_
  refine n_dup E rfl dX12_init_78 ?_
  refine n_iconst E dX12_init_79 ?_
  refine n_iconst E dX12_init_80 ?_
  refine n_iast E (by decide) sR_8 (by decide) (by decide) dX12_init_81 ?_
  refine n_dup E rfl dX12_init_82 ?_
  refine n_iconst E dX12_init_83 ?_
  refine n_iconst E dX12_init_84 ?_
  refine n_iast E (by decide) sR_8 (by decide) (by decide) dX12_init_85 ?_
  refine n_putR E fk_RX12_35 rfl hnm rfl ⟨rfl, rfl⟩ (by decide) sR_0 rfl dX12_init_86 ?_
  refine n_aload_0 E dX12_init_89 ?_
  refine n_bipush E (by decide) dX12_init_90 ?_
  refine n_new_int (n := 50) (slots' := 456) (cells' := 9) (N' := 10) E sR_9 (fun j => z9 j) (by decide) (Nat.le_of_ble_eq_true rfl) (Nat.le_of_ble_eq_true rfl) dX12_init_92 rfl rfl rfl ?_
  refine n_putR E fk_RX12_38 rfl hnm rfl ⟨rfl, rfl⟩ (by decide) sR_0 rfl dX12_init_94 ?_
  refine n_aload_0 E dX12_init_97 ?_
  refine n_bipush E (by decide) dX12_init_98 ?_
  refine n_new_int (n := 50) (slots' := 506) (cells' := 10) (N' := 11) E sR_10 (fun j => z10 j) (by decide) (Nat.le_of_ble_eq_true rfl) (Nat.le_of_ble_eq_true rfl) dX12_init_100 rfl rfl rfl ?_
  refine n_putR E fk_RX12_41 rfl hnm rfl ⟨rfl, rfl⟩ (by decide) sR_0 rfl dX12_init_102 ?_
  refine n_aload_0 E dX12_init_105 ?_
  refine n_bipush E (by decide) dX12_init_106 ?_
  refine n_new_int (n := 8) (slots' := 514) (cells' := 11) (N' := 12) E sR_11 (fun j => z11 j) (by decide) (Nat.le_of_ble_eq_true rfl) (Nat.le_of_ble_eq_true rfl) dX12_init_108 rfl rfl rfl ?_
  refine n_putR E fk_RX12_44 rfl hnm rfl ⟨rfl, rfl⟩ (by decide) sR_0 rfl dX12_init_110 ?_
  refine n_aload_0 E dX12_init_113 ?_
  refine n_sipush E (by decide) dX12_init_114 ?_
  refine n_new_byte (n := 1000) (slots' := 1514) (cells' := 12) (N' := 13) E sR_12 (fun j => z12 j) (by decide) (Nat.le_of_ble_eq_true rfl) (Nat.le_of_ble_eq_true rfl) dX12_init_117 rfl rfl rfl ?_
  refine n_putR E fk_RX12_47 rfl hnm rfl ⟨rfl, rfl⟩ (by decide) sR_0 rfl dX12_init_119 ?_
  refine n_aload_0 E dX12_init_122 ?_
  refine n_iconst E dX12_init_123 ?_
  refine n_new_int (n := 5) (slots' := 1519) (cells' := 13) (N' := 14) E sR_13 (fun j => z13 j) (by decide) (Nat.le_of_ble_eq_true rfl) (Nat.le_of_ble_eq_true rfl) dX12_init_124 rfl rfl rfl ?_
  refine n_putR E fk_RX12_51 rfl hnm rfl ⟨rfl, rfl⟩ (by decide) sR_0 rfl dX12_init_126 ?_
  refine n_aload_0 E dX12_init_129 ?_
  refine n_iconst E dX12_init_130 ?_
  refine n_putI E fk_RX12_54 rfl rfl (by decide) sR_0 rfl dX12_init_131 ?_
  refine n_aload_0 E dX12_init_134 ?_
  refine n_bipush E (by decide) dX12_init_135 ?_
  refine n_new_int (n := 8) (slots' := 1527) (cells' := 14) (N' := 15) E sR_14 (fun j => z14 j) (by decide) (Nat.le_of_ble_eq_true rfl) (Nat.le_of_ble_eq_true rfl) dX12_init_137 rfl rfl rfl ?_
  refine n_putR E fk_RX12_57 rfl hnm rfl ⟨rfl, rfl⟩ (by decide) sR_0 rfl dX12_init_139 ?_
  refine n_aload_0 E dX12_init_142 ?_
  refine n_sipush E (by decide) dX12_init_143 ?_
  refine n_new_int (n := 768) (slots' := 2295) (cells' := 15) (N' := 16) E sR_15 (fun j => z15 j) (by decide) (Nat.le_of_ble_eq_true rfl) (Nat.le_of_ble_eq_true rfl) dX12_init_146 rfl rfl rfl ?_
  refine n_putR E fk_RX12_60 rfl hnm rfl ⟨rfl, rfl⟩ (by decide) sR_0 rfl dX12_init_148 ?_
  refine n_aload_0 E dX12_init_151 ?_
  refine n_sipush E (by decide) dX12_init_152 ?_
  refine n_new_boolean (n := 768) (slots' := 3063) (cells' := 16) (N' := 17) E sR_16 (fun j => z16 j) (by decide) (Nat.le_of_ble_eq_true rfl) (Nat.le_of_ble_eq_true rfl) dX12_init_155 rfl rfl rfl ?_
  refine n_putR E fk_RX12_63 rfl hnm rfl ⟨rfl, rfl⟩ (by decide) sR_0 rfl dX12_init_157 ?_
  refine n_aload_0 E dX12_init_160 ?_
  refine n_sipush E (by decide) dX12_init_161 ?_
  refine n_new_boolean (n := 768) (slots' := 3831) (cells' := 17) (N' := 18) E sR_17 (fun j => z17 j) (by decide) (Nat.le_of_ble_eq_true rfl) (Nat.le_of_ble_eq_true rfl) dX12_init_164 rfl rfl rfl ?_
  refine n_putR E fk_RX12_67 rfl hnm rfl ⟨rfl, rfl⟩ (by decide) sR_0 rfl dX12_init_166 ?_
  refine n_aload_0 E dX12_init_169 ?_
  refine n_sipush E (by decide) dX12_init_170 ?_
  refine n_new_long (n := 768) (slots' := 4599) (cells' := 18) (N' := 19) E sR_18 (fun j => z18 j) (by decide) (Nat.le_of_ble_eq_true rfl) (Nat.le_of_ble_eq_true rfl) dX12_init_173 rfl rfl rfl ?_
  refine n_putR E fk_RX12_70 rfl hnm rfl ⟨rfl, rfl⟩ (by decide) sR_0 rfl dX12_init_175 ?_
  refine n_aload_0 E dX12_init_178 ?_
  refine n_bipush E (by decide) dX12_init_179 ?_
  refine n_new_int (n := 12) (slots' := 4611) (cells' := 19) (N' := 20) E sR_19 (fun j => z19 j) (by decide) (Nat.le_of_ble_eq_true rfl) (Nat.le_of_ble_eq_true rfl) dX12_init_181 rfl rfl rfl ?_
  refine n_putR E fk_RX12_74 rfl hnm rfl ⟨rfl, rfl⟩ (by decide) sR_0 rfl dX12_init_183 ?_
  refine n_aload_0 E dX12_init_186 ?_
  refine n_sipush E (by decide) dX12_init_187 ?_
  refine n_new_int (n := 768) (slots' := 5379) (cells' := 20) (N' := 21) E sR_20 (fun j => z20 j) (by decide) (Nat.le_of_ble_eq_true rfl) (Nat.le_of_ble_eq_true rfl) dX12_init_190 rfl rfl rfl ?_
  refine n_putR E fk_RX12_77 rfl hnm rfl ⟨rfl, rfl⟩ (by decide) sR_0 rfl dX12_init_192 ?_
  refine n_aload_0 E dX12_init_195 ?_
  refine n_sipush E (by decide) dX12_init_196 ?_
  refine n_new_boolean (n := 768) (slots' := 6147) (cells' := 21) (N' := 22) E sR_21 (fun j => z21 j) (by decide) (Nat.le_of_ble_eq_true rfl) (Nat.le_of_ble_eq_true rfl) dX12_init_199 rfl rfl rfl ?_
  refine n_putR E fk_RX12_80 rfl hnm rfl ⟨rfl, rfl⟩ (by decide) sR_0 rfl dX12_init_201 ?_
  refine n_aload_0 E dX12_init_204 ?_
  refine n_sipush E (by decide) dX12_init_205 ?_
  refine n_new_long (n := 768) (slots' := 6915) (cells' := 22) (N' := 23) E sR_22 (fun j => z22 j) (by decide) (Nat.le_of_ble_eq_true rfl) (Nat.le_of_ble_eq_true rfl) dX12_init_208 rfl rfl rfl ?_
  refine n_putR E fk_RX12_83 rfl hnm rfl ⟨rfl, rfl⟩ (by decide) sR_0 rfl dX12_init_210 ?_
  refine n_aload_0 E dX12_init_213 ?_
  refine n_bipush E (by decide) dX12_init_214 ?_
  refine n_new_boolean (n := 64) (slots' := 6979) (cells' := 23) (N' := 24) E sR_23 (fun j => z23 j) (by decide) (Nat.le_of_ble_eq_true rfl) (Nat.le_of_ble_eq_true rfl) dX12_init_216 rfl rfl rfl ?_
  refine n_putR E fk_RX12_86 rfl hnm rfl ⟨rfl, rfl⟩ (by decide) sR_0 rfl dX12_init_218 ?_
  refine n_aload_0 E dX12_init_221 ?_
  refine n_sipush E (by decide) dX12_init_222 ?_
  refine n_new_long (n := 156) (slots' := 7135) (cells' := 24) (N' := 25) E sR_24 (fun j => z24 j) (by decide) (Nat.le_of_ble_eq_true rfl) (Nat.le_of_ble_eq_true rfl) dX12_init_225 rfl rfl rfl ?_
  refine n_putR E fk_RX12_89 rfl hnm rfl ⟨rfl, rfl⟩ (by decide) sR_0 rfl dX12_init_227 ?_
  refine n_aload_0 E dX12_init_230 ?_
  refine n_bipush E (by decide) dX12_init_231 ?_
  refine n_new_int (n := 12) (slots' := 7147) (cells' := 25) (N' := 26) E sR_25 (fun j => z25 j) (by decide) (Nat.le_of_ble_eq_true rfl) (Nat.le_of_ble_eq_true rfl) dX12_init_233 rfl rfl rfl ?_
  refine n_putR E fk_RX12_92 rfl hnm rfl ⟨rfl, rfl⟩ (by decide) sR_0 rfl dX12_init_235 ?_
  refine n_aload_0 E dX12_init_238 ?_
  refine n_sipush E (by decide) dX12_init_239 ?_
  refine n_new_int (n := 768) (slots' := 7915) (cells' := 26) (N' := 27) E sR_26 (fun j => z26 j) (by decide) (Nat.le_of_ble_eq_true rfl) (Nat.le_of_ble_eq_true rfl) dX12_init_242 rfl rfl rfl ?_
  refine n_putR E fk_RX12_95 rfl hnm rfl ⟨rfl, rfl⟩ (by decide) sR_0 rfl dX12_init_244 ?_
  refine n_aload_0 E dX12_init_247 ?_
  refine n_sipush E (by decide) dX12_init_248 ?_
  refine n_new_int (n := 768) (slots' := 8683) (cells' := 27) (N' := 28) E sR_27 (fun j => z27 j) (by decide) (Nat.le_of_ble_eq_true rfl) (Nat.le_of_ble_eq_true rfl) dX12_init_251 rfl rfl rfl ?_
  refine n_putR E fk_RX12_98 rfl hnm rfl ⟨rfl, rfl⟩ (by decide) sR_0 rfl dX12_init_253 ?_
  refine n_aload_0 E dX12_init_256 ?_
  refine n_ldc (n := 40000) E wk_RX12_101 dX12_init_257 ?_
  refine n_new_int (n := 40000) (slots' := 48683) (cells' := 28) (N' := 29) E sR_28 (fun j => z28 j) (by decide) (Nat.le_of_ble_eq_true rfl) (Nat.le_of_ble_eq_true rfl) dX12_init_259 rfl rfl rfl ?_
  refine n_putR E fk_RX12_102 rfl hnm rfl ⟨rfl, rfl⟩ (by decide) sR_0 rfl dX12_init_261 ?_
  refine n_aload_0 E dX12_init_264 ?_
  refine n_ldc (n := 40000) E wk_RX12_101 dX12_init_265 ?_
  refine n_new_int (n := 40000) (slots' := 88683) (cells' := 29) (N' := 30) E sR_29 (fun j => z29 j) (by decide) (Nat.le_of_ble_eq_true rfl) (Nat.le_of_ble_eq_true rfl) dX12_init_267 rfl rfl rfl ?_
  refine n_putR E fk_RX12_105 rfl hnm rfl ⟨rfl, rfl⟩ (by decide) sR_0 rfl dX12_init_269 ?_
  refine n_aload_0 E dX12_init_272 ?_
  refine n_ldc (n := 40000) E wk_RX12_101 dX12_init_273 ?_
  refine n_new_int (n := 40000) (slots' := 128683) (cells' := 30) (N' := 31) E sR_30 (fun j => z30 j) (by decide) (Nat.le_of_ble_eq_true rfl) (Nat.le_of_ble_eq_true rfl) dX12_init_275 rfl rfl rfl ?_
  refine n_putR E fk_RX12_108 rfl hnm rfl ⟨rfl, rfl⟩ (by decide) sR_0 rfl dX12_init_277 ?_
  refine n_aload_0 E dX12_init_280 ?_
  refine n_ldc (n := 40000) E wk_RX12_101 dX12_init_281 ?_
  refine n_new_int (n := 40000) (slots' := 168683) (cells' := 31) (N' := 32) E sR_31 (fun j => z31 j) (by decide) (Nat.le_of_ble_eq_true rfl) (Nat.le_of_ble_eq_true rfl) dX12_init_283 rfl rfl rfl ?_
  refine n_putR E fk_RX12_111 rfl hnm rfl ⟨rfl, rfl⟩ (by decide) sR_0 rfl dX12_init_285 ?_
  refine n_aload_0 E dX12_init_288 ?_
  refine n_ldc (n := 40000) E wk_RX12_101 dX12_init_289 ?_
  refine n_new_int (n := 40000) (slots' := 208683) (cells' := 32) (N' := 33) E sR_32 (fun j => z32 j) (by decide) (Nat.le_of_ble_eq_true rfl) (Nat.le_of_ble_eq_true rfl) dX12_init_291 rfl rfl rfl ?_
  refine n_putR E fk_RX12_114 rfl hnm rfl ⟨rfl, rfl⟩ (by decide) sR_0 rfl dX12_init_293 ?_
  refine n_aload_0 E dX12_init_296 ?_
  refine n_ldc (n := 40000) E wk_RX12_101 dX12_init_297 ?_
  refine n_new_int (n := 40000) (slots' := 248683) (cells' := 33) (N' := 34) E sR_33 (fun j => z33 j) (by decide) (Nat.le_of_ble_eq_true rfl) (Nat.le_of_ble_eq_true rfl) dX12_init_299 rfl rfl rfl ?_
  refine n_putR E fk_RX12_117 rfl hnm rfl ⟨rfl, rfl⟩ (by decide) sR_0 rfl dX12_init_301 ?_
  refine n_aload_0 E dX12_init_304 ?_
  refine n_ldc (n := 40000) E wk_RX12_101 dX12_init_305 ?_
  refine n_new_int (n := 40000) (slots' := 288683) (cells' := 34) (N' := 35) E sR_34 (fun j => z34 j) (by decide) (Nat.le_of_ble_eq_true rfl) (Nat.le_of_ble_eq_true rfl) dX12_init_307 rfl rfl rfl ?_
  refine n_putR E fk_RX12_120 rfl hnm rfl ⟨rfl, rfl⟩ (by decide) sR_0 rfl dX12_init_309 ?_
  refine n_aload_0 E dX12_init_312 ?_
  refine n_ldc (n := 40000) E wk_RX12_101 dX12_init_313 ?_
  refine n_new_int (n := 40000) (slots' := 328683) (cells' := 35) (N' := 36) E sR_35 (fun j => z35 j) (by decide) (Nat.le_of_ble_eq_true rfl) (Nat.le_of_ble_eq_true rfl) dX12_init_315 rfl rfl rfl ?_
  refine n_putR E fk_RX12_123 rfl hnm rfl ⟨rfl, rfl⟩ (by decide) sR_0 rfl dX12_init_317 ?_
  refine n_aload_0 E dX12_init_320 ?_
  refine n_ldc (n := 40000) E wk_RX12_101 dX12_init_321 ?_
  refine n_new_int (n := 40000) (slots' := 368683) (cells' := 36) (N' := 37) E sR_36 (fun j => z36 j) (by decide) (Nat.le_of_ble_eq_true rfl) (Nat.le_of_ble_eq_true rfl) dX12_init_323 rfl rfl rfl ?_
  refine n_putR E fk_RX12_126 rfl hnm rfl ⟨rfl, rfl⟩ (by decide) sR_0 rfl dX12_init_325 ?_
  refine n_aload_0 E dX12_init_328 ?_
  refine n_sipush E (by decide) dX12_init_329 ?_
  refine n_new_int (n := 12288) (slots' := 380971) (cells' := 37) (N' := 38) E sR_37 (fun j => z37 j) (by decide) (Nat.le_of_ble_eq_true rfl) (Nat.le_of_ble_eq_true rfl) dX12_init_332 rfl rfl rfl ?_
  refine n_putR E fk_RX12_129 rfl hnm rfl ⟨rfl, rfl⟩ (by decide) sR_0 rfl dX12_init_334 ?_
  refine n_aload_0 E dX12_init_337 ?_
  refine n_sipush E (by decide) dX12_init_338 ?_
  refine n_new_int (n := 768) (slots' := 381739) (cells' := 38) (N' := 39) E sR_38 (fun j => z38 j) (by decide) (Nat.le_of_ble_eq_true rfl) (Nat.le_of_ble_eq_true rfl) dX12_init_341 rfl rfl rfl ?_
  refine n_putR E fk_RX12_132 rfl hnm rfl ⟨rfl, rfl⟩ (by decide) sR_0 rfl dX12_init_343 ?_
  refine n_aload_0 E dX12_init_346 ?_
  refine n_sipush E (by decide) dX12_init_347 ?_
  refine n_new_int (n := 1000) (slots' := 382739) (cells' := 39) (N' := 40) E sR_39 (fun j => z39 j) (by decide) (Nat.le_of_ble_eq_true rfl) (Nat.le_of_ble_eq_true rfl) dX12_init_350 rfl rfl rfl ?_
  refine n_putR E fk_RX12_135 rfl hnm rfl ⟨rfl, rfl⟩ (by decide) sR_0 rfl dX12_init_352 ?_
  refine n_aload_0 E dX12_init_355 ?_
  refine n_sipush E (by decide) dX12_init_356 ?_
  refine n_new_byte (n := 20000) (slots' := 402739) (cells' := 40) (N' := 41) E sR_40 (fun j => z40 j) (by decide) (Nat.le_of_ble_eq_true rfl) (Nat.le_of_ble_eq_true rfl) dX12_init_359 rfl rfl rfl ?_
  refine n_putR E fk_RX12_138 rfl hnm rfl ⟨rfl, rfl⟩ (by decide) sR_0 rfl dX12_init_361 ?_
  refine n_aload_0 E dX12_init_364 ?_
  refine n_ldc (n := 231168) E wk_RX12_141 dX12_init_365 ?_
  refine n_new_long (n := 231168) (slots' := 633907) (cells' := 41) (N' := 42) E sR_41 (fun j => z41 j) (by decide) (Nat.le_of_ble_eq_true rfl) (Nat.le_of_ble_eq_true rfl) dX12_init_367 rfl rfl rfl ?_
  refine n_putR E fk_RX12_142 rfl hnm rfl ⟨rfl, rfl⟩ (by decide) sR_0 rfl dX12_init_369 ?_
  refine n_aload_0 E dX12_init_372 ?_
  refine n_getR E fk_RX12_38 (by decide) sR_0 rfl rfl dX12_init_373 ?_
  refine n_iconst E dX12_init_376 ?_
  refine n_iconst E dX12_init_377 ?_
  refine n_iast E (by decide) sR_9 (by decide) (by decide) dX12_init_378 ?_
  refine n_aload_0 E dX12_init_379 ?_
  refine n_getR E fk_RX12_38 (by decide) sR_0 rfl rfl dX12_init_380 ?_
  refine n_iconst E dX12_init_383 ?_
  refine n_iconst E dX12_init_384 ?_
  refine n_iast E (by decide) sR_9 (by decide) (by decide) dX12_init_385 ?_
  refine n_aload_0 E dX12_init_386 ?_
  refine n_getR E fk_RX12_38 (by decide) sR_0 rfl rfl dX12_init_387 ?_
  refine n_iconst E dX12_init_390 ?_
  refine n_iconst E dX12_init_391 ?_
  refine n_iast E (by decide) sR_9 (by decide) (by decide) dX12_init_392 ?_
  refine n_aload_0 E dX12_init_393 ?_
  refine n_getR E fk_RX12_41 (by decide) sR_0 rfl rfl dX12_init_394 ?_
  refine n_iconst E dX12_init_397 ?_
  refine n_iconst E dX12_init_398 ?_
  refine n_iast E (by decide) sR_10 (by decide) (by decide) dX12_init_399 ?_
  exact n_vret E hr rfl dX12_init_400
