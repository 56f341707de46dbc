theorem dJ13_bitCount_95d88_0 : Dc cJ13_bitCount_95d88 0 (.lload_n 0) 1 1 := ⟨by decide +kernel, rfl⟩
theorem dJ13_bitCount_95d88_1 : Dc cJ13_bitCount_95d88 1 (.lload_n 0) 1 2 := ⟨by decide +kernel, rfl⟩
theorem dJ13_bitCount_95d88_2 : Dc cJ13_bitCount_95d88 2 (.iconst 1) 1 3 := ⟨by decide +kernel, rfl⟩
theorem dJ13_bitCount_95d88_3 : Dc cJ13_bitCount_95d88 3 (.lushr) 1 4 := ⟨by decide +kernel, rfl⟩
theorem dJ13_bitCount_95d88_4 : Dc cJ13_bitCount_95d88 4 (.ldc2_w 314) 3 7 := ⟨by decide +kernel, rfl⟩
theorem dJ13_bitCount_95d88_7 : Dc cJ13_bitCount_95d88 7 (.land) 1 8 := ⟨by decide +kernel, rfl⟩
theorem dJ13_bitCount_95d88_8 : Dc cJ13_bitCount_95d88 8 (.lsub) 1 9 := ⟨by decide +kernel, rfl⟩
theorem dJ13_bitCount_95d88_9 : Dc cJ13_bitCount_95d88 9 (.lstore_n 0) 1 10 := ⟨by decide +kernel, rfl⟩
theorem dJ13_bitCount_95d88_10 : Dc cJ13_bitCount_95d88 10 (.lload_n 0) 1 11 := ⟨by decide +kernel, rfl⟩
theorem dJ13_bitCount_95d88_11 : Dc cJ13_bitCount_95d88 11 (.ldc2_w 316) 3 14 := ⟨by decide +kernel, rfl⟩
theorem dJ13_bitCount_95d88_14 : Dc cJ13_bitCount_95d88 14 (.land) 1 15 := ⟨by decide +kernel, rfl⟩
theorem dJ13_bitCount_95d88_15 : Dc cJ13_bitCount_95d88 15 (.lload_n 0) 1 16 := ⟨by decide +kernel, rfl⟩
theorem dJ13_bitCount_95d88_16 : Dc cJ13_bitCount_95d88 16 (.iconst 2) 1 17 := ⟨by decide +kernel, rfl⟩
theorem dJ13_bitCount_95d88_17 : Dc cJ13_bitCount_95d88 17 (.lushr) 1 18 := ⟨by decide +kernel, rfl⟩
theorem dJ13_bitCount_95d88_18 : Dc cJ13_bitCount_95d88 18 (.ldc2_w 316) 3 21 := ⟨by decide +kernel, rfl⟩
theorem dJ13_bitCount_95d88_21 : Dc cJ13_bitCount_95d88 21 (.land) 1 22 := ⟨by decide +kernel, rfl⟩
theorem dJ13_bitCount_95d88_22 : Dc cJ13_bitCount_95d88 22 (.ladd) 1 23 := ⟨by decide +kernel, rfl⟩
theorem dJ13_bitCount_95d88_23 : Dc cJ13_bitCount_95d88 23 (.lstore_n 0) 1 24 := ⟨by decide +kernel, rfl⟩
theorem dJ13_bitCount_95d88_24 : Dc cJ13_bitCount_95d88 24 (.lload_n 0) 1 25 := ⟨by decide +kernel, rfl⟩
theorem dJ13_bitCount_95d88_25 : Dc cJ13_bitCount_95d88 25 (.lload_n 0) 1 26 := ⟨by decide +kernel, rfl⟩
theorem dJ13_bitCount_95d88_26 : Dc cJ13_bitCount_95d88 26 (.iconst 4) 1 27 := ⟨by decide +kernel, rfl⟩
theorem dJ13_bitCount_95d88_27 : Dc cJ13_bitCount_95d88 27 (.lushr) 1 28 := ⟨by decide +kernel, rfl⟩
theorem dJ13_bitCount_95d88_28 : Dc cJ13_bitCount_95d88 28 (.ladd) 1 29 := ⟨by decide +kernel, rfl⟩
theorem dJ13_bitCount_95d88_29 : Dc cJ13_bitCount_95d88 29 (.ldc2_w 318) 3 32 := ⟨by decide +kernel, rfl⟩
theorem dJ13_bitCount_95d88_32 : Dc cJ13_bitCount_95d88 32 (.land) 1 33 := ⟨by decide +kernel, rfl⟩
theorem dJ13_bitCount_95d88_33 : Dc cJ13_bitCount_95d88 33 (.lstore_n 0) 1 34 := ⟨by decide +kernel, rfl⟩
theorem dJ13_bitCount_95d88_34 : Dc cJ13_bitCount_95d88 34 (.lload_n 0) 1 35 := ⟨by decide +kernel, rfl⟩
theorem dJ13_bitCount_95d88_35 : Dc cJ13_bitCount_95d88 35 (.lload_n 0) 1 36 := ⟨by decide +kernel, rfl⟩
theorem dJ13_bitCount_95d88_36 : Dc cJ13_bitCount_95d88 36 (.bipush 8) 2 38 := ⟨by decide +kernel, rfl⟩
theorem dJ13_bitCount_95d88_38 : Dc cJ13_bitCount_95d88 38 (.lushr) 1 39 := ⟨by decide +kernel, rfl⟩
theorem dJ13_bitCount_95d88_39 : Dc cJ13_bitCount_95d88 39 (.ladd) 1 40 := ⟨by decide +kernel, rfl⟩
theorem dJ13_bitCount_95d88_40 : Dc cJ13_bitCount_95d88 40 (.lstore_n 0) 1 41 := ⟨by decide +kernel, rfl⟩
theorem dJ13_bitCount_95d88_41 : Dc cJ13_bitCount_95d88 41 (.lload_n 0) 1 42 := ⟨by decide +kernel, rfl⟩
theorem dJ13_bitCount_95d88_42 : Dc cJ13_bitCount_95d88 42 (.lload_n 0) 1 43 := ⟨by decide +kernel, rfl⟩
theorem dJ13_bitCount_95d88_43 : Dc cJ13_bitCount_95d88 43 (.bipush 16) 2 45 := ⟨by decide +kernel, rfl⟩
theorem dJ13_bitCount_95d88_45 : Dc cJ13_bitCount_95d88 45 (.lushr) 1 46 := ⟨by decide +kernel, rfl⟩
theorem dJ13_bitCount_95d88_46 : Dc cJ13_bitCount_95d88 46 (.ladd) 1 47 := ⟨by decide +kernel, rfl⟩
theorem dJ13_bitCount_95d88_47 : Dc cJ13_bitCount_95d88 47 (.lstore_n 0) 1 48 := ⟨by decide +kernel, rfl⟩
theorem dJ13_bitCount_95d88_48 : Dc cJ13_bitCount_95d88 48 (.lload_n 0) 1 49 := ⟨by decide +kernel, rfl⟩
theorem dJ13_bitCount_95d88_49 : Dc cJ13_bitCount_95d88 49 (.lload_n 0) 1 50 := ⟨by decide +kernel, rfl⟩
theorem dJ13_bitCount_95d88_50 : Dc cJ13_bitCount_95d88 50 (.bipush 32) 2 52 := ⟨by decide +kernel, rfl⟩
theorem dJ13_bitCount_95d88_52 : Dc cJ13_bitCount_95d88 52 (.lushr) 1 53 := ⟨by decide +kernel, rfl⟩
theorem dJ13_bitCount_95d88_53 : Dc cJ13_bitCount_95d88 53 (.ladd) 1 54 := ⟨by decide +kernel, rfl⟩
theorem dJ13_bitCount_95d88_54 : Dc cJ13_bitCount_95d88 54 (.lstore_n 0) 1 55 := ⟨by decide +kernel, rfl⟩
theorem dJ13_bitCount_95d88_55 : Dc cJ13_bitCount_95d88 55 (.lload_n 0) 1 56 := ⟨by decide +kernel, rfl⟩
theorem dJ13_bitCount_95d88_56 : Dc cJ13_bitCount_95d88 56 (.l2i) 1 57 := ⟨by decide +kernel, rfl⟩
theorem dJ13_bitCount_95d88_57 : Dc cJ13_bitCount_95d88 57 (.bipush 127) 2 59 := ⟨by decide +kernel, rfl⟩
theorem dJ13_bitCount_95d88_59 : Dc cJ13_bitCount_95d88 59 (.iand) 1 60 := ⟨by decide +kernel, rfl⟩
theorem dJ13_bitCount_95d88_60 : Dc cJ13_bitCount_95d88 60 (.ireturn) 1 61 := ⟨by decide +kernel, rfl⟩
section
variable {p : Program} {l : Launch} {e : Env} {s : State} {m : MethodId} {args : Array Value} {below : List Frame} {meth : Method} {c : Code} {A0 : Nat → Prop} {D : va_G} {cA : Nat → ClassId} {ad : Nat → Nat} {Z : (Nat → Nat) × (Nat → Nat)} {Q : Int → St → Prop}
set_option maxHeartbeats 4000000 in
set_option maxRecDepth 100000 in
theorem t_J13_bitCount_95d88_R (E : Ev p s m args meth c cJ13_bitCount_95d88 2 RJ13 A0 D cA ad NR Z) (hr : meth.sig.returnType = (some .int)) (x0 : Int) (σ : St) (c0 : C64 x0) (hσ : CanS shR NR σ) (h : wp_J13_bitCount_95d88_R x0 σ Q) : G p l e (rmL 1 0 0) s m args below meth c 2 A0 D cA ad shR NR 0 0 (MQ below (QIc D cA ad shR NR Q A0) args s 0 0 A0) σ 0 [some (vL x0), none] [] := by
  unfold wp_J13_bitCount_95d88_R at h
  refine g_lload_0 E dJ13_bitCount_95d88_0 ?_
  refine g_lload_0 E dJ13_bitCount_95d88_1 ?_
  refine g_iconst E dJ13_bitCount_95d88_2 ?_
  refine g_lushr E dJ13_bitCount_95d88_3 ?_
  refine g_ldc2 (n := 6148914691236517205) E wc_RJ13_314 dJ13_bitCount_95d88_4 ?_
  refine g_land E dJ13_bitCount_95d88_7 ?_
  refine g_lsub E dJ13_bitCount_95d88_8 ?_
  refine g_nmL (fun v1 ev1 => ?_)
  replace h := h v1 ev1
  have cv1 : C64 v1 := by rw [ev1]; exact (c64_w _)
  refine g_lstore_0 E (by decide) dJ13_bitCount_95d88_9 ?_
  refine g_lload_0 E dJ13_bitCount_95d88_10 ?_
  refine g_ldc2 (n := 3689348814741910323) E wc_RJ13_316 dJ13_bitCount_95d88_11 ?_
  refine g_land E dJ13_bitCount_95d88_14 ?_
  refine g_lload_0 E dJ13_bitCount_95d88_15 ?_
  refine g_iconst E dJ13_bitCount_95d88_16 ?_
  refine g_lushr E dJ13_bitCount_95d88_17 ?_
  refine g_ldc2 (n := 3689348814741910323) E wc_RJ13_316 dJ13_bitCount_95d88_18 ?_
  refine g_land E dJ13_bitCount_95d88_21 ?_
  refine g_ladd E dJ13_bitCount_95d88_22 ?_
  refine g_nmL (fun v2 ev2 => ?_)
  replace h := h v2 ev2
  have cv2 : C64 v2 := by rw [ev2]; exact (c64_w _)
  refine g_lstore_0 E (by decide) dJ13_bitCount_95d88_23 ?_
  refine g_lload_0 E dJ13_bitCount_95d88_24 ?_
  refine g_lload_0 E dJ13_bitCount_95d88_25 ?_
  refine g_iconst E dJ13_bitCount_95d88_26 ?_
  refine g_lushr E dJ13_bitCount_95d88_27 ?_
  refine g_ladd E dJ13_bitCount_95d88_28 ?_
  refine g_ldc2 (n := 1085102592571150095) E wc_RJ13_318 dJ13_bitCount_95d88_29 ?_
  refine g_land E dJ13_bitCount_95d88_32 ?_
  refine g_nmL (fun v3 ev3 => ?_)
  replace h := h v3 ev3
  have cv3 : C64 v3 := by rw [ev3]; exact (c64_t _)
  refine g_lstore_0 E (by decide) dJ13_bitCount_95d88_33 ?_
  refine g_lload_0 E dJ13_bitCount_95d88_34 ?_
  refine g_lload_0 E dJ13_bitCount_95d88_35 ?_
  refine g_bipush E (by decide) dJ13_bitCount_95d88_36 ?_
  refine g_lushr E dJ13_bitCount_95d88_38 ?_
  refine g_ladd E dJ13_bitCount_95d88_39 ?_
  refine g_nmL (fun v4 ev4 => ?_)
  replace h := h v4 ev4
  have cv4 : C64 v4 := by rw [ev4]; exact (c64_w _)
  refine g_lstore_0 E (by decide) dJ13_bitCount_95d88_40 ?_
  refine g_lload_0 E dJ13_bitCount_95d88_41 ?_
  refine g_lload_0 E dJ13_bitCount_95d88_42 ?_
  refine g_bipush E (by decide) dJ13_bitCount_95d88_43 ?_
  refine g_lushr E dJ13_bitCount_95d88_45 ?_
  refine g_ladd E dJ13_bitCount_95d88_46 ?_
  refine g_nmL (fun v5 ev5 => ?_)
  replace h := h v5 ev5
  have cv5 : C64 v5 := by rw [ev5]; exact (c64_w _)
  refine g_lstore_0 E (by decide) dJ13_bitCount_95d88_47 ?_
  refine g_lload_0 E dJ13_bitCount_95d88_48 ?_
  refine g_lload_0 E dJ13_bitCount_95d88_49 ?_
  refine g_bipush E (by decide) dJ13_bitCount_95d88_50 ?_
  refine g_lushr E dJ13_bitCount_95d88_52 ?_
  refine g_ladd E dJ13_bitCount_95d88_53 ?_
  refine g_nmL (fun v6 ev6 => ?_)
  replace h := h v6 ev6
  have cv6 : C64 v6 := by rw [ev6]; exact (c64_w _)
  refine g_lstore_0 E (by decide) dJ13_bitCount_95d88_54 ?_
  refine g_lload_0 E dJ13_bitCount_95d88_55 ?_
  refine g_l2i E dJ13_bitCount_95d88_56 ?_
  refine g_bipush E (by decide) dJ13_bitCount_95d88_57 ?_
  refine g_iand E dJ13_bitCount_95d88_59 ?_
  exact g_iret E hr (c32_t _) h hσ dJ13_bitCount_95d88_60
end
theorem m_J13_bitCount_95d88_R {Z : (Nat → Nat) × (Nat → Nat)} {l : Launch} {D : va_G} {cA : Nat → ClassId} {ad : Nat → Nat} {x0 : Int} {σ : St} {Q : Int → St → Prop} (hA : AdOk NR ad) (c0 : C64 x0) (hσ : CanS shR NR σ) (h : wp_J13_bitCount_95d88_R x0 σ Q) : KtI Z l D cA ad shR NR yJ13_bitCount_95d88 cJ13_bitCount_95d88 2 (some .int) 1 [vL x0] σ Q :=
  KtI.of my_J13_bitCount_95d88 hA [some (vL x0), none] (Nat.le_of_ble_eq_true rfl) rfl (fun p e s m args below meth c A0 E hr => t_J13_bitCount_95d88_R E hr x0 σ c0 hσ h)
theorem dX12_count_0 : Dc cX12_count 0 (.iload_n 1) 1 1 := ⟨by decide +kernel, rfl⟩
theorem dX12_count_1 : Dc cX12_count 1 (.tableswitch 119 0 9 #[55, 60, 65, 70, 77, 84, 91, 96, 101, 106]) 55 56 := ⟨by decide +kernel, rfl⟩
theorem dX12_count_56 : Dc cX12_count 56 (.aload_n 0) 1 57 := ⟨by decide +kernel, rfl⟩
theorem dX12_count_57 : Dc cX12_count 57 (.getfield 252) 3 60 := ⟨by decide +kernel, rfl⟩
theorem dX12_count_60 : Dc cX12_count 60 (.ireturn) 1 61 := ⟨by decide +kernel, rfl⟩
theorem dX12_count_61 : Dc cX12_count 61 (.aload_n 0) 1 62 := ⟨by decide +kernel, rfl⟩
theorem dX12_count_62 : Dc cX12_count 62 (.getfield 259) 3 65 := ⟨by decide +kernel, rfl⟩
theorem dX12_count_65 : Dc cX12_count 65 (.ireturn) 1 66 := ⟨by decide +kernel, rfl⟩
theorem dX12_count_66 : Dc cX12_count 66 (.aload_n 0) 1 67 := ⟨by decide +kernel, rfl⟩
theorem dX12_count_67 : Dc cX12_count 67 (.invokevirtual 545) 3 70 := ⟨by decide +kernel, rfl⟩
theorem dX12_count_70 : Dc cX12_count 70 (.ireturn) 1 71 := ⟨by decide +kernel, rfl⟩
theorem dX12_count_71 : Dc cX12_count 71 (.aload_n 0) 1 72 := ⟨by decide +kernel, rfl⟩
theorem dX12_count_72 : Dc cX12_count 72 (.getfield 29) 3 75 := ⟨by decide +kernel, rfl⟩
theorem dX12_count_75 : Dc cX12_count 75 (.iconst 0) 1 76 := ⟨by decide +kernel, rfl⟩
theorem dX12_count_76 : Dc cX12_count 76 (.iaload) 1 77 := ⟨by decide +kernel, rfl⟩
theorem dX12_count_77 : Dc cX12_count 77 (.ireturn) 1 78 := ⟨by decide +kernel, rfl⟩
theorem dX12_count_78 : Dc cX12_count 78 (.aload_n 0) 1 79 := ⟨by decide +kernel, rfl⟩
theorem dX12_count_79 : Dc cX12_count 79 (.getfield 32) 3 82 := ⟨by decide +kernel, rfl⟩
theorem dX12_count_82 : Dc cX12_count 82 (.iconst 0) 1 83 := ⟨by decide +kernel, rfl⟩
theorem dX12_count_83 : Dc cX12_count 83 (.iaload) 1 84 := ⟨by decide +kernel, rfl⟩
theorem dX12_count_84 : Dc cX12_count 84 (.ireturn) 1 85 := ⟨by decide +kernel, rfl⟩
theorem dX12_count_85 : Dc cX12_count 85 (.aload_n 0) 1 86 := ⟨by decide +kernel, rfl⟩
theorem dX12_count_86 : Dc cX12_count 86 (.getfield 35) 3 89 := ⟨by decide +kernel, rfl⟩
theorem dX12_count_89 : Dc cX12_count 89 (.iconst 0) 1 90 := ⟨by decide +kernel, rfl⟩
theorem dX12_count_90 : Dc cX12_count 90 (.iaload) 1 91 := ⟨by decide +kernel, rfl⟩
theorem dX12_count_91 : Dc cX12_count 91 (.ireturn) 1 92 := ⟨by decide +kernel, rfl⟩
theorem dX12_count_92 : Dc cX12_count 92 (.aload_n 0) 1 93 := ⟨by decide +kernel, rfl⟩
theorem dX12_count_93 : Dc cX12_count 93 (.invokevirtual 467) 3 96 := ⟨by decide +kernel, rfl⟩
theorem dX12_count_96 : Dc cX12_count 96 (.ireturn) 1 97 := ⟨by decide +kernel, rfl⟩
theorem dX12_count_97 : Dc cX12_count 97 (.aload_n 0) 1 98 := ⟨by decide +kernel, rfl⟩
theorem dX12_count_98 : Dc cX12_count 98 (.getfield 145) 3 101 := ⟨by decide +kernel, rfl⟩
theorem dX12_count_101 : Dc cX12_count 101 (.ireturn) 1 102 := ⟨by decide +kernel, rfl⟩
theorem dX12_count_102 : Dc cX12_count 102 (.aload_n 0) 1 103 := ⟨by decide +kernel, rfl⟩
theorem dX12_count_103 : Dc cX12_count 103 (.getfield 551) 3 106 := ⟨by decide +kernel, rfl⟩
theorem dX12_count_106 : Dc cX12_count 106 (.ireturn) 1 107 := ⟨by decide +kernel, rfl⟩
theorem dX12_count_107 : Dc cX12_count 107 (.aload_n 0) 1 108 := ⟨by decide +kernel, rfl⟩
theorem dX12_count_108 : Dc cX12_count 108 (.getfield 252) 3 111 := ⟨by decide +kernel, rfl⟩
theorem dX12_count_111 : Dc cX12_count 111 (.aload_n 0) 1 112 := ⟨by decide +kernel, rfl⟩
theorem dX12_count_112 : Dc cX12_count 112 (.getfield 255) 3 115 := ⟨by decide +kernel, rfl⟩
theorem dX12_count_115 : Dc cX12_count 115 (.invokestatic 592) 3 118 := ⟨by decide +kernel, rfl⟩
theorem dX12_count_118 : Dc cX12_count 118 (.isub) 1 119 := ⟨by decide +kernel, rfl⟩
theorem dX12_count_119 : Dc cX12_count 119 (.ireturn) 1 120 := ⟨by decide +kernel, rfl⟩
theorem dX12_count_120 : Dc cX12_count 120 (.iconst (-1)) 1 121 := ⟨by decide +kernel, rfl⟩
theorem dX12_count_121 : Dc cX12_count 121 (.ireturn) 1 122 := ⟨by decide +kernel, rfl⟩
section
variable {p : Program} {l : Launch} {e : Env} {s : State} {m : MethodId} {args : Array Value} {below : List Frame} {meth : Method} {c : Code} {A0 : Nat → Prop} {D : va_G} {cA : Nat → ClassId} {ad : Nat → Nat} {Z : (Nat → Nat) × (Nat → Nat)} {Q : Int → St → Prop}
set_option maxHeartbeats 4000000 in
set_option maxRecDepth 100000 in
theorem t_X12_count (E : Ev p s m args meth c cX12_count 2 RX12 A0 D cA ad NR Z) (hr : meth.sig.returnType = (some .int)) (x1 : Int) (σ : St) (c1 : C32 x1) (hσ : CanS shR NR σ) (h : wp_X12_count x1 σ Q) : G p l e (rmL 8 0 0) s m args below meth c 2 A0 D cA ad shR NR 0 0 (MQ below (QIc D cA ad shR NR Q A0) args s 0 0 A0) σ 0 [some (.ref (ad 0)), some (vI x1)] [] := by
  unfold wp_X12_count at h
  refine g_iload_1 E dX12_count_0 ?_
  by_cases hs0 : x1 = 0
  · refine g_tableIn (v := 0) (i := 0) E c1 hs0 (by decide) (by decide) dX12_count_1 rfl (tgt := 56) (by decide) ?_
    replace h := h.1 hs0
    refine g_aload_0 E dX12_count_56 ?_
    refine g_getI E fl_RX12_252 kR_0 sR_0 rfl dX12_count_57 ?_
    exact g_iret E hr (fR_0_1 hσ) h hσ dX12_count_60
  by_cases hs1 : x1 = 1
  · refine g_tableIn (v := 1) (i := 1) E c1 hs1 (by decide) (by decide) dX12_count_1 rfl (tgt := 61) (by decide) ?_
    replace h := h.2.1 hs1
    refine g_aload_0 E dX12_count_61 ?_
    refine g_getI E fl_RX12_259 kR_0 sR_0 rfl dX12_count_62 ?_
    exact g_iret E hr (fR_0_15 hσ) h hσ dX12_count_65
  by_cases hs2 : x1 = 2
  · refine g_tableIn (v := 2) (i := 2) E c1 hs2 (by decide) (by decide) dX12_count_1 rfl (tgt := 66) (by decide) ?_
    replace h := h.2.2.1 hs2
    refine g_aload_0 E dX12_count_66 ?_
    refine g_callvI E my_X12_start mi_X12_start msel_X12_start ml_RX12_545 (rm_ok (by decide) (by decide)) ⟨Nat.zero_le _, Nat.zero_le _⟩ kR_0 sR_0 rfl (m_X12_start E.2.2.1 hσ h) rfl rfl (Nat.le_of_ble_eq_true rfl) dX12_count_67 (fun r1 σ2 cr1 hσ2 h => ?_)
    exact g_iret E hr cr1 h hσ2 dX12_count_70
  by_cases hs3 : x1 = 3
  · refine g_tableIn (v := 3) (i := 3) E c1 hs3 (by decide) (by decide) dX12_count_1 rfl (tgt := 71) (by decide) ?_
    replace h := h.2.2.2.1 hs3
    refine g_aload_0 E dX12_count_71 ?_
    refine g_getR E fl_RX12_29 kR_0 sR_0 rfl dX12_count_72 ?_
    refine g_iconst E dX12_count_75 ?_
    refine g_iald E kR_6 sR_6 (by decide) (by decide) dX12_count_76 ?_
    exact g_iret E hr (aR_6 hσ _) h hσ dX12_count_77
  by_cases hs4 : x1 = 4
  · refine g_tableIn (v := 4) (i := 4) E c1 hs4 (by decide) (by decide) dX12_count_1 rfl (tgt := 78) (by decide) ?_
    replace h := h.2.2.2.2.1 hs4
    refine g_aload_0 E dX12_count_78 ?_
    refine g_getR E fl_RX12_32 kR_0 sR_0 rfl dX12_count_79 ?_
    refine g_iconst E dX12_count_82 ?_
    refine g_iald E kR_7 sR_7 (by decide) (by decide) dX12_count_83 ?_
    exact g_iret E hr (aR_7 hσ _) h hσ dX12_count_84
  by_cases hs5 : x1 = 5
  · refine g_tableIn (v := 5) (i := 5) E c1 hs5 (by decide) (by decide) dX12_count_1 rfl (tgt := 85) (by decide) ?_
    replace h := h.2.2.2.2.2.1 hs5
    refine g_aload_0 E dX12_count_85 ?_
    refine g_getR E fl_RX12_35 kR_0 sR_0 rfl dX12_count_86 ?_
    refine g_iconst E dX12_count_89 ?_
    refine g_iald E kR_8 sR_8 (by decide) (by decide) dX12_count_90 ?_
    exact g_iret E hr (aR_8 hσ _) h hσ dX12_count_91
  by_cases hs6 : x1 = 6
  · refine g_tableIn (v := 6) (i := 6) E c1 hs6 (by decide) (by decide) dX12_count_1 rfl (tgt := 92) (by decide) ?_
    replace h := h.2.2.2.2.2.2.1 hs6
    refine g_aload_0 E dX12_count_92 ?_
    refine g_callvI E my_X12_itemsMany mi_X12_itemsMany msel_X12_itemsMany ml_RX12_467 (rm_ok (by decide) (by decide)) ⟨Nat.zero_le _, Nat.zero_le _⟩ kR_0 sR_0 rfl (m_X12_itemsMany E.2.2.1 hσ h) rfl rfl (Nat.le_of_ble_eq_true rfl) dX12_count_93 (fun r3 σ4 cr3 hσ4 h => ?_)
    exact g_iret E hr cr3 h hσ4 dX12_count_96
  by_cases hs7 : x1 = 7
  · refine g_tableIn (v := 7) (i := 7) E c1 hs7 (by decide) (by decide) dX12_count_1 rfl (tgt := 97) (by decide) ?_
    replace h := h.2.2.2.2.2.2.2.1 hs7
    refine g_aload_0 E dX12_count_97 ?_
    refine g_getI E fl_RX12_145 kR_0 sR_0 rfl dX12_count_98 ?_
    exact g_iret E hr (fR_0_17 hσ) h hσ dX12_count_101
  by_cases hs8 : x1 = 8
  · refine g_tableIn (v := 8) (i := 8) E c1 hs8 (by decide) (by decide) dX12_count_1 rfl (tgt := 102) (by decide) ?_
    replace h := h.2.2.2.2.2.2.2.2.1 hs8
    refine g_aload_0 E dX12_count_102 ?_
    refine g_getI E fl_RX12_551 kR_0 sR_0 rfl dX12_count_103 ?_
    exact g_iret E hr (fR_0_61 hσ) h hσ dX12_count_106
  by_cases hs9 : x1 = 9
  · refine g_tableIn (v := 9) (i := 9) E c1 hs9 (by decide) (by decide) dX12_count_1 rfl (tgt := 107) (by decide) ?_
    replace h := h.2.2.2.2.2.2.2.2.2.1 hs9
    refine g_aload_0 E dX12_count_107 ?_
    refine g_getI E fl_RX12_252 kR_0 sR_0 rfl dX12_count_108 ?_
    refine g_aload_0 E dX12_count_111 ?_
    refine g_getL E fl_RX12_255 kR_0 sR_0 rfl dX12_count_112 ?_
    refine g_callsI E my_J13_bitCount_95d88 ms_J13_bitCount_95d88 ml_RX12_592 (rm_ok (by decide) (by decide)) ⟨Nat.zero_le _, Nat.zero_le _⟩ (m_J13_bitCount_95d88_R E.2.2.1 (fR_0_2 hσ) hσ h) rfl rfl (Nat.le_of_ble_eq_true rfl) dX12_count_115 (fun r5 σ6 cr5 hσ6 h => ?_)
    refine g_isub E dX12_count_118 ?_
    exact g_iret E hr (c32_w _) h hσ6 dX12_count_119
  replace h := h.2.2.2.2.2.2.2.2.2.2 ⟨hs0, hs1, hs2, hs3, hs4, hs5, hs6, hs7, hs8, hs9⟩
  refine g_tableOut E c1 (by omega) dX12_count_1 (tgt := 120) (by decide) ?_
  refine g_iconst E dX12_count_120 ?_
  exact g_iret E hr cl_m1 h hσ dX12_count_121
end
theorem m_X12_count {Z : (Nat → Nat) × (Nat → Nat)} {l : Launch} {D : va_G} {cA : Nat → ClassId} {ad : Nat → Nat} {x1 : Int} {σ : St} {Q : Int → St → Prop} (hA : AdOk NR ad) (c1 : C32 x1) (hσ : CanS shR NR σ) (h : wp_X12_count x1 σ Q) : KtI Z l D cA ad shR NR yX12_count cX12_count 2 (some .int) 8 [.ref (ad 0), vI x1] σ Q :=
  KtI.of my_X12_count hA [some (.ref (ad 0)), some (vI x1)] (Nat.le_of_ble_eq_true rfl) rfl (fun p e s m args below meth c A0 E hr => t_X12_count E hr x1 σ c1 hσ h)
