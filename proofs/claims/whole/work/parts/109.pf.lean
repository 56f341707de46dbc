theorem dX8_countCase_0 : Dc cX8_countCase 0 (.aload_n 0) 1 1 := ⟨by decide +kernel, rfl⟩
theorem dX8_countCase_1 : Dc cX8_countCase 1 (.getfield 15) 3 4 := ⟨by decide +kernel, rfl⟩
theorem dX8_countCase_4 : Dc cX8_countCase 4 (.getfield 100) 3 7 := ⟨by decide +kernel, rfl⟩
theorem dX8_countCase_7 : Dc cX8_countCase 7 (.iload_n 1) 1 8 := ⟨by decide +kernel, rfl⟩
theorem dX8_countCase_8 : Dc cX8_countCase 8 (.iaload) 1 9 := ⟨by decide +kernel, rfl⟩
theorem dX8_countCase_9 : Dc cX8_countCase 9 (.istore_n 3) 1 10 := ⟨by decide +kernel, rfl⟩
theorem dX8_countCase_10 : Dc cX8_countCase 10 (.aload_n 0) 1 11 := ⟨by decide +kernel, rfl⟩
theorem dX8_countCase_11 : Dc cX8_countCase 11 (.getfield 15) 3 14 := ⟨by decide +kernel, rfl⟩
theorem dX8_countCase_14 : Dc cX8_countCase 14 (.getfield 103) 3 17 := ⟨by decide +kernel, rfl⟩
theorem dX8_countCase_17 : Dc cX8_countCase 17 (.iload_n 1) 1 18 := ⟨by decide +kernel, rfl⟩
theorem dX8_countCase_18 : Dc cX8_countCase 18 (.iaload) 1 19 := ⟨by decide +kernel, rfl⟩
theorem dX8_countCase_19 : Dc cX8_countCase 19 (.istore 4) 2 21 := ⟨by decide +kernel, rfl⟩
theorem dX8_countCase_21 : Dc cX8_countCase 21 (.iload_n 3) 1 22 := ⟨by decide +kernel, rfl⟩
theorem djX8_countCase_22 : Dj cX8_countCase 22 (.ifCond .ge 18) 3 25 18 40 := ⟨by decide +kernel, rfl, by decide⟩
theorem dX8_countCase_25 : Dc cX8_countCase 25 (.iload 4) 2 27 := ⟨by decide +kernel, rfl⟩
theorem djX8_countCase_27 : Dj cX8_countCase 27 (.ifCond .ge 13) 3 30 13 40 := ⟨by decide +kernel, rfl, by decide⟩
theorem dX8_countCase_30 : Dc cX8_countCase 30 (.iload_n 2) 1 31 := ⟨by decide +kernel, rfl⟩
theorem djX8_countCase_31 : Dj cX8_countCase 31 (.ifCond .ne 7) 3 34 7 38 := ⟨by decide +kernel, rfl, by decide⟩
theorem dX8_countCase_34 : Dc cX8_countCase 34 (.lconst 1) 1 35 := ⟨by decide +kernel, rfl⟩
theorem djX8_countCase_35 : Dj cX8_countCase 35 (.goto 4) 3 38 4 39 := ⟨by decide +kernel, rfl, by decide⟩
theorem dX8_countCase_38 : Dc cX8_countCase 38 (.lconst 0) 1 39 := ⟨by decide +kernel, rfl⟩
theorem dX8_countCase_39 : Dc cX8_countCase 39 (.lreturn) 1 40 := ⟨by decide +kernel, rfl⟩
theorem dX8_countCase_40 : Dc cX8_countCase 40 (.iload_n 3) 1 41 := ⟨by decide +kernel, rfl⟩
theorem djX8_countCase_41 : Dj cX8_countCase 41 (.ifCond .lt 8) 3 44 8 49 := ⟨by decide +kernel, rfl, by decide⟩
theorem dX8_countCase_44 : Dc cX8_countCase 44 (.iload 4) 2 46 := ⟨by decide +kernel, rfl⟩
theorem djX8_countCase_46 : Dj cX8_countCase 46 (.ifCond .ge 21) 3 49 21 67 := ⟨by decide +kernel, rfl, by decide⟩
theorem dX8_countCase_49 : Dc cX8_countCase 49 (.aload_n 0) 1 50 := ⟨by decide +kernel, rfl⟩
theorem dX8_countCase_50 : Dc cX8_countCase 50 (.getfield 48) 3 53 := ⟨by decide +kernel, rfl⟩
theorem dX8_countCase_53 : Dc cX8_countCase 53 (.iload_n 3) 1 54 := ⟨by decide +kernel, rfl⟩
theorem dX8_countCase_54 : Dc cX8_countCase 54 (.iload 4) 2 56 := ⟨by decide +kernel, rfl⟩
theorem dX8_countCase_56 : Dc cX8_countCase 56 (.invokestatic 106) 3 59 := ⟨by decide +kernel, rfl⟩
theorem dX8_countCase_59 : Dc cX8_countCase 59 (.sipush 301) 3 62 := ⟨by decide +kernel, rfl⟩
theorem dX8_countCase_62 : Dc cX8_countCase 62 (.imul) 1 63 := ⟨by decide +kernel, rfl⟩
theorem dX8_countCase_63 : Dc cX8_countCase 63 (.iload_n 2) 1 64 := ⟨by decide +kernel, rfl⟩
theorem dX8_countCase_64 : Dc cX8_countCase 64 (.iadd) 1 65 := ⟨by decide +kernel, rfl⟩
theorem dX8_countCase_65 : Dc cX8_countCase 65 (.laload) 1 66 := ⟨by decide +kernel, rfl⟩
theorem dX8_countCase_66 : Dc cX8_countCase 66 (.lreturn) 1 67 := ⟨by decide +kernel, rfl⟩
theorem dX8_countCase_67 : Dc cX8_countCase 67 (.aload_n 0) 1 68 := ⟨by decide +kernel, rfl⟩
theorem dX8_countCase_68 : Dc cX8_countCase 68 (.iload_n 3) 1 69 := ⟨by decide +kernel, rfl⟩
theorem dX8_countCase_69 : Dc cX8_countCase 69 (.iload 4) 2 71 := ⟨by decide +kernel, rfl⟩
theorem dX8_countCase_71 : Dc cX8_countCase 71 (.iload_n 2) 1 72 := ⟨by decide +kernel, rfl⟩
theorem dX8_countCase_72 : Dc cX8_countCase 72 (.invokevirtual 112) 3 75 := ⟨by decide +kernel, rfl⟩
theorem dX8_countCase_75 : Dc cX8_countCase 75 (.lreturn) 1 76 := ⟨by decide +kernel, rfl⟩
section
variable {p : Program} {l : Launch} {e : Env} {s : State} {m : MethodId} {args : Array Value} {below : List Frame} {meth : Method} {c : Code} {A0 : Nat → Prop} {D : va_G} {cA : Nat → ClassId} {ad : Nat → Nat} {Z : (Nat → Nat) × (Nat → Nat)} {Q : Int → St → Prop}
set_option maxHeartbeats 4000000 in
set_option maxRecDepth 100000 in
theorem t_X8_countCase_b49 (E : Ev p s m args meth c cX8_countCase 5 RX8 A0 D cA ad (NC true) Z) (hr : meth.sig.returnType = (some .long)) (x2 : Int) (x3 : Int) (x4 : Int) (σ : St) (c2 : C32 x2) (c3 : C32 x3) (c4 : C32 x4) (hσ : CanS (shC true) (NC true) σ) (h : wp_X8_countCase_b49 Q x2 x3 x4 σ) : G p l e (rmL 3 0 0) s m args below meth c 5 A0 D cA ad (shC true) (NC true) 0 0 (MQ below (QLc D cA ad (shC true) (NC true) Q A0) args s 0 0 A0) σ 49 [some (.ref (ad 76)), none, some (vI x2), some (vI x3), some (vI x4)] [] := by
  unfold wp_X8_countCase_b49 at h
  refine g_aload_0 E dX8_countCase_49 ?_
  refine g_getR E fl_RX8_48 (kC_76 true) sC_76t rfl dX8_countCase_50 ?_
  refine g_iload_3 E dX8_countCase_53 ?_
  refine g_iload_4 E dX8_countCase_54 ?_
  refine g_mmax E ml_RX8_106 c3 c4 (Nat.le_of_ble_eq_true rfl) (rm_1 3) ⟨Nat.zero_le _, Nat.zero_le _⟩ dX8_countCase_56 ?_
  refine g_sipush E (by decide) dX8_countCase_59 ?_
  refine g_imul E dX8_countCase_62 ?_
  refine g_iload_2 E dX8_countCase_63 ?_
  refine g_iadd E dX8_countCase_64 ?_
  refine g_lald E (kC_83 true) (sC_83 true) (by decide) h.1 dX8_countCase_65 ?_
  replace h := h.2
  exact g_lret E hr (aC_83 hσ _) h hσ dX8_countCase_66
set_option maxHeartbeats 4000000 in
set_option maxRecDepth 100000 in
theorem t_X8_countCase_b40 (E : Ev p s m args meth c cX8_countCase 5 RX8 A0 D cA ad (NC true) Z) (hr : meth.sig.returnType = (some .long)) (x2 : Int) (x3 : Int) (x4 : Int) (σ : St) (c2 : C32 x2) (c3 : C32 x3) (c4 : C32 x4) (hσ : CanS (shC true) (NC true) σ) (h : wp_X8_countCase_b40 Q x2 x3 x4 σ) : G p l e (rmL 3 0 0) s m args below meth c 5 A0 D cA ad (shC true) (NC true) 0 0 (MQ below (QLc D cA ad (shC true) (NC true) Q A0) args s 0 0 A0) σ 40 [some (.ref (ad 76)), none, some (vI x2), some (vI x3), some (vI x4)] [] := by
  unfold wp_X8_countCase_b40 at h
  refine g_iload_3 E dX8_countCase_40 ?_
  refine g_if_lt E c3 djX8_countCase_41 (fun hc => ?_) (fun hc => ?_)
  · replace h := h.1 hc
    exact (t_X8_countCase_b49 E hr x2 x3 x4 σ c2 c3 c4 hσ h).weak (w_k (w_d (w_k (w_k (w_k w_n)))))
  · replace h := h.2 hc
    refine g_iload_4 E dX8_countCase_44 ?_
    refine g_if_ge E c4 djX8_countCase_46 (fun hc => ?_) (fun hc => ?_)
    · replace h := h.1 hc
      refine g_aload_0 E dX8_countCase_67 ?_
      refine g_iload_3 E dX8_countCase_68 ?_
      refine g_iload_4 E dX8_countCase_69 ?_
      refine g_iload_2 E dX8_countCase_71 ?_
      refine g_callvL E my_X8_countPairs mi_X8_countPairs msel_X8_countPairs ml_RX8_112 (rm_ok (by decide) (by decide)) ⟨Nat.zero_le _, Nat.zero_le _⟩ (kC_76 true) sC_76t rfl (m_X8_countPairs E.2.2.1 c3 c4 c2 hσ h) rfl rfl (Nat.le_of_ble_eq_true rfl) dX8_countCase_72 (fun r3 σ4 cr3 hσ4 h => ?_)
      exact g_lret E hr cr3 h hσ4 dX8_countCase_75
    · replace h := h.2 hc
      exact (t_X8_countCase_b49 E hr x2 x3 x4 σ c2 c3 c4 hσ h).weak (w_k (w_d (w_k (w_k (w_k w_n)))))
set_option maxHeartbeats 4000000 in
set_option maxRecDepth 100000 in
theorem t_X8_countCase (E : Ev p s m args meth c cX8_countCase 5 RX8 A0 D cA ad (NC true) Z) (hr : meth.sig.returnType = (some .long)) (x1 : Int) (x2 : Int) (σ : St) (c1 : C32 x1) (c2 : C32 x2) (hσ : CanS (shC true) (NC true) σ) (h : wp_X8_countCase x1 x2 σ Q) : G p l e (rmL 3 0 0) s m args below meth c 5 A0 D cA ad (shC true) (NC true) 0 0 (MQ below (QLc D cA ad (shC true) (NC true) Q A0) args s 0 0 A0) σ 0 [some (.ref (ad 76)), some (vI x1), some (vI x2), none, none] [] := by
  unfold wp_X8_countCase at h
  refine g_aload_0 E dX8_countCase_0 ?_
  refine g_getR E fl_RX8_15 (kC_76 true) sC_76t rfl dX8_countCase_1 ?_
  refine g_getR E fl_RX8_100 (kC_24 true) (sC_24 true) rfl dX8_countCase_4 ?_
  refine g_iload_1 E dX8_countCase_7 ?_
  refine g_iald E (kC_31 true) (sC_31 true) (by decide) h.1 dX8_countCase_8 ?_
  replace h := h.2
  refine g_nmI (fun v1 ev1 => ?_)
  replace h := h v1 ev1
  have cv1 : C32 v1 := by rw [ev1]; exact (aC_31 hσ _)
  refine g_istore_3 E rfl (by decide) dX8_countCase_9 ?_
  refine g_aload_0 E dX8_countCase_10 ?_
  refine g_getR E fl_RX8_15 (kC_76 true) sC_76t rfl dX8_countCase_11 ?_
  refine g_getR E fl_RX8_103 (kC_24 true) (sC_24 true) rfl dX8_countCase_14 ?_
  refine g_iload_1 E dX8_countCase_17 ?_
  refine g_iald E (kC_32 true) (sC_32 true) (by decide) h.1 dX8_countCase_18 ?_
  replace h := h.2
  refine g_nmI (fun v2 ev2 => ?_)
  replace h := h v2 ev2
  have cv2 : C32 v2 := by rw [ev2]; exact (aC_32 hσ _)
  refine g_istore_4 E rfl (by decide) dX8_countCase_19 ?_
  refine g_iload_3 E dX8_countCase_21 ?_
  refine g_if_ge E cv1 djX8_countCase_22 (fun hc => ?_) (fun hc => ?_)
  · replace h := h.1 hc
    exact (t_X8_countCase_b40 E hr x2 v1 v2 σ c2 cv1 cv2 hσ h).weak (w_k (w_d (w_k (w_k (w_k w_n)))))
  · replace h := h.2 hc
    refine g_iload_4 E dX8_countCase_25 ?_
    refine g_if_ge E cv2 djX8_countCase_27 (fun hc => ?_) (fun hc => ?_)
    · replace h := h.1 hc
      exact (t_X8_countCase_b40 E hr x2 v1 v2 σ c2 cv1 cv2 hσ h).weak (w_k (w_d (w_k (w_k (w_k w_n)))))
    · replace h := h.2 hc
      refine g_iload_2 E dX8_countCase_30 ?_
      refine g_if_ne E c2 djX8_countCase_31 (fun hc => ?_) (fun hc => ?_)
      · replace h := h.1 hc
        refine g_lconst (n := 0) E (by decide) dX8_countCase_38 ?_
        exact g_lret E hr cL_0 h hσ dX8_countCase_39
      · replace h := h.2 hc
        refine g_lconst (n := 1) E (by decide) dX8_countCase_34 ?_
        refine g_goto E djX8_countCase_35 ?_
        exact g_lret E hr cL_1 h hσ dX8_countCase_39
end
theorem m_X8_countCase {Z : (Nat → Nat) × (Nat → Nat)} {l : Launch} {D : va_G} {cA : Nat → ClassId} {ad : Nat → Nat} {x1 x2 : Int} {σ : St} {Q : Int → St → Prop} (hA : AdOk (NC true) ad) (c1 : C32 x1) (c2 : C32 x2) (hσ : CanS (shC true) (NC true) σ) (h : wp_X8_countCase x1 x2 σ Q) : KtL Z l D cA ad (shC true) (NC true) yX8_countCase cX8_countCase 5 (some .long) 3 [.ref (ad 76), vI x1, vI x2] σ Q :=
  KtL.of my_X8_countCase hA [some (.ref (ad 76)), some (vI x1), some (vI x2), none, none] (Nat.le_of_ble_eq_true rfl) rfl (fun p e s m args below meth c A0 E hr => t_X8_countCase E hr x1 x2 σ c1 c2 hσ h)
theorem dX8_countItem_0 : Dc cX8_countItem 0 (.lconst 0) 1 1 := ⟨by decide +kernel, rfl⟩
theorem dX8_countItem_1 : Dc cX8_countItem 1 (.lstore_n 3) 1 2 := ⟨by decide +kernel, rfl⟩
theorem dX8_countItem_2 : Dc cX8_countItem 2 (.aload_n 0) 1 3 := ⟨by decide +kernel, rfl⟩
theorem dX8_countItem_3 : Dc cX8_countItem 3 (.getfield 19) 3 6 := ⟨by decide +kernel, rfl⟩
theorem dX8_countItem_6 : Dc cX8_countItem 6 (.iload_n 1) 1 7 := ⟨by decide +kernel, rfl⟩
theorem dX8_countItem_7 : Dc cX8_countItem 7 (.invokevirtual 70) 3 10 := ⟨by decide +kernel, rfl⟩
theorem djX8_countItem_10 : Dj cX8_countItem 10 (.ifCond .eq 29) 3 13 29 39 := ⟨by decide +kernel, rfl, by decide⟩
theorem dX8_countItem_13 : Dc cX8_countItem 13 (.iload_n 2) 1 14 := ⟨by decide +kernel, rfl⟩
theorem dX8_countItem_14 : Dc cX8_countItem 14 (.aload_n 0) 1 15 := ⟨by decide +kernel, rfl⟩
theorem dX8_countItem_15 : Dc cX8_countItem 15 (.getfield 19) 3 18 := ⟨by decide +kernel, rfl⟩
theorem dX8_countItem_18 : Dc cX8_countItem 18 (.getfield 74) 3 21 := ⟨by decide +kernel, rfl⟩
theorem dX8_countItem_21 : Dc cX8_countItem 21 (.iload_n 1) 1 22 := ⟨by decide +kernel, rfl⟩
theorem dX8_countItem_22 : Dc cX8_countItem 22 (.iaload) 1 23 := ⟨by decide +kernel, rfl⟩
theorem djX8_countItem_23 : Dj cX8_countItem 23 (.if_icmp .lt 16) 3 26 16 39 := ⟨by decide +kernel, rfl, by decide⟩
theorem dX8_countItem_26 : Dc cX8_countItem 26 (.aload_n 0) 1 27 := ⟨by decide +kernel, rfl⟩
theorem dX8_countItem_27 : Dc cX8_countItem 27 (.getfield 30) 3 30 := ⟨by decide +kernel, rfl⟩
theorem dX8_countItem_30 : Dc cX8_countItem 30 (.iload_n 1) 1 31 := ⟨by decide +kernel, rfl⟩
theorem dX8_countItem_31 : Dc cX8_countItem 31 (.laload) 1 32 := ⟨by decide +kernel, rfl⟩
theorem dX8_countItem_32 : Dc cX8_countItem 32 (.ldc2_w 77) 3 35 := ⟨by decide +kernel, rfl⟩
theorem dX8_countItem_35 : Dc cX8_countItem 35 (.lcmp) 1 36 := ⟨by decide +kernel, rfl⟩
theorem djX8_countItem_36 : Dj cX8_countItem 36 (.ifCond .lt 5) 3 39 5 41 := ⟨by decide +kernel, rfl, by decide⟩
theorem dX8_countItem_39 : Dc cX8_countItem 39 (.lload_n 3) 1 40 := ⟨by decide +kernel, rfl⟩
theorem dX8_countItem_40 : Dc cX8_countItem 40 (.lreturn) 1 41 := ⟨by decide +kernel, rfl⟩
theorem dX8_countItem_41 : Dc cX8_countItem 41 (.aload_n 0) 1 42 := ⟨by decide +kernel, rfl⟩
theorem dX8_countItem_42 : Dc cX8_countItem 42 (.getfield 15) 3 45 := ⟨by decide +kernel, rfl⟩
theorem dX8_countItem_45 : Dc cX8_countItem 45 (.iload_n 1) 1 46 := ⟨by decide +kernel, rfl⟩
theorem dX8_countItem_46 : Dc cX8_countItem 46 (.invokevirtual 79) 3 49 := ⟨by decide +kernel, rfl⟩
theorem dX8_countItem_49 : Dc cX8_countItem 49 (.istore 5) 2 51 := ⟨by decide +kernel, rfl⟩
theorem dX8_countItem_51 : Dc cX8_countItem 51 (.iload 5) 2 53 := ⟨by decide +kernel, rfl⟩
theorem dX8_countItem_53 : Dc cX8_countItem 53 (.aload_n 0) 1 54 := ⟨by decide +kernel, rfl⟩
theorem dX8_countItem_54 : Dc cX8_countItem 54 (.getfield 15) 3 57 := ⟨by decide +kernel, rfl⟩
theorem dX8_countItem_57 : Dc cX8_countItem 57 (.iload_n 1) 1 58 := ⟨by decide +kernel, rfl⟩
theorem dX8_countItem_58 : Dc cX8_countItem 58 (.invokevirtual 83) 3 61 := ⟨by decide +kernel, rfl⟩
theorem djX8_countItem_61 : Dj cX8_countItem 61 (.if_icmp .ge 61) 3 64 61 122 := ⟨by decide +kernel, rfl, by decide⟩
theorem dX8_countItem_64 : Dc cX8_countItem 64 (.iload_n 2) 1 65 := ⟨by decide +kernel, rfl⟩
theorem dX8_countItem_65 : Dc cX8_countItem 65 (.aload_n 0) 1 66 := ⟨by decide +kernel, rfl⟩
theorem dX8_countItem_66 : Dc cX8_countItem 66 (.getfield 9) 3 69 := ⟨by decide +kernel, rfl⟩
theorem dX8_countItem_69 : Dc cX8_countItem 69 (.getfield 86) 3 72 := ⟨by decide +kernel, rfl⟩
theorem dX8_countItem_72 : Dc cX8_countItem 72 (.aload_n 0) 1 73 := ⟨by decide +kernel, rfl⟩
theorem dX8_countItem_73 : Dc cX8_countItem 73 (.getfield 15) 3 76 := ⟨by decide +kernel, rfl⟩
theorem dX8_countItem_76 : Dc cX8_countItem 76 (.getfield 91) 3 79 := ⟨by decide +kernel, rfl⟩
theorem dX8_countItem_79 : Dc cX8_countItem 79 (.iload 5) 2 81 := ⟨by decide +kernel, rfl⟩
theorem dX8_countItem_81 : Dc cX8_countItem 81 (.iaload) 1 82 := ⟨by decide +kernel, rfl⟩
theorem dX8_countItem_82 : Dc cX8_countItem 82 (.iaload) 1 83 := ⟨by decide +kernel, rfl⟩
theorem dX8_countItem_83 : Dc cX8_countItem 83 (.isub) 1 84 := ⟨by decide +kernel, rfl⟩
theorem dX8_countItem_84 : Dc cX8_countItem 84 (.istore 6) 2 86 := ⟨by decide +kernel, rfl⟩
theorem dX8_countItem_86 : Dc cX8_countItem 86 (.iload 6) 2 88 := ⟨by decide +kernel, rfl⟩
theorem djX8_countItem_88 : Dj cX8_countItem 88 (.ifCond .lt 28) 3 91 28 116 := ⟨by decide +kernel, rfl, by decide⟩
theorem dX8_countItem_91 : Dc cX8_countItem 91 (.aload_n 0) 1 92 := ⟨by decide +kernel, rfl⟩
theorem dX8_countItem_92 : Dc cX8_countItem 92 (.getfield 19) 3 95 := ⟨by decide +kernel, rfl⟩
theorem dX8_countItem_95 : Dc cX8_countItem 95 (.iload 5) 2 97 := ⟨by decide +kernel, rfl⟩
theorem dX8_countItem_97 : Dc cX8_countItem 97 (.invokevirtual 94) 3 100 := ⟨by decide +kernel, rfl⟩
theorem djX8_countItem_100 : Dj cX8_countItem 100 (.ifCond .eq 16) 3 103 16 116 := ⟨by decide +kernel, rfl, by decide⟩
theorem dX8_countItem_103 : Dc cX8_countItem 103 (.lload_n 3) 1 104 := ⟨by decide +kernel, rfl⟩
theorem dX8_countItem_104 : Dc cX8_countItem 104 (.aload_n 0) 1 105 := ⟨by decide +kernel, rfl⟩
theorem dX8_countItem_105 : Dc cX8_countItem 105 (.iload 5) 2 107 := ⟨by decide +kernel, rfl⟩
theorem dX8_countItem_107 : Dc cX8_countItem 107 (.iload 6) 2 109 := ⟨by decide +kernel, rfl⟩
theorem dX8_countItem_109 : Dc cX8_countItem 109 (.invokevirtual 97) 3 112 := ⟨by decide +kernel, rfl⟩
theorem dX8_countItem_112 : Dc cX8_countItem 112 (.invokestatic 62) 3 115 := ⟨by decide +kernel, rfl⟩
theorem dX8_countItem_115 : Dc cX8_countItem 115 (.lstore_n 3) 1 116 := ⟨by decide +kernel, rfl⟩
theorem dX8_countItem_116 : Dc cX8_countItem 116 (.iinc 5 1) 3 119 := ⟨by decide +kernel, rfl⟩
theorem djX8_countItem_119 : Dj cX8_countItem 119 (.goto (-68)) 3 122 (-68) 51 := ⟨by decide +kernel, rfl, by decide⟩
theorem dX8_countItem_122 : Dc cX8_countItem 122 (.lload_n 3) 1 123 := ⟨by decide +kernel, rfl⟩
theorem dX8_countItem_123 : Dc cX8_countItem 123 (.lreturn) 1 124 := ⟨by decide +kernel, rfl⟩
section
variable {p : Program} {l : Launch} {e : Env} {s : State} {m : MethodId} {args : Array Value} {below : List Frame} {meth : Method} {c : Code} {A0 : Nat → Prop} {D : va_G} {cA : Nat → ClassId} {ad : Nat → Nat} {Z : (Nat → Nat) × (Nat → Nat)} {Q : Int → St → Prop}
set_option maxHeartbeats 4000000 in
set_option maxRecDepth 100000 in
theorem t_X8_countItem_b116 (E : Ev p s m args meth c cX8_countItem 7 RX8 A0 D cA ad (NC true) Z) (hr : meth.sig.returnType = (some .long)) {K51 : Int → Int → Int → Int → St → Prop} (hK51 : ∀ (x1 : Int) (x2 : Int) (x3 : Int) (x5 : Int) (σ : St), C32 x1 → C32 x2 → C64 x3 → C32 x5 → CanS (shC true) (NC true) σ → K51 x1 x2 x3 x5 σ → G p l e (rmL 4 0 0) s m args below meth c 7 A0 D cA ad (shC true) (NC true) 0 0 (MQ below (QLc D cA ad (shC true) (NC true) Q A0) args s 0 0 A0) σ 51 [some (.ref (ad 76)), some (vI x1), some (vI x2), some (vL x3), none, some (vI x5), none] []) (x1 : Int) (x2 : Int) (x3 : Int) (x5 : Int) (σ : St) (c1 : C32 x1) (c2 : C32 x2) (c3 : C64 x3) (c5 : C32 x5) (hσ : CanS (shC true) (NC true) σ) (h : wp_X8_countItem_b116 Q K51 x1 x2 x3 x5 σ) : G p l e (rmL 4 0 0) s m args below meth c 7 A0 D cA ad (shC true) (NC true) 0 0 (MQ below (QLc D cA ad (shC true) (NC true) Q A0) args s 0 0 A0) σ 116 [some (.ref (ad 76)), some (vI x1), some (vI x2), some (vL x3), none, some (vI x5), none] [] := by
  unfold wp_X8_countItem_b116 at h
  refine g_iinc_5 E rfl (by decide) dX8_countItem_116 (fun v14 ev14 => ?_)
  replace h := h v14 ev14
  have cv14 : C32 v14 := by rw [ev14]; exact c32_w _
  refine g_goto E djX8_countItem_119 ?_
  exact (hK51 x1 x2 x3 v14 σ c1 c2 c3 cv14 hσ h).weak (w_k (w_k (w_k (w_k (w_d (w_k (w_d w_n)))))))
set_option maxHeartbeats 4000000 in
set_option maxRecDepth 100000 in
theorem t_X8_countItem_l51 (E : Ev p s m args meth c cX8_countItem 7 RX8 A0 D cA ad (NC true) Z) (hr : meth.sig.returnType = (some .long)) : ∀ (n : Nat) (x1 : Int) (x2 : Int) (x3 : Int) (x5 : Int) (σ : St), C32 x1 → C32 x2 → C64 x3 → C32 x5 → CanS (shC true) (NC true) σ → wp_X8_countItem_l51 Q n x1 x2 x3 x5 σ → G p l e (rmL 4 0 0) s m args below meth c 7 A0 D cA ad (shC true) (NC true) 0 0 (MQ below (QLc D cA ad (shC true) (NC true) Q A0) args s 0 0 A0) σ 51 [some (.ref (ad 76)), some (vI x1), some (vI x2), some (vL x3), none, some (vI x5), none] [] := by
  intro n
  induction n with
  | zero => intro _ _ _ _ _ _ _ _ _ _ h; exact h.elim
  | succ n ih =>
    intro x1 x2 x3 x5 σ c1 c2 c3 c5 hσ h
    unfold wp_X8_countItem_l51 at h
    refine g_iload_5 E dX8_countItem_51 ?_
    refine g_aload_0 E dX8_countItem_53 ?_
    refine g_getR E fl_RX8_15 (kC_76 true) sC_76t rfl dX8_countItem_54 ?_
    refine g_iload_1 E dX8_countItem_57 ?_
    refine g_callvI E my_X0_caseEnd mi_X0_caseEnd msel_X0_caseEnd ml_RX8_83 (rm_ok (by decide) (by decide)) ⟨Nat.zero_le _, Nat.zero_le _⟩ (kC_24 true) (sC_24 true) rfl (m_X0_caseEnd E.2.2.1 c1 hσ h) rfl rfl (Nat.le_of_ble_eq_true rfl) dX8_countItem_58 (fun r5 σ6 cr5 hσ6 h => ?_)
    refine g_icmp_ge E c5 cr5 djX8_countItem_61 (fun hc => ?_) (fun hc => ?_)
    · replace h := h.1 hc
      refine g_lload_3 E dX8_countItem_122 ?_
      exact g_lret E hr c3 h hσ6 dX8_countItem_123
    · replace h := h.2 hc
      refine g_iload_2 E dX8_countItem_64 ?_
      refine g_aload_0 E dX8_countItem_65 ?_
      refine g_getR E fl_RX8_9 (kC_76 true) sC_76t rfl dX8_countItem_66 ?_
      refine g_getR E fl_RX8_86 (kC_14 true) (sC_14 true) rfl dX8_countItem_69 ?_
      refine g_aload_0 E dX8_countItem_72 ?_
      refine g_getR E fl_RX8_15 (kC_76 true) sC_76t rfl dX8_countItem_73 ?_
      refine g_getR E fl_RX8_91 (kC_24 true) (sC_24 true) rfl dX8_countItem_76 ?_
      refine g_iload_5 E dX8_countItem_79 ?_
      refine g_iald E (kC_29 true) (sC_29 true) (by decide) h.1 dX8_countItem_81 ?_
      replace h := h.2
      refine g_iald E (kC_18 true) (sC_18 true) (by decide) h.1 dX8_countItem_82 ?_
      replace h := h.2
      refine g_isub E dX8_countItem_83 ?_
      refine g_nmI (fun v7 ev7 => ?_)
      replace h := h v7 ev7
      have cv7 : C32 v7 := by rw [ev7]; exact (c32_w _)
      refine g_istore_6 E rfl (by decide) dX8_countItem_84 ?_
      refine g_iload_6 E dX8_countItem_86 ?_
      refine g_if_lt E cv7 djX8_countItem_88 (fun hc => ?_) (fun hc => ?_)
      · replace h := h.1 hc
        exact (t_X8_countItem_b116 E hr ih x1 x2 x3 x5 σ6 c1 c2 c3 c5 hσ6 h).weak (w_k (w_k (w_k (w_k (w_d (w_k (w_d w_n)))))))
      · replace h := h.2 hc
        refine g_aload_0 E dX8_countItem_91 ?_
        refine g_getR E fl_RX8_19 (kC_76 true) sC_76t rfl dX8_countItem_92 ?_
        refine g_iload_5 E dX8_countItem_95 ?_
        refine g_callvI E my_X1_isFull mi_X1_isFull msel_X1_isFull ml_RX8_94 (rm_ok (by decide) (by decide)) ⟨Nat.zero_le _, Nat.zero_le _⟩ (kC_36 true) (sC_36 true) rfl (m_X1_isFull E.2.2.1 c5 hσ6 h) rfl rfl (Nat.le_of_ble_eq_true rfl) dX8_countItem_97 (fun r8 σ9 cr8 hσ9 h => ?_)
        refine g_if_eq E cr8 djX8_countItem_100 (fun hc => ?_) (fun hc => ?_)
        · replace h := h.1 hc
          exact (t_X8_countItem_b116 E hr ih x1 x2 x3 x5 σ9 c1 c2 c3 c5 hσ9 h).weak (w_k (w_k (w_k (w_k (w_d (w_k (w_d w_n)))))))
        · replace h := h.2 hc
          refine g_lload_3 E dX8_countItem_103 ?_
          refine g_aload_0 E dX8_countItem_104 ?_
          refine g_iload_5 E dX8_countItem_105 ?_
          refine g_iload_6 E dX8_countItem_107 ?_
          refine g_callvL E my_X8_countCase mi_X8_countCase msel_X8_countCase ml_RX8_97 (rm_ok (by decide) (by decide)) ⟨Nat.zero_le _, Nat.zero_le _⟩ (kC_76 true) sC_76t rfl (m_X8_countCase E.2.2.1 c5 cv7 hσ9 h) rfl rfl (Nat.le_of_ble_eq_true rfl) dX8_countItem_109 (fun r10 σ11 cr10 hσ11 h => ?_)
          refine g_callsL E my_X8_add ms_X8_add ml_RX8_62 (rm_ok (by decide) (by decide)) ⟨Nat.zero_le _, Nat.zero_le _⟩ (m_X8_add E.2.2.1 c3 cr10 hσ11 h) rfl rfl (Nat.le_of_ble_eq_true rfl) dX8_countItem_112 (fun r12 σ13 cr12 hσ13 h => ?_)
          refine g_lstore_3 E rfl (by decide) dX8_countItem_115 ?_
          exact (t_X8_countItem_b116 E hr ih x1 x2 r12 x5 σ13 c1 c2 cr12 c5 hσ13 h).weak (w_k (w_k (w_k (w_k (w_d (w_k (w_d w_n)))))))
set_option maxHeartbeats 4000000 in
set_option maxRecDepth 100000 in
theorem t_X8_countItem (E : Ev p s m args meth c cX8_countItem 7 RX8 A0 D cA ad (NC true) Z) (hr : meth.sig.returnType = (some .long)) (x1 : Int) (x2 : Int) (σ : St) (c1 : C32 x1) (c2 : C32 x2) (hσ : CanS (shC true) (NC true) σ) (h : wp_X8_countItem x1 x2 σ Q) : G p l e (rmL 4 0 0) s m args below meth c 7 A0 D cA ad (shC true) (NC true) 0 0 (MQ below (QLc D cA ad (shC true) (NC true) Q A0) args s 0 0 A0) σ 0 [some (.ref (ad 76)), some (vI x1), some (vI x2), none, none, none, none] [] := by
  unfold wp_X8_countItem at h
  refine g_lconst (n := 0) E (by decide) dX8_countItem_0 ?_
  refine g_lstore_3 E rfl (by decide) dX8_countItem_1 ?_
  refine g_aload_0 E dX8_countItem_2 ?_
  refine g_getR E fl_RX8_19 (kC_76 true) sC_76t rfl dX8_countItem_3 ?_
  refine g_iload_1 E dX8_countItem_6 ?_
  refine g_callvI E my_X1_has mi_X1_has msel_X1_has ml_RX8_70 (rm_ok (by decide) (by decide)) ⟨Nat.zero_le _, Nat.zero_le _⟩ (kC_36 true) (sC_36 true) rfl (m_X1_has E.2.2.1 c1 hσ h) rfl rfl (Nat.le_of_ble_eq_true rfl) dX8_countItem_7 (fun r1 σ2 cr1 hσ2 h => ?_)
  refine g_if_eq E cr1 djX8_countItem_10 (fun hc => ?_) (fun hc => ?_)
  · replace h := h.1 hc
    refine g_lload_3 E dX8_countItem_39 ?_
    exact g_lret E hr cL_0 h hσ2 dX8_countItem_40
  · replace h := h.2 hc
    refine g_iload_2 E dX8_countItem_13 ?_
    refine g_aload_0 E dX8_countItem_14 ?_
    refine g_getR E fl_RX8_19 (kC_76 true) sC_76t rfl dX8_countItem_15 ?_
    refine g_getR E fl_RX8_74 (kC_36 true) (sC_36 true) rfl dX8_countItem_18 ?_
    refine g_iload_1 E dX8_countItem_21 ?_
    refine g_iald E (kC_37 true) (sC_37 true) (by decide) h.1 dX8_countItem_22 ?_
    replace h := h.2
    refine g_icmp_lt E c2 (aC_37 hσ2 _) djX8_countItem_23 (fun hc => ?_) (fun hc => ?_)
    · replace h := h.1 hc
      refine g_lload_3 E dX8_countItem_39 ?_
      exact g_lret E hr cL_0 h hσ2 dX8_countItem_40
    · replace h := h.2 hc
      refine g_aload_0 E dX8_countItem_26 ?_
      refine g_getR E fl_RX8_30 (kC_76 true) sC_76t rfl dX8_countItem_27 ?_
      refine g_iload_1 E dX8_countItem_30 ?_
      refine g_lald E (kC_79 true) (sC_79 true) (by decide) h.1 dX8_countItem_31 ?_
      replace h := h.2
      refine g_ldc2 (n := 1000000000000001) E wc_RX8_77 dX8_countItem_32 ?_
      refine g_lcmp_lt E (aC_79 hσ2 _) cL_1000000000000001 dX8_countItem_35 djX8_countItem_36 (fun hc => ?_) (fun hc => ?_)
      · replace h := h.1 hc
        refine g_aload_0 E dX8_countItem_41 ?_
        refine g_getR E fl_RX8_15 (kC_76 true) sC_76t rfl dX8_countItem_42 ?_
        refine g_iload_1 E dX8_countItem_45 ?_
        refine g_callvI E my_X0_caseStart mi_X0_caseStart msel_X0_caseStart ml_RX8_79 (rm_ok (by decide) (by decide)) ⟨Nat.zero_le _, Nat.zero_le _⟩ (kC_24 true) (sC_24 true) rfl (m_X0_caseStart E.2.2.1 c1 hσ2 h) rfl rfl (Nat.le_of_ble_eq_true rfl) dX8_countItem_46 (fun r3 σ4 cr3 hσ4 h => ?_)
        refine g_istore_5 E rfl (by decide) dX8_countItem_49 ?_
        exact (t_X8_countItem_l51 E hr bigN x1 x2 0 r3 σ4 c1 c2 cL_0 cr3 hσ4 h).weak (w_k (w_k (w_k (w_k (w_d (w_k (w_d w_n)))))))
      · replace h := h.2 hc
        refine g_lload_3 E dX8_countItem_39 ?_
        exact g_lret E hr cL_0 h hσ2 dX8_countItem_40
end
theorem m_X8_countItem {Z : (Nat → Nat) × (Nat → Nat)} {l : Launch} {D : va_G} {cA : Nat → ClassId} {ad : Nat → Nat} {x1 x2 : Int} {σ : St} {Q : Int → St → Prop} (hA : AdOk (NC true) ad) (c1 : C32 x1) (c2 : C32 x2) (hσ : CanS (shC true) (NC true) σ) (h : wp_X8_countItem x1 x2 σ Q) : KtL Z l D cA ad (shC true) (NC true) yX8_countItem cX8_countItem 7 (some .long) 4 [.ref (ad 76), vI x1, vI x2] σ Q :=
  KtL.of my_X8_countItem hA [some (.ref (ad 76)), some (vI x1), some (vI x2), none, none, none, none] (Nat.le_of_ble_eq_true rfl) rfl (fun p e s m args below meth c A0 E hr => t_X8_countItem E hr x1 x2 σ c1 c2 hσ h)
theorem dX8_countSpan_0 : Dc cX8_countSpan 0 (.iload_n 1) 1 1 := ⟨by decide +kernel, rfl⟩
theorem dX8_countSpan_1 : Dc cX8_countSpan 1 (.bipush 12) 2 3 := ⟨by decide +kernel, rfl⟩
theorem dX8_countSpan_3 : Dc cX8_countSpan 3 (.imul) 1 4 := ⟨by decide +kernel, rfl⟩
theorem dX8_countSpan_4 : Dc cX8_countSpan 4 (.istore_n 3) 1 5 := ⟨by decide +kernel, rfl⟩
theorem dX8_countSpan_5 : Dc cX8_countSpan 5 (.aload_n 0) 1 6 := ⟨by decide +kernel, rfl⟩
theorem dX8_countSpan_6 : Dc cX8_countSpan 6 (.getfield 23) 3 9 := ⟨by decide +kernel, rfl⟩
theorem dX8_countSpan_9 : Dc cX8_countSpan 9 (.iload_n 1) 1 10 := ⟨by decide +kernel, rfl⟩
theorem dX8_countSpan_10 : Dc cX8_countSpan 10 (.iaload) 1 11 := ⟨by decide +kernel, rfl⟩
theorem dX8_countSpan_11 : Dc cX8_countSpan 11 (.iconst 1) 1 12 := ⟨by decide +kernel, rfl⟩
theorem dX8_countSpan_12 : Dc cX8_countSpan 12 (.iadd) 1 13 := ⟨by decide +kernel, rfl⟩
theorem dX8_countSpan_13 : Dc cX8_countSpan 13 (.istore 4) 2 15 := ⟨by decide +kernel, rfl⟩
theorem dX8_countSpan_15 : Dc cX8_countSpan 15 (.iload 4) 2 17 := ⟨by decide +kernel, rfl⟩
theorem dX8_countSpan_17 : Dc cX8_countSpan 17 (.iload_n 2) 1 18 := ⟨by decide +kernel, rfl⟩
theorem djX8_countSpan_18 : Dj cX8_countSpan 18 (.if_icmp .gt 104) 3 21 104 122 := ⟨by decide +kernel, rfl, by decide⟩
theorem dX8_countSpan_21 : Dc cX8_countSpan 21 (.iload 4) 2 23 := ⟨by decide +kernel, rfl⟩
theorem dX8_countSpan_23 : Dc cX8_countSpan 23 (.sipush 301) 3 26 := ⟨by decide +kernel, rfl⟩
theorem djX8_countSpan_26 : Dj cX8_countSpan 26 (.if_icmp .ge 96) 3 29 96 122 := ⟨by decide +kernel, rfl, by decide⟩
theorem dX8_countSpan_29 : Dc cX8_countSpan 29 (.iload_n 3) 1 30 := ⟨by decide +kernel, rfl⟩
theorem dX8_countSpan_30 : Dc cX8_countSpan 30 (.istore 5) 2 32 := ⟨by decide +kernel, rfl⟩
theorem dX8_countSpan_32 : Dc cX8_countSpan 32 (.iload 5) 2 34 := ⟨by decide +kernel, rfl⟩
theorem dX8_countSpan_34 : Dc cX8_countSpan 34 (.iload_n 3) 1 35 := ⟨by decide +kernel, rfl⟩
theorem dX8_countSpan_35 : Dc cX8_countSpan 35 (.bipush 12) 2 37 := ⟨by decide +kernel, rfl⟩
theorem dX8_countSpan_37 : Dc cX8_countSpan 37 (.iadd) 1 38 := ⟨by decide +kernel, rfl⟩
theorem djX8_countSpan_38 : Dj cX8_countSpan 38 (.if_icmp .ge 70) 3 41 70 108 := ⟨by decide +kernel, rfl, by decide⟩
theorem dX8_countSpan_41 : Dc cX8_countSpan 41 (.aload_n 0) 1 42 := ⟨by decide +kernel, rfl⟩
theorem dX8_countSpan_42 : Dc cX8_countSpan 42 (.iload 5) 2 44 := ⟨by decide +kernel, rfl⟩
theorem dX8_countSpan_44 : Dc cX8_countSpan 44 (.iload 4) 2 46 := ⟨by decide +kernel, rfl⟩
theorem dX8_countSpan_46 : Dc cX8_countSpan 46 (.invokevirtual 66) 3 49 := ⟨by decide +kernel, rfl⟩
theorem dX8_countSpan_49 : Dc cX8_countSpan 49 (.lstore 6) 2 51 := ⟨by decide +kernel, rfl⟩
theorem dX8_countSpan_51 : Dc cX8_countSpan 51 (.aload_n 0) 1 52 := ⟨by decide +kernel, rfl⟩
theorem dX8_countSpan_52 : Dc cX8_countSpan 52 (.getfield 48) 3 55 := ⟨by decide +kernel, rfl⟩
theorem dX8_countSpan_55 : Dc cX8_countSpan 55 (.iload 5) 2 57 := ⟨by decide +kernel, rfl⟩
theorem dX8_countSpan_57 : Dc cX8_countSpan 57 (.sipush 301) 3 60 := ⟨by decide +kernel, rfl⟩
theorem dX8_countSpan_60 : Dc cX8_countSpan 60 (.imul) 1 61 := ⟨by decide +kernel, rfl⟩
theorem dX8_countSpan_61 : Dc cX8_countSpan 61 (.iload 4) 2 63 := ⟨by decide +kernel, rfl⟩
theorem dX8_countSpan_63 : Dc cX8_countSpan 63 (.iadd) 1 64 := ⟨by decide +kernel, rfl⟩
theorem dX8_countSpan_64 : Dc cX8_countSpan 64 (.lload 6) 2 66 := ⟨by decide +kernel, rfl⟩
theorem dX8_countSpan_66 : Dc cX8_countSpan 66 (.lastore) 1 67 := ⟨by decide +kernel, rfl⟩
theorem dX8_countSpan_67 : Dc cX8_countSpan 67 (.lload 6) 2 69 := ⟨by decide +kernel, rfl⟩
theorem dX8_countSpan_69 : Dc cX8_countSpan 69 (.lconst 0) 1 70 := ⟨by decide +kernel, rfl⟩
theorem dX8_countSpan_70 : Dc cX8_countSpan 70 (.lcmp) 1 71 := ⟨by decide +kernel, rfl⟩
theorem djX8_countSpan_71 : Dj cX8_countSpan 71 (.ifCond .eq 31) 3 74 31 102 := ⟨by decide +kernel, rfl, by decide⟩
theorem dX8_countSpan_74 : Dc cX8_countSpan 74 (.aload_n 0) 1 75 := ⟨by decide +kernel, rfl⟩
theorem dX8_countSpan_75 : Dc cX8_countSpan 75 (.getfield 27) 3 78 := ⟨by decide +kernel, rfl⟩
theorem dX8_countSpan_78 : Dc cX8_countSpan 78 (.iload 5) 2 80 := ⟨by decide +kernel, rfl⟩
theorem dX8_countSpan_80 : Dc cX8_countSpan 80 (.iload 4) 2 82 := ⟨by decide +kernel, rfl⟩
theorem dX8_countSpan_82 : Dc cX8_countSpan 82 (.iastore) 1 83 := ⟨by decide +kernel, rfl⟩
theorem dX8_countSpan_83 : Dc cX8_countSpan 83 (.aload_n 0) 1 84 := ⟨by decide +kernel, rfl⟩
theorem dX8_countSpan_84 : Dc cX8_countSpan 84 (.getfield 30) 3 87 := ⟨by decide +kernel, rfl⟩
theorem dX8_countSpan_87 : Dc cX8_countSpan 87 (.iload 5) 2 89 := ⟨by decide +kernel, rfl⟩
theorem dX8_countSpan_89 : Dc cX8_countSpan 89 (.aload_n 0) 1 90 := ⟨by decide +kernel, rfl⟩
theorem dX8_countSpan_90 : Dc cX8_countSpan 90 (.getfield 30) 3 93 := ⟨by decide +kernel, rfl⟩
theorem dX8_countSpan_93 : Dc cX8_countSpan 93 (.iload 5) 2 95 := ⟨by decide +kernel, rfl⟩
theorem dX8_countSpan_95 : Dc cX8_countSpan 95 (.laload) 1 96 := ⟨by decide +kernel, rfl⟩
theorem dX8_countSpan_96 : Dc cX8_countSpan 96 (.lload 6) 2 98 := ⟨by decide +kernel, rfl⟩
theorem dX8_countSpan_98 : Dc cX8_countSpan 98 (.invokestatic 62) 3 101 := ⟨by decide +kernel, rfl⟩
theorem dX8_countSpan_101 : Dc cX8_countSpan 101 (.lastore) 1 102 := ⟨by decide +kernel, rfl⟩
theorem dX8_countSpan_102 : Dc cX8_countSpan 102 (.iinc 5 1) 3 105 := ⟨by decide +kernel, rfl⟩
theorem djX8_countSpan_105 : Dj cX8_countSpan 105 (.goto (-73)) 3 108 (-73) 32 := ⟨by decide +kernel, rfl, by decide⟩
theorem dX8_countSpan_108 : Dc cX8_countSpan 108 (.aload_n 0) 1 109 := ⟨by decide +kernel, rfl⟩
theorem dX8_countSpan_109 : Dc cX8_countSpan 109 (.getfield 23) 3 112 := ⟨by decide +kernel, rfl⟩
theorem dX8_countSpan_112 : Dc cX8_countSpan 112 (.iload_n 1) 1 113 := ⟨by decide +kernel, rfl⟩
theorem dX8_countSpan_113 : Dc cX8_countSpan 113 (.iload 4) 2 115 := ⟨by decide +kernel, rfl⟩
theorem dX8_countSpan_115 : Dc cX8_countSpan 115 (.iastore) 1 116 := ⟨by decide +kernel, rfl⟩
theorem dX8_countSpan_116 : Dc cX8_countSpan 116 (.iinc 4 1) 3 119 := ⟨by decide +kernel, rfl⟩
theorem djX8_countSpan_119 : Dj cX8_countSpan 119 (.goto (-104)) 3 122 (-104) 15 := ⟨by decide +kernel, rfl, by decide⟩
theorem dX8_countSpan_122 : Dc cX8_countSpan 122 (.return_) 1 123 := ⟨by decide +kernel, rfl⟩
section
variable {p : Program} {l : Launch} {e : Env} {s : State} {m : MethodId} {args : Array Value} {below : List Frame} {meth : Method} {c : Code} {A0 : Nat → Prop} {D : va_G} {cA : Nat → ClassId} {ad : Nat → Nat} {Z : (Nat → Nat) × (Nat → Nat)} {Q : Int → St → Prop}
set_option maxHeartbeats 4000000 in
set_option maxRecDepth 100000 in
theorem t_X8_countSpan_b102 (E : Ev p s m args meth c cX8_countSpan 8 RX8 A0 D cA ad (NC true) Z) (hr : meth.sig.returnType = none) {K15 : Int → Int → Int → Int → St → Prop} (hK15 : ∀ (x1 : Int) (x2 : Int) (x3 : Int) (x4 : Int) (σ : St), C32 x1 → C32 x2 → C32 x3 → C32 x4 → CanS (shC true) (NC true) σ → K15 x1 x2 x3 x4 σ → G p l e (rmL 5 0 0) s m args below meth c 8 A0 D cA ad (shC true) (NC true) 0 0 (MQ below (QVc D cA ad (shC true) (NC true) Q A0) args s 0 0 A0) σ 15 [some (.ref (ad 76)), some (vI x1), some (vI x2), some (vI x3), some (vI x4), none, none, none] []) {K32 : Int → Int → Int → Int → Int → St → Prop} (hK32 : ∀ (x1 : Int) (x2 : Int) (x3 : Int) (x4 : Int) (x5 : Int) (σ : St), C32 x1 → C32 x2 → C32 x3 → C32 x4 → C32 x5 → CanS (shC true) (NC true) σ → K32 x1 x2 x3 x4 x5 σ → G p l e (rmL 5 0 0) s m args below meth c 8 A0 D cA ad (shC true) (NC true) 0 0 (MQ below (QVc D cA ad (shC true) (NC true) Q A0) args s 0 0 A0) σ 32 [some (.ref (ad 76)), some (vI x1), some (vI x2), some (vI x3), some (vI x4), some (vI x5), none, none] []) (x1 : Int) (x2 : Int) (x3 : Int) (x4 : Int) (x5 : Int) (σ : St) (c1 : C32 x1) (c2 : C32 x2) (c3 : C32 x3) (c4 : C32 x4) (c5 : C32 x5) (hσ : CanS (shC true) (NC true) σ) (h : wp_X8_countSpan_b102 Q K15 K32 x1 x2 x3 x4 x5 σ) : G p l e (rmL 5 0 0) s m args below meth c 8 A0 D cA ad (shC true) (NC true) 0 0 (MQ below (QVc D cA ad (shC true) (NC true) Q A0) args s 0 0 A0) σ 102 [some (.ref (ad 76)), some (vI x1), some (vI x2), some (vI x3), some (vI x4), some (vI x5), none, none] [] := by
  unfold wp_X8_countSpan_b102 at h
  refine g_iinc_5 E rfl (by decide) dX8_countSpan_102 (fun v12 ev12 => ?_)
  replace h := h v12 ev12
  have cv12 : C32 v12 := by rw [ev12]; exact c32_w _
  refine g_goto E djX8_countSpan_105 ?_
  exact (hK32 x1 x2 x3 x4 v12 σ c1 c2 c3 c4 cv12 hσ h).weak (w_k (w_k (w_k (w_k (w_k (w_k (w_d (w_d w_n))))))))
set_option maxHeartbeats 4000000 in
set_option maxRecDepth 100000 in
theorem t_X8_countSpan_l32 (E : Ev p s m args meth c cX8_countSpan 8 RX8 A0 D cA ad (NC true) Z) (hr : meth.sig.returnType = none) {K15 : Int → Int → Int → Int → St → Prop} (hK15 : ∀ (x1 : Int) (x2 : Int) (x3 : Int) (x4 : Int) (σ : St), C32 x1 → C32 x2 → C32 x3 → C32 x4 → CanS (shC true) (NC true) σ → K15 x1 x2 x3 x4 σ → G p l e (rmL 5 0 0) s m args below meth c 8 A0 D cA ad (shC true) (NC true) 0 0 (MQ below (QVc D cA ad (shC true) (NC true) Q A0) args s 0 0 A0) σ 15 [some (.ref (ad 76)), some (vI x1), some (vI x2), some (vI x3), some (vI x4), none, none, none] []) : ∀ (n : Nat) (x1 : Int) (x2 : Int) (x3 : Int) (x4 : Int) (x5 : Int) (σ : St), C32 x1 → C32 x2 → C32 x3 → C32 x4 → C32 x5 → CanS (shC true) (NC true) σ → wp_X8_countSpan_l32 Q K15 n x1 x2 x3 x4 x5 σ → G p l e (rmL 5 0 0) s m args below meth c 8 A0 D cA ad (shC true) (NC true) 0 0 (MQ below (QVc D cA ad (shC true) (NC true) Q A0) args s 0 0 A0) σ 32 [some (.ref (ad 76)), some (vI x1), some (vI x2), some (vI x3), some (vI x4), some (vI x5), none, none] [] := by
  intro n
  induction n with
  | zero => intro _ _ _ _ _ _ _ _ _ _ _ _ h; exact h.elim
  | succ n ih =>
    intro x1 x2 x3 x4 x5 σ c1 c2 c3 c4 c5 hσ h
    unfold wp_X8_countSpan_l32 at h
    refine g_iload_5 E dX8_countSpan_32 ?_
    refine g_iload_3 E dX8_countSpan_34 ?_
    refine g_bipush E (by decide) dX8_countSpan_35 ?_
    refine g_iadd E dX8_countSpan_37 ?_
    refine g_icmp_ge E c5 (c32_w _) djX8_countSpan_38 (fun hc => ?_) (fun hc => ?_)
    · replace h := h.1 hc
      refine g_aload_0 E dX8_countSpan_108 ?_
      refine g_getR E fl_RX8_23 (kC_76 true) sC_76t rfl dX8_countSpan_109 ?_
      refine g_iload_1 E dX8_countSpan_112 ?_
      refine g_iload_4 E dX8_countSpan_113 ?_
      refine g_iast E (kC_77 true) (sC_77 true) (by decide) h.1 dX8_countSpan_115 (g_nmS (fun σ3 eσ3 => ?_))
      replace h := h.2 σ3 eσ3
      have hσ3 : CanS (shC true) (NC true) σ3 := by rw [eσ3]; exact wC_77 hσ c4
      refine g_iinc_4 E rfl (by decide) dX8_countSpan_116 (fun v4 ev4 => ?_)
      replace h := h v4 ev4
      have cv4 : C32 v4 := by rw [ev4]; exact c32_w _
      refine g_goto E djX8_countSpan_119 ?_
      exact (hK15 x1 x2 x3 v4 σ3 c1 c2 c3 cv4 hσ3 h).weak (w_k (w_k (w_k (w_k (w_k (w_d (w_d (w_d w_n))))))))
    · replace h := h.2 hc
      refine g_aload_0 E dX8_countSpan_41 ?_
      refine g_iload_5 E dX8_countSpan_42 ?_
      refine g_iload_4 E dX8_countSpan_44 ?_
      refine g_callvL E my_X8_countItem mi_X8_countItem msel_X8_countItem ml_RX8_66 (rm_ok (by decide) (by decide)) ⟨Nat.zero_le _, Nat.zero_le _⟩ (kC_76 true) sC_76t rfl (m_X8_countItem E.2.2.1 c5 c4 hσ h) rfl rfl (Nat.le_of_ble_eq_true rfl) dX8_countSpan_46 (fun r5 σ6 cr5 hσ6 h => ?_)
      refine g_lstore_6 E rfl (by decide) dX8_countSpan_49 ?_
      refine g_aload_0 E dX8_countSpan_51 ?_
      refine g_getR E fl_RX8_48 (kC_76 true) sC_76t rfl dX8_countSpan_52 ?_
      refine g_iload_5 E dX8_countSpan_55 ?_
      refine g_sipush E (by decide) dX8_countSpan_57 ?_
      refine g_imul E dX8_countSpan_60 ?_
      refine g_iload_4 E dX8_countSpan_61 ?_
      refine g_iadd E dX8_countSpan_63 ?_
      refine g_lload_6 E dX8_countSpan_64 ?_
      refine g_last E (kC_83 true) (sC_83 true) (by decide) h.1 dX8_countSpan_66 (g_nmS (fun σ7 eσ7 => ?_))
      replace h := h.2 σ7 eσ7
      have hσ7 : CanS (shC true) (NC true) σ7 := by rw [eσ7]; exact wC_83 hσ6 cr5
      refine g_lload_6 E dX8_countSpan_67 ?_
      refine g_lconst (n := 0) E (by decide) dX8_countSpan_69 ?_
      refine g_lcmp_eq E cr5 cL_0 dX8_countSpan_70 djX8_countSpan_71 (fun hc => ?_) (fun hc => ?_)
      · replace h := h.1 hc
        exact (t_X8_countSpan_b102 E hr hK15 ih x1 x2 x3 x4 x5 σ7 c1 c2 c3 c4 c5 hσ7 h).weak (w_k (w_k (w_k (w_k (w_k (w_k (w_d (w_d w_n))))))))
      · replace h := h.2 hc
        refine g_aload_0 E dX8_countSpan_74 ?_
        refine g_getR E fl_RX8_27 (kC_76 true) sC_76t rfl dX8_countSpan_75 ?_
        refine g_iload_5 E dX8_countSpan_78 ?_
        refine g_iload_4 E dX8_countSpan_80 ?_
        refine g_iast E (kC_78 true) (sC_78 true) (by decide) h.1 dX8_countSpan_82 (g_nmS (fun σ8 eσ8 => ?_))
        replace h := h.2 σ8 eσ8
        have hσ8 : CanS (shC true) (NC true) σ8 := by rw [eσ8]; exact wC_78 hσ7 c4
        refine g_aload_0 E dX8_countSpan_83 ?_
        refine g_getR E fl_RX8_30 (kC_76 true) sC_76t rfl dX8_countSpan_84 ?_
        refine g_iload_5 E dX8_countSpan_87 ?_
        refine g_aload_0 E dX8_countSpan_89 ?_
        refine g_getR E fl_RX8_30 (kC_76 true) sC_76t rfl dX8_countSpan_90 ?_
        refine g_iload_5 E dX8_countSpan_93 ?_
        refine g_lald E (kC_79 true) (sC_79 true) (by decide) h.1 dX8_countSpan_95 ?_
        replace h := h.2
        refine g_lload_6 E dX8_countSpan_96 ?_
        refine g_callsL E my_X8_add ms_X8_add ml_RX8_62 (rm_ok (by decide) (by decide)) ⟨Nat.zero_le _, Nat.zero_le _⟩ (m_X8_add E.2.2.1 (aC_79 hσ8 _) cr5 hσ8 h) rfl rfl (Nat.le_of_ble_eq_true rfl) dX8_countSpan_98 (fun r9 σ10 cr9 hσ10 h => ?_)
        refine g_last E (kC_79 true) (sC_79 true) (by decide) h.1 dX8_countSpan_101 (g_nmS (fun σ11 eσ11 => ?_))
        replace h := h.2 σ11 eσ11
        have hσ11 : CanS (shC true) (NC true) σ11 := by rw [eσ11]; exact wC_79 hσ10 cr9
        exact (t_X8_countSpan_b102 E hr hK15 ih x1 x2 x3 x4 x5 σ11 c1 c2 c3 c4 c5 hσ11 h).weak (w_k (w_k (w_k (w_k (w_k (w_k (w_d (w_d w_n))))))))
set_option maxHeartbeats 4000000 in
set_option maxRecDepth 100000 in
theorem t_X8_countSpan_l15 (E : Ev p s m args meth c cX8_countSpan 8 RX8 A0 D cA ad (NC true) Z) (hr : meth.sig.returnType = none) : ∀ (n : Nat) (x1 : Int) (x2 : Int) (x3 : Int) (x4 : Int) (σ : St), C32 x1 → C32 x2 → C32 x3 → C32 x4 → CanS (shC true) (NC true) σ → wp_X8_countSpan_l15 Q n x1 x2 x3 x4 σ → G p l e (rmL 5 0 0) s m args below meth c 8 A0 D cA ad (shC true) (NC true) 0 0 (MQ below (QVc D cA ad (shC true) (NC true) Q A0) args s 0 0 A0) σ 15 [some (.ref (ad 76)), some (vI x1), some (vI x2), some (vI x3), some (vI x4), none, none, none] [] := by
  intro n
  induction n with
  | zero => intro _ _ _ _ _ _ _ _ _ _ h; exact h.elim
  | succ n ih =>
    intro x1 x2 x3 x4 σ c1 c2 c3 c4 hσ h
    unfold wp_X8_countSpan_l15 at h
    refine g_iload_4 E dX8_countSpan_15 ?_
    refine g_iload_2 E dX8_countSpan_17 ?_
    refine g_icmp_gt E c4 c2 djX8_countSpan_18 (fun hc => ?_) (fun hc => ?_)
    · replace h := h.1 hc
      exact g_vret E hr h hσ dX8_countSpan_122
    · replace h := h.2 hc
      refine g_iload_4 E dX8_countSpan_21 ?_
      refine g_sipush E (by decide) dX8_countSpan_23 ?_
      refine g_icmp_ge E c4 cl_301 djX8_countSpan_26 (fun hc => ?_) (fun hc => ?_)
      · replace h := h.1 hc
        exact g_vret E hr h hσ dX8_countSpan_122
      · replace h := h.2 hc
        refine g_iload_3 E dX8_countSpan_29 ?_
        refine g_istore_5 E rfl (by decide) dX8_countSpan_30 ?_
        exact (t_X8_countSpan_l32 E hr ih bigN x1 x2 x3 x4 x3 σ c1 c2 c3 c4 c3 hσ h).weak (w_k (w_k (w_k (w_k (w_k (w_k (w_d (w_d w_n))))))))
set_option maxHeartbeats 4000000 in
set_option maxRecDepth 100000 in
theorem t_X8_countSpan (E : Ev p s m args meth c cX8_countSpan 8 RX8 A0 D cA ad (NC true) Z) (hr : meth.sig.returnType = none) (x1 : Int) (x2 : Int) (σ : St) (c1 : C32 x1) (c2 : C32 x2) (hσ : CanS (shC true) (NC true) σ) (h : wp_X8_countSpan x1 x2 σ Q) : G p l e (rmL 5 0 0) s m args below meth c 8 A0 D cA ad (shC true) (NC true) 0 0 (MQ below (QVc D cA ad (shC true) (NC true) Q A0) args s 0 0 A0) σ 0 [some (.ref (ad 76)), some (vI x1), some (vI x2), none, none, none, none, none] [] := by
  unfold wp_X8_countSpan at h
  refine g_iload_1 E dX8_countSpan_0 ?_
  refine g_bipush E (by decide) dX8_countSpan_1 ?_
  refine g_imul E dX8_countSpan_3 ?_
  refine g_nmI (fun v1 ev1 => ?_)
  replace h := h v1 ev1
  have cv1 : C32 v1 := by rw [ev1]; exact (c32_w _)
  refine g_istore_3 E rfl (by decide) dX8_countSpan_4 ?_
  refine g_aload_0 E dX8_countSpan_5 ?_
  refine g_getR E fl_RX8_23 (kC_76 true) sC_76t rfl dX8_countSpan_6 ?_
  refine g_iload_1 E dX8_countSpan_9 ?_
  refine g_iald E (kC_77 true) (sC_77 true) (by decide) h.1 dX8_countSpan_10 ?_
  replace h := h.2
  refine g_iconst E dX8_countSpan_11 ?_
  refine g_iadd E dX8_countSpan_12 ?_
  refine g_nmI (fun v2 ev2 => ?_)
  replace h := h v2 ev2
  have cv2 : C32 v2 := by rw [ev2]; exact (c32_w _)
  refine g_istore_4 E rfl (by decide) dX8_countSpan_13 ?_
  exact (t_X8_countSpan_l15 E hr bigN x1 x2 v1 v2 σ c1 c2 cv1 cv2 hσ h).weak (w_k (w_k (w_k (w_k (w_k (w_d (w_d (w_d w_n))))))))
end
theorem m_X8_countSpan {Z : (Nat → Nat) × (Nat → Nat)} {l : Launch} {D : va_G} {cA : Nat → ClassId} {ad : Nat → Nat} {x1 x2 : Int} {σ : St} {Q : Int → St → Prop} (hA : AdOk (NC true) ad) (c1 : C32 x1) (c2 : C32 x2) (hσ : CanS (shC true) (NC true) σ) (h : wp_X8_countSpan x1 x2 σ Q) : KtV Z l D cA ad (shC true) (NC true) yX8_countSpan cX8_countSpan 8 none 5 [.ref (ad 76), vI x1, vI x2] σ Q :=
  KtV.of my_X8_countSpan hA [some (.ref (ad 76)), some (vI x1), some (vI x2), none, none, none, none, none] (Nat.le_of_ble_eq_true rfl) rfl (fun p e s m args below meth c A0 E hr => t_X8_countSpan E hr x1 x2 σ c1 c2 hσ h)
theorem dX8_upTo_0 : Dc cX8_upTo 0 (.aload_n 0) 1 1 := ⟨by decide +kernel, rfl⟩
theorem dX8_upTo_1 : Dc cX8_upTo 1 (.getfield 19) 3 4 := ⟨by decide +kernel, rfl⟩
theorem dX8_upTo_4 : Dc cX8_upTo 4 (.invokevirtual 43) 3 7 := ⟨by decide +kernel, rfl⟩
theorem dX8_upTo_7 : Dc cX8_upTo 7 (.aload_n 0) 1 8 := ⟨by decide +kernel, rfl⟩
theorem dX8_upTo_8 : Dc cX8_upTo 8 (.getfield 48) 3 11 := ⟨by decide +kernel, rfl⟩
theorem djX8_upTo_11 : Dj cX8_upTo 11 (.ifnonnull 11) 3 14 11 22 := ⟨by decide +kernel, rfl, by decide⟩
theorem dX8_upTo_14 : Dc cX8_upTo 14 (.aload_n 0) 1 15 := ⟨by decide +kernel, rfl⟩
theorem dX8_upTo_15 : Dc cX8_upTo 15 (.ldc 51) 2 17 := ⟨by decide +kernel, rfl⟩
theorem dX8_upTo_17 : Dc cX8_upTo 17 (.newarray .long) 2 19 := ⟨by decide +kernel, rfl⟩
theorem dX8_upTo_19 : Dc cX8_upTo 19 (.putfield 48) 3 22 := ⟨by decide +kernel, rfl⟩
theorem dX8_upTo_22 : Dc cX8_upTo 22 (.iload_n 1) 1 23 := ⟨by decide +kernel, rfl⟩
theorem dX8_upTo_23 : Dc cX8_upTo 23 (.bipush 12) 2 25 := ⟨by decide +kernel, rfl⟩
theorem dX8_upTo_25 : Dc cX8_upTo 25 (.idiv) 1 26 := ⟨by decide +kernel, rfl⟩
theorem dX8_upTo_26 : Dc cX8_upTo 26 (.istore_n 3) 1 27 := ⟨by decide +kernel, rfl⟩
theorem dX8_upTo_27 : Dc cX8_upTo 27 (.iconst 0) 1 28 := ⟨by decide +kernel, rfl⟩
theorem dX8_upTo_28 : Dc cX8_upTo 28 (.istore 4) 2 30 := ⟨by decide +kernel, rfl⟩
theorem dX8_upTo_30 : Dc cX8_upTo 30 (.iload 4) 2 32 := ⟨by decide +kernel, rfl⟩
theorem dX8_upTo_32 : Dc cX8_upTo 32 (.iload_n 3) 1 33 := ⟨by decide +kernel, rfl⟩
theorem djX8_upTo_33 : Dj cX8_upTo 33 (.if_icmp .gt 29) 3 36 29 62 := ⟨by decide +kernel, rfl, by decide⟩
theorem dX8_upTo_36 : Dc cX8_upTo 36 (.aload_n 0) 1 37 := ⟨by decide +kernel, rfl⟩
theorem dX8_upTo_37 : Dc cX8_upTo 37 (.getfield 15) 3 40 := ⟨by decide +kernel, rfl⟩
theorem dX8_upTo_40 : Dc cX8_upTo 40 (.iload 4) 2 42 := ⟨by decide +kernel, rfl⟩
theorem dX8_upTo_42 : Dc cX8_upTo 42 (.iload_n 3) 1 43 := ⟨by decide +kernel, rfl⟩
theorem dX8_upTo_43 : Dc cX8_upTo 43 (.invokevirtual 52) 3 46 := ⟨by decide +kernel, rfl⟩
theorem djX8_upTo_46 : Dj cX8_upTo 46 (.ifCond .eq 10) 3 49 10 56 := ⟨by decide +kernel, rfl, by decide⟩
theorem dX8_upTo_49 : Dc cX8_upTo 49 (.aload_n 0) 1 50 := ⟨by decide +kernel, rfl⟩
theorem dX8_upTo_50 : Dc cX8_upTo 50 (.iload 4) 2 52 := ⟨by decide +kernel, rfl⟩
theorem dX8_upTo_52 : Dc cX8_upTo 52 (.iload_n 2) 1 53 := ⟨by decide +kernel, rfl⟩
theorem dX8_upTo_53 : Dc cX8_upTo 53 (.invokevirtual 58) 3 56 := ⟨by decide +kernel, rfl⟩
theorem dX8_upTo_56 : Dc cX8_upTo 56 (.iinc 4 1) 3 59 := ⟨by decide +kernel, rfl⟩
theorem djX8_upTo_59 : Dj cX8_upTo 59 (.goto (-29)) 3 62 (-29) 30 := ⟨by decide +kernel, rfl, by decide⟩
theorem dX8_upTo_62 : Dc cX8_upTo 62 (.lconst 0) 1 63 := ⟨by decide +kernel, rfl⟩
theorem dX8_upTo_63 : Dc cX8_upTo 63 (.lstore 4) 2 65 := ⟨by decide +kernel, rfl⟩
theorem dX8_upTo_65 : Dc cX8_upTo 65 (.iconst 1) 1 66 := ⟨by decide +kernel, rfl⟩
theorem dX8_upTo_66 : Dc cX8_upTo 66 (.istore 6) 2 68 := ⟨by decide +kernel, rfl⟩
theorem dX8_upTo_68 : Dc cX8_upTo 68 (.iload 6) 2 70 := ⟨by decide +kernel, rfl⟩
theorem dX8_upTo_70 : Dc cX8_upTo 70 (.iload_n 2) 1 71 := ⟨by decide +kernel, rfl⟩
theorem djX8_upTo_71 : Dj cX8_upTo 71 (.if_icmp .gt 37) 3 74 37 108 := ⟨by decide +kernel, rfl, by decide⟩
theorem dX8_upTo_74 : Dc cX8_upTo 74 (.iload 6) 2 76 := ⟨by decide +kernel, rfl⟩
theorem dX8_upTo_76 : Dc cX8_upTo 76 (.sipush 301) 3 79 := ⟨by decide +kernel, rfl⟩
theorem djX8_upTo_79 : Dj cX8_upTo 79 (.if_icmp .ge 29) 3 82 29 108 := ⟨by decide +kernel, rfl, by decide⟩
theorem dX8_upTo_82 : Dc cX8_upTo 82 (.lload 4) 2 84 := ⟨by decide +kernel, rfl⟩
theorem dX8_upTo_84 : Dc cX8_upTo 84 (.aload_n 0) 1 85 := ⟨by decide +kernel, rfl⟩
theorem dX8_upTo_85 : Dc cX8_upTo 85 (.getfield 48) 3 88 := ⟨by decide +kernel, rfl⟩
theorem dX8_upTo_88 : Dc cX8_upTo 88 (.iload_n 1) 1 89 := ⟨by decide +kernel, rfl⟩
theorem dX8_upTo_89 : Dc cX8_upTo 89 (.sipush 301) 3 92 := ⟨by decide +kernel, rfl⟩
theorem dX8_upTo_92 : Dc cX8_upTo 92 (.imul) 1 93 := ⟨by decide +kernel, rfl⟩
theorem dX8_upTo_93 : Dc cX8_upTo 93 (.iload 6) 2 95 := ⟨by decide +kernel, rfl⟩
theorem dX8_upTo_95 : Dc cX8_upTo 95 (.iadd) 1 96 := ⟨by decide +kernel, rfl⟩
theorem dX8_upTo_96 : Dc cX8_upTo 96 (.laload) 1 97 := ⟨by decide +kernel, rfl⟩
theorem dX8_upTo_97 : Dc cX8_upTo 97 (.invokestatic 62) 3 100 := ⟨by decide +kernel, rfl⟩
theorem dX8_upTo_100 : Dc cX8_upTo 100 (.lstore 4) 2 102 := ⟨by decide +kernel, rfl⟩
theorem dX8_upTo_102 : Dc cX8_upTo 102 (.iinc 6 1) 3 105 := ⟨by decide +kernel, rfl⟩
theorem djX8_upTo_105 : Dj cX8_upTo 105 (.goto (-37)) 3 108 (-37) 68 := ⟨by decide +kernel, rfl, by decide⟩
theorem dX8_upTo_108 : Dc cX8_upTo 108 (.lload 4) 2 110 := ⟨by decide +kernel, rfl⟩
theorem dX8_upTo_110 : Dc cX8_upTo 110 (.lreturn) 1 111 := ⟨by decide +kernel, rfl⟩
section
variable {p : Program} {l : Launch} {e : Env} {s : State} {m : MethodId} {args : Array Value} {below : List Frame} {meth : Method} {c : Code} {A0 : Nat → Prop} {D : va_G} {cA : Nat → ClassId} {ad : Nat → Nat} {Z : (Nat → Nat) × (Nat → Nat)} {Q : Int → St → Prop}
set_option maxHeartbeats 4000000 in
set_option maxRecDepth 100000 in
theorem t_X8_upTo_b56 (E : Ev p s m args meth c cX8_upTo 7 RX8 A0 D cA ad (NC true) Z) (hr : meth.sig.returnType = (some .long)) {K30 : Int → Int → Int → Int → St → Prop} (hK30 : ∀ (x1 : Int) (x2 : Int) (x3 : Int) (x4 : Int) (σ : St), C32 x1 → C32 x2 → C32 x3 → C32 x4 → CanS (shC true) (NC true) σ → K30 x1 x2 x3 x4 σ → G p l e (rmL 6 0 0) s m args below meth c 7 A0 D cA ad (shC true) (NC true) 0 0 (MQ below (QLc D cA ad (shC true) (NC true) Q A0) args s 0 0 A0) σ 30 [some (.ref (ad 76)), some (vI x1), some (vI x2), some (vI x3), some (vI x4), none, none] []) (x1 : Int) (x2 : Int) (x3 : Int) (x4 : Int) (σ : St) (c1 : C32 x1) (c2 : C32 x2) (c3 : C32 x3) (c4 : C32 x4) (hσ : CanS (shC true) (NC true) σ) (h : wp_X8_upTo_b56 Q K30 x1 x2 x3 x4 σ) : G p l e (rmL 6 0 0) s m args below meth c 7 A0 D cA ad (shC true) (NC true) 0 0 (MQ below (QLc D cA ad (shC true) (NC true) Q A0) args s 0 0 A0) σ 56 [some (.ref (ad 76)), some (vI x1), some (vI x2), some (vI x3), some (vI x4), none, none] [] := by
  unfold wp_X8_upTo_b56 at h
  refine g_iinc_4 E rfl (by decide) dX8_upTo_56 (fun v11 ev11 => ?_)
  replace h := h v11 ev11
  have cv11 : C32 v11 := by rw [ev11]; exact c32_w _
  refine g_goto E djX8_upTo_59 ?_
  exact (hK30 x1 x2 x3 v11 σ c1 c2 c3 cv11 hσ h).weak (w_k (w_k (w_k (w_k (w_k (w_d (w_d w_n)))))))
set_option maxHeartbeats 4000000 in
set_option maxRecDepth 100000 in
theorem t_X8_upTo_l68 (E : Ev p s m args meth c cX8_upTo 7 RX8 A0 D cA ad (NC true) Z) (hr : meth.sig.returnType = (some .long)) : ∀ (n : Nat) (x1 : Int) (x2 : Int) (x4 : Int) (x6 : Int) (σ : St), C32 x1 → C32 x2 → C64 x4 → C32 x6 → CanS (shC true) (NC true) σ → wp_X8_upTo_l68 Q n x1 x2 x4 x6 σ → G p l e (rmL 6 0 0) s m args below meth c 7 A0 D cA ad (shC true) (NC true) 0 0 (MQ below (QLc D cA ad (shC true) (NC true) Q A0) args s 0 0 A0) σ 68 [some (.ref (ad 76)), some (vI x1), some (vI x2), none, some (vL x4), none, some (vI x6)] [] := by
  intro n
  induction n with
  | zero => intro _ _ _ _ _ _ _ _ _ _ h; exact h.elim
  | succ n ih =>
    intro x1 x2 x4 x6 σ c1 c2 c4 c6 hσ h
    unfold wp_X8_upTo_l68 at h
    refine g_iload_6 E dX8_upTo_68 ?_
    refine g_iload_2 E dX8_upTo_70 ?_
    refine g_icmp_gt E c6 c2 djX8_upTo_71 (fun hc => ?_) (fun hc => ?_)
    · replace h := h.1 hc
      refine g_lload_4 E dX8_upTo_108 ?_
      exact g_lret E hr c4 h hσ dX8_upTo_110
    · replace h := h.2 hc
      refine g_iload_6 E dX8_upTo_74 ?_
      refine g_sipush E (by decide) dX8_upTo_76 ?_
      refine g_icmp_ge E c6 cl_301 djX8_upTo_79 (fun hc => ?_) (fun hc => ?_)
      · replace h := h.1 hc
        refine g_lload_4 E dX8_upTo_108 ?_
        exact g_lret E hr c4 h hσ dX8_upTo_110
      · replace h := h.2 hc
        refine g_lload_4 E dX8_upTo_82 ?_
        refine g_aload_0 E dX8_upTo_84 ?_
        refine g_getR E fl_RX8_48 (kC_76 true) sC_76t rfl dX8_upTo_85 ?_
        refine g_iload_1 E dX8_upTo_88 ?_
        refine g_sipush E (by decide) dX8_upTo_89 ?_
        refine g_imul E dX8_upTo_92 ?_
        refine g_iload_6 E dX8_upTo_93 ?_
        refine g_iadd E dX8_upTo_95 ?_
        refine g_lald E (kC_83 true) (sC_83 true) (by decide) h.1 dX8_upTo_96 ?_
        replace h := h.2
        refine g_callsL E my_X8_add ms_X8_add ml_RX8_62 (rm_ok (by decide) (by decide)) ⟨Nat.zero_le _, Nat.zero_le _⟩ (m_X8_add E.2.2.1 c4 (aC_83 hσ _) hσ h) rfl rfl (Nat.le_of_ble_eq_true rfl) dX8_upTo_97 (fun r8 σ9 cr8 hσ9 h => ?_)
        refine g_lstore_4 E rfl (by decide) dX8_upTo_100 ?_
        refine g_iinc_6 E rfl (by decide) dX8_upTo_102 (fun v10 ev10 => ?_)
        replace h := h v10 ev10
        have cv10 : C32 v10 := by rw [ev10]; exact c32_w _
        refine g_goto E djX8_upTo_105 ?_
        exact (ih x1 x2 r8 v10 σ9 c1 c2 cr8 cv10 hσ9 h).weak (w_k (w_k (w_k (w_d (w_k (w_d (w_k w_n)))))))
set_option maxHeartbeats 4000000 in
set_option maxRecDepth 100000 in
theorem t_X8_upTo_l30 (E : Ev p s m args meth c cX8_upTo 7 RX8 A0 D cA ad (NC true) Z) (hr : meth.sig.returnType = (some .long)) : ∀ (n : Nat) (x1 : Int) (x2 : Int) (x3 : Int) (x4 : Int) (σ : St), C32 x1 → C32 x2 → C32 x3 → C32 x4 → CanS (shC true) (NC true) σ → wp_X8_upTo_l30 Q n x1 x2 x3 x4 σ → G p l e (rmL 6 0 0) s m args below meth c 7 A0 D cA ad (shC true) (NC true) 0 0 (MQ below (QLc D cA ad (shC true) (NC true) Q A0) args s 0 0 A0) σ 30 [some (.ref (ad 76)), some (vI x1), some (vI x2), some (vI x3), some (vI x4), none, none] [] := by
  intro n
  induction n with
  | zero => intro _ _ _ _ _ _ _ _ _ _ h; exact h.elim
  | succ n ih =>
    intro x1 x2 x3 x4 σ c1 c2 c3 c4 hσ h
    unfold wp_X8_upTo_l30 at h
    refine g_iload_4 E dX8_upTo_30 ?_
    refine g_iload_3 E dX8_upTo_32 ?_
    refine g_icmp_gt E c4 c3 djX8_upTo_33 (fun hc => ?_) (fun hc => ?_)
    · replace h := h.1 hc
      refine g_lconst (n := 0) E (by decide) dX8_upTo_62 ?_
      refine g_lstore_4 E rfl (by decide) dX8_upTo_63 ?_
      refine g_iconst E dX8_upTo_65 ?_
      refine g_istore_6 E rfl (by decide) dX8_upTo_66 ?_
      exact (t_X8_upTo_l68 E hr bigN x1 x2 0 1 σ c1 c2 cL_0 cl_1 hσ h).weak (w_k (w_k (w_k (w_d (w_k (w_d (w_k w_n)))))))
    · replace h := h.2 hc
      refine g_aload_0 E dX8_upTo_36 ?_
      refine g_getR E fl_RX8_15 (kC_76 true) sC_76t rfl dX8_upTo_37 ?_
      refine g_iload_4 E dX8_upTo_40 ?_
      refine g_iload_3 E dX8_upTo_42 ?_
      refine g_callvI E my_X0_isInside mi_X0_isInside msel_X0_isInside ml_RX8_52 (rm_ok (by decide) (by decide)) ⟨Nat.zero_le _, Nat.zero_le _⟩ (kC_24 true) (sC_24 true) rfl (m_X0_isInside E.2.2.1 c4 c3 hσ h) rfl rfl (Nat.le_of_ble_eq_true rfl) dX8_upTo_43 (fun r4 σ5 cr4 hσ5 h => ?_)
      refine g_if_eq E cr4 djX8_upTo_46 (fun hc => ?_) (fun hc => ?_)
      · replace h := h.1 hc
        exact (t_X8_upTo_b56 E hr ih x1 x2 x3 x4 σ5 c1 c2 c3 c4 hσ5 h).weak (w_k (w_k (w_k (w_k (w_k (w_d (w_d w_n)))))))
      · replace h := h.2 hc
        refine g_aload_0 E dX8_upTo_49 ?_
        refine g_iload_4 E dX8_upTo_50 ?_
        refine g_iload_2 E dX8_upTo_52 ?_
        refine g_callvV E my_X8_countSpan mi_X8_countSpan msel_X8_countSpan ml_RX8_58 (rm_ok (by decide) (by decide)) ⟨Nat.zero_le _, Nat.zero_le _⟩ (kC_76 true) sC_76t rfl (m_X8_countSpan E.2.2.1 c4 c2 hσ5 h) rfl rfl (Nat.le_of_ble_eq_true rfl) dX8_upTo_53 (fun σ7 r6 hσ7 h => ?_)
        exact (t_X8_upTo_b56 E hr ih x1 x2 x3 x4 σ7 c1 c2 c3 c4 hσ7 h).weak (w_k (w_k (w_k (w_k (w_k (w_d (w_d w_n)))))))
set_option maxHeartbeats 4000000 in
set_option maxRecDepth 100000 in
theorem t_X8_upTo_b22 (E : Ev p s m args meth c cX8_upTo 7 RX8 A0 D cA ad (NC true) Z) (hr : meth.sig.returnType = (some .long)) (x1 : Int) (x2 : Int) (σ : St) (c1 : C32 x1) (c2 : C32 x2) (hσ : CanS (shC true) (NC true) σ) (h : wp_X8_upTo_b22 Q x1 x2 σ) : G p l e (rmL 6 0 0) s m args below meth c 7 A0 D cA ad (shC true) (NC true) 0 0 (MQ below (QLc D cA ad (shC true) (NC true) Q A0) args s 0 0 A0) σ 22 [some (.ref (ad 76)), some (vI x1), some (vI x2), none, none, none, none] [] := by
  unfold wp_X8_upTo_b22 at h
  refine g_iload_1 E dX8_upTo_22 ?_
  refine g_bipush E (by decide) dX8_upTo_23 ?_
  refine g_idiv E cl_12 (by decide) dX8_upTo_25 ?_
  refine g_nmI (fun v3 ev3 => ?_)
  replace h := h v3 ev3
  have cv3 : C32 v3 := by rw [ev3]; exact (c32_t _)
  refine g_istore_3 E rfl (by decide) dX8_upTo_26 ?_
  refine g_iconst E dX8_upTo_27 ?_
  refine g_istore_4 E rfl (by decide) dX8_upTo_28 ?_
  exact (t_X8_upTo_l30 E hr bigN x1 x2 v3 0 σ c1 c2 cv3 cl_0 hσ h).weak (w_k (w_k (w_k (w_k (w_k (w_d (w_d w_n)))))))
set_option maxHeartbeats 4000000 in
set_option maxRecDepth 100000 in
theorem t_X8_upTo (E : Ev p s m args meth c cX8_upTo 7 RX8 A0 D cA ad (NC true) Z) (hr : meth.sig.returnType = (some .long)) (x1 : Int) (x2 : Int) (σ : St) (c1 : C32 x1) (c2 : C32 x2) (hσ : CanS (shC true) (NC true) σ) (h : wp_X8_upTo x1 x2 σ Q) : G p l e (rmL 6 0 0) s m args below meth c 7 A0 D cA ad (shC true) (NC true) 0 0 (MQ below (QLc D cA ad (shC true) (NC true) Q A0) args s 0 0 A0) σ 0 [some (.ref (ad 76)), some (vI x1), some (vI x2), none, none, none, none] [] := by
  unfold wp_X8_upTo at h
  refine g_aload_0 E dX8_upTo_0 ?_
  refine g_getR E fl_RX8_19 (kC_76 true) sC_76t rfl dX8_upTo_1 ?_
  refine g_callvV E my_X1_prepare mi_X1_prepare msel_X1_prepare ml_RX8_43 (rm_ok (by decide) (by decide)) ⟨Nat.zero_le _, Nat.zero_le _⟩ (kC_36 true) (sC_36 true) rfl (m_X1_prepare E.2.2.1 hσ h) rfl rfl (Nat.le_of_ble_eq_true rfl) dX8_upTo_4 (fun σ2 r1 hσ2 h => ?_)
  refine g_aload_0 E dX8_upTo_7 ?_
  refine g_getR E fl_RX8_48 (kC_76 true) sC_76t rfl dX8_upTo_8 ?_
  refine g_ifnonnull E djX8_upTo_11 ?_
  exact (t_X8_upTo_b22 E hr x1 x2 σ2 c1 c2 hσ2 h).weak (w_k (w_k (w_k (w_d (w_d (w_d (w_d w_n)))))))
end
theorem m_X8_upTo {Z : (Nat → Nat) × (Nat → Nat)} {l : Launch} {D : va_G} {cA : Nat → ClassId} {ad : Nat → Nat} {x1 x2 : Int} {σ : St} {Q : Int → St → Prop} (hA : AdOk (NC true) ad) (c1 : C32 x1) (c2 : C32 x2) (hσ : CanS (shC true) (NC true) σ) (h : wp_X8_upTo x1 x2 σ Q) : KtL Z l D cA ad (shC true) (NC true) yX8_upTo cX8_upTo 7 (some .long) 6 [.ref (ad 76), vI x1, vI x2] σ Q :=
  KtL.of my_X8_upTo hA [some (.ref (ad 76)), some (vI x1), some (vI x2), none, none, none, none] (Nat.le_of_ble_eq_true rfl) rfl (fun p e s m args below meth c A0 E hr => t_X8_upTo E hr x1 x2 σ c1 c2 hσ h)
theorem dX11_cheap_0 : Dc cX11_cheap 0 (.aload_n 0) 1 1 := ⟨by decide +kernel, rfl⟩
theorem dX11_cheap_1 : Dc cX11_cheap 1 (.iload_n 1) 1 2 := ⟨by decide +kernel, rfl⟩
theorem dX11_cheap_2 : Dc cX11_cheap 2 (.iload_n 2) 1 3 := ⟨by decide +kernel, rfl⟩
theorem dX11_cheap_3 : Dc cX11_cheap 3 (.iload_n 3) 1 4 := ⟨by decide +kernel, rfl⟩
theorem dX11_cheap_4 : Dc cX11_cheap 4 (.invokevirtual 223) 3 7 := ⟨by decide +kernel, rfl⟩
theorem dX11_cheap_7 : Dc cX11_cheap 7 (.istore 5) 2 9 := ⟨by decide +kernel, rfl⟩
theorem dX11_cheap_9 : Dc cX11_cheap 9 (.iload 5) 2 11 := ⟨by decide +kernel, rfl⟩
theorem djX11_cheap_11 : Dj cX11_cheap 11 (.ifCond .lt 16) 3 14 16 27 := ⟨by decide +kernel, rfl, by decide⟩
theorem dX11_cheap_14 : Dc cX11_cheap 14 (.iload 4) 2 16 := ⟨by decide +kernel, rfl⟩
theorem djX11_cheap_16 : Dj cX11_cheap 16 (.ifCond .lt 11) 3 19 11 27 := ⟨by decide +kernel, rfl, by decide⟩
theorem dX11_cheap_19 : Dc cX11_cheap 19 (.iload 4) 2 21 := ⟨by decide +kernel, rfl⟩
theorem dX11_cheap_21 : Dc cX11_cheap 21 (.sipush 300) 3 24 := ⟨by decide +kernel, rfl⟩
theorem djX11_cheap_24 : Dj cX11_cheap 24 (.if_icmp .le 7) 3 27 7 31 := ⟨by decide +kernel, rfl, by decide⟩
theorem dX11_cheap_27 : Dc cX11_cheap 27 (.ldc2_w 230) 3 30 := ⟨by decide +kernel, rfl⟩
theorem dX11_cheap_30 : Dc cX11_cheap 30 (.lreturn) 1 31 := ⟨by decide +kernel, rfl⟩
theorem dX11_cheap_31 : Dc cX11_cheap 31 (.aload_n 0) 1 32 := ⟨by decide +kernel, rfl⟩
theorem dX11_cheap_32 : Dc cX11_cheap 32 (.getfield 95) 3 35 := ⟨by decide +kernel, rfl⟩
theorem dX11_cheap_35 : Dc cX11_cheap 35 (.iload 5) 2 37 := ⟨by decide +kernel, rfl⟩
theorem dX11_cheap_37 : Dc cX11_cheap 37 (.iload 4) 2 39 := ⟨by decide +kernel, rfl⟩
theorem dX11_cheap_39 : Dc cX11_cheap 39 (.invokevirtual 319) 3 42 := ⟨by decide +kernel, rfl⟩
theorem dX11_cheap_42 : Dc cX11_cheap 42 (.invokestatic 236) 3 45 := ⟨by decide +kernel, rfl⟩
theorem dX11_cheap_45 : Dc cX11_cheap 45 (.lreturn) 1 46 := ⟨by decide +kernel, rfl⟩
section
variable {p : Program} {l : Launch} {e : Env} {s : State} {m : MethodId} {args : Array Value} {below : List Frame} {meth : Method} {c : Code} {A0 : Nat → Prop} {D : va_G} {cA : Nat → ClassId} {ad : Nat → Nat} {Z : (Nat → Nat) × (Nat → Nat)} {Q : Int → St → Prop}
set_option maxHeartbeats 4000000 in
set_option maxRecDepth 100000 in
theorem t_X11_cheap (E : Ev p s m args meth c cX11_cheap 6 RX11 A0 D cA ad (NC true) Z) (hr : meth.sig.returnType = (some .long)) (x1 : Int) (x2 : Int) (x3 : Int) (x4 : Int) (σ : St) (c1 : C32 x1) (c2 : C32 x2) (c3 : C32 x3) (c4 : C32 x4) (hσ : CanS (shC true) (NC true) σ) (h : wp_X11_cheap x1 x2 x3 x4 σ Q) : G p l e (rmL 7 0 0) s m args below meth c 6 A0 D cA ad (shC true) (NC true) 0 0 (MQ below (QLc D cA ad (shC true) (NC true) Q A0) args s 0 0 A0) σ 0 [some (.ref (ad 0)), some (vI x1), some (vI x2), some (vI x3), some (vI x4), none] [] := by
  unfold wp_X11_cheap at h
  refine g_aload_0 E dX11_cheap_0 ?_
  refine g_iload_1 E dX11_cheap_1 ?_
  refine g_iload_2 E dX11_cheap_2 ?_
  refine g_iload_3 E dX11_cheap_3 ?_
  refine g_callvI E my_X11_itemOf mi_X11_itemOf msel_X11_itemOf ml_RX11_223 (rm_ok (by decide) (by decide)) ⟨Nat.zero_le _, Nat.zero_le _⟩ (kC_0 true) (sC_0 true) rfl (m_X11_itemOf E.2.2.1 c1 c2 c3 hσ h) rfl rfl (Nat.le_of_ble_eq_true rfl) dX11_cheap_4 (fun r1 σ2 cr1 hσ2 h => ?_)
  refine g_istore_5 E rfl (by decide) dX11_cheap_7 ?_
  refine g_iload_5 E dX11_cheap_9 ?_
  refine g_if_lt E cr1 djX11_cheap_11 (fun hc => ?_) (fun hc => ?_)
  · replace h := h.1 hc
    refine g_ldc2 (n := (-2)) E wc_RX11_230 dX11_cheap_27 ?_
    exact g_lret E hr cL_m2 h hσ2 dX11_cheap_30
  · replace h := h.2 hc
    refine g_iload_4 E dX11_cheap_14 ?_
    refine g_if_lt E c4 djX11_cheap_16 (fun hc => ?_) (fun hc => ?_)
    · replace h := h.1 hc
      refine g_ldc2 (n := (-2)) E wc_RX11_230 dX11_cheap_27 ?_
      exact g_lret E hr cL_m2 h hσ2 dX11_cheap_30
    · replace h := h.2 hc
      refine g_iload_4 E dX11_cheap_19 ?_
      refine g_sipush E (by decide) dX11_cheap_21 ?_
      refine g_icmp_le E c4 cl_300 djX11_cheap_24 (fun hc => ?_) (fun hc => ?_)
      · replace h := h.1 hc
        refine g_aload_0 E dX11_cheap_31 ?_
        refine g_getR E fl_RX11_95 (kC_0 true) (sC_0 true) rfl dX11_cheap_32 ?_
        refine g_iload_5 E dX11_cheap_35 ?_
        refine g_iload_4 E dX11_cheap_37 ?_
        refine g_callvL E my_X8_upTo mi_X8_upTo msel_X8_upTo ml_RX11_319 (rm_ok (by decide) (by decide)) ⟨Nat.zero_le _, Nat.zero_le _⟩ (kC_76 true) sC_76t rfl (m_X8_upTo E.2.2.1 cr1 c4 hσ2 h) rfl rfl (Nat.le_of_ble_eq_true rfl) dX11_cheap_39 (fun r3 σ4 cr3 hσ4 h => ?_)
        refine g_callsL E my_X11_tellNumber ms_X11_tellNumber ml_RX11_236 (rm_ok (by decide) (by decide)) ⟨Nat.zero_le _, Nat.zero_le _⟩ (m_X11_tellNumber E.2.2.1 cr3 hσ4 h) rfl rfl (Nat.le_of_ble_eq_true rfl) dX11_cheap_42 (fun r5 σ6 cr5 hσ6 h => ?_)
        exact g_lret E hr cr5 h hσ6 dX11_cheap_45
      · replace h := h.2 hc
        refine g_ldc2 (n := (-2)) E wc_RX11_230 dX11_cheap_27 ?_
        exact g_lret E hr cL_m2 h hσ2 dX11_cheap_30
end
theorem m_X11_cheap {Z : (Nat → Nat) × (Nat → Nat)} {l : Launch} {D : va_G} {cA : Nat → ClassId} {ad : Nat → Nat} {x1 x2 x3 x4 : Int} {σ : St} {Q : Int → St → Prop} (hA : AdOk (NC true) ad) (c1 : C32 x1) (c2 : C32 x2) (c3 : C32 x3) (c4 : C32 x4) (hσ : CanS (shC true) (NC true) σ) (h : wp_X11_cheap x1 x2 x3 x4 σ Q) : KtL Z l D cA ad (shC true) (NC true) yX11_cheap cX11_cheap 6 (some .long) 7 [.ref (ad 0), vI x1, vI x2, vI x3, vI x4] σ Q :=
  KtL.of my_X11_cheap hA [some (.ref (ad 0)), some (vI x1), some (vI x2), some (vI x3), some (vI x4), none] (Nat.le_of_ble_eq_true rfl) rfl (fun p e s m args below meth c A0 E hr => t_X11_cheap E hr x1 x2 x3 x4 σ c1 c2 c3 c4 hσ h)
section
variable {p : Program} {l : Launch} {e : Env} {s : State} {m : MethodId} {args : Array Value} {below : List Frame} {meth : Method} {c : Code} {A0 : Nat → Prop} {D : va_G} {cA : Nat → ClassId} {ad : Nat → Nat} {Z : (Nat → Nat) × (Nat → Nat)} {Q : Int → St → Prop} {b : Bool}
set_option maxHeartbeats 4000000 in
set_option maxRecDepth 100000 in
theorem t_X10_push_o (E : Ev p s m args meth c cX10_push 3 RX10 A0 D cA ad (NC b) Z) (hr : meth.sig.returnType = none) (x1 : Int) (x2 : Int) (σ : St) (c1 : C32 x1) (c2 : C32 x2) (hσ : CanS (shC b) (NC b) σ) (h : wp_X10_push_o x1 x2 σ Q) : G p l e (rmL 1 0 0) s m args below meth c 3 A0 D cA ad (shC b) (NC b) 0 0 (MQ below (QVc D cA ad (shC b) (NC b) Q A0) args s 0 0 A0) σ 0 [some (.ref (ad 72)), some (vI x1), some (vI x2)] [] := by
  unfold wp_X10_push_o at h
  refine g_aload_0 E dX10_push_0 ?_
  refine g_getI E fl_RX10_40 (kC_72 b) (sC_72 b) rfl dX10_push_1 ?_
  refine g_sipush E (by decide) dX10_push_4 ?_
  refine g_icmp_ge E (fC_72_6 hσ) cl_2560 djX10_push_7 (fun hc => ?_) (fun hc => ?_)
  · replace h := h.1 hc
    exact g_vret E hr h hσ dX10_push_40
  · replace h := h.2 hc
    refine g_aload_0 E dX10_push_10 ?_
    refine g_getR E fl_RX10_23 (kC_72 b) (sC_72 b) rfl dX10_push_11 ?_
    refine g_aload_0 E dX10_push_14 ?_
    refine g_getI E fl_RX10_40 (kC_72 b) (sC_72 b) rfl dX10_push_15 ?_
    refine g_iload_1 E dX10_push_18 ?_
    refine g_iast E (kC_73 b) (sC_73 b) (by decide) h.1 dX10_push_19 (g_nmS (fun σ1 eσ1 => ?_))
    replace h := h.2 σ1 eσ1
    have hσ1 : CanS (shC b) (NC b) σ1 := by rw [eσ1]; exact wC_73 hσ c1
    refine g_aload_0 E dX10_push_20 ?_
    refine g_getR E fl_RX10_27 (kC_72 b) (sC_72 b) rfl dX10_push_21 ?_
    refine g_aload_0 E dX10_push_24 ?_
    refine g_getI E fl_RX10_40 (kC_72 b) (sC_72 b) rfl dX10_push_25 ?_
    refine g_iload_2 E dX10_push_28 ?_
    refine g_iast E (kC_74 b) (sC_74 b) (by decide) h.1 dX10_push_29 (g_nmS (fun σ2 eσ2 => ?_))
    replace h := h.2 σ2 eσ2
    have hσ2 : CanS (shC b) (NC b) σ2 := by rw [eσ2]; exact wC_74 hσ1 c2
    refine g_aload_0 E dX10_push_30 ?_
    refine g_dup E rfl dX10_push_31 ?_
    refine g_getI E fl_RX10_40 (kC_72 b) (sC_72 b) rfl dX10_push_32 ?_
    refine g_iconst E dX10_push_35 ?_
    refine g_iadd E dX10_push_36 ?_
    refine g_putI E fl_RX10_40 rfl rfl (kC_72 b) (sC_72 b) rfl dX10_push_37 (g_nmS (fun σ3 eσ3 => ?_))
    replace h := h σ3 eσ3
    have hσ3 : CanS (shC b) (NC b) σ3 := by rw [eσ3]; exact uC_72_6 hσ2 (c32_w _)
    exact g_vret E hr h hσ3 dX10_push_40
end
theorem m_X10_push_o {Z : (Nat → Nat) × (Nat → Nat)} {l : Launch} {D : va_G} {cA : Nat → ClassId} {ad : Nat → Nat} {b : Bool} {x1 x2 : Int} {σ : St} {Q : Int → St → Prop} (hA : AdOk (NC b) ad) (c1 : C32 x1) (c2 : C32 x2) (hσ : CanS (shC b) (NC b) σ) (h : wp_X10_push_o x1 x2 σ Q) : KtV Z l D cA ad (shC b) (NC b) yX10_push cX10_push 3 none 1 [.ref (ad 72), vI x1, vI x2] σ Q :=
  KtV.of my_X10_push hA [some (.ref (ad 72)), some (vI x1), some (vI x2)] (Nat.le_of_ble_eq_true rfl) rfl (fun p e s m args below meth c A0 E hr => t_X10_push_o E hr x1 x2 σ c1 c2 hσ h)
section
variable {p : Program} {l : Launch} {e : Env} {s : State} {m : MethodId} {args : Array Value} {below : List Frame} {meth : Method} {c : Code} {A0 : Nat → Prop} {D : va_G} {cA : Nat → ClassId} {ad : Nat → Nat} {Z : (Nat → Nat) × (Nat → Nat)} {Q : Int → St → Prop} {b : Bool}
set_option maxHeartbeats 4000000 in
set_option maxRecDepth 100000 in
theorem t_X10_pushTree_o (E : Ev p s m args meth c cX10_pushTree 3 RX10 A0 D cA ad (NC b) Z) (hr : meth.sig.returnType = none) (x1 : Int) (x2 : Int) (σ : St) (c1 : C32 x1) (c2 : C32 x2) (hσ : CanS (shC b) (NC b) σ) (h : wp_X10_pushTree_o x1 x2 σ Q) : G p l e (rmL 2 0 0) s m args below meth c 3 A0 D cA ad (shC b) (NC b) 0 0 (MQ below (QVc D cA ad (shC b) (NC b) Q A0) args s 0 0 A0) σ 0 [some (.ref (ad 72)), some (vI x1), some (vI x2)] [] := by
  unfold wp_X10_pushTree_o at h
  refine g_iload_1 E dX10_pushTree_0 ?_
  refine g_if_lt E c1 djX10_pushTree_1 (fun hc => ?_) (fun hc => ?_)
  · replace h := h.1 hc
    exact g_vret E hr h hσ dX10_pushTree_10
  · replace h := h.2 hc
    refine g_aload_0 E dX10_pushTree_4 ?_
    refine g_iload_1 E dX10_pushTree_5 ?_
    refine g_iload_2 E dX10_pushTree_6 ?_
    refine g_callvV E my_X10_push mi_X10_push msel_X10_push ml_RX10_43 (rm_ok (by decide) (by decide)) ⟨Nat.zero_le _, Nat.zero_le _⟩ (kC_72 b) (sC_72 b) rfl (m_X10_push_o E.2.2.1 c1 c2 hσ h) rfl rfl (Nat.le_of_ble_eq_true rfl) dX10_pushTree_7 (fun σ2 r1 hσ2 h => ?_)
    exact g_vret E hr h hσ2 dX10_pushTree_10
end
theorem m_X10_pushTree_o {Z : (Nat → Nat) × (Nat → Nat)} {l : Launch} {D : va_G} {cA : Nat → ClassId} {ad : Nat → Nat} {b : Bool} {x1 x2 : Int} {σ : St} {Q : Int → St → Prop} (hA : AdOk (NC b) ad) (c1 : C32 x1) (c2 : C32 x2) (hσ : CanS (shC b) (NC b) σ) (h : wp_X10_pushTree_o x1 x2 σ Q) : KtV Z l D cA ad (shC b) (NC b) yX10_pushTree cX10_pushTree 3 none 2 [.ref (ad 72), vI x1, vI x2] σ Q :=
  KtV.of my_X10_pushTree hA [some (.ref (ad 72)), some (vI x1), some (vI x2)] (Nat.le_of_ble_eq_true rfl) rfl (fun p e s m args below meth c A0 E hr => t_X10_pushTree_o E hr x1 x2 σ c1 c2 hσ h)
section
variable {p : Program} {l : Launch} {e : Env} {s : State} {m : MethodId} {args : Array Value} {below : List Frame} {meth : Method} {c : Code} {A0 : Nat → Prop} {D : va_G} {cA : Nat → ClassId} {ad : Nat → Nat} {Z : (Nat → Nat) × (Nat → Nat)} {Q : Int → St → Prop} {b : Bool}
set_option maxHeartbeats 4000000 in
set_option maxRecDepth 100000 in
theorem t_X10_follow_o_l23 (E : Ev p s m args meth c cX10_follow 5 RX10 A0 D cA ad (NC b) Z) (hr : meth.sig.returnType = none) : ∀ (n : Nat) (x2 : Int) (σ : St), C32 x2 → CanS (shC b) (NC b) σ → wp_X10_follow_o_l23 Q n x2 σ → G p l e (rmL 3 0 0) s m args below meth c 5 A0 D cA ad (shC b) (NC b) 0 0 (MQ below (QVc D cA ad (shC b) (NC b) Q A0) args s 0 0 A0) σ 23 [some (.ref (ad 72)), none, some (vI x2), none, none] [] := by
  intro n
  induction n with
  | zero => intro _ _ _ _ h; exact h.elim
  | succ n ih =>
    intro x2 σ c2 hσ h
    unfold wp_X10_follow_o_l23 at h
    refine g_iload_2 E dX10_follow_23 ?_
    refine g_sipush E (by decide) dX10_follow_24 ?_
    refine g_icmp_ge E c2 cl_512 djX10_follow_27 (fun hc => ?_) (fun hc => ?_)
    · replace h := h.1 hc
      exact g_vret E hr h hσ dX10_follow_139
    · replace h := h.2 hc
      refine g_aload_0 E dX10_follow_30 ?_
      refine g_getI E fl_RX10_40 (kC_72 b) (sC_72 b) rfl dX10_follow_31 ?_
      refine g_if_le E (fC_72_6 hσ) djX10_follow_34 (fun hc => ?_) (fun hc => ?_)
      · replace h := h.1 hc
        exact g_vret E hr h hσ dX10_follow_139
      · replace h := h.2 hc
        refine g_aload_0 E dX10_follow_37 ?_
        refine g_dup E rfl dX10_follow_38 ?_
        refine g_getI E fl_RX10_40 (kC_72 b) (sC_72 b) rfl dX10_follow_39 ?_
        refine g_iconst E dX10_follow_42 ?_
        refine g_isub E dX10_follow_43 ?_
        refine g_putI E fl_RX10_40 rfl rfl (kC_72 b) (sC_72 b) rfl dX10_follow_44 (g_nmS (fun σ6 eσ6 => ?_))
        replace h := h σ6 eσ6
        have hσ6 : CanS (shC b) (NC b) σ6 := by rw [eσ6]; exact uC_72_6 hσ (c32_w _)
        refine g_aload_0 E dX10_follow_47 ?_
        refine g_getR E fl_RX10_23 (kC_72 b) (sC_72 b) rfl dX10_follow_48 ?_
        refine g_aload_0 E dX10_follow_51 ?_
        refine g_getI E fl_RX10_40 (kC_72 b) (sC_72 b) rfl dX10_follow_52 ?_
        refine g_iald E (kC_73 b) (sC_73 b) (by decide) h.1 dX10_follow_55 ?_
        replace h := h.2
        refine g_nmI (fun v7 ev7 => ?_)
        replace h := h v7 ev7
        have cv7 : C32 v7 := by rw [ev7]; exact (aC_73 hσ6 _)
        refine g_istore_3 E rfl (by decide) dX10_follow_56 ?_
        refine g_aload_0 E dX10_follow_57 ?_
        refine g_getR E fl_RX10_27 (kC_72 b) (sC_72 b) rfl dX10_follow_58 ?_
        refine g_aload_0 E dX10_follow_61 ?_
        refine g_getI E fl_RX10_40 (kC_72 b) (sC_72 b) rfl dX10_follow_62 ?_
        refine g_iald E (kC_74 b) (sC_74 b) (by decide) h.1 dX10_follow_65 ?_
        replace h := h.2
        refine g_nmI (fun v8 ev8 => ?_)
        replace h := h v8 ev8
        have cv8 : C32 v8 := by rw [ev8]; exact (aC_74 hσ6 _)
        refine g_istore_4 E rfl (by decide) dX10_follow_66 ?_
        refine g_aload_0 E dX10_follow_68 ?_
        refine g_getR E fl_RX10_30 (kC_72 b) (sC_72 b) rfl dX10_follow_69 ?_
        refine g_aload_0 E dX10_follow_72 ?_
        refine g_getI E fl_RX10_33 (kC_72 b) (sC_72 b) rfl dX10_follow_73 ?_
        refine g_iload_3 E dX10_follow_76 ?_
        refine g_iast E (kC_75 b) (sC_75 b) (by decide) h.1 dX10_follow_77 (g_nmS (fun σ9 eσ9 => ?_))
        replace h := h.2 σ9 eσ9
        have hσ9 : CanS (shC b) (NC b) σ9 := by rw [eσ9]; exact wC_75 hσ6 cv7
        refine g_aload_0 E dX10_follow_78 ?_
        refine g_dup E rfl dX10_follow_79 ?_
        refine g_getI E fl_RX10_33 (kC_72 b) (sC_72 b) rfl dX10_follow_80 ?_
        refine g_iconst E dX10_follow_83 ?_
        refine g_iadd E dX10_follow_84 ?_
        refine g_putI E fl_RX10_33 rfl rfl (kC_72 b) (sC_72 b) rfl dX10_follow_85 (g_nmS (fun σ10 eσ10 => ?_))
        replace h := h σ10 eσ10
        have hσ10 : CanS (shC b) (NC b) σ10 := by rw [eσ10]; exact uC_72_7 hσ9 (c32_w _)
        refine g_aload_0 E dX10_follow_88 ?_
        refine g_aload_0 E dX10_follow_89 ?_
        refine g_getI E fl_RX10_37 (kC_72 b) (sC_72 b) rfl dX10_follow_90 ?_
        refine g_iload_4 E dX10_follow_93 ?_
        refine g_mmax E ml_RX10_47 (fC_72_8 hσ10) cv8 (Nat.le_of_ble_eq_true rfl) (rm_1 3) ⟨Nat.zero_le _, Nat.zero_le _⟩ dX10_follow_95 ?_
        refine g_putI E fl_RX10_37 rfl rfl (kC_72 b) (sC_72 b) rfl dX10_follow_98 (g_nmS (fun σ11 eσ11 => ?_))
        replace h := h σ11 eσ11
        have hσ11 : CanS (shC b) (NC b) σ11 := by rw [eσ11]; exact uC_72_8 hσ10 (c32_max (fC_72_8 hσ10) cv8)
        refine g_aload_0 E dX10_follow_101 ?_
        refine g_aload_0 E dX10_follow_102 ?_
        refine g_getR E fl_RX10_19 (kC_72 b) (sC_72 b) rfl dX10_follow_103 ?_
        refine g_iload_3 E dX10_follow_106 ?_
        refine g_callvI E my_X3_rightTree mi_X3_rightTree msel_X3_rightTree ml_RX10_53 (rm_ok (by decide) (by decide)) ⟨Nat.zero_le _, Nat.zero_le _⟩ (kC_54 b) (sC_54 b) rfl (m_X3_rightTree E.2.2.1 cv7 hσ11 h) rfl rfl (Nat.le_of_ble_eq_true rfl) dX10_follow_107 (fun r12 σ13 cr12 hσ13 h => ?_)
        refine g_iload_4 E dX10_follow_110 ?_
        refine g_iconst E dX10_follow_112 ?_
        refine g_iadd E dX10_follow_113 ?_
        refine g_callvV E my_X10_pushTree mi_X10_pushTree msel_X10_pushTree ml_RX10_59 (rm_ok (by decide) (by decide)) ⟨Nat.zero_le _, Nat.zero_le _⟩ (kC_72 b) (sC_72 b) rfl (m_X10_pushTree_o E.2.2.1 cr12 (c32_w _) hσ13 h) rfl rfl (Nat.le_of_ble_eq_true rfl) dX10_follow_114 (fun σ15 r14 hσ15 h => ?_)
        refine g_aload_0 E dX10_follow_117 ?_
        refine g_aload_0 E dX10_follow_118 ?_
        refine g_getR E fl_RX10_19 (kC_72 b) (sC_72 b) rfl dX10_follow_119 ?_
        refine g_iload_3 E dX10_follow_122 ?_
        refine g_callvI E my_X3_leftTree mi_X3_leftTree msel_X3_leftTree ml_RX10_62 (rm_ok (by decide) (by decide)) ⟨Nat.zero_le _, Nat.zero_le _⟩ (kC_54 b) (sC_54 b) rfl (m_X3_leftTree E.2.2.1 cv7 hσ15 h) rfl rfl (Nat.le_of_ble_eq_true rfl) dX10_follow_123 (fun r16 σ17 cr16 hσ17 h => ?_)
        refine g_iload_4 E dX10_follow_126 ?_
        refine g_iconst E dX10_follow_128 ?_
        refine g_iadd E dX10_follow_129 ?_
        refine g_callvV E my_X10_pushTree mi_X10_pushTree msel_X10_pushTree ml_RX10_59 (rm_ok (by decide) (by decide)) ⟨Nat.zero_le _, Nat.zero_le _⟩ (kC_72 b) (sC_72 b) rfl (m_X10_pushTree_o E.2.2.1 cr16 (c32_w _) hσ17 h) rfl rfl (Nat.le_of_ble_eq_true rfl) dX10_follow_130 (fun σ19 r18 hσ19 h => ?_)
        refine g_iinc_2 E rfl (by decide) dX10_follow_133 (fun v20 ev20 => ?_)
        replace h := h v20 ev20
        have cv20 : C32 v20 := by rw [ev20]; exact c32_w _
        refine g_goto E djX10_follow_136 ?_
        exact (ih v20 σ19 cv20 hσ19 h).weak (w_k (w_d (w_k (w_d (w_d w_n)))))
set_option maxHeartbeats 4000000 in
set_option maxRecDepth 100000 in
theorem t_X10_follow_o (E : Ev p s m args meth c cX10_follow 5 RX10 A0 D cA ad (NC b) Z) (hr : meth.sig.returnType = none) (x1 : Int) (σ : St) (c1 : C32 x1) (hσ : CanS (shC b) (NC b) σ) (h : wp_X10_follow_o x1 σ Q) : G p l e (rmL 3 0 0) s m args below meth c 5 A0 D cA ad (shC b) (NC b) 0 0 (MQ below (QVc D cA ad (shC b) (NC b) Q A0) args s 0 0 A0) σ 0 [some (.ref (ad 72)), some (vI x1), none, none, none] [] := by
  unfold wp_X10_follow_o at h
  refine g_aload_0 E dX10_follow_0 ?_
  refine g_iconst E dX10_follow_1 ?_
  refine g_putI E fl_RX10_33 rfl rfl (kC_72 b) (sC_72 b) rfl dX10_follow_2 (g_nmS (fun σ1 eσ1 => ?_))
  replace h := h σ1 eσ1
  have hσ1 : CanS (shC b) (NC b) σ1 := by rw [eσ1]; exact uC_72_7 hσ cl_0
  refine g_aload_0 E dX10_follow_5 ?_
  refine g_iconst E dX10_follow_6 ?_
  refine g_putI E fl_RX10_37 rfl rfl (kC_72 b) (sC_72 b) rfl dX10_follow_7 (g_nmS (fun σ2 eσ2 => ?_))
  replace h := h σ2 eσ2
  have hσ2 : CanS (shC b) (NC b) σ2 := by rw [eσ2]; exact uC_72_8 hσ1 cl_0
  refine g_aload_0 E dX10_follow_10 ?_
  refine g_iconst E dX10_follow_11 ?_
  refine g_putI E fl_RX10_40 rfl rfl (kC_72 b) (sC_72 b) rfl dX10_follow_12 (g_nmS (fun σ3 eσ3 => ?_))
  replace h := h σ3 eσ3
  have hσ3 : CanS (shC b) (NC b) σ3 := by rw [eσ3]; exact uC_72_6 hσ2 cl_0
  refine g_aload_0 E dX10_follow_15 ?_
  refine g_iload_1 E dX10_follow_16 ?_
  refine g_iconst E dX10_follow_17 ?_
  refine g_callvV E my_X10_push mi_X10_push msel_X10_push ml_RX10_43 (rm_ok (by decide) (by decide)) ⟨Nat.zero_le _, Nat.zero_le _⟩ (kC_72 b) (sC_72 b) rfl (m_X10_push_o E.2.2.1 c1 cl_1 hσ3 h) rfl rfl (Nat.le_of_ble_eq_true rfl) dX10_follow_18 (fun σ5 r4 hσ5 h => ?_)
  refine g_iconst E dX10_follow_21 ?_
  refine g_istore_2 E rfl (by decide) dX10_follow_22 ?_
  exact (t_X10_follow_o_l23 E hr bigN 0 σ5 cl_0 hσ5 h).weak (w_k (w_d (w_k (w_d (w_d w_n)))))
end
theorem m_X10_follow_o {Z : (Nat → Nat) × (Nat → Nat)} {l : Launch} {D : va_G} {cA : Nat → ClassId} {ad : Nat → Nat} {b : Bool} {x1 : Int} {σ : St} {Q : Int → St → Prop} (hA : AdOk (NC b) ad) (c1 : C32 x1) (hσ : CanS (shC b) (NC b) σ) (h : wp_X10_follow_o x1 σ Q) : KtV Z l D cA ad (shC b) (NC b) yX10_follow cX10_follow 5 none 3 [.ref (ad 72), vI x1] σ Q :=
  KtV.of my_X10_follow hA [some (.ref (ad 72)), some (vI x1), none, none, none] (Nat.le_of_ble_eq_true rfl) rfl (fun p e s m args below meth c A0 E hr => t_X10_follow_o E hr x1 σ c1 hσ h)
section
variable {p : Program} {l : Launch} {e : Env} {s : State} {m : MethodId} {args : Array Value} {below : List Frame} {meth : Method} {c : Code} {A0 : Nat → Prop} {D : va_G} {cA : Nat → ClassId} {ad : Nat → Nat} {Z : (Nat → Nat) × (Nat → Nat)} {Q : Int → St → Prop} {b : Bool}
set_option maxHeartbeats 4000000 in
set_option maxRecDepth 100000 in
theorem t_X10_caseAt_o (E : Ev p s m args meth c cX10_caseAt 2 RX10 A0 D cA ad (NC b) Z) (hr : meth.sig.returnType = (some .int)) (x1 : Int) (σ : St) (c1 : C32 x1) (hσ : CanS (shC b) (NC b) σ) (h : wp_X10_caseAt_o x1 σ Q) : G p l e (rmL 1 0 0) s m args below meth c 2 A0 D cA ad (shC b) (NC b) 0 0 (MQ below (QIc D cA ad (shC b) (NC b) Q A0) args s 0 0 A0) σ 0 [some (.ref (ad 72)), some (vI x1)] [] := by
  unfold wp_X10_caseAt_o at h
  refine g_aload_0 E dX10_caseAt_0 ?_
  refine g_getR E fl_RX10_19 (kC_72 b) (sC_72 b) rfl dX10_caseAt_1 ?_
  refine g_getR E fl_RX10_65 (kC_54 b) (sC_54 b) rfl dX10_caseAt_4 ?_
  refine g_aload_0 E dX10_caseAt_7 ?_
  refine g_getR E fl_RX10_30 (kC_72 b) (sC_72 b) rfl dX10_caseAt_8 ?_
  refine g_iload_1 E dX10_caseAt_11 ?_
  refine g_iald E (kC_75 b) (sC_75 b) (by decide) h.1 dX10_caseAt_12 ?_
  replace h := h.2
  refine g_iald E (kC_56 b) (sC_56 b) (by decide) h.1 dX10_caseAt_13 ?_
  replace h := h.2
  exact g_iret E hr (aC_56 hσ _) h hσ dX10_caseAt_14
end
theorem m_X10_caseAt_o {Z : (Nat → Nat) × (Nat → Nat)} {l : Launch} {D : va_G} {cA : Nat → ClassId} {ad : Nat → Nat} {b : Bool} {x1 : Int} {σ : St} {Q : Int → St → Prop} (hA : AdOk (NC b) ad) (c1 : C32 x1) (hσ : CanS (shC b) (NC b) σ) (h : wp_X10_caseAt_o x1 σ Q) : KtI Z l D cA ad (shC b) (NC b) yX10_caseAt cX10_caseAt 2 (some .int) 1 [.ref (ad 72), vI x1] σ Q :=
  KtI.of my_X10_caseAt hA [some (.ref (ad 72)), some (vI x1)] (Nat.le_of_ble_eq_true rfl) rfl (fun p e s m args below meth c A0 E hr => t_X10_caseAt_o E hr x1 σ c1 hσ h)
theorem dX10_alikeWith_0 : Dc cX10_alikeWith 0 (.aload_n 0) 1 1 := ⟨by decide +kernel, rfl⟩
theorem dX10_alikeWith_1 : Dc cX10_alikeWith 1 (.getfield 33) 3 4 := ⟨by decide +kernel, rfl⟩
theorem dX10_alikeWith_4 : Dc cX10_alikeWith 4 (.aload_n 1) 1 5 := ⟨by decide +kernel, rfl⟩
theorem dX10_alikeWith_5 : Dc cX10_alikeWith 5 (.getfield 33) 3 8 := ⟨by decide +kernel, rfl⟩
theorem dX10_alikeWith_8 : Dc cX10_alikeWith 8 (.invokestatic 85) 3 11 := ⟨by decide +kernel, rfl⟩
theorem dX10_alikeWith_11 : Dc cX10_alikeWith 11 (.istore_n 2) 1 12 := ⟨by decide +kernel, rfl⟩
theorem dX10_alikeWith_12 : Dc cX10_alikeWith 12 (.iconst 0) 1 13 := ⟨by decide +kernel, rfl⟩
theorem dX10_alikeWith_13 : Dc cX10_alikeWith 13 (.istore_n 3) 1 14 := ⟨by decide +kernel, rfl⟩
theorem dX10_alikeWith_14 : Dc cX10_alikeWith 14 (.iload_n 3) 1 15 := ⟨by decide +kernel, rfl⟩
theorem dX10_alikeWith_15 : Dc cX10_alikeWith 15 (.iload_n 2) 1 16 := ⟨by decide +kernel, rfl⟩
theorem djX10_alikeWith_16 : Dj cX10_alikeWith 16 (.if_icmp .ge 22) 3 19 22 38 := ⟨by decide +kernel, rfl, by decide⟩
theorem dX10_alikeWith_19 : Dc cX10_alikeWith 19 (.aload_n 0) 1 20 := ⟨by decide +kernel, rfl⟩
theorem dX10_alikeWith_20 : Dc cX10_alikeWith 20 (.iload_n 3) 1 21 := ⟨by decide +kernel, rfl⟩
theorem dX10_alikeWith_21 : Dc cX10_alikeWith 21 (.invokevirtual 73) 3 24 := ⟨by decide +kernel, rfl⟩
theorem dX10_alikeWith_24 : Dc cX10_alikeWith 24 (.aload_n 1) 1 25 := ⟨by decide +kernel, rfl⟩
theorem dX10_alikeWith_25 : Dc cX10_alikeWith 25 (.iload_n 3) 1 26 := ⟨by decide +kernel, rfl⟩
theorem dX10_alikeWith_26 : Dc cX10_alikeWith 26 (.invokevirtual 73) 3 29 := ⟨by decide +kernel, rfl⟩
theorem djX10_alikeWith_29 : Dj cX10_alikeWith 29 (.if_icmp .ne 9) 3 32 9 38 := ⟨by decide +kernel, rfl, by decide⟩
theorem dX10_alikeWith_32 : Dc cX10_alikeWith 32 (.iinc 3 1) 3 35 := ⟨by decide +kernel, rfl⟩
theorem djX10_alikeWith_35 : Dj cX10_alikeWith 35 (.goto (-21)) 3 38 (-21) 14 := ⟨by decide +kernel, rfl, by decide⟩
theorem dX10_alikeWith_38 : Dc cX10_alikeWith 38 (.iload_n 3) 1 39 := ⟨by decide +kernel, rfl⟩
theorem dX10_alikeWith_39 : Dc cX10_alikeWith 39 (.ireturn) 1 40 := ⟨by decide +kernel, rfl⟩
section
variable {p : Program} {l : Launch} {e : Env} {s : State} {m : MethodId} {args : Array Value} {below : List Frame} {meth : Method} {c : Code} {A0 : Nat → Prop} {D : va_G} {cA : Nat → ClassId} {ad : Nat → Nat} {Z : (Nat → Nat) × (Nat → Nat)} {Q : Int → St → Prop} {b : Bool}
set_option maxHeartbeats 4000000 in
set_option maxRecDepth 100000 in
theorem t_X10_alikeWith_c72_l14 (E : Ev p s m args meth c cX10_alikeWith 4 RX10 A0 D cA ad (NC b) Z) (hr : meth.sig.returnType = (some .int)) : ∀ (n : Nat) (x2 : Int) (x3 : Int) (σ : St), C32 x2 → C32 x3 → CanS (shC b) (NC b) σ → wp_X10_alikeWith_c72_l14 Q n x2 x3 σ → G p l e (rmL 2 0 0) s m args below meth c 4 A0 D cA ad (shC b) (NC b) 0 0 (MQ below (QIc D cA ad (shC b) (NC b) Q A0) args s 0 0 A0) σ 14 [some (.ref (ad 68)), some (.ref (ad 72)), some (vI x2), some (vI x3)] [] := by
  intro n
  induction n with
  | zero => intro _ _ _ _ _ _ h; exact h.elim
  | succ n ih =>
    intro x2 x3 σ c2 c3 hσ h
    unfold wp_X10_alikeWith_c72_l14 at h
    refine g_iload_3 E dX10_alikeWith_14 ?_
    refine g_iload_2 E dX10_alikeWith_15 ?_
    refine g_icmp_ge E c3 c2 djX10_alikeWith_16 (fun hc => ?_) (fun hc => ?_)
    · replace h := h.1 hc
      refine g_iload_3 E dX10_alikeWith_38 ?_
      exact g_iret E hr c3 h hσ dX10_alikeWith_39
    · replace h := h.2 hc
      refine g_aload_0 E dX10_alikeWith_19 ?_
      refine g_iload_3 E dX10_alikeWith_20 ?_
      refine g_callvI E my_X10_caseAt mi_X10_caseAt msel_X10_caseAt ml_RX10_73 (rm_ok (by decide) (by decide)) ⟨Nat.zero_le _, Nat.zero_le _⟩ (kC_68 b) (sC_68 b) rfl (m_X10_caseAt E.2.2.1 c3 hσ h) rfl rfl (Nat.le_of_ble_eq_true rfl) dX10_alikeWith_21 (fun r2 σ3 cr2 hσ3 h => ?_)
      refine g_aload_1 E dX10_alikeWith_24 ?_
      refine g_iload_3 E dX10_alikeWith_25 ?_
      refine g_callvI E my_X10_caseAt mi_X10_caseAt msel_X10_caseAt ml_RX10_73 (rm_ok (by decide) (by decide)) ⟨Nat.zero_le _, Nat.zero_le _⟩ (kC_72 b) (sC_72 b) rfl (m_X10_caseAt_o E.2.2.1 c3 hσ3 h) rfl rfl (Nat.le_of_ble_eq_true rfl) dX10_alikeWith_26 (fun r4 σ5 cr4 hσ5 h => ?_)
      refine g_icmp_ne E cr2 cr4 djX10_alikeWith_29 (fun hc => ?_) (fun hc => ?_)
      · replace h := h.1 hc
        refine g_iload_3 E dX10_alikeWith_38 ?_
        exact g_iret E hr c3 h hσ5 dX10_alikeWith_39
      · replace h := h.2 hc
        refine g_iinc_3 E rfl (by decide) dX10_alikeWith_32 (fun v6 ev6 => ?_)
        replace h := h v6 ev6
        have cv6 : C32 v6 := by rw [ev6]; exact c32_w _
        refine g_goto E djX10_alikeWith_35 ?_
        exact (ih x2 v6 σ5 c2 cv6 hσ5 h).weak (w_k (w_k (w_k (w_k w_n))))
set_option maxHeartbeats 4000000 in
set_option maxRecDepth 100000 in
theorem t_X10_alikeWith_c72 (E : Ev p s m args meth c cX10_alikeWith 4 RX10 A0 D cA ad (NC b) Z) (hr : meth.sig.returnType = (some .int)) (σ : St) (hσ : CanS (shC b) (NC b) σ) (h : wp_X10_alikeWith_c72  σ Q) : G p l e (rmL 2 0 0) s m args below meth c 4 A0 D cA ad (shC b) (NC b) 0 0 (MQ below (QIc D cA ad (shC b) (NC b) Q A0) args s 0 0 A0) σ 0 [some (.ref (ad 68)), some (.ref (ad 72)), none, none] [] := by
  unfold wp_X10_alikeWith_c72 at h
  refine g_aload_0 E dX10_alikeWith_0 ?_
  refine g_getI E fl_RX10_33 (kC_68 b) (sC_68 b) rfl dX10_alikeWith_1 ?_
  refine g_aload_1 E dX10_alikeWith_4 ?_
  refine g_getI E fl_RX10_33 (kC_72 b) (sC_72 b) rfl dX10_alikeWith_5 ?_
  refine g_mmin E ml_RX10_85 (fC_68_7 hσ) (fC_72_7 hσ) (Nat.le_of_ble_eq_true rfl) (rm_1 2) ⟨Nat.zero_le _, Nat.zero_le _⟩ dX10_alikeWith_8 ?_
  refine g_nmI (fun v1 ev1 => ?_)
  replace h := h v1 ev1
  have cv1 : C32 v1 := by rw [ev1]; exact (c32_min (fC_68_7 hσ) (fC_72_7 hσ))
  refine g_istore_2 E rfl (by decide) dX10_alikeWith_11 ?_
  refine g_iconst E dX10_alikeWith_12 ?_
  refine g_istore_3 E rfl (by decide) dX10_alikeWith_13 ?_
  exact (t_X10_alikeWith_c72_l14 E hr bigN v1 0 σ cv1 cl_0 hσ h).weak (w_k (w_k (w_k (w_k w_n))))
end
theorem m_X10_alikeWith_c72 {Z : (Nat → Nat) × (Nat → Nat)} {l : Launch} {D : va_G} {cA : Nat → ClassId} {ad : Nat → Nat} {b : Bool} {σ : St} {Q : Int → St → Prop} (hA : AdOk (NC b) ad) (hσ : CanS (shC b) (NC b) σ) (h : wp_X10_alikeWith_c72  σ Q) : KtI Z l D cA ad (shC b) (NC b) yX10_alikeWith cX10_alikeWith 4 (some .int) 2 [.ref (ad 68), .ref (ad 72)] σ Q :=
  KtI.of my_X10_alikeWith hA [some (.ref (ad 68)), some (.ref (ad 72)), none, none] (Nat.le_of_ble_eq_true rfl) rfl (fun p e s m args below meth c A0 E hr => t_X10_alikeWith_c72 E hr σ hσ h)
theorem dX11_alike_0 : Dc cX11_alike 0 (.aload_n 0) 1 1 := ⟨by decide +kernel, rfl⟩
theorem dX11_alike_1 : Dc cX11_alike 1 (.iload_n 1) 1 2 := ⟨by decide +kernel, rfl⟩
theorem dX11_alike_2 : Dc cX11_alike 2 (.iload_n 2) 1 3 := ⟨by decide +kernel, rfl⟩
theorem dX11_alike_3 : Dc cX11_alike 3 (.iload_n 3) 1 4 := ⟨by decide +kernel, rfl⟩
theorem dX11_alike_4 : Dc cX11_alike 4 (.invokevirtual 223) 3 7 := ⟨by decide +kernel, rfl⟩
theorem dX11_alike_7 : Dc cX11_alike 7 (.istore 6) 2 9 := ⟨by decide +kernel, rfl⟩
theorem dX11_alike_9 : Dc cX11_alike 9 (.iload 6) 2 11 := ⟨by decide +kernel, rfl⟩
theorem djX11_alike_11 : Dj cX11_alike 11 (.ifCond .lt 19) 3 14 19 30 := ⟨by decide +kernel, rfl, by decide⟩
theorem dX11_alike_14 : Dc cX11_alike 14 (.iload 4) 2 16 := ⟨by decide +kernel, rfl⟩
theorem dX11_alike_16 : Dc cX11_alike 16 (.invokestatic 286) 3 19 := ⟨by decide +kernel, rfl⟩
theorem djX11_alike_19 : Dj cX11_alike 19 (.ifCond .eq 11) 3 22 11 30 := ⟨by decide +kernel, rfl, by decide⟩
theorem dX11_alike_22 : Dc cX11_alike 22 (.iload 5) 2 24 := ⟨by decide +kernel, rfl⟩
theorem dX11_alike_24 : Dc cX11_alike 24 (.invokestatic 286) 3 27 := ⟨by decide +kernel, rfl⟩
theorem djX11_alike_27 : Dj cX11_alike 27 (.ifCond .ne 6) 3 30 6 33 := ⟨by decide +kernel, rfl, by decide⟩
theorem dX11_alike_30 : Dc cX11_alike 30 (.bipush (-2)) 2 32 := ⟨by decide +kernel, rfl⟩
theorem dX11_alike_32 : Dc cX11_alike 32 (.ireturn) 1 33 := ⟨by decide +kernel, rfl⟩
theorem dX11_alike_33 : Dc cX11_alike 33 (.aload_n 0) 1 34 := ⟨by decide +kernel, rfl⟩
theorem dX11_alike_34 : Dc cX11_alike 34 (.getfield 76) 3 37 := ⟨by decide +kernel, rfl⟩
theorem dX11_alike_37 : Dc cX11_alike 37 (.iload 6) 2 39 := ⟨by decide +kernel, rfl⟩
theorem dX11_alike_39 : Dc cX11_alike 39 (.iload 4) 2 41 := ⟨by decide +kernel, rfl⟩
theorem dX11_alike_41 : Dc cX11_alike 41 (.invokevirtual 289) 3 44 := ⟨by decide +kernel, rfl⟩
theorem dX11_alike_44 : Dc cX11_alike 44 (.istore 7) 2 46 := ⟨by decide +kernel, rfl⟩
theorem dX11_alike_46 : Dc cX11_alike 46 (.aload_n 0) 1 47 := ⟨by decide +kernel, rfl⟩
theorem dX11_alike_47 : Dc cX11_alike 47 (.getfield 76) 3 50 := ⟨by decide +kernel, rfl⟩
theorem dX11_alike_50 : Dc cX11_alike 50 (.iload 6) 2 52 := ⟨by decide +kernel, rfl⟩
theorem dX11_alike_52 : Dc cX11_alike 52 (.iload 5) 2 54 := ⟨by decide +kernel, rfl⟩
theorem dX11_alike_54 : Dc cX11_alike 54 (.invokevirtual 289) 3 57 := ⟨by decide +kernel, rfl⟩
theorem dX11_alike_57 : Dc cX11_alike 57 (.istore 8) 2 59 := ⟨by decide +kernel, rfl⟩
theorem dX11_alike_59 : Dc cX11_alike 59 (.iload 7) 2 61 := ⟨by decide +kernel, rfl⟩
theorem djX11_alike_61 : Dj cX11_alike 61 (.ifCond .lt 8) 3 64 8 69 := ⟨by decide +kernel, rfl, by decide⟩
theorem dX11_alike_64 : Dc cX11_alike 64 (.iload 8) 2 66 := ⟨by decide +kernel, rfl⟩
theorem djX11_alike_66 : Dj cX11_alike 66 (.ifCond .ge 5) 3 69 5 71 := ⟨by decide +kernel, rfl, by decide⟩
theorem dX11_alike_69 : Dc cX11_alike 69 (.iconst (-1)) 1 70 := ⟨by decide +kernel, rfl⟩
theorem dX11_alike_70 : Dc cX11_alike 70 (.ireturn) 1 71 := ⟨by decide +kernel, rfl⟩
theorem dX11_alike_71 : Dc cX11_alike 71 (.aload_n 0) 1 72 := ⟨by decide +kernel, rfl⟩
theorem dX11_alike_72 : Dc cX11_alike 72 (.getfield 85) 3 75 := ⟨by decide +kernel, rfl⟩
theorem dX11_alike_75 : Dc cX11_alike 75 (.iload 7) 2 77 := ⟨by decide +kernel, rfl⟩
theorem dX11_alike_77 : Dc cX11_alike 77 (.invokevirtual 295) 3 80 := ⟨by decide +kernel, rfl⟩
theorem dX11_alike_80 : Dc cX11_alike 80 (.aload_n 0) 1 81 := ⟨by decide +kernel, rfl⟩
theorem dX11_alike_81 : Dc cX11_alike 81 (.getfield 89) 3 84 := ⟨by decide +kernel, rfl⟩
theorem dX11_alike_84 : Dc cX11_alike 84 (.iload 8) 2 86 := ⟨by decide +kernel, rfl⟩
theorem dX11_alike_86 : Dc cX11_alike 86 (.invokevirtual 295) 3 89 := ⟨by decide +kernel, rfl⟩
theorem dX11_alike_89 : Dc cX11_alike 89 (.aload_n 0) 1 90 := ⟨by decide +kernel, rfl⟩
theorem dX11_alike_90 : Dc cX11_alike 90 (.getfield 85) 3 93 := ⟨by decide +kernel, rfl⟩
theorem dX11_alike_93 : Dc cX11_alike 93 (.aload_n 0) 1 94 := ⟨by decide +kernel, rfl⟩
theorem dX11_alike_94 : Dc cX11_alike 94 (.getfield 89) 3 97 := ⟨by decide +kernel, rfl⟩
theorem dX11_alike_97 : Dc cX11_alike 97 (.invokevirtual 323) 3 100 := ⟨by decide +kernel, rfl⟩
theorem dX11_alike_100 : Dc cX11_alike 100 (.ireturn) 1 101 := ⟨by decide +kernel, rfl⟩
section
variable {p : Program} {l : Launch} {e : Env} {s : State} {m : MethodId} {args : Array Value} {below : List Frame} {meth : Method} {c : Code} {A0 : Nat → Prop} {D : va_G} {cA : Nat → ClassId} {ad : Nat → Nat} {Z : (Nat → Nat) × (Nat → Nat)} {Q : Int → St → Prop} {b : Bool}
set_option maxHeartbeats 4000000 in
set_option maxRecDepth 100000 in
theorem t_X11_alike (E : Ev p s m args meth c cX11_alike 9 RX11 A0 D cA ad (NC b) Z) (hr : meth.sig.returnType = (some .int)) (x1 : Int) (x2 : Int) (x3 : Int) (x4 : Int) (x5 : Int) (σ : St) (c1 : C32 x1) (c2 : C32 x2) (c3 : C32 x3) (c4 : C32 x4) (c5 : C32 x5) (hσ : CanS (shC b) (NC b) σ) (h : wp_X11_alike x1 x2 x3 x4 x5 σ Q) : G p l e (rmL 7 0 0) s m args below meth c 9 A0 D cA ad (shC b) (NC b) 0 0 (MQ below (QIc D cA ad (shC b) (NC b) Q A0) args s 0 0 A0) σ 0 [some (.ref (ad 0)), some (vI x1), some (vI x2), some (vI x3), some (vI x4), some (vI x5), none, none, none] [] := by
  unfold wp_X11_alike at h
  refine g_aload_0 E dX11_alike_0 ?_
  refine g_iload_1 E dX11_alike_1 ?_
  refine g_iload_2 E dX11_alike_2 ?_
  refine g_iload_3 E dX11_alike_3 ?_
  refine g_callvI E my_X11_itemOf mi_X11_itemOf msel_X11_itemOf ml_RX11_223 (rm_ok (by decide) (by decide)) ⟨Nat.zero_le _, Nat.zero_le _⟩ (kC_0 b) (sC_0 b) rfl (m_X11_itemOf E.2.2.1 c1 c2 c3 hσ h) rfl rfl (Nat.le_of_ble_eq_true rfl) dX11_alike_4 (fun r1 σ2 cr1 hσ2 h => ?_)
  refine g_istore_6 E rfl (by decide) dX11_alike_7 ?_
  refine g_iload_6 E dX11_alike_9 ?_
  refine g_if_lt E cr1 djX11_alike_11 (fun hc => ?_) (fun hc => ?_)
  · replace h := h.1 hc
    refine g_bipush E (by decide) dX11_alike_30 ?_
    exact g_iret E hr cl_m2 h hσ2 dX11_alike_32
  · replace h := h.2 hc
    refine g_iload_4 E dX11_alike_14 ?_
    refine g_callsI E my_X11_isPlace ms_X11_isPlace ml_RX11_286 (rm_ok (by decide) (by decide)) ⟨Nat.zero_le _, Nat.zero_le _⟩ (m_X11_isPlace E.2.2.1 c4 hσ2 h) rfl rfl (Nat.le_of_ble_eq_true rfl) dX11_alike_16 (fun r3 σ4 cr3 hσ4 h => ?_)
    refine g_if_eq E cr3 djX11_alike_19 (fun hc => ?_) (fun hc => ?_)
    · replace h := h.1 hc
      refine g_bipush E (by decide) dX11_alike_30 ?_
      exact g_iret E hr cl_m2 h hσ4 dX11_alike_32
    · replace h := h.2 hc
      refine g_iload_5 E dX11_alike_22 ?_
      refine g_callsI E my_X11_isPlace ms_X11_isPlace ml_RX11_286 (rm_ok (by decide) (by decide)) ⟨Nat.zero_le _, Nat.zero_le _⟩ (m_X11_isPlace E.2.2.1 c5 hσ4 h) rfl rfl (Nat.le_of_ble_eq_true rfl) dX11_alike_24 (fun r5 σ6 cr5 hσ6 h => ?_)
      refine g_if_ne E cr5 djX11_alike_27 (fun hc => ?_) (fun hc => ?_)
      · replace h := h.1 hc
        refine g_aload_0 E dX11_alike_33 ?_
        refine g_getR E fl_RX11_76 (kC_0 b) (sC_0 b) rfl dX11_alike_34 ?_
        refine g_iload_6 E dX11_alike_37 ?_
        refine g_iload_4 E dX11_alike_39 ?_
        refine g_callvI E my_X3_treeOf mi_X3_treeOf msel_X3_treeOf ml_RX11_289 (rm_ok (by decide) (by decide)) ⟨Nat.zero_le _, Nat.zero_le _⟩ (kC_54 b) (sC_54 b) rfl (m_X3_treeOf E.2.2.1 cr1 c4 hσ6 h) rfl rfl (Nat.le_of_ble_eq_true rfl) dX11_alike_41 (fun r7 σ8 cr7 hσ8 h => ?_)
        refine g_istore_7 E rfl (by decide) dX11_alike_44 ?_
        refine g_aload_0 E dX11_alike_46 ?_
        refine g_getR E fl_RX11_76 (kC_0 b) (sC_0 b) rfl dX11_alike_47 ?_
        refine g_iload_6 E dX11_alike_50 ?_
        refine g_iload_5 E dX11_alike_52 ?_
        refine g_callvI E my_X3_treeOf mi_X3_treeOf msel_X3_treeOf ml_RX11_289 (rm_ok (by decide) (by decide)) ⟨Nat.zero_le _, Nat.zero_le _⟩ (kC_54 b) (sC_54 b) rfl (m_X3_treeOf E.2.2.1 cr1 c5 hσ8 h) rfl rfl (Nat.le_of_ble_eq_true rfl) dX11_alike_54 (fun r9 σ10 cr9 hσ10 h => ?_)
        refine g_istore_8 E rfl (by decide) dX11_alike_57 ?_
        refine g_iload_7 E dX11_alike_59 ?_
        refine g_if_lt E cr7 djX11_alike_61 (fun hc => ?_) (fun hc => ?_)
        · replace h := h.1 hc
          refine g_iconst E dX11_alike_69 ?_
          exact g_iret E hr cl_m1 h hσ10 dX11_alike_70
        · replace h := h.2 hc
          refine g_iload_8 E dX11_alike_64 ?_
          refine g_if_ge E cr9 djX11_alike_66 (fun hc => ?_) (fun hc => ?_)
          · replace h := h.1 hc
            refine g_aload_0 E dX11_alike_71 ?_
            refine g_getR E fl_RX11_85 (kC_0 b) (sC_0 b) rfl dX11_alike_72 ?_
            refine g_iload_7 E dX11_alike_75 ?_
            refine g_callvV E my_X10_follow mi_X10_follow msel_X10_follow ml_RX11_295 (rm_ok (by decide) (by decide)) ⟨Nat.zero_le _, Nat.zero_le _⟩ (kC_68 b) (sC_68 b) rfl (m_X10_follow E.2.2.1 cr7 hσ10 h) rfl rfl (Nat.le_of_ble_eq_true rfl) dX11_alike_77 (fun σ12 r11 hσ12 h => ?_)
            refine g_aload_0 E dX11_alike_80 ?_
            refine g_getR E fl_RX11_89 (kC_0 b) (sC_0 b) rfl dX11_alike_81 ?_
            refine g_iload_8 E dX11_alike_84 ?_
            refine g_callvV E my_X10_follow mi_X10_follow msel_X10_follow ml_RX11_295 (rm_ok (by decide) (by decide)) ⟨Nat.zero_le _, Nat.zero_le _⟩ (kC_72 b) (sC_72 b) rfl (m_X10_follow_o E.2.2.1 cr9 hσ12 h) rfl rfl (Nat.le_of_ble_eq_true rfl) dX11_alike_86 (fun σ14 r13 hσ14 h => ?_)
            refine g_aload_0 E dX11_alike_89 ?_
            refine g_getR E fl_RX11_85 (kC_0 b) (sC_0 b) rfl dX11_alike_90 ?_
            refine g_aload_0 E dX11_alike_93 ?_
            refine g_getR E fl_RX11_89 (kC_0 b) (sC_0 b) rfl dX11_alike_94 ?_
            refine g_callvI E my_X10_alikeWith mi_X10_alikeWith msel_X10_alikeWith ml_RX11_323 (rm_ok (by decide) (by decide)) ⟨Nat.zero_le _, Nat.zero_le _⟩ (kC_68 b) (sC_68 b) rfl (m_X10_alikeWith_c72 E.2.2.1 hσ14 h) rfl rfl (Nat.le_of_ble_eq_true rfl) dX11_alike_97 (fun r15 σ16 cr15 hσ16 h => ?_)
            exact g_iret E hr cr15 h hσ16 dX11_alike_100
          · replace h := h.2 hc
            refine g_iconst E dX11_alike_69 ?_
            exact g_iret E hr cl_m1 h hσ10 dX11_alike_70
      · replace h := h.2 hc
        refine g_bipush E (by decide) dX11_alike_30 ?_
        exact g_iret E hr cl_m2 h hσ6 dX11_alike_32
end
theorem m_X11_alike {Z : (Nat → Nat) × (Nat → Nat)} {l : Launch} {D : va_G} {cA : Nat → ClassId} {ad : Nat → Nat} {b : Bool} {x1 x2 x3 x4 x5 : Int} {σ : St} {Q : Int → St → Prop} (hA : AdOk (NC b) ad) (c1 : C32 x1) (c2 : C32 x2) (c3 : C32 x3) (c4 : C32 x4) (c5 : C32 x5) (hσ : CanS (shC b) (NC b) σ) (h : wp_X11_alike x1 x2 x3 x4 x5 σ Q) : KtI Z l D cA ad (shC b) (NC b) yX11_alike cX11_alike 9 (some .int) 7 [.ref (ad 0), vI x1, vI x2, vI x3, vI x4, vI x5] σ Q :=
  KtI.of my_X11_alike hA [some (.ref (ad 0)), some (vI x1), some (vI x2), some (vI x3), some (vI x4), some (vI x5), none, none, none] (Nat.le_of_ble_eq_true rfl) rfl (fun p e s m args below meth c A0 E hr => t_X11_alike E hr x1 x2 x3 x4 x5 σ c1 c2 c3 c4 c5 hσ h)
section
variable {p : Program} {l : Launch} {e : Env} {s : State} {m : MethodId} {args : Array Value} {below : List Frame} {meth : Method} {c : Code} {A0 : Nat → Prop} {D : va_G} {cA : Nat → ClassId} {ad : Nat → Nat} {Z : (Nat → Nat) × (Nat → Nat)} {Q : Int → St → Prop} {b : Bool}
set_option maxHeartbeats 4000000 in
set_option maxRecDepth 100000 in
theorem t_X1_leastOfCases_c39_b159 (E : Ev p s m args meth c cX1_leastOfCases 10 RX1 A0 D cA ad (NC b) Z) (hr : meth.sig.returnType = (some .int)) {K13 : Int → Int → Int → Int → Int → St → Prop} (hK13 : ∀ (x2 : Int) (x3 : Int) (x4 : Int) (x5 : Int) (x6 : Int) (σ : St), C32 x2 → C32 x3 → C32 x4 → C32 x5 → C32 x6 → CanS (shC b) (NC b) σ → K13 x2 x3 x4 x5 x6 σ → G p l e (rmL 2 0 0) s m args below meth c 10 A0 D cA ad (shC b) (NC b) 0 0 (MQ below (QIc D cA ad (shC b) (NC b) Q A0) args s 0 0 A0) σ 13 [some (.ref (ad 36)), some (.ref (ad 39)), some (vI x2), some (vI x3), some (vI x4), some (vI x5), some (vI x6), none, none, none] []) (x2 : Int) (x3 : Int) (x4 : Int) (x5 : Int) (x6 : Int) (σ : St) (c2 : C32 x2) (c3 : C32 x3) (c4 : C32 x4) (c5 : C32 x5) (c6 : C32 x6) (hσ : CanS (shC b) (NC b) σ) (h : wp_X1_leastOfCases_c39_b159 Q K13 x2 x3 x4 x5 x6 σ) : G p l e (rmL 2 0 0) s m args below meth c 10 A0 D cA ad (shC b) (NC b) 0 0 (MQ below (QIc D cA ad (shC b) (NC b) Q A0) args s 0 0 A0) σ 159 [some (.ref (ad 36)), some (.ref (ad 39)), some (vI x2), some (vI x3), some (vI x4), some (vI x5), some (vI x6), none, none, none] [] := by
  unfold wp_X1_leastOfCases_c39_b159 at h
  refine g_iinc_6 E rfl (by decide) dX1_leastOfCases_159 (fun v8 ev8 => ?_)
  replace h := h v8 ev8
  have cv8 : C32 v8 := by rw [ev8]; exact c32_w _
  refine g_goto E djX1_leastOfCases_162 ?_
  exact (hK13 x2 x3 x4 x5 v8 σ c2 c3 c4 c5 cv8 hσ h).weak (w_k (w_k (w_k (w_k (w_k (w_k (w_k (w_d (w_d (w_d w_n))))))))))
set_option maxHeartbeats 4000000 in
set_option maxRecDepth 100000 in
theorem t_X1_leastOfCases_c39_b116 (E : Ev p s m args meth c cX1_leastOfCases 10 RX1 A0 D cA ad (NC b) Z) (hr : meth.sig.returnType = (some .int)) {K13 : Int → Int → Int → Int → Int → St → Prop} (hK13 : ∀ (x2 : Int) (x3 : Int) (x4 : Int) (x5 : Int) (x6 : Int) (σ : St), C32 x2 → C32 x3 → C32 x4 → C32 x5 → C32 x6 → CanS (shC b) (NC b) σ → K13 x2 x3 x4 x5 x6 σ → G p l e (rmL 2 0 0) s m args below meth c 10 A0 D cA ad (shC b) (NC b) 0 0 (MQ below (QIc D cA ad (shC b) (NC b) Q A0) args s 0 0 A0) σ 13 [some (.ref (ad 36)), some (.ref (ad 39)), some (vI x2), some (vI x3), some (vI x4), some (vI x5), some (vI x6), none, none, none] []) (x2 : Int) (x3 : Int) (x4 : Int) (x5 : Int) (x6 : Int) (x7 : Int) (x8 : Int) (s0 : Int) (σ : St) (c2 : C32 x2) (c3 : C32 x3) (c4 : C32 x4) (c5 : C32 x5) (c6 : C32 x6) (c7 : C32 x7) (c8 : C32 x8) (cs0 : C32 s0) (hσ : CanS (shC b) (NC b) σ) (h : wp_X1_leastOfCases_c39_b116 Q K13 x2 x3 x4 x5 x6 x7 x8 s0 σ) : G p l e (rmL 2 0 0) s m args below meth c 10 A0 D cA ad (shC b) (NC b) 0 0 (MQ below (QIc D cA ad (shC b) (NC b) Q A0) args s 0 0 A0) σ 116 [some (.ref (ad 36)), some (.ref (ad 39)), some (vI x2), some (vI x3), some (vI x4), some (vI x5), some (vI x6), some (vI x7), some (vI x8), none] [vI s0] := by
  unfold wp_X1_leastOfCases_c39_b116 at h
  refine g_istore_9 E rfl (by decide) dX1_leastOfCases_116 ?_
  refine g_iload_8 E dX1_leastOfCases_118 ?_
  refine g_if_lt E c8 djX1_leastOfCases_120 (fun hc => ?_) (fun hc => ?_)
  · replace h := h.1 hc
    exact (t_X1_leastOfCases_c39_b159 E hr hK13 x2 x3 x4 x5 x6 σ c2 c3 c4 c5 c6 hσ h).weak (w_k (w_k (w_k (w_k (w_k (w_k (w_k (w_d (w_d (w_d w_n))))))))))
  · replace h := h.2 hc
    refine g_iload_9 E dX1_leastOfCases_123 ?_
    refine g_if_lt E cs0 djX1_leastOfCases_125 (fun hc => ?_) (fun hc => ?_)
    · replace h := h.1 hc
      exact (t_X1_leastOfCases_c39_b159 E hr hK13 x2 x3 x4 x5 x6 σ c2 c3 c4 c5 c6 hσ h).weak (w_k (w_k (w_k (w_k (w_k (w_k (w_k (w_d (w_d (w_d w_n))))))))))
    · replace h := h.2 hc
      refine g_iload_5 E dX1_leastOfCases_128 ?_
      refine g_aload_0 E dX1_leastOfCases_130 ?_
      refine g_getR E fl_RX1_9 (kC_36 b) (sC_36 b) rfl dX1_leastOfCases_131 ?_
      refine g_getR E fl_RX1_86 (kC_14 b) (sC_14 b) rfl dX1_leastOfCases_134 ?_
      refine g_iload_7 E dX1_leastOfCases_137 ?_
      refine g_iald E (kC_18 b) (sC_18 b) (by decide) h.1 dX1_leastOfCases_139 ?_
      replace h := h.2
      refine g_iload_8 E dX1_leastOfCases_140 ?_
      refine g_iload_9 E dX1_leastOfCases_142 ?_
      refine g_iload_4 E dX1_leastOfCases_144 ?_
      refine g_callsI E my_X1_join ms_X1_join ml_RX1_91 (rm_ok (by decide) (by decide)) ⟨Nat.zero_le _, Nat.zero_le _⟩ (m_X1_join E.2.2.1 c8 cs0 c4 hσ h) rfl rfl (Nat.le_of_ble_eq_true rfl) dX1_leastOfCases_146 (fun r9 σ10 cr9 hσ10 h => ?_)
      refine g_iload_4 E dX1_leastOfCases_149 ?_
      refine g_callsI E my_X1_join ms_X1_join ml_RX1_91 (rm_ok (by decide) (by decide)) ⟨Nat.zero_le _, Nat.zero_le _⟩ (m_X1_join E.2.2.1 (aC_18 hσ _) cr9 c4 hσ10 h) rfl rfl (Nat.le_of_ble_eq_true rfl) dX1_leastOfCases_151 (fun r11 σ12 cr11 hσ12 h => ?_)
      refine g_callsI E my_X1_lesser ms_X1_lesser ml_RX1_95 (rm_ok (by decide) (by decide)) ⟨Nat.zero_le _, Nat.zero_le _⟩ (m_X1_lesser E.2.2.1 c5 cr11 hσ12 h) rfl rfl (Nat.le_of_ble_eq_true rfl) dX1_leastOfCases_154 (fun r13 σ14 cr13 hσ14 h => ?_)
      refine g_istore_5 E rfl (by decide) dX1_leastOfCases_157 ?_
      exact (t_X1_leastOfCases_c39_b159 E hr hK13 x2 x3 x4 r13 x6 σ14 c2 c3 c4 cr13 c6 hσ14 h).weak (w_k (w_k (w_k (w_k (w_k (w_k (w_k (w_d (w_d (w_d w_n))))))))))
set_option maxHeartbeats 4000000 in
set_option maxRecDepth 100000 in
theorem t_X1_leastOfCases_c39_b85 (E : Ev p s m args meth c cX1_leastOfCases 10 RX1 A0 D cA ad (NC b) Z) (hr : meth.sig.returnType = (some .int)) {K13 : Int → Int → Int → Int → Int → St → Prop} (hK13 : ∀ (x2 : Int) (x3 : Int) (x4 : Int) (x5 : Int) (x6 : Int) (σ : St), C32 x2 → C32 x3 → C32 x4 → C32 x5 → C32 x6 → CanS (shC b) (NC b) σ → K13 x2 x3 x4 x5 x6 σ → G p l e (rmL 2 0 0) s m args below meth c 10 A0 D cA ad (shC b) (NC b) 0 0 (MQ below (QIc D cA ad (shC b) (NC b) Q A0) args s 0 0 A0) σ 13 [some (.ref (ad 36)), some (.ref (ad 39)), some (vI x2), some (vI x3), some (vI x4), some (vI x5), some (vI x6), none, none, none] []) (x2 : Int) (x3 : Int) (x4 : Int) (x5 : Int) (x6 : Int) (x7 : Int) (s0 : Int) (σ : St) (c2 : C32 x2) (c3 : C32 x3) (c4 : C32 x4) (c5 : C32 x5) (c6 : C32 x6) (c7 : C32 x7) (cs0 : C32 s0) (hσ : CanS (shC b) (NC b) σ) (h : wp_X1_leastOfCases_c39_b85 Q K13 x2 x3 x4 x5 x6 x7 s0 σ) : G p l e (rmL 2 0 0) s m args below meth c 10 A0 D cA ad (shC b) (NC b) 0 0 (MQ below (QIc D cA ad (shC b) (NC b) Q A0) args s 0 0 A0) σ 85 [some (.ref (ad 36)), some (.ref (ad 39)), some (vI x2), some (vI x3), some (vI x4), some (vI x5), some (vI x6), some (vI x7), none, none] [vI s0] := by
  unfold wp_X1_leastOfCases_c39_b85 at h
  refine g_istore_8 E rfl (by decide) dX1_leastOfCases_85 ?_
  refine g_aload_0 E dX1_leastOfCases_87 ?_
  refine g_getR E fl_RX1_15 (kC_36 b) (sC_36 b) rfl dX1_leastOfCases_88 ?_
  refine g_getR E fl_RX1_83 (kC_24 b) (sC_24 b) rfl dX1_leastOfCases_91 ?_
  refine g_iload_6 E dX1_leastOfCases_94 ?_
  refine g_iald E (kC_32 b) (sC_32 b) (by decide) h.1 dX1_leastOfCases_96 ?_
  replace h := h.2
  refine g_if_ge E (aC_32 hσ _) djX1_leastOfCases_97 (fun hc => ?_) (fun hc => ?_)
  · replace h := h.1 hc
    refine g_aload_1 E dX1_leastOfCases_104 ?_
    refine g_aload_0 E dX1_leastOfCases_105 ?_
    refine g_getR E fl_RX1_15 (kC_36 b) (sC_36 b) rfl dX1_leastOfCases_106 ?_
    refine g_getR E fl_RX1_83 (kC_24 b) (sC_24 b) rfl dX1_leastOfCases_109 ?_
    refine g_iload_6 E dX1_leastOfCases_112 ?_
    refine g_iald E (kC_32 b) (sC_32 b) (by decide) h.1 dX1_leastOfCases_114 ?_
    replace h := h.2
    refine g_iald E (kC_39 b) (sC_39 b) (by decide) h.1 dX1_leastOfCases_115 ?_
    replace h := h.2
    exact (t_X1_leastOfCases_c39_b116 E hr hK13 x2 x3 x4 x5 x6 x7 s0 (σ 39 ((σ 32 (x6.toNat)).toNat)) σ c2 c3 c4 c5 c6 c7 cs0 (aC_39 hσ _) hσ h).weak (w_k (w_k (w_k (w_k (w_k (w_k (w_k (w_k (w_k (w_d w_n))))))))))
  · replace h := h.2 hc
    refine g_iconst E dX1_leastOfCases_100 ?_
    refine g_goto E djX1_leastOfCases_101 ?_
    exact (t_X1_leastOfCases_c39_b116 E hr hK13 x2 x3 x4 x5 x6 x7 s0 0 σ c2 c3 c4 c5 c6 c7 cs0 cl_0 hσ h).weak (w_k (w_k (w_k (w_k (w_k (w_k (w_k (w_k (w_k (w_d w_n))))))))))
set_option maxHeartbeats 4000000 in
set_option maxRecDepth 100000 in
theorem t_X1_leastOfCases_c39_l13 (E : Ev p s m args meth c cX1_leastOfCases 10 RX1 A0 D cA ad (NC b) Z) (hr : meth.sig.returnType = (some .int)) : ∀ (n : Nat) (x2 : Int) (x3 : Int) (x4 : Int) (x5 : Int) (x6 : Int) (σ : St), C32 x2 → C32 x3 → C32 x4 → C32 x5 → C32 x6 → CanS (shC b) (NC b) σ → wp_X1_leastOfCases_c39_l13 Q n x2 x3 x4 x5 x6 σ → G p l e (rmL 2 0 0) s m args below meth c 10 A0 D cA ad (shC b) (NC b) 0 0 (MQ below (QIc D cA ad (shC b) (NC b) Q A0) args s 0 0 A0) σ 13 [some (.ref (ad 36)), some (.ref (ad 39)), some (vI x2), some (vI x3), some (vI x4), some (vI x5), some (vI x6), none, none, none] [] := by
  intro n
  induction n with
  | zero => intro _ _ _ _ _ _ _ _ _ _ _ _ h; exact h.elim
  | succ n ih =>
    intro x2 x3 x4 x5 x6 σ c2 c3 c4 c5 c6 hσ h
    unfold wp_X1_leastOfCases_c39_l13 at h
    refine g_iload_6 E dX1_leastOfCases_13 ?_
    refine g_aload_0 E dX1_leastOfCases_15 ?_
    refine g_getR E fl_RX1_15 (kC_36 b) (sC_36 b) rfl dX1_leastOfCases_16 ?_
    refine g_iload_2 E dX1_leastOfCases_19 ?_
    refine g_callvI E my_X0_caseEnd mi_X0_caseEnd msel_X0_caseEnd ml_RX1_70 (rm_ok (by decide) (by decide)) ⟨Nat.zero_le _, Nat.zero_le _⟩ (kC_24 b) (sC_24 b) rfl (m_X0_caseEnd E.2.2.1 c2 hσ h) rfl rfl (Nat.le_of_ble_eq_true rfl) dX1_leastOfCases_20 (fun r3 σ4 cr3 hσ4 h => ?_)
    refine g_icmp_ge E c6 cr3 djX1_leastOfCases_23 (fun hc => ?_) (fun hc => ?_)
    · replace h := h.1 hc
      refine g_iload_5 E dX1_leastOfCases_165 ?_
      exact g_iret E hr c5 h hσ4 dX1_leastOfCases_167
    · replace h := h.2 hc
      refine g_aload_0 E dX1_leastOfCases_26 ?_
      refine g_getR E fl_RX1_15 (kC_36 b) (sC_36 b) rfl dX1_leastOfCases_27 ?_
      refine g_getR E fl_RX1_73 (kC_24 b) (sC_24 b) rfl dX1_leastOfCases_30 ?_
      refine g_iload_6 E dX1_leastOfCases_33 ?_
      refine g_iald E (kC_29 b) (sC_29 b) (by decide) h.1 dX1_leastOfCases_35 ?_
      replace h := h.2
      refine g_nmI (fun v5 ev5 => ?_)
      replace h := h v5 ev5
      have cv5 : C32 v5 := by rw [ev5]; exact (aC_29 hσ4 _)
      refine g_istore_7 E rfl (by decide) dX1_leastOfCases_36 ?_
      refine g_iload_7 E dX1_leastOfCases_38 ?_
      refine g_iload_3 E dX1_leastOfCases_40 ?_
      refine g_icmp_eq E cv5 c3 djX1_leastOfCases_41 (fun hc => ?_) (fun hc => ?_)
      · replace h := h.1 hc
        exact (t_X1_leastOfCases_c39_b159 E hr ih x2 x3 x4 x5 x6 σ4 c2 c3 c4 c5 c6 hσ4 h).weak (w_k (w_k (w_k (w_k (w_k (w_k (w_k (w_d (w_d (w_d w_n))))))))))
      · replace h := h.2 hc
        refine g_aload_0 E dX1_leastOfCases_44 ?_
        refine g_getR E fl_RX1_15 (kC_36 b) (sC_36 b) rfl dX1_leastOfCases_45 ?_
        refine g_iload_6 E dX1_leastOfCases_48 ?_
        refine g_callvI E my_X0_goesOn mi_X0_goesOn msel_X0_goesOn ml_RX1_76 (rm_ok (by decide) (by decide)) ⟨Nat.zero_le _, Nat.zero_le _⟩ (kC_24 b) (sC_24 b) rfl (m_X0_goesOn E.2.2.1 c6 hσ4 h) rfl rfl (Nat.le_of_ble_eq_true rfl) dX1_leastOfCases_50 (fun r6 σ7 cr6 hσ7 h => ?_)
        refine g_if_ne E cr6 djX1_leastOfCases_53 (fun hc => ?_) (fun hc => ?_)
        · replace h := h.1 hc
          exact (t_X1_leastOfCases_c39_b159 E hr ih x2 x3 x4 x5 x6 σ7 c2 c3 c4 c5 c6 hσ7 h).weak (w_k (w_k (w_k (w_k (w_k (w_k (w_k (w_d (w_d (w_d w_n))))))))))
        · replace h := h.2 hc
          refine g_aload_0 E dX1_leastOfCases_56 ?_
          refine g_getR E fl_RX1_15 (kC_36 b) (sC_36 b) rfl dX1_leastOfCases_57 ?_
          refine g_getR E fl_RX1_80 (kC_24 b) (sC_24 b) rfl dX1_leastOfCases_60 ?_
          refine g_iload_6 E dX1_leastOfCases_63 ?_
          refine g_iald E (kC_31 b) (sC_31 b) (by decide) h.1 dX1_leastOfCases_65 ?_
          replace h := h.2
          refine g_if_ge E (aC_31 hσ7 _) djX1_leastOfCases_66 (fun hc => ?_) (fun hc => ?_)
          · replace h := h.1 hc
            refine g_aload_1 E dX1_leastOfCases_73 ?_
            refine g_aload_0 E dX1_leastOfCases_74 ?_
            refine g_getR E fl_RX1_15 (kC_36 b) (sC_36 b) rfl dX1_leastOfCases_75 ?_
            refine g_getR E fl_RX1_80 (kC_24 b) (sC_24 b) rfl dX1_leastOfCases_78 ?_
            refine g_iload_6 E dX1_leastOfCases_81 ?_
            refine g_iald E (kC_31 b) (sC_31 b) (by decide) h.1 dX1_leastOfCases_83 ?_
            replace h := h.2
            refine g_iald E (kC_39 b) (sC_39 b) (by decide) h.1 dX1_leastOfCases_84 ?_
            replace h := h.2
            exact (t_X1_leastOfCases_c39_b85 E hr ih x2 x3 x4 x5 x6 v5 (σ7 39 ((σ7 31 (x6.toNat)).toNat)) σ7 c2 c3 c4 c5 c6 cv5 (aC_39 hσ7 _) hσ7 h).weak (w_k (w_k (w_k (w_k (w_k (w_k (w_k (w_k (w_d (w_d w_n))))))))))
          · replace h := h.2 hc
            refine g_iconst E dX1_leastOfCases_69 ?_
            refine g_goto E djX1_leastOfCases_70 ?_
            exact (t_X1_leastOfCases_c39_b85 E hr ih x2 x3 x4 x5 x6 v5 0 σ7 c2 c3 c4 c5 c6 cv5 cl_0 hσ7 h).weak (w_k (w_k (w_k (w_k (w_k (w_k (w_k (w_k (w_d (w_d w_n))))))))))
set_option maxHeartbeats 4000000 in
set_option maxRecDepth 100000 in
theorem t_X1_leastOfCases_c39 (E : Ev p s m args meth c cX1_leastOfCases 10 RX1 A0 D cA ad (NC b) Z) (hr : meth.sig.returnType = (some .int)) (x2 : Int) (x3 : Int) (x4 : Int) (σ : St) (c2 : C32 x2) (c3 : C32 x3) (c4 : C32 x4) (hσ : CanS (shC b) (NC b) σ) (h : wp_X1_leastOfCases_c39 x2 x3 x4 σ Q) : G p l e (rmL 2 0 0) s m args below meth c 10 A0 D cA ad (shC b) (NC b) 0 0 (MQ below (QIc D cA ad (shC b) (NC b) Q A0) args s 0 0 A0) σ 0 [some (.ref (ad 36)), some (.ref (ad 39)), some (vI x2), some (vI x3), some (vI x4), none, none, none, none, none] [] := by
  unfold wp_X1_leastOfCases_c39 at h
  refine g_iconst E dX1_leastOfCases_0 ?_
  refine g_istore_5 E rfl (by decide) dX1_leastOfCases_1 ?_
  refine g_aload_0 E dX1_leastOfCases_3 ?_
  refine g_getR E fl_RX1_15 (kC_36 b) (sC_36 b) rfl dX1_leastOfCases_4 ?_
  refine g_iload_2 E dX1_leastOfCases_7 ?_
  refine g_callvI E my_X0_caseStart mi_X0_caseStart msel_X0_caseStart ml_RX1_66 (rm_ok (by decide) (by decide)) ⟨Nat.zero_le _, Nat.zero_le _⟩ (kC_24 b) (sC_24 b) rfl (m_X0_caseStart E.2.2.1 c2 hσ h) rfl rfl (Nat.le_of_ble_eq_true rfl) dX1_leastOfCases_8 (fun r1 σ2 cr1 hσ2 h => ?_)
  refine g_istore_6 E rfl (by decide) dX1_leastOfCases_11 ?_
  exact (t_X1_leastOfCases_c39_l13 E hr bigN x2 x3 x4 ((-1)) r1 σ2 c2 c3 c4 cl_m1 cr1 hσ2 h).weak (w_k (w_k (w_k (w_k (w_k (w_k (w_k (w_d (w_d (w_d w_n))))))))))
end
theorem m_X1_leastOfCases_c39 {Z : (Nat → Nat) × (Nat → Nat)} {l : Launch} {D : va_G} {cA : Nat → ClassId} {ad : Nat → Nat} {b : Bool} {x2 x3 x4 : Int} {σ : St} {Q : Int → St → Prop} (hA : AdOk (NC b) ad) (c2 : C32 x2) (c3 : C32 x3) (c4 : C32 x4) (hσ : CanS (shC b) (NC b) σ) (h : wp_X1_leastOfCases_c39 x2 x3 x4 σ Q) : KtI Z l D cA ad (shC b) (NC b) yX1_leastOfCases cX1_leastOfCases 10 (some .int) 2 [.ref (ad 36), .ref (ad 39), vI x2, vI x3, vI x4] σ Q :=
  KtI.of my_X1_leastOfCases hA [some (.ref (ad 36)), some (.ref (ad 39)), some (vI x2), some (vI x3), some (vI x4), none, none, none, none, none] (Nat.le_of_ble_eq_true rfl) rfl (fun p e s m args below meth c A0 E hr => t_X1_leastOfCases_c39 E hr x2 x3 x4 σ c2 c3 c4 hσ h)
section
variable {p : Program} {l : Launch} {e : Env} {s : State} {m : MethodId} {args : Array Value} {below : List Frame} {meth : Method} {c : Code} {A0 : Nat → Prop} {D : va_G} {cA : Nat → ClassId} {ad : Nat → Nat} {Z : (Nat → Nat) × (Nat → Nat)} {Q : Int → St → Prop} {b : Bool}
set_option maxHeartbeats 4000000 in
set_option maxRecDepth 100000 in
theorem t_X1_relax_c39_b122 (E : Ev p s m args meth c cX1_relax 11 RX1 A0 D cA ad (NC b) Z) (hr : meth.sig.returnType = (some .boolean)) {K6 : Int → Int → Int → Int → Int → St → Prop} (hK6 : ∀ (x2 : Int) (x3 : Int) (x4 : Int) (x5 : Int) (x6 : Int) (σ : St), C32 x2 → C32 x3 → C32 x4 → C32 x5 → C32 x6 → CanS (shC b) (NC b) σ → K6 x2 x3 x4 x5 x6 σ → G p l e (rmL 2 0 0) s m args below meth c 11 A0 D cA ad (shC b) (NC b) 0 0 (MQ below (QIc D cA ad (shC b) (NC b) Q A0) args s 0 0 A0) σ 6 [some (.ref (ad 36)), some (.ref (ad 39)), some (vI x2), some (vI x3), some (vI x4), some (vI x5), some (vI x6), none, none, none, none] []) (x2 : Int) (x3 : Int) (x4 : Int) (x5 : Int) (x6 : Int) (σ : St) (c2 : C32 x2) (c3 : C32 x3) (c4 : C32 x4) (c5 : C32 x5) (c6 : C32 x6) (hσ : CanS (shC b) (NC b) σ) (h : wp_X1_relax_c39_b122 Q K6 x2 x3 x4 x5 x6 σ) : G p l e (rmL 2 0 0) s m args below meth c 11 A0 D cA ad (shC b) (NC b) 0 0 (MQ below (QIc D cA ad (shC b) (NC b) Q A0) args s 0 0 A0) σ 122 [some (.ref (ad 36)), some (.ref (ad 39)), some (vI x2), some (vI x3), some (vI x4), some (vI x5), some (vI x6), none, none, none, none] [] := by
  unfold wp_X1_relax_c39_b122 at h
  refine g_iinc_6 E rfl (by decide) dX1_relax_122 (fun v8 ev8 => ?_)
  replace h := h v8 ev8
  have cv8 : C32 v8 := by rw [ev8]; exact c32_w _
  refine g_goto E djX1_relax_125 ?_
  exact (hK6 x2 x3 x4 x5 v8 σ c2 c3 c4 c5 cv8 hσ h).weak (w_k (w_k (w_k (w_k (w_k (w_k (w_k (w_d (w_d (w_d (w_d w_n)))))))))))
set_option maxHeartbeats 4000000 in
set_option maxRecDepth 100000 in
theorem t_X1_relax_c39_b113 (E : Ev p s m args meth c cX1_relax 11 RX1 A0 D cA ad (NC b) Z) (hr : meth.sig.returnType = (some .boolean)) {K6 : Int → Int → Int → Int → Int → St → Prop} (hK6 : ∀ (x2 : Int) (x3 : Int) (x4 : Int) (x5 : Int) (x6 : Int) (σ : St), C32 x2 → C32 x3 → C32 x4 → C32 x5 → C32 x6 → CanS (shC b) (NC b) σ → K6 x2 x3 x4 x5 x6 σ → G p l e (rmL 2 0 0) s m args below meth c 11 A0 D cA ad (shC b) (NC b) 0 0 (MQ below (QIc D cA ad (shC b) (NC b) Q A0) args s 0 0 A0) σ 6 [some (.ref (ad 36)), some (.ref (ad 39)), some (vI x2), some (vI x3), some (vI x4), some (vI x5), some (vI x6), none, none, none, none] []) (x2 : Int) (x3 : Int) (x4 : Int) (x6 : Int) (x9 : Int) (x10 : Int) (s0 : Int) (s1 : Int) (σ : St) (c2 : C32 x2) (c3 : C32 x3) (c4 : C32 x4) (c6 : C32 x6) (c9 : C32 x9) (c10 : C32 x10) (cs0 : C32 s0) (cs1 : C32 s1) (hσ : CanS (shC b) (NC b) σ) (h : wp_X1_relax_c39_b113 Q K6 x2 x3 x4 x6 x9 x10 s0 s1 σ) : G p l e (rmL 2 0 0) s m args below meth c 11 A0 D cA ad (shC b) (NC b) 0 0 (MQ below (QIc D cA ad (shC b) (NC b) Q A0) args s 0 0 A0) σ 113 [some (.ref (ad 36)), some (.ref (ad 39)), some (vI x2), some (vI x3), some (vI x4), none, some (vI x6), none, none, some (vI x9), some (vI x10)] [vI s0, vI s1] := by
  unfold wp_X1_relax_c39_b113 at h
  refine g_ior E dX1_relax_113 ?_
  refine g_nmI (fun v9 ev9 => ?_)
  replace h := h v9 ev9
  have cv9 : C32 v9 := by rw [ev9]; exact (c32_t _)
  refine g_istore_5 E rfl (by decide) dX1_relax_114 ?_
  refine g_aload_1 E dX1_relax_116 ?_
  refine g_iload_9 E dX1_relax_117 ?_
  refine g_iload_10 E dX1_relax_119 ?_
  refine g_iast E (kC_39 b) (sC_39 b) (by decide) h.1 dX1_relax_121 (g_nmS (fun σ10 eσ10 => ?_))
  replace h := h.2 σ10 eσ10
  have hσ10 : CanS (shC b) (NC b) σ10 := by rw [eσ10]; exact wC_39 hσ c10
  exact (t_X1_relax_c39_b122 E hr hK6 x2 x3 x4 v9 x6 σ10 c2 c3 c4 cv9 c6 hσ10 h).weak (w_k (w_k (w_k (w_k (w_k (w_k (w_k (w_d (w_d (w_d (w_d w_n)))))))))))
set_option maxHeartbeats 4000000 in
set_option maxRecDepth 100000 in
theorem t_X1_relax_c39_l6 (E : Ev p s m args meth c cX1_relax 11 RX1 A0 D cA ad (NC b) Z) (hr : meth.sig.returnType = (some .boolean)) : ∀ (n : Nat) (x2 : Int) (x3 : Int) (x4 : Int) (x5 : Int) (x6 : Int) (σ : St), C32 x2 → C32 x3 → C32 x4 → C32 x5 → C32 x6 → CanS (shC b) (NC b) σ → wp_X1_relax_c39_l6 Q n x2 x3 x4 x5 x6 σ → G p l e (rmL 2 0 0) s m args below meth c 11 A0 D cA ad (shC b) (NC b) 0 0 (MQ below (QIc D cA ad (shC b) (NC b) Q A0) args s 0 0 A0) σ 6 [some (.ref (ad 36)), some (.ref (ad 39)), some (vI x2), some (vI x3), some (vI x4), some (vI x5), some (vI x6), none, none, none, none] [] := by
  intro n
  induction n with
  | zero => intro _ _ _ _ _ _ _ _ _ _ _ _ h; exact h.elim
  | succ n ih =>
    intro x2 x3 x4 x5 x6 σ c2 c3 c4 c5 c6 hσ h
    unfold wp_X1_relax_c39_l6 at h
    refine g_iload_6 E dX1_relax_6 ?_
    refine g_aload_0 E dX1_relax_8 ?_
    refine g_getR E fl_RX1_15 (kC_36 b) (sC_36 b) rfl dX1_relax_9 ?_
    refine g_getI E fl_RX1_99 (kC_24 b) (sC_24 b) rfl dX1_relax_12 ?_
    refine g_icmp_ge E c6 (fC_24_12 hσ) djX1_relax_15 (fun hc => ?_) (fun hc => ?_)
    · replace h := h.1 hc
      refine g_iload_5 E dX1_relax_128 ?_
      exact g_zret E hr h.1 h.2 hσ dX1_relax_130
    · replace h := h.2 hc
      refine g_aload_0 E dX1_relax_18 ?_
      refine g_getR E fl_RX1_15 (kC_36 b) (sC_36 b) rfl dX1_relax_19 ?_
      refine g_getR E fl_RX1_102 (kC_24 b) (sC_24 b) rfl dX1_relax_22 ?_
      refine g_iload_6 E dX1_relax_25 ?_
      refine g_iald E (kC_33 b) (sC_33 b) (by decide) h.1 dX1_relax_27 ?_
      replace h := h.2
      refine g_nmI (fun v1 ev1 => ?_)
      replace h := h v1 ev1
      have cv1 : C32 v1 := by rw [ev1]; exact (aC_33 hσ _)
      refine g_istore_7 E rfl (by decide) dX1_relax_28 ?_
      refine g_aload_1 E dX1_relax_30 ?_
      refine g_iload_2 E dX1_relax_31 ?_
      refine g_aload_0 E dX1_relax_32 ?_
      refine g_getR E fl_RX1_9 (kC_36 b) (sC_36 b) rfl dX1_relax_33 ?_
      refine g_getR E fl_RX1_105 (kC_14 b) (sC_14 b) rfl dX1_relax_36 ?_
      refine g_iload_7 E dX1_relax_39 ?_
      refine g_iald E (kC_16 b) (sC_16 b) (by decide) h.1 dX1_relax_41 ?_
      replace h := h.2
      refine g_iadd E dX1_relax_42 ?_
      refine g_iald E (kC_39 b) (sC_39 b) (by decide) h.1 dX1_relax_43 ?_
      replace h := h.2
      refine g_nmI (fun v2 ev2 => ?_)
      replace h := h v2 ev2
      have cv2 : C32 v2 := by rw [ev2]; exact (aC_39 hσ _)
      refine g_istore_8 E rfl (by decide) dX1_relax_44 ?_
      refine g_iload_2 E dX1_relax_46 ?_
      refine g_aload_0 E dX1_relax_47 ?_
      refine g_getR E fl_RX1_9 (kC_36 b) (sC_36 b) rfl dX1_relax_48 ?_
      refine g_getR E fl_RX1_106 (kC_14 b) (sC_14 b) rfl dX1_relax_51 ?_
      refine g_iload_7 E dX1_relax_54 ?_
      refine g_iald E (kC_15 b) (sC_15 b) (by decide) h.1 dX1_relax_56 ?_
      replace h := h.2
      refine g_iadd E dX1_relax_57 ?_
      refine g_nmI (fun v3 ev3 => ?_)
      replace h := h v3 ev3
      have cv3 : C32 v3 := by rw [ev3]; exact (c32_w _)
      refine g_istore_9 E rfl (by decide) dX1_relax_58 ?_
      refine g_iload_7 E dX1_relax_60 ?_
      refine g_iload_3 E dX1_relax_62 ?_
      refine g_icmp_eq E cv1 c3 djX1_relax_63 (fun hc => ?_) (fun hc => ?_)
      · replace h := h.1 hc
        exact (t_X1_relax_c39_b122 E hr ih x2 x3 x4 x5 x6 σ c2 c3 c4 c5 c6 hσ h).weak (w_k (w_k (w_k (w_k (w_k (w_k (w_k (w_d (w_d (w_d (w_d w_n)))))))))))
      · replace h := h.2 hc
        refine g_iload_8 E dX1_relax_66 ?_
        refine g_if_lt E cv2 djX1_relax_68 (fun hc => ?_) (fun hc => ?_)
        · replace h := h.1 hc
          exact (t_X1_relax_c39_b122 E hr ih x2 x3 x4 x5 x6 σ c2 c3 c4 c5 c6 hσ h).weak (w_k (w_k (w_k (w_k (w_k (w_k (w_k (w_d (w_d (w_d (w_d w_n)))))))))))
        · replace h := h.2 hc
          refine g_aload_1 E dX1_relax_71 ?_
          refine g_iload_9 E dX1_relax_72 ?_
          refine g_iald E (kC_39 b) (sC_39 b) (by decide) h.1 dX1_relax_74 ?_
          replace h := h.2
          refine g_aload_0 E dX1_relax_75 ?_
          refine g_getR E fl_RX1_9 (kC_36 b) (sC_36 b) rfl dX1_relax_76 ?_
          refine g_getR E fl_RX1_86 (kC_14 b) (sC_14 b) rfl dX1_relax_79 ?_
          refine g_iload_7 E dX1_relax_82 ?_
          refine g_iald E (kC_18 b) (sC_18 b) (by decide) h.1 dX1_relax_84 ?_
          replace h := h.2
          refine g_iload_8 E dX1_relax_85 ?_
          refine g_iload_4 E dX1_relax_87 ?_
          refine g_callsI E my_X1_join ms_X1_join ml_RX1_91 (rm_ok (by decide) (by decide)) ⟨Nat.zero_le _, Nat.zero_le _⟩ (m_X1_join E.2.2.1 (aC_18 hσ _) cv2 c4 hσ h) rfl rfl (Nat.le_of_ble_eq_true rfl) dX1_relax_89 (fun r4 σ5 cr4 hσ5 h => ?_)
          refine g_callsI E my_X1_lesser ms_X1_lesser ml_RX1_95 (rm_ok (by decide) (by decide)) ⟨Nat.zero_le _, Nat.zero_le _⟩ (m_X1_lesser E.2.2.1 (aC_39 hσ _) cr4 hσ5 h) rfl rfl (Nat.le_of_ble_eq_true rfl) dX1_relax_92 (fun r6 σ7 cr6 hσ7 h => ?_)
          refine g_istore_10 E rfl (by decide) dX1_relax_95 ?_
          refine g_iload_5 E dX1_relax_97 ?_
          refine g_iload_10 E dX1_relax_99 ?_
          refine g_aload_1 E dX1_relax_101 ?_
          refine g_iload_9 E dX1_relax_102 ?_
          refine g_iald E (kC_39 b) (sC_39 b) (by decide) h.1 dX1_relax_104 ?_
          replace h := h.2
          refine g_icmp_eq E cr6 (aC_39 hσ7 _) djX1_relax_105 (fun hc => ?_) (fun hc => ?_)
          · replace h := h.1 hc
            refine g_iconst E dX1_relax_112 ?_
            exact (t_X1_relax_c39_b113 E hr ih x2 x3 x4 x6 v3 r6 0 x5 σ7 c2 c3 c4 c6 cv3 cr6 cl_0 c5 hσ7 h).weak (w_k (w_k (w_k (w_k (w_k (w_d (w_k (w_d (w_d (w_k (w_k w_n)))))))))))
          · replace h := h.2 hc
            refine g_iconst E dX1_relax_108 ?_
            refine g_goto E djX1_relax_109 ?_
            exact (t_X1_relax_c39_b113 E hr ih x2 x3 x4 x6 v3 r6 1 x5 σ7 c2 c3 c4 c6 cv3 cr6 cl_1 c5 hσ7 h).weak (w_k (w_k (w_k (w_k (w_k (w_d (w_k (w_d (w_d (w_k (w_k w_n)))))))))))
set_option maxHeartbeats 4000000 in
set_option maxRecDepth 100000 in
theorem t_X1_relax_c39 (E : Ev p s m args meth c cX1_relax 11 RX1 A0 D cA ad (NC b) Z) (hr : meth.sig.returnType = (some .boolean)) (x2 : Int) (x3 : Int) (x4 : Int) (σ : St) (c2 : C32 x2) (c3 : C32 x3) (c4 : C32 x4) (hσ : CanS (shC b) (NC b) σ) (h : wp_X1_relax_c39 x2 x3 x4 σ Q) : G p l e (rmL 2 0 0) s m args below meth c 11 A0 D cA ad (shC b) (NC b) 0 0 (MQ below (QIc D cA ad (shC b) (NC b) Q A0) args s 0 0 A0) σ 0 [some (.ref (ad 36)), some (.ref (ad 39)), some (vI x2), some (vI x3), some (vI x4), none, none, none, none, none, none] [] := by
  unfold wp_X1_relax_c39 at h
  refine g_iconst E dX1_relax_0 ?_
  refine g_istore_5 E rfl (by decide) dX1_relax_1 ?_
  refine g_iconst E dX1_relax_3 ?_
  refine g_istore_6 E rfl (by decide) dX1_relax_4 ?_
  exact (t_X1_relax_c39_l6 E hr bigN x2 x3 x4 0 0 σ c2 c3 c4 cl_0 cl_0 hσ h).weak (w_k (w_k (w_k (w_k (w_k (w_k (w_k (w_d (w_d (w_d (w_d w_n)))))))))))
end
theorem m_X1_relax_c39 {Z : (Nat → Nat) × (Nat → Nat)} {l : Launch} {D : va_G} {cA : Nat → ClassId} {ad : Nat → Nat} {b : Bool} {x2 x3 x4 : Int} {σ : St} {Q : Int → St → Prop} (hA : AdOk (NC b) ad) (c2 : C32 x2) (c3 : C32 x3) (c4 : C32 x4) (hσ : CanS (shC b) (NC b) σ) (h : wp_X1_relax_c39 x2 x3 x4 σ Q) : KtI Z l D cA ad (shC b) (NC b) yX1_relax cX1_relax 11 (some .boolean) 2 [.ref (ad 36), .ref (ad 39), vI x2, vI x3, vI x4] σ Q :=
  KtI.of my_X1_relax hA [some (.ref (ad 36)), some (.ref (ad 39)), some (vI x2), some (vI x3), some (vI x4), none, none, none, none, none, none] (Nat.le_of_ble_eq_true rfl) rfl (fun p e s m args below meth c A0 E hr => t_X1_relax_c39 E hr x2 x3 x4 σ c2 c3 c4 hσ h)
section
variable {p : Program} {l : Launch} {e : Env} {s : State} {m : MethodId} {args : Array Value} {below : List Frame} {meth : Method} {c : Code} {A0 : Nat → Prop} {D : va_G} {cA : Nat → ClassId} {ad : Nat → Nat} {Z : (Nat → Nat) × (Nat → Nat)} {Q : Int → St → Prop} {b : Bool}
set_option maxHeartbeats 4000000 in
set_option maxRecDepth 100000 in
theorem t_X1_fill_c39_b90 (E : Ev p s m args meth c cX1_fill 8 RX1 A0 D cA ad (NC b) Z) (hr : meth.sig.returnType = none) {K3 : Int → Int → Int → St → Prop} (hK3 : ∀ (x2 : Int) (x3 : Int) (x4 : Int) (σ : St), C32 x2 → C32 x3 → C32 x4 → CanS (shC b) (NC b) σ → K3 x2 x3 x4 σ → G p l e (rmL 3 0 0) s m args below meth c 8 A0 D cA ad (shC b) (NC b) 0 0 (MQ below (QVc D cA ad (shC b) (NC b) Q A0) args s 0 0 A0) σ 3 [some (.ref (ad 36)), some (.ref (ad 39)), some (vI x2), some (vI x3), some (vI x4), none, none, none] []) (x2 : Int) (x3 : Int) (x4 : Int) (σ : St) (c2 : C32 x2) (c3 : C32 x3) (c4 : C32 x4) (hσ : CanS (shC b) (NC b) σ) (h : wp_X1_fill_c39_b90 Q K3 x2 x3 x4 σ) : G p l e (rmL 3 0 0) s m args below meth c 8 A0 D cA ad (shC b) (NC b) 0 0 (MQ below (QVc D cA ad (shC b) (NC b) Q A0) args s 0 0 A0) σ 90 [some (.ref (ad 36)), some (.ref (ad 39)), some (vI x2), some (vI x3), some (vI x4), none, none, none] [] := by
  unfold wp_X1_fill_c39_b90 at h
  refine g_iinc_4 E rfl (by decide) dX1_fill_90 (fun v9 ev9 => ?_)
  replace h := h v9 ev9
  have cv9 : C32 v9 := by rw [ev9]; exact c32_w _
  refine g_goto E djX1_fill_93 ?_
  exact (hK3 x2 x3 v9 σ c2 c3 cv9 hσ h).weak (w_k (w_k (w_k (w_k (w_k (w_d (w_d (w_d w_n))))))))
set_option maxHeartbeats 4000000 in
set_option maxRecDepth 100000 in
theorem t_X1_fill_c39_l61 (E : Ev p s m args meth c cX1_fill 8 RX1 A0 D cA ad (NC b) Z) (hr : meth.sig.returnType = none) {K3 : Int → Int → Int → St → Prop} (hK3 : ∀ (x2 : Int) (x3 : Int) (x4 : Int) (σ : St), C32 x2 → C32 x3 → C32 x4 → CanS (shC b) (NC b) σ → K3 x2 x3 x4 σ → G p l e (rmL 3 0 0) s m args below meth c 8 A0 D cA ad (shC b) (NC b) 0 0 (MQ below (QVc D cA ad (shC b) (NC b) Q A0) args s 0 0 A0) σ 3 [some (.ref (ad 36)), some (.ref (ad 39)), some (vI x2), some (vI x3), some (vI x4), none, none, none] []) : ∀ (n : Nat) (x2 : Int) (x3 : Int) (x4 : Int) (x5 : Int) (x6 : Int) (x7 : Int) (σ : St), C32 x2 → C32 x3 → C32 x4 → C32 x5 → C32 x6 → C32 x7 → CanS (shC b) (NC b) σ → wp_X1_fill_c39_l61 Q K3 n x2 x3 x4 x5 x6 x7 σ → G p l e (rmL 3 0 0) s m args below meth c 8 A0 D cA ad (shC b) (NC b) 0 0 (MQ below (QVc D cA ad (shC b) (NC b) Q A0) args s 0 0 A0) σ 61 [some (.ref (ad 36)), some (.ref (ad 39)), some (vI x2), some (vI x3), some (vI x4), some (vI x5), some (vI x6), some (vI x7)] [] := by
  intro n
  induction n with
  | zero => intro _ _ _ _ _ _ _ _ _ _ _ _ _ _ h; exact h.elim
  | succ n ih =>
    intro x2 x3 x4 x5 x6 x7 σ c2 c3 c4 c5 c6 c7 hσ h
    unfold wp_X1_fill_c39_l61 at h
    refine g_iload_7 E dX1_fill_61 ?_
    refine g_bipush E (by decide) dX1_fill_63 ?_
    refine g_icmp_gt E c7 cl_12 djX1_fill_65 (fun hc => ?_) (fun hc => ?_)
    · replace h := h.1 hc
      exact (t_X1_fill_c39_b90 E hr hK3 x2 x3 x4 σ c2 c3 c4 hσ h).weak (w_k (w_k (w_k (w_k (w_k (w_d (w_d (w_d w_n))))))))
    · replace h := h.2 hc
      refine g_iload_6 E dX1_fill_68 ?_
      refine g_if_eq E c6 djX1_fill_70 (fun hc => ?_) (fun hc => ?_)
      · replace h := h.1 hc
        exact (t_X1_fill_c39_b90 E hr hK3 x2 x3 x4 σ c2 c3 c4 hσ h).weak (w_k (w_k (w_k (w_k (w_k (w_d (w_d (w_d w_n))))))))
      · replace h := h.2 hc
        refine g_aload_0 E dX1_fill_73 ?_
        refine g_aload_1 E dX1_fill_74 ?_
        refine g_iload_5 E dX1_fill_75 ?_
        refine g_iload_2 E dX1_fill_77 ?_
        refine g_iload_3 E dX1_fill_78 ?_
        refine g_callvI E my_X1_relax mi_X1_relax msel_X1_relax ml_RX1_62 (rm_ok (by decide) (by decide)) ⟨Nat.zero_le _, Nat.zero_le _⟩ (kC_36 b) (sC_36 b) rfl (m_X1_relax_c39 E.2.2.1 c5 c2 c3 hσ h) rfl rfl (Nat.le_of_ble_eq_true rfl) dX1_fill_79 (fun r6 σ7 cr6 hσ7 h => ?_)
        refine g_istore_6 E rfl (by decide) dX1_fill_82 ?_
        refine g_iinc_7 E rfl (by decide) dX1_fill_84 (fun v8 ev8 => ?_)
        replace h := h v8 ev8
        have cv8 : C32 v8 := by rw [ev8]; exact c32_w _
        refine g_goto E djX1_fill_87 ?_
        exact (ih x2 x3 x4 x5 r6 v8 σ7 c2 c3 c4 c5 cr6 cv8 hσ7 h).weak (w_k (w_k (w_k (w_k (w_k (w_k (w_k (w_k w_n))))))))
set_option maxHeartbeats 4000000 in
set_option maxRecDepth 100000 in
theorem t_X1_fill_c39_l26 (E : Ev p s m args meth c cX1_fill 8 RX1 A0 D cA ad (NC b) Z) (hr : meth.sig.returnType = none) {K3 : Int → Int → Int → St → Prop} (hK3 : ∀ (x2 : Int) (x3 : Int) (x4 : Int) (σ : St), C32 x2 → C32 x3 → C32 x4 → CanS (shC b) (NC b) σ → K3 x2 x3 x4 σ → G p l e (rmL 3 0 0) s m args below meth c 8 A0 D cA ad (shC b) (NC b) 0 0 (MQ below (QVc D cA ad (shC b) (NC b) Q A0) args s 0 0 A0) σ 3 [some (.ref (ad 36)), some (.ref (ad 39)), some (vI x2), some (vI x3), some (vI x4), none, none, none] []) : ∀ (n : Nat) (x2 : Int) (x3 : Int) (x4 : Int) (x5 : Int) (x6 : Int) (σ : St), C32 x2 → C32 x3 → C32 x4 → C32 x5 → C32 x6 → CanS (shC b) (NC b) σ → wp_X1_fill_c39_l26 Q K3 n x2 x3 x4 x5 x6 σ → G p l e (rmL 3 0 0) s m args below meth c 8 A0 D cA ad (shC b) (NC b) 0 0 (MQ below (QVc D cA ad (shC b) (NC b) Q A0) args s 0 0 A0) σ 26 [some (.ref (ad 36)), some (.ref (ad 39)), some (vI x2), some (vI x3), some (vI x4), some (vI x5), some (vI x6), none] [] := by
  intro n
  induction n with
  | zero => intro _ _ _ _ _ _ _ _ _ _ _ _ h; exact h.elim
  | succ n ih =>
    intro x2 x3 x4 x5 x6 σ c2 c3 c4 c5 c6 hσ h
    unfold wp_X1_fill_c39_l26 at h
    refine g_iload_6 E dX1_fill_26 ?_
    refine g_iload_5 E dX1_fill_28 ?_
    refine g_bipush E (by decide) dX1_fill_30 ?_
    refine g_iadd E dX1_fill_32 ?_
    refine g_icmp_ge E c6 (c32_w _) djX1_fill_33 (fun hc => ?_) (fun hc => ?_)
    · replace h := h.1 hc
      refine g_iconst E dX1_fill_55 ?_
      refine g_istore_6 E rfl (by decide) dX1_fill_56 ?_
      refine g_iconst E dX1_fill_58 ?_
      refine g_istore_7 E rfl (by decide) dX1_fill_59 ?_
      exact (t_X1_fill_c39_l61 E hr hK3 bigN x2 x3 x4 x5 1 0 σ c2 c3 c4 c5 cl_1 cl_0 hσ h).weak (w_k (w_k (w_k (w_k (w_k (w_k (w_k (w_k w_n))))))))
    · replace h := h.2 hc
      refine g_aload_1 E dX1_fill_36 ?_
      refine g_iload_6 E dX1_fill_37 ?_
      refine g_aload_0 E dX1_fill_39 ?_
      refine g_aload_1 E dX1_fill_40 ?_
      refine g_iload_6 E dX1_fill_41 ?_
      refine g_iload_2 E dX1_fill_43 ?_
      refine g_iload_3 E dX1_fill_44 ?_
      refine g_callvI E my_X1_leastOfCases mi_X1_leastOfCases msel_X1_leastOfCases ml_RX1_58 (rm_ok (by decide) (by decide)) ⟨Nat.zero_le _, Nat.zero_le _⟩ (kC_36 b) (sC_36 b) rfl (m_X1_leastOfCases_c39 E.2.2.1 c6 c2 c3 hσ h) rfl rfl (Nat.le_of_ble_eq_true rfl) dX1_fill_45 (fun r2 σ3 cr2 hσ3 h => ?_)
      refine g_iast E (kC_39 b) (sC_39 b) (by decide) h.1 dX1_fill_48 (g_nmS (fun σ4 eσ4 => ?_))
      replace h := h.2 σ4 eσ4
      have hσ4 : CanS (shC b) (NC b) σ4 := by rw [eσ4]; exact wC_39 hσ3 cr2
      refine g_iinc_6 E rfl (by decide) dX1_fill_49 (fun v5 ev5 => ?_)
      replace h := h v5 ev5
      have cv5 : C32 v5 := by rw [ev5]; exact c32_w _
      refine g_goto E djX1_fill_52 ?_
      exact (ih x2 x3 x4 x5 v5 σ4 c2 c3 c4 c5 cv5 hσ4 h).weak (w_k (w_k (w_k (w_k (w_k (w_k (w_k (w_d w_n))))))))
set_option maxHeartbeats 4000000 in
set_option maxRecDepth 100000 in
theorem t_X1_fill_c39_l3 (E : Ev p s m args meth c cX1_fill 8 RX1 A0 D cA ad (NC b) Z) (hr : meth.sig.returnType = none) : ∀ (n : Nat) (x2 : Int) (x3 : Int) (x4 : Int) (σ : St), C32 x2 → C32 x3 → C32 x4 → CanS (shC b) (NC b) σ → wp_X1_fill_c39_l3 Q n x2 x3 x4 σ → G p l e (rmL 3 0 0) s m args below meth c 8 A0 D cA ad (shC b) (NC b) 0 0 (MQ below (QVc D cA ad (shC b) (NC b) Q A0) args s 0 0 A0) σ 3 [some (.ref (ad 36)), some (.ref (ad 39)), some (vI x2), some (vI x3), some (vI x4), none, none, none] [] := by
  intro n
  induction n with
  | zero => intro _ _ _ _ _ _ _ _ h; exact h.elim
  | succ n ih =>
    intro x2 x3 x4 σ c2 c3 c4 hσ h
    unfold wp_X1_fill_c39_l3 at h
    refine g_iload_4 E dX1_fill_3 ?_
    refine g_aload_0 E dX1_fill_5 ?_
    refine g_getR E fl_RX1_15 (kC_36 b) (sC_36 b) rfl dX1_fill_6 ?_
    refine g_getI E fl_RX1_54 (kC_24 b) (sC_24 b) rfl dX1_fill_9 ?_
    refine g_icmp_ge E c4 (fC_24_3 hσ) djX1_fill_12 (fun hc => ?_) (fun hc => ?_)
    · replace h := h.1 hc
      exact g_vret E hr h hσ dX1_fill_96
    · replace h := h.2 hc
      refine g_iload_4 E dX1_fill_15 ?_
      refine g_bipush E (by decide) dX1_fill_17 ?_
      refine g_imul E dX1_fill_19 ?_
      refine g_nmI (fun v1 ev1 => ?_)
      replace h := h v1 ev1
      have cv1 : C32 v1 := by rw [ev1]; exact (c32_w _)
      refine g_istore_5 E rfl (by decide) dX1_fill_20 ?_
      refine g_iload_5 E dX1_fill_22 ?_
      refine g_istore_6 E rfl (by decide) dX1_fill_24 ?_
      exact (t_X1_fill_c39_l26 E hr ih bigN x2 x3 x4 v1 v1 σ c2 c3 c4 cv1 cv1 hσ h).weak (w_k (w_k (w_k (w_k (w_k (w_k (w_k (w_d w_n))))))))
set_option maxHeartbeats 4000000 in
set_option maxRecDepth 100000 in
theorem t_X1_fill_c39 (E : Ev p s m args meth c cX1_fill 8 RX1 A0 D cA ad (NC b) Z) (hr : meth.sig.returnType = none) (x2 : Int) (x3 : Int) (σ : St) (c2 : C32 x2) (c3 : C32 x3) (hσ : CanS (shC b) (NC b) σ) (h : wp_X1_fill_c39 x2 x3 σ Q) : G p l e (rmL 3 0 0) s m args below meth c 8 A0 D cA ad (shC b) (NC b) 0 0 (MQ below (QVc D cA ad (shC b) (NC b) Q A0) args s 0 0 A0) σ 0 [some (.ref (ad 36)), some (.ref (ad 39)), some (vI x2), some (vI x3), none, none, none, none] [] := by
  unfold wp_X1_fill_c39 at h
  refine g_iconst E dX1_fill_0 ?_
  refine g_istore_4 E rfl (by decide) dX1_fill_1 ?_
  exact (t_X1_fill_c39_l3 E hr bigN x2 x3 0 σ c2 c3 cl_0 hσ h).weak (w_k (w_k (w_k (w_k (w_k (w_d (w_d (w_d w_n))))))))
end
theorem m_X1_fill_c39 {Z : (Nat → Nat) × (Nat → Nat)} {l : Launch} {D : va_G} {cA : Nat → ClassId} {ad : Nat → Nat} {b : Bool} {x2 x3 : Int} {σ : St} {Q : Int → St → Prop} (hA : AdOk (NC b) ad) (c2 : C32 x2) (c3 : C32 x3) (hσ : CanS (shC b) (NC b) σ) (h : wp_X1_fill_c39 x2 x3 σ Q) : KtV Z l D cA ad (shC b) (NC b) yX1_fill cX1_fill 8 none 3 [.ref (ad 36), .ref (ad 39), vI x2, vI x3] σ Q :=
  KtV.of my_X1_fill hA [some (.ref (ad 36)), some (.ref (ad 39)), some (vI x2), some (vI x3), none, none, none, none] (Nat.le_of_ble_eq_true rfl) rfl (fun p e s m args below meth c A0 E hr => t_X1_fill_c39 E hr x2 x3 σ c2 c3 hσ h)
theorem dX1_lowestWithout_0 : Dc cX1_lowestWithout 0 (.aload_n 0) 1 1 := ⟨by decide +kernel, rfl⟩
theorem dX1_lowestWithout_1 : Dc cX1_lowestWithout 1 (.getfield 15) 3 4 := ⟨by decide +kernel, rfl⟩
theorem dX1_lowestWithout_4 : Dc cX1_lowestWithout 4 (.invokevirtual 42) 3 7 := ⟨by decide +kernel, rfl⟩
theorem dX1_lowestWithout_7 : Dc cX1_lowestWithout 7 (.aload_n 0) 1 8 := ⟨by decide +kernel, rfl⟩
theorem dX1_lowestWithout_8 : Dc cX1_lowestWithout 8 (.aload_n 0) 1 9 := ⟨by decide +kernel, rfl⟩
theorem dX1_lowestWithout_9 : Dc cX1_lowestWithout 9 (.getfield 26) 3 12 := ⟨by decide +kernel, rfl⟩
theorem dX1_lowestWithout_12 : Dc cX1_lowestWithout 12 (.iload_n 2) 1 13 := ⟨by decide +kernel, rfl⟩
theorem dX1_lowestWithout_13 : Dc cX1_lowestWithout 13 (.iconst 1) 1 14 := ⟨by decide +kernel, rfl⟩
theorem dX1_lowestWithout_14 : Dc cX1_lowestWithout 14 (.invokevirtual 47) 3 17 := ⟨by decide +kernel, rfl⟩
theorem dX1_lowestWithout_17 : Dc cX1_lowestWithout 17 (.aload_n 0) 1 18 := ⟨by decide +kernel, rfl⟩
theorem dX1_lowestWithout_18 : Dc cX1_lowestWithout 18 (.getfield 26) 3 21 := ⟨by decide +kernel, rfl⟩
theorem dX1_lowestWithout_21 : Dc cX1_lowestWithout 21 (.iload_n 1) 1 22 := ⟨by decide +kernel, rfl⟩
theorem dX1_lowestWithout_22 : Dc cX1_lowestWithout 22 (.iaload) 1 23 := ⟨by decide +kernel, rfl⟩
theorem dX1_lowestWithout_23 : Dc cX1_lowestWithout 23 (.ireturn) 1 24 := ⟨by decide +kernel, rfl⟩
section
variable {p : Program} {l : Launch} {e : Env} {s : State} {m : MethodId} {args : Array Value} {below : List Frame} {meth : Method} {c : Code} {A0 : Nat → Prop} {D : va_G} {cA : Nat → ClassId} {ad : Nat → Nat} {Z : (Nat → Nat) × (Nat → Nat)} {Q : Int → St → Prop} {b : Bool}
set_option maxHeartbeats 4000000 in
set_option maxRecDepth 100000 in
theorem t_X1_lowestWithout (E : Ev p s m args meth c cX1_lowestWithout 3 RX1 A0 D cA ad (NC b) Z) (hr : meth.sig.returnType = (some .int)) (x1 : Int) (x2 : Int) (σ : St) (c1 : C32 x1) (c2 : C32 x2) (hσ : CanS (shC b) (NC b) σ) (h : wp_X1_lowestWithout x1 x2 σ Q) : G p l e (rmL 5 0 0) s m args below meth c 3 A0 D cA ad (shC b) (NC b) 0 0 (MQ below (QIc D cA ad (shC b) (NC b) Q A0) args s 0 0 A0) σ 0 [some (.ref (ad 36)), some (vI x1), some (vI x2)] [] := by
  unfold wp_X1_lowestWithout at h
  refine g_aload_0 E dX1_lowestWithout_0 ?_
  refine g_getR E fl_RX1_15 (kC_36 b) (sC_36 b) rfl dX1_lowestWithout_1 ?_
  refine g_callvV E my_X0_build mi_X0_build msel_X0_build ml_RX1_42 (rm_ok (by decide) (by decide)) ⟨Nat.zero_le _, Nat.zero_le _⟩ (kC_24 b) (sC_24 b) rfl (m_X0_build E.2.2.1 hσ h) rfl rfl (Nat.le_of_ble_eq_true rfl) dX1_lowestWithout_4 (fun σ2 r1 hσ2 h => ?_)
  refine g_aload_0 E dX1_lowestWithout_7 ?_
  refine g_aload_0 E dX1_lowestWithout_8 ?_
  refine g_getR E fl_RX1_26 (kC_36 b) (sC_36 b) rfl dX1_lowestWithout_9 ?_
  refine g_iload_2 E dX1_lowestWithout_12 ?_
  refine g_iconst E dX1_lowestWithout_13 ?_
  refine g_callvV E my_X1_fill mi_X1_fill msel_X1_fill ml_RX1_47 (rm_ok (by decide) (by decide)) ⟨Nat.zero_le _, Nat.zero_le _⟩ (kC_36 b) (sC_36 b) rfl (m_X1_fill_c39 E.2.2.1 c2 cl_1 hσ2 h) rfl rfl (Nat.le_of_ble_eq_true rfl) dX1_lowestWithout_14 (fun σ4 r3 hσ4 h => ?_)
  refine g_aload_0 E dX1_lowestWithout_17 ?_
  refine g_getR E fl_RX1_26 (kC_36 b) (sC_36 b) rfl dX1_lowestWithout_18 ?_
  refine g_iload_1 E dX1_lowestWithout_21 ?_
  refine g_iald E (kC_39 b) (sC_39 b) (by decide) h.1 dX1_lowestWithout_22 ?_
  replace h := h.2
  exact g_iret E hr (aC_39 hσ4 _) h hσ4 dX1_lowestWithout_23
end
theorem m_X1_lowestWithout {Z : (Nat → Nat) × (Nat → Nat)} {l : Launch} {D : va_G} {cA : Nat → ClassId} {ad : Nat → Nat} {b : Bool} {x1 x2 : Int} {σ : St} {Q : Int → St → Prop} (hA : AdOk (NC b) ad) (c1 : C32 x1) (c2 : C32 x2) (hσ : CanS (shC b) (NC b) σ) (h : wp_X1_lowestWithout x1 x2 σ Q) : KtI Z l D cA ad (shC b) (NC b) yX1_lowestWithout cX1_lowestWithout 3 (some .int) 5 [.ref (ad 36), vI x1, vI x2] σ Q :=
  KtI.of my_X1_lowestWithout hA [some (.ref (ad 36)), some (vI x1), some (vI x2)] (Nat.le_of_ble_eq_true rfl) rfl (fun p e s m args below meth c A0 E hr => t_X1_lowestWithout E hr x1 x2 σ c1 c2 hσ h)
theorem dX11_without_0 : Dc cX11_without 0 (.aload_n 0) 1 1 := ⟨by decide +kernel, rfl⟩
theorem dX11_without_1 : Dc cX11_without 1 (.getfield 28) 3 4 := ⟨by decide +kernel, rfl⟩
theorem dX11_without_4 : Dc cX11_without 4 (.iload_n 1) 1 5 := ⟨by decide +kernel, rfl⟩
theorem dX11_without_5 : Dc cX11_without 5 (.invokevirtual 171) 3 8 := ⟨by decide +kernel, rfl⟩
theorem djX11_without_8 : Dj cX11_without 8 (.ifCond .ne 6) 3 11 6 14 := ⟨by decide +kernel, rfl, by decide⟩
theorem dX11_without_11 : Dc cX11_without 11 (.bipush (-2)) 2 13 := ⟨by decide +kernel, rfl⟩
theorem dX11_without_13 : Dc cX11_without 13 (.ireturn) 1 14 := ⟨by decide +kernel, rfl⟩
theorem dX11_without_14 : Dc cX11_without 14 (.aload_n 0) 1 15 := ⟨by decide +kernel, rfl⟩
theorem dX11_without_15 : Dc cX11_without 15 (.invokevirtual 307) 3 18 := ⟨by decide +kernel, rfl⟩
theorem dX11_without_18 : Dc cX11_without 18 (.istore_n 2) 1 19 := ⟨by decide +kernel, rfl⟩
theorem dX11_without_19 : Dc cX11_without 19 (.iload_n 2) 1 20 := ⟨by decide +kernel, rfl⟩
theorem djX11_without_20 : Dj cX11_without 20 (.ifCond .ge 7) 3 23 7 27 := ⟨by decide +kernel, rfl, by decide⟩
theorem dX11_without_23 : Dc cX11_without 23 (.iconst (-1)) 1 24 := ⟨by decide +kernel, rfl⟩
theorem djX11_without_24 : Dj cX11_without 24 (.goto 12) 3 27 12 36 := ⟨by decide +kernel, rfl, by decide⟩
theorem dX11_without_27 : Dc cX11_without 27 (.aload_n 0) 1 28 := ⟨by decide +kernel, rfl⟩
theorem dX11_without_28 : Dc cX11_without 28 (.getfield 46) 3 31 := ⟨by decide +kernel, rfl⟩
theorem dX11_without_31 : Dc cX11_without 31 (.iload_n 2) 1 32 := ⟨by decide +kernel, rfl⟩
theorem dX11_without_32 : Dc cX11_without 32 (.iload_n 1) 1 33 := ⟨by decide +kernel, rfl⟩
theorem dX11_without_33 : Dc cX11_without 33 (.invokevirtual 327) 3 36 := ⟨by decide +kernel, rfl⟩
theorem dX11_without_36 : Dc cX11_without 36 (.ireturn) 1 37 := ⟨by decide +kernel, rfl⟩
section
variable {p : Program} {l : Launch} {e : Env} {s : State} {m : MethodId} {args : Array Value} {below : List Frame} {meth : Method} {c : Code} {A0 : Nat → Prop} {D : va_G} {cA : Nat → ClassId} {ad : Nat → Nat} {Z : (Nat → Nat) × (Nat → Nat)} {Q : Int → St → Prop} {b : Bool}
set_option maxHeartbeats 4000000 in
set_option maxRecDepth 100000 in
theorem t_X11_without (E : Ev p s m args meth c cX11_without 3 RX11 A0 D cA ad (NC b) Z) (hr : meth.sig.returnType = (some .int)) (x1 : Int) (σ : St) (c1 : C32 x1) (hσ : CanS (shC b) (NC b) σ) (h : wp_X11_without x1 σ Q) : G p l e (rmL 7 0 0) s m args below meth c 3 A0 D cA ad (shC b) (NC b) 0 0 (MQ below (QIc D cA ad (shC b) (NC b) Q A0) args s 0 0 A0) σ 0 [some (.ref (ad 0)), some (vI x1), none] [] := by
  unfold wp_X11_without at h
  refine g_aload_0 E dX11_without_0 ?_
  refine g_getR E fl_RX11_28 (kC_0 b) (sC_0 b) rfl dX11_without_1 ?_
  refine g_iload_1 E dX11_without_4 ?_
  refine g_callvI E my_X4_knows mi_X4_knows msel_X4_knows ml_RX11_171 (rm_ok (by decide) (by decide)) ⟨Nat.zero_le _, Nat.zero_le _⟩ (kC_14 b) (sC_14 b) rfl (m_X4_knows E.2.2.1 c1 hσ h) rfl rfl (Nat.le_of_ble_eq_true rfl) dX11_without_5 (fun r1 σ2 cr1 hσ2 h => ?_)
  refine g_if_ne E cr1 djX11_without_8 (fun hc => ?_) (fun hc => ?_)
  · replace h := h.1 hc
    refine g_aload_0 E dX11_without_14 ?_
    refine g_callvI E my_X11_wholeItem mi_X11_wholeItem msel_X11_wholeItem ml_RX11_307 (rm_ok (by decide) (by decide)) ⟨Nat.zero_le _, Nat.zero_le _⟩ (kC_0 b) (sC_0 b) rfl (m_X11_wholeItem E.2.2.1 hσ2 h) rfl rfl (Nat.le_of_ble_eq_true rfl) dX11_without_15 (fun r3 σ4 cr3 hσ4 h => ?_)
    refine g_istore_2 E rfl (by decide) dX11_without_18 ?_
    refine g_iload_2 E dX11_without_19 ?_
    refine g_if_ge E cr3 djX11_without_20 (fun hc => ?_) (fun hc => ?_)
    · replace h := h.1 hc
      refine g_aload_0 E dX11_without_27 ?_
      refine g_getR E fl_RX11_46 (kC_0 b) (sC_0 b) rfl dX11_without_28 ?_
      refine g_iload_2 E dX11_without_31 ?_
      refine g_iload_1 E dX11_without_32 ?_
      refine g_callvI E my_X1_lowestWithout mi_X1_lowestWithout msel_X1_lowestWithout ml_RX11_327 (rm_ok (by decide) (by decide)) ⟨Nat.zero_le _, Nat.zero_le _⟩ (kC_36 b) (sC_36 b) rfl (m_X1_lowestWithout E.2.2.1 cr3 c1 hσ4 h) rfl rfl (Nat.le_of_ble_eq_true rfl) dX11_without_33 (fun r5 σ6 cr5 hσ6 h => ?_)
      exact g_iret E hr cr5 h hσ6 dX11_without_36
    · replace h := h.2 hc
      refine g_iconst E dX11_without_23 ?_
      refine g_goto E djX11_without_24 ?_
      exact g_iret E hr cl_m1 h hσ4 dX11_without_36
  · replace h := h.2 hc
    refine g_bipush E (by decide) dX11_without_11 ?_
    exact g_iret E hr cl_m2 h hσ2 dX11_without_13
end
theorem m_X11_without {Z : (Nat → Nat) × (Nat → Nat)} {l : Launch} {D : va_G} {cA : Nat → ClassId} {ad : Nat → Nat} {b : Bool} {x1 : Int} {σ : St} {Q : Int → St → Prop} (hA : AdOk (NC b) ad) (c1 : C32 x1) (hσ : CanS (shC b) (NC b) σ) (h : wp_X11_without x1 σ Q) : KtI Z l D cA ad (shC b) (NC b) yX11_without cX11_without 3 (some .int) 7 [.ref (ad 0), vI x1] σ Q :=
  KtI.of my_X11_without hA [some (.ref (ad 0)), some (vI x1), none] (Nat.le_of_ble_eq_true rfl) rfl (fun p e s m args below meth c A0 E hr => t_X11_without E hr x1 σ c1 hσ h)
theorem dX11_heads_0 : Dc cX11_heads 0 (.iconst 0) 1 1 := ⟨by decide +kernel, rfl⟩
theorem dX11_heads_1 : Dc cX11_heads 1 (.istore_n 1) 1 2 := ⟨by decide +kernel, rfl⟩
theorem dX11_heads_2 : Dc cX11_heads 2 (.iconst 1) 1 3 := ⟨by decide +kernel, rfl⟩
theorem dX11_heads_3 : Dc cX11_heads 3 (.istore_n 2) 1 4 := ⟨by decide +kernel, rfl⟩
theorem dX11_heads_4 : Dc cX11_heads 4 (.iload_n 2) 1 5 := ⟨by decide +kernel, rfl⟩
theorem dX11_heads_5 : Dc cX11_heads 5 (.aload_n 0) 1 6 := ⟨by decide +kernel, rfl⟩
theorem dX11_heads_6 : Dc cX11_heads 6 (.getfield 37) 3 9 := ⟨by decide +kernel, rfl⟩
theorem dX11_heads_9 : Dc cX11_heads 9 (.getfield 146) 3 12 := ⟨by decide +kernel, rfl⟩
theorem djX11_heads_12 : Dj cX11_heads 12 (.if_icmp .gt 54) 3 15 54 66 := ⟨by decide +kernel, rfl, by decide⟩
theorem dX11_heads_15 : Dc cX11_heads 15 (.aload_n 0) 1 16 := ⟨by decide +kernel, rfl⟩
theorem dX11_heads_16 : Dc cX11_heads 16 (.getfield 28) 3 19 := ⟨by decide +kernel, rfl⟩
theorem dX11_heads_19 : Dc cX11_heads 19 (.getfield 129) 3 22 := ⟨by decide +kernel, rfl⟩
theorem djX11_heads_22 : Dj cX11_heads 22 (.ifCond .le 44) 3 25 44 66 := ⟨by decide +kernel, rfl, by decide⟩
theorem dX11_heads_25 : Dc cX11_heads 25 (.aload_n 0) 1 26 := ⟨by decide +kernel, rfl⟩
theorem dX11_heads_26 : Dc cX11_heads 26 (.aload_n 0) 1 27 := ⟨by decide +kernel, rfl⟩
theorem dX11_heads_27 : Dc cX11_heads 27 (.getfield 28) 3 30 := ⟨by decide +kernel, rfl⟩
theorem dX11_heads_30 : Dc cX11_heads 30 (.invokevirtual 149) 3 33 := ⟨by decide +kernel, rfl⟩
theorem dX11_heads_33 : Dc cX11_heads 33 (.iconst 0) 1 34 := ⟨by decide +kernel, rfl⟩
theorem dX11_heads_34 : Dc cX11_heads 34 (.iload_n 2) 1 35 := ⟨by decide +kernel, rfl⟩
theorem dX11_heads_35 : Dc cX11_heads 35 (.invokevirtual 223) 3 38 := ⟨by decide +kernel, rfl⟩
theorem dX11_heads_38 : Dc cX11_heads 38 (.istore_n 3) 1 39 := ⟨by decide +kernel, rfl⟩
theorem dX11_heads_39 : Dc cX11_heads 39 (.iload_n 3) 1 40 := ⟨by decide +kernel, rfl⟩
theorem djX11_heads_40 : Dj cX11_heads 40 (.ifCond .lt 20) 3 43 20 60 := ⟨by decide +kernel, rfl, by decide⟩
theorem dX11_heads_43 : Dc cX11_heads 43 (.aload_n 0) 1 44 := ⟨by decide +kernel, rfl⟩
theorem dX11_heads_44 : Dc cX11_heads 44 (.getfield 46) 3 47 := ⟨by decide +kernel, rfl⟩
theorem dX11_heads_47 : Dc cX11_heads 47 (.iload_n 3) 1 48 := ⟨by decide +kernel, rfl⟩
theorem dX11_heads_48 : Dc cX11_heads 48 (.invokevirtual 226) 3 51 := ⟨by decide +kernel, rfl⟩
theorem djX11_heads_51 : Dj cX11_heads 51 (.ifCond .le 9) 3 54 9 60 := ⟨by decide +kernel, rfl, by decide⟩
theorem dX11_heads_54 : Dc cX11_heads 54 (.iload_n 1) 1 55 := ⟨by decide +kernel, rfl⟩
theorem dX11_heads_55 : Dc cX11_heads 55 (.iconst 1) 1 56 := ⟨by decide +kernel, rfl⟩
theorem dX11_heads_56 : Dc cX11_heads 56 (.iload_n 2) 1 57 := ⟨by decide +kernel, rfl⟩
theorem dX11_heads_57 : Dc cX11_heads 57 (.ishl) 1 58 := ⟨by decide +kernel, rfl⟩
theorem dX11_heads_58 : Dc cX11_heads 58 (.ior) 1 59 := ⟨by decide +kernel, rfl⟩
theorem dX11_heads_59 : Dc cX11_heads 59 (.istore_n 1) 1 60 := ⟨by decide +kernel, rfl⟩
theorem dX11_heads_60 : Dc cX11_heads 60 (.iinc 2 1) 3 63 := ⟨by decide +kernel, rfl⟩
theorem djX11_heads_63 : Dj cX11_heads 63 (.goto (-59)) 3 66 (-59) 4 := ⟨by decide +kernel, rfl, by decide⟩
theorem dX11_heads_66 : Dc cX11_heads 66 (.iload_n 1) 1 67 := ⟨by decide +kernel, rfl⟩
theorem dX11_heads_67 : Dc cX11_heads 67 (.ireturn) 1 68 := ⟨by decide +kernel, rfl⟩
section
variable {p : Program} {l : Launch} {e : Env} {s : State} {m : MethodId} {args : Array Value} {below : List Frame} {meth : Method} {c : Code} {A0 : Nat → Prop} {D : va_G} {cA : Nat → ClassId} {ad : Nat → Nat} {Z : (Nat → Nat) × (Nat → Nat)} {Q : Int → St → Prop} {b : Bool}
set_option maxHeartbeats 4000000 in
set_option maxRecDepth 100000 in
theorem t_X11_heads_b60 (E : Ev p s m args meth c cX11_heads 4 RX11 A0 D cA ad (NC b) Z) (hr : meth.sig.returnType = (some .int)) {K4 : Int → Int → St → Prop} (hK4 : ∀ (x1 : Int) (x2 : Int) (σ : St), C32 x1 → C32 x2 → CanS (shC b) (NC b) σ → K4 x1 x2 σ → G p l e (rmL 7 0 0) s m args below meth c 4 A0 D cA ad (shC b) (NC b) 0 0 (MQ below (QIc D cA ad (shC b) (NC b) Q A0) args s 0 0 A0) σ 4 [some (.ref (ad 0)), some (vI x1), some (vI x2), none] []) (x1 : Int) (x2 : Int) (σ : St) (c1 : C32 x1) (c2 : C32 x2) (hσ : CanS (shC b) (NC b) σ) (h : wp_X11_heads_b60 Q K4 x1 x2 σ) : G p l e (rmL 7 0 0) s m args below meth c 4 A0 D cA ad (shC b) (NC b) 0 0 (MQ below (QIc D cA ad (shC b) (NC b) Q A0) args s 0 0 A0) σ 60 [some (.ref (ad 0)), some (vI x1), some (vI x2), none] [] := by
  unfold wp_X11_heads_b60 at h
  refine g_iinc_2 E rfl (by decide) dX11_heads_60 (fun v8 ev8 => ?_)
  replace h := h v8 ev8
  have cv8 : C32 v8 := by rw [ev8]; exact c32_w _
  refine g_goto E djX11_heads_63 ?_
  exact (hK4 x1 v8 σ c1 cv8 hσ h).weak (w_k (w_k (w_k (w_d w_n))))
set_option maxHeartbeats 4000000 in
set_option maxRecDepth 100000 in
theorem t_X11_heads_l4 (E : Ev p s m args meth c cX11_heads 4 RX11 A0 D cA ad (NC b) Z) (hr : meth.sig.returnType = (some .int)) : ∀ (n : Nat) (x1 : Int) (x2 : Int) (σ : St), C32 x1 → C32 x2 → CanS (shC b) (NC b) σ → wp_X11_heads_l4 Q n x1 x2 σ → G p l e (rmL 7 0 0) s m args below meth c 4 A0 D cA ad (shC b) (NC b) 0 0 (MQ below (QIc D cA ad (shC b) (NC b) Q A0) args s 0 0 A0) σ 4 [some (.ref (ad 0)), some (vI x1), some (vI x2), none] [] := by
  intro n
  induction n with
  | zero => intro _ _ _ _ _ _ h; exact h.elim
  | succ n ih =>
    intro x1 x2 σ c1 c2 hσ h
    unfold wp_X11_heads_l4 at h
    refine g_iload_2 E dX11_heads_4 ?_
    refine g_aload_0 E dX11_heads_5 ?_
    refine g_getR E fl_RX11_37 (kC_0 b) (sC_0 b) rfl dX11_heads_6 ?_
    refine g_getI E fl_RX11_146 (kC_24 b) (sC_24 b) rfl dX11_heads_9 ?_
    refine g_icmp_gt E c2 (fC_24_2 hσ) djX11_heads_12 (fun hc => ?_) (fun hc => ?_)
    · replace h := h.1 hc
      refine g_iload_1 E dX11_heads_66 ?_
      exact g_iret E hr c1 h hσ dX11_heads_67
    · replace h := h.2 hc
      refine g_aload_0 E dX11_heads_15 ?_
      refine g_getR E fl_RX11_28 (kC_0 b) (sC_0 b) rfl dX11_heads_16 ?_
      refine g_getI E fl_RX11_129 (kC_14 b) (sC_14 b) rfl dX11_heads_19 ?_
      refine g_if_le E (fC_14_0 hσ) djX11_heads_22 (fun hc => ?_) (fun hc => ?_)
      · replace h := h.1 hc
        refine g_iload_1 E dX11_heads_66 ?_
        exact g_iret E hr c1 h hσ dX11_heads_67
      · replace h := h.2 hc
        refine g_aload_0 E dX11_heads_25 ?_
        refine g_aload_0 E dX11_heads_26 ?_
        refine g_getR E fl_RX11_28 (kC_0 b) (sC_0 b) rfl dX11_heads_27 ?_
        refine g_callvI E my_X4_start mi_X4_start msel_X4_start ml_RX11_149 (rm_ok (by decide) (by decide)) ⟨Nat.zero_le _, Nat.zero_le _⟩ (kC_14 b) (sC_14 b) rfl (m_X4_start E.2.2.1 hσ h) rfl rfl (Nat.le_of_ble_eq_true rfl) dX11_heads_30 (fun r1 σ2 cr1 hσ2 h => ?_)
        refine g_iconst E dX11_heads_33 ?_
        refine g_iload_2 E dX11_heads_34 ?_
        refine g_callvI E my_X11_itemOf mi_X11_itemOf msel_X11_itemOf ml_RX11_223 (rm_ok (by decide) (by decide)) ⟨Nat.zero_le _, Nat.zero_le _⟩ (kC_0 b) (sC_0 b) rfl (m_X11_itemOf E.2.2.1 cr1 cl_0 c2 hσ2 h) rfl rfl (Nat.le_of_ble_eq_true rfl) dX11_heads_35 (fun r3 σ4 cr3 hσ4 h => ?_)
        refine g_istore_3 E rfl (by decide) dX11_heads_38 ?_
        refine g_iload_3 E dX11_heads_39 ?_
        refine g_if_lt E cr3 djX11_heads_40 (fun hc => ?_) (fun hc => ?_)
        · replace h := h.1 hc
          exact (t_X11_heads_b60 E hr ih x1 x2 σ4 c1 c2 hσ4 h).weak (w_k (w_k (w_k (w_d w_n))))
        · replace h := h.2 hc
          refine g_aload_0 E dX11_heads_43 ?_
          refine g_getR E fl_RX11_46 (kC_0 b) (sC_0 b) rfl dX11_heads_44 ?_
          refine g_iload_3 E dX11_heads_47 ?_
          refine g_callvI E my_X1_lowestOf mi_X1_lowestOf msel_X1_lowestOf ml_RX11_226 (rm_ok (by decide) (by decide)) ⟨Nat.zero_le _, Nat.zero_le _⟩ (kC_36 b) (sC_36 b) rfl (m_X1_lowestOf E.2.2.1 cr3 hσ4 h) rfl rfl (Nat.le_of_ble_eq_true rfl) dX11_heads_48 (fun r5 σ6 cr5 hσ6 h => ?_)
          refine g_if_le E cr5 djX11_heads_51 (fun hc => ?_) (fun hc => ?_)
          · replace h := h.1 hc
            exact (t_X11_heads_b60 E hr ih x1 x2 σ6 c1 c2 hσ6 h).weak (w_k (w_k (w_k (w_d w_n))))
          · replace h := h.2 hc
            refine g_iload_1 E dX11_heads_54 ?_
            refine g_iconst E dX11_heads_55 ?_
            refine g_iload_2 E dX11_heads_56 ?_
            refine g_ishl E dX11_heads_57 ?_
            refine g_ior E dX11_heads_58 ?_
            refine g_nmI (fun v7 ev7 => ?_)
            replace h := h v7 ev7
            have cv7 : C32 v7 := by rw [ev7]; exact (c32_t _)
            refine g_istore_1 E rfl (by decide) dX11_heads_59 ?_
            exact (t_X11_heads_b60 E hr ih v7 x2 σ6 cv7 c2 hσ6 h).weak (w_k (w_k (w_k (w_d w_n))))
set_option maxHeartbeats 4000000 in
set_option maxRecDepth 100000 in
theorem t_X11_heads (E : Ev p s m args meth c cX11_heads 4 RX11 A0 D cA ad (NC b) Z) (hr : meth.sig.returnType = (some .int)) (σ : St) (hσ : CanS (shC b) (NC b) σ) (h : wp_X11_heads  σ Q) : G p l e (rmL 7 0 0) s m args below meth c 4 A0 D cA ad (shC b) (NC b) 0 0 (MQ below (QIc D cA ad (shC b) (NC b) Q A0) args s 0 0 A0) σ 0 [some (.ref (ad 0)), none, none, none] [] := by
  unfold wp_X11_heads at h
  refine g_iconst E dX11_heads_0 ?_
  refine g_istore_1 E rfl (by decide) dX11_heads_1 ?_
  refine g_iconst E dX11_heads_2 ?_
  refine g_istore_2 E rfl (by decide) dX11_heads_3 ?_
  exact (t_X11_heads_l4 E hr bigN 0 1 σ cl_0 cl_1 hσ h).weak (w_k (w_k (w_k (w_d w_n))))
end
theorem m_X11_heads {Z : (Nat → Nat) × (Nat → Nat)} {l : Launch} {D : va_G} {cA : Nat → ClassId} {ad : Nat → Nat} {b : Bool} {σ : St} {Q : Int → St → Prop} (hA : AdOk (NC b) ad) (hσ : CanS (shC b) (NC b) σ) (h : wp_X11_heads  σ Q) : KtI Z l D cA ad (shC b) (NC b) yX11_heads cX11_heads 4 (some .int) 7 [.ref (ad 0)] σ Q :=
  KtI.of my_X11_heads hA [some (.ref (ad 0)), none, none, none] (Nat.le_of_ble_eq_true rfl) rfl (fun p e s m args below meth c A0 E hr => t_X11_heads E hr σ hσ h)
