theorem dX0_partOver_0 : Dc cX0_partOver 0 (.iload_n 1) 1 1 := ⟨by decide +kernel, rfl⟩
theorem dX0_partOver_1 : Dc cX0_partOver 1 (.bipush 100) 2 3 := ⟨by decide +kernel, rfl⟩
theorem djX0_partOver_3 : Dj cX0_partOver 3 (.if_icmp .ge 20) 3 6 20 23 := ⟨by decide +kernel, rfl, by decide⟩
theorem dX0_partOver_6 : Dc cX0_partOver 6 (.aload_n 0) 1 7 := ⟨by decide +kernel, rfl⟩
theorem dX0_partOver_7 : Dc cX0_partOver 7 (.getfield 25) 3 10 := ⟨by decide +kernel, rfl⟩
theorem dX0_partOver_10 : Dc cX0_partOver 10 (.iload_n 2) 1 11 := ⟨by decide +kernel, rfl⟩
theorem dX0_partOver_11 : Dc cX0_partOver 11 (.bipush 9) 2 13 := ⟨by decide +kernel, rfl⟩
theorem dX0_partOver_13 : Dc cX0_partOver 13 (.imul) 1 14 := ⟨by decide +kernel, rfl⟩
theorem dX0_partOver_14 : Dc cX0_partOver 14 (.iload_n 3) 1 15 := ⟨by decide +kernel, rfl⟩
theorem dX0_partOver_15 : Dc cX0_partOver 15 (.iadd) 1 16 := ⟨by decide +kernel, rfl⟩
theorem dX0_partOver_16 : Dc cX0_partOver 16 (.iaload) 1 17 := ⟨by decide +kernel, rfl⟩
theorem dX0_partOver_17 : Dc cX0_partOver 17 (.bipush 12) 2 19 := ⟨by decide +kernel, rfl⟩
theorem dX0_partOver_19 : Dc cX0_partOver 19 (.imul) 1 20 := ⟨by decide +kernel, rfl⟩
theorem dX0_partOver_20 : Dc cX0_partOver 20 (.iload_n 1) 1 21 := ⟨by decide +kernel, rfl⟩
theorem dX0_partOver_21 : Dc cX0_partOver 21 (.iadd) 1 22 := ⟨by decide +kernel, rfl⟩
theorem dX0_partOver_22 : Dc cX0_partOver 22 (.ireturn) 1 23 := ⟨by decide +kernel, rfl⟩
theorem dX0_partOver_23 : Dc cX0_partOver 23 (.iload_n 3) 1 24 := ⟨by decide +kernel, rfl⟩
theorem dX0_partOver_24 : Dc cX0_partOver 24 (.iload_n 2) 1 25 := ⟨by decide +kernel, rfl⟩
theorem dX0_partOver_25 : Dc cX0_partOver 25 (.iconst 1) 1 26 := ⟨by decide +kernel, rfl⟩
theorem dX0_partOver_26 : Dc cX0_partOver 26 (.iadd) 1 27 := ⟨by decide +kernel, rfl⟩
theorem djX0_partOver_27 : Dj cX0_partOver 27 (.if_icmp .ne 20) 3 30 20 47 := ⟨by decide +kernel, rfl, by decide⟩
theorem dX0_partOver_30 : Dc cX0_partOver 30 (.aload_n 0) 1 31 := ⟨by decide +kernel, rfl⟩
theorem dX0_partOver_31 : Dc cX0_partOver 31 (.getfield 15) 3 34 := ⟨by decide +kernel, rfl⟩
theorem dX0_partOver_34 : Dc cX0_partOver 34 (.iload_n 2) 1 35 := ⟨by decide +kernel, rfl⟩
theorem dX0_partOver_35 : Dc cX0_partOver 35 (.iaload) 1 36 := ⟨by decide +kernel, rfl⟩
theorem dX0_partOver_36 : Dc cX0_partOver 36 (.iload_n 1) 1 37 := ⟨by decide +kernel, rfl⟩
theorem dX0_partOver_37 : Dc cX0_partOver 37 (.bipush 100) 2 39 := ⟨by decide +kernel, rfl⟩
theorem dX0_partOver_39 : Dc cX0_partOver 39 (.isub) 1 40 := ⟨by decide +kernel, rfl⟩
theorem djX0_partOver_40 : Dj cX0_partOver 40 (.if_icmp .ne 7) 3 43 7 47 := ⟨by decide +kernel, rfl, by decide⟩
theorem dX0_partOver_43 : Dc cX0_partOver 43 (.iconst (-1)) 1 44 := ⟨by decide +kernel, rfl⟩
theorem djX0_partOver_44 : Dj cX0_partOver 44 (.goto 5) 3 47 5 49 := ⟨by decide +kernel, rfl, by decide⟩
theorem dX0_partOver_47 : Dc cX0_partOver 47 (.bipush (-2)) 2 49 := ⟨by decide +kernel, rfl⟩
theorem dX0_partOver_49 : Dc cX0_partOver 49 (.ireturn) 1 50 := ⟨by decide +kernel, rfl⟩
section
variable {p : Program} {l : Launch} {e : Env} {s : State} {m : MethodId} {args : Array Value} {below : List Frame} {meth : Method} {c : Code} {A0 : Nat → Prop} {D : va_G} {cA : Nat → ClassId} {ad : Nat → Nat} {Z : (Nat → Nat) × (Nat → Nat)} {Q : Int → St → Prop} {b : Bool}
set_option maxHeartbeats 4000000 in
set_option maxRecDepth 100000 in
theorem t_X0_partOver_b47 (E : Ev p s m args meth c cX0_partOver 4 RX0 A0 D cA ad (NC b) Z) (hr : meth.sig.returnType = (some .int)) (σ : St) (hσ : CanS (shC b) (NC b) σ) (h : wp_X0_partOver_b47 Q  σ) : G p l e (rmL 1 0 0) s m args below meth c 4 A0 D cA ad (shC b) (NC b) 0 0 (MQ below (QIc D cA ad (shC b) (NC b) Q A0) args s 0 0 A0) σ 47 [none, none, none, none] [] := by
  unfold wp_X0_partOver_b47 at h
  refine g_bipush E (by decide) dX0_partOver_47 ?_
  exact g_iret E hr cl_m2 h hσ dX0_partOver_49
set_option maxHeartbeats 4000000 in
set_option maxRecDepth 100000 in
theorem t_X0_partOver (E : Ev p s m args meth c cX0_partOver 4 RX0 A0 D cA ad (NC b) Z) (hr : meth.sig.returnType = (some .int)) (x1 : Int) (x2 : Int) (x3 : Int) (σ : St) (c1 : C32 x1) (c2 : C32 x2) (c3 : C32 x3) (hσ : CanS (shC b) (NC b) σ) (h : wp_X0_partOver x1 x2 x3 σ Q) : G p l e (rmL 1 0 0) s m args below meth c 4 A0 D cA ad (shC b) (NC b) 0 0 (MQ below (QIc D cA ad (shC b) (NC b) Q A0) args s 0 0 A0) σ 0 [some (.ref (ad 24)), some (vI x1), some (vI x2), some (vI x3)] [] := by
  unfold wp_X0_partOver at h
  refine g_iload_1 E dX0_partOver_0 ?_
  refine g_bipush E (by decide) dX0_partOver_1 ?_
  refine g_icmp_ge E c1 cl_100 djX0_partOver_3 (fun hc => ?_) (fun hc => ?_)
  · replace h := h.1 hc
    refine g_iload_3 E dX0_partOver_23 ?_
    refine g_iload_2 E dX0_partOver_24 ?_
    refine g_iconst E dX0_partOver_25 ?_
    refine g_iadd E dX0_partOver_26 ?_
    refine g_icmp_ne E c3 (c32_w _) djX0_partOver_27 (fun hc => ?_) (fun hc => ?_)
    · replace h := h.1 hc
      exact (t_X0_partOver_b47 E hr σ hσ h).weak (w_d (w_d (w_d (w_d w_n))))
    · replace h := h.2 hc
      refine g_aload_0 E dX0_partOver_30 ?_
      refine g_getR E fl_RX0_15 (kC_24 b) (sC_24 b) rfl dX0_partOver_31 ?_
      refine g_iload_2 E dX0_partOver_34 ?_
      refine g_iald E (kC_25 b) (sC_25 b) (by decide) h.1 dX0_partOver_35 ?_
      replace h := h.2
      refine g_iload_1 E dX0_partOver_36 ?_
      refine g_bipush E (by decide) dX0_partOver_37 ?_
      refine g_isub E dX0_partOver_39 ?_
      refine g_icmp_ne E (aC_25 hσ _) (c32_w _) djX0_partOver_40 (fun hc => ?_) (fun hc => ?_)
      · replace h := h.1 hc
        exact (t_X0_partOver_b47 E hr σ hσ h).weak (w_d (w_d (w_d (w_d w_n))))
      · replace h := h.2 hc
        refine g_iconst E dX0_partOver_43 ?_
        refine g_goto E djX0_partOver_44 ?_
        exact g_iret E hr cl_m1 h hσ dX0_partOver_49
  · replace h := h.2 hc
    refine g_aload_0 E dX0_partOver_6 ?_
    refine g_getR E fl_RX0_25 (kC_24 b) (sC_24 b) rfl dX0_partOver_7 ?_
    refine g_iload_2 E dX0_partOver_10 ?_
    refine g_bipush E (by decide) dX0_partOver_11 ?_
    refine g_imul E dX0_partOver_13 ?_
    refine g_iload_3 E dX0_partOver_14 ?_
    refine g_iadd E dX0_partOver_15 ?_
    refine g_iald E (kC_28 b) (sC_28 b) (by decide) h.1 dX0_partOver_16 ?_
    replace h := h.2
    refine g_bipush E (by decide) dX0_partOver_17 ?_
    refine g_imul E dX0_partOver_19 ?_
    refine g_iload_1 E dX0_partOver_20 ?_
    refine g_iadd E dX0_partOver_21 ?_
    exact g_iret E hr (c32_w _) h hσ dX0_partOver_22
end
theorem m_X0_partOver {Z : (Nat → Nat) × (Nat → Nat)} {l : Launch} {D : va_G} {cA : Nat → ClassId} {ad : Nat → Nat} {b : Bool} {x1 x2 x3 : Int} {σ : St} {Q : Int → St → Prop} (hA : AdOk (NC b) ad) (c1 : C32 x1) (c2 : C32 x2) (c3 : C32 x3) (hσ : CanS (shC b) (NC b) σ) (h : wp_X0_partOver x1 x2 x3 σ Q) : KtI Z l D cA ad (shC b) (NC b) yX0_partOver cX0_partOver 4 (some .int) 1 [.ref (ad 24), vI x1, vI x2, vI x3] σ Q :=
  KtI.of my_X0_partOver hA [some (.ref (ad 24)), some (vI x1), some (vI x2), some (vI x3)] (Nat.le_of_ble_eq_true rfl) rfl (fun p e s m args below meth c A0 E hr => t_X0_partOver E hr x1 x2 x3 σ c1 c2 c3 hσ h)
theorem dX0_addCase_0 : Dc cX0_addCase 0 (.iload_n 3) 1 1 := ⟨by decide +kernel, rfl⟩
theorem dX0_addCase_1 : Dc cX0_addCase 1 (.bipush (-2)) 2 3 := ⟨by decide +kernel, rfl⟩
theorem djX0_addCase_3 : Dj cX0_addCase 3 (.if_icmp .eq 20) 3 6 20 23 := ⟨by decide +kernel, rfl, by decide⟩
theorem dX0_addCase_6 : Dc cX0_addCase 6 (.iload 4) 2 8 := ⟨by decide +kernel, rfl⟩
theorem dX0_addCase_8 : Dc cX0_addCase 8 (.bipush (-2)) 2 10 := ⟨by decide +kernel, rfl⟩
theorem djX0_addCase_10 : Dj cX0_addCase 10 (.if_icmp .eq 13) 3 13 13 23 := ⟨by decide +kernel, rfl, by decide⟩
theorem dX0_addCase_13 : Dc cX0_addCase 13 (.aload_n 0) 1 14 := ⟨by decide +kernel, rfl⟩
theorem dX0_addCase_14 : Dc cX0_addCase 14 (.getfield 69) 3 17 := ⟨by decide +kernel, rfl⟩
theorem dX0_addCase_17 : Dc cX0_addCase 17 (.sipush 3360) 3 20 := ⟨by decide +kernel, rfl⟩
theorem djX0_addCase_20 : Dj cX0_addCase 20 (.if_icmp .lt 4) 3 23 4 24 := ⟨by decide +kernel, rfl, by decide⟩
theorem dX0_addCase_23 : Dc cX0_addCase 23 (.return_) 1 24 := ⟨by decide +kernel, rfl⟩
theorem dX0_addCase_24 : Dc cX0_addCase 24 (.aload_n 0) 1 25 := ⟨by decide +kernel, rfl⟩
theorem dX0_addCase_25 : Dc cX0_addCase 25 (.getfield 28) 3 28 := ⟨by decide +kernel, rfl⟩
theorem dX0_addCase_28 : Dc cX0_addCase 28 (.aload_n 0) 1 29 := ⟨by decide +kernel, rfl⟩
theorem dX0_addCase_29 : Dc cX0_addCase 29 (.getfield 69) 3 32 := ⟨by decide +kernel, rfl⟩
theorem dX0_addCase_32 : Dc cX0_addCase 32 (.iload_n 1) 1 33 := ⟨by decide +kernel, rfl⟩
theorem dX0_addCase_33 : Dc cX0_addCase 33 (.iastore) 1 34 := ⟨by decide +kernel, rfl⟩
theorem dX0_addCase_34 : Dc cX0_addCase 34 (.aload_n 0) 1 35 := ⟨by decide +kernel, rfl⟩
theorem dX0_addCase_35 : Dc cX0_addCase 35 (.getfield 31) 3 38 := ⟨by decide +kernel, rfl⟩
theorem dX0_addCase_38 : Dc cX0_addCase 38 (.aload_n 0) 1 39 := ⟨by decide +kernel, rfl⟩
theorem dX0_addCase_39 : Dc cX0_addCase 39 (.getfield 69) 3 42 := ⟨by decide +kernel, rfl⟩
theorem dX0_addCase_42 : Dc cX0_addCase 42 (.iload_n 2) 1 43 := ⟨by decide +kernel, rfl⟩
theorem dX0_addCase_43 : Dc cX0_addCase 43 (.iastore) 1 44 := ⟨by decide +kernel, rfl⟩
theorem dX0_addCase_44 : Dc cX0_addCase 44 (.aload_n 0) 1 45 := ⟨by decide +kernel, rfl⟩
theorem dX0_addCase_45 : Dc cX0_addCase 45 (.getfield 34) 3 48 := ⟨by decide +kernel, rfl⟩
theorem dX0_addCase_48 : Dc cX0_addCase 48 (.aload_n 0) 1 49 := ⟨by decide +kernel, rfl⟩
theorem dX0_addCase_49 : Dc cX0_addCase 49 (.getfield 69) 3 52 := ⟨by decide +kernel, rfl⟩
theorem dX0_addCase_52 : Dc cX0_addCase 52 (.iload_n 3) 1 53 := ⟨by decide +kernel, rfl⟩
theorem dX0_addCase_53 : Dc cX0_addCase 53 (.iastore) 1 54 := ⟨by decide +kernel, rfl⟩
theorem dX0_addCase_54 : Dc cX0_addCase 54 (.aload_n 0) 1 55 := ⟨by decide +kernel, rfl⟩
theorem dX0_addCase_55 : Dc cX0_addCase 55 (.getfield 37) 3 58 := ⟨by decide +kernel, rfl⟩
theorem dX0_addCase_58 : Dc cX0_addCase 58 (.aload_n 0) 1 59 := ⟨by decide +kernel, rfl⟩
theorem dX0_addCase_59 : Dc cX0_addCase 59 (.getfield 69) 3 62 := ⟨by decide +kernel, rfl⟩
theorem dX0_addCase_62 : Dc cX0_addCase 62 (.iload 4) 2 64 := ⟨by decide +kernel, rfl⟩
theorem dX0_addCase_64 : Dc cX0_addCase 64 (.iastore) 1 65 := ⟨by decide +kernel, rfl⟩
theorem dX0_addCase_65 : Dc cX0_addCase 65 (.aload_n 0) 1 66 := ⟨by decide +kernel, rfl⟩
theorem dX0_addCase_66 : Dc cX0_addCase 66 (.dup) 1 67 := ⟨by decide +kernel, rfl⟩
theorem dX0_addCase_67 : Dc cX0_addCase 67 (.getfield 69) 3 70 := ⟨by decide +kernel, rfl⟩
theorem dX0_addCase_70 : Dc cX0_addCase 70 (.iconst 1) 1 71 := ⟨by decide +kernel, rfl⟩
theorem dX0_addCase_71 : Dc cX0_addCase 71 (.iadd) 1 72 := ⟨by decide +kernel, rfl⟩
theorem dX0_addCase_72 : Dc cX0_addCase 72 (.putfield 69) 3 75 := ⟨by decide +kernel, rfl⟩
theorem dX0_addCase_75 : Dc cX0_addCase 75 (.return_) 1 76 := ⟨by decide +kernel, rfl⟩
section
variable {p : Program} {l : Launch} {e : Env} {s : State} {m : MethodId} {args : Array Value} {below : List Frame} {meth : Method} {c : Code} {A0 : Nat → Prop} {D : va_G} {cA : Nat → ClassId} {ad : Nat → Nat} {Z : (Nat → Nat) × (Nat → Nat)} {Q : Int → St → Prop} {b : Bool}
set_option maxHeartbeats 4000000 in
set_option maxRecDepth 100000 in
theorem t_X0_addCase (E : Ev p s m args meth c cX0_addCase 5 RX0 A0 D cA ad (NC b) Z) (hr : meth.sig.returnType = none) (x1 : Int) (x2 : Int) (x3 : Int) (x4 : Int) (σ : St) (c1 : C32 x1) (c2 : C32 x2) (c3 : C32 x3) (c4 : C32 x4) (hσ : CanS (shC b) (NC b) σ) (h : wp_X0_addCase x1 x2 x3 x4 σ Q) : G p l e (rmL 1 0 0) s m args below meth c 5 A0 D cA ad (shC b) (NC b) 0 0 (MQ below (QVc D cA ad (shC b) (NC b) Q A0) args s 0 0 A0) σ 0 [some (.ref (ad 24)), some (vI x1), some (vI x2), some (vI x3), some (vI x4)] [] := by
  unfold wp_X0_addCase at h
  refine g_iload_3 E dX0_addCase_0 ?_
  refine g_bipush E (by decide) dX0_addCase_1 ?_
  refine g_icmp_eq E c3 cl_m2 djX0_addCase_3 (fun hc => ?_) (fun hc => ?_)
  · replace h := h.1 hc
    exact g_vret E hr h hσ dX0_addCase_23
  · replace h := h.2 hc
    refine g_iload_4 E dX0_addCase_6 ?_
    refine g_bipush E (by decide) dX0_addCase_8 ?_
    refine g_icmp_eq E c4 cl_m2 djX0_addCase_10 (fun hc => ?_) (fun hc => ?_)
    · replace h := h.1 hc
      exact g_vret E hr h hσ dX0_addCase_23
    · replace h := h.2 hc
      refine g_aload_0 E dX0_addCase_13 ?_
      refine g_getI E fl_RX0_69 (kC_24 b) (sC_24 b) rfl dX0_addCase_14 ?_
      refine g_sipush E (by decide) dX0_addCase_17 ?_
      refine g_icmp_lt E (fC_24_16 hσ) cl_3360 djX0_addCase_20 (fun hc => ?_) (fun hc => ?_)
      · replace h := h.1 hc
        refine g_aload_0 E dX0_addCase_24 ?_
        refine g_getR E fl_RX0_28 (kC_24 b) (sC_24 b) rfl dX0_addCase_25 ?_
        refine g_aload_0 E dX0_addCase_28 ?_
        refine g_getI E fl_RX0_69 (kC_24 b) (sC_24 b) rfl dX0_addCase_29 ?_
        refine g_iload_1 E dX0_addCase_32 ?_
        refine g_iast E (kC_29 b) (sC_29 b) (by decide) h.1 dX0_addCase_33 (g_nmS (fun σ1 eσ1 => ?_))
        replace h := h.2 σ1 eσ1
        have hσ1 : CanS (shC b) (NC b) σ1 := by rw [eσ1]; exact wC_29 hσ c1
        refine g_aload_0 E dX0_addCase_34 ?_
        refine g_getR E fl_RX0_31 (kC_24 b) (sC_24 b) rfl dX0_addCase_35 ?_
        refine g_aload_0 E dX0_addCase_38 ?_
        refine g_getI E fl_RX0_69 (kC_24 b) (sC_24 b) rfl dX0_addCase_39 ?_
        refine g_iload_2 E dX0_addCase_42 ?_
        refine g_iast E (kC_30 b) (sC_30 b) (by decide) h.1 dX0_addCase_43 (g_nmS (fun σ2 eσ2 => ?_))
        replace h := h.2 σ2 eσ2
        have hσ2 : CanS (shC b) (NC b) σ2 := by rw [eσ2]; exact wC_30 hσ1 c2
        refine g_aload_0 E dX0_addCase_44 ?_
        refine g_getR E fl_RX0_34 (kC_24 b) (sC_24 b) rfl dX0_addCase_45 ?_
        refine g_aload_0 E dX0_addCase_48 ?_
        refine g_getI E fl_RX0_69 (kC_24 b) (sC_24 b) rfl dX0_addCase_49 ?_
        refine g_iload_3 E dX0_addCase_52 ?_
        refine g_iast E (kC_31 b) (sC_31 b) (by decide) h.1 dX0_addCase_53 (g_nmS (fun σ3 eσ3 => ?_))
        replace h := h.2 σ3 eσ3
        have hσ3 : CanS (shC b) (NC b) σ3 := by rw [eσ3]; exact wC_31 hσ2 c3
        refine g_aload_0 E dX0_addCase_54 ?_
        refine g_getR E fl_RX0_37 (kC_24 b) (sC_24 b) rfl dX0_addCase_55 ?_
        refine g_aload_0 E dX0_addCase_58 ?_
        refine g_getI E fl_RX0_69 (kC_24 b) (sC_24 b) rfl dX0_addCase_59 ?_
        refine g_iload_4 E dX0_addCase_62 ?_
        refine g_iast E (kC_32 b) (sC_32 b) (by decide) h.1 dX0_addCase_64 (g_nmS (fun σ4 eσ4 => ?_))
        replace h := h.2 σ4 eσ4
        have hσ4 : CanS (shC b) (NC b) σ4 := by rw [eσ4]; exact wC_32 hσ3 c4
        refine g_aload_0 E dX0_addCase_65 ?_
        refine g_dup E rfl dX0_addCase_66 ?_
        refine g_getI E fl_RX0_69 (kC_24 b) (sC_24 b) rfl dX0_addCase_67 ?_
        refine g_iconst E dX0_addCase_70 ?_
        refine g_iadd E dX0_addCase_71 ?_
        refine g_putI E fl_RX0_69 rfl rfl (kC_24 b) (sC_24 b) rfl dX0_addCase_72 (g_nmS (fun σ5 eσ5 => ?_))
        replace h := h σ5 eσ5
        have hσ5 : CanS (shC b) (NC b) σ5 := by rw [eσ5]; exact uC_24_16 hσ4 (c32_w _)
        exact g_vret E hr h hσ5 dX0_addCase_75
      · replace h := h.2 hc
        exact g_vret E hr h hσ dX0_addCase_23
end
theorem m_X0_addCase {Z : (Nat → Nat) × (Nat → Nat)} {l : Launch} {D : va_G} {cA : Nat → ClassId} {ad : Nat → Nat} {b : Bool} {x1 x2 x3 x4 : Int} {σ : St} {Q : Int → St → Prop} (hA : AdOk (NC b) ad) (c1 : C32 x1) (c2 : C32 x2) (c3 : C32 x3) (c4 : C32 x4) (hσ : CanS (shC b) (NC b) σ) (h : wp_X0_addCase x1 x2 x3 x4 σ Q) : KtV Z l D cA ad (shC b) (NC b) yX0_addCase cX0_addCase 5 none 1 [.ref (ad 24), vI x1, vI x2, vI x3, vI x4] σ Q :=
  KtV.of my_X0_addCase hA [some (.ref (ad 24)), some (vI x1), some (vI x2), some (vI x3), some (vI x4)] (Nat.le_of_ble_eq_true rfl) rfl (fun p e s m args below meth c A0 E hr => t_X0_addCase E hr x1 x2 x3 x4 σ c1 c2 c3 c4 hσ h)
theorem dX0_addCases_0 : Dc cX0_addCases 0 (.aload_n 0) 1 1 := ⟨by decide +kernel, rfl⟩
theorem dX0_addCases_1 : Dc cX0_addCases 1 (.getfield 19) 3 4 := ⟨by decide +kernel, rfl⟩
theorem dX0_addCases_4 : Dc cX0_addCases 4 (.iload_n 1) 1 5 := ⟨by decide +kernel, rfl⟩
theorem dX0_addCases_5 : Dc cX0_addCases 5 (.iaload) 1 6 := ⟨by decide +kernel, rfl⟩
theorem dX0_addCases_6 : Dc cX0_addCases 6 (.istore_n 3) 1 7 := ⟨by decide +kernel, rfl⟩
theorem dX0_addCases_7 : Dc cX0_addCases 7 (.aload_n 0) 1 8 := ⟨by decide +kernel, rfl⟩
theorem dX0_addCases_8 : Dc cX0_addCases 8 (.getfield 22) 3 11 := ⟨by decide +kernel, rfl⟩
theorem dX0_addCases_11 : Dc cX0_addCases 11 (.iload_n 1) 1 12 := ⟨by decide +kernel, rfl⟩
theorem dX0_addCases_12 : Dc cX0_addCases 12 (.iaload) 1 13 := ⟨by decide +kernel, rfl⟩
theorem dX0_addCases_13 : Dc cX0_addCases 13 (.istore 4) 2 15 := ⟨by decide +kernel, rfl⟩
theorem dX0_addCases_15 : Dc cX0_addCases 15 (.aload_n 0) 1 16 := ⟨by decide +kernel, rfl⟩
theorem dX0_addCases_16 : Dc cX0_addCases 16 (.getfield 9) 3 19 := ⟨by decide +kernel, rfl⟩
theorem dX0_addCases_19 : Dc cX0_addCases 19 (.getfield 105) 3 22 := ⟨by decide +kernel, rfl⟩
theorem dX0_addCases_22 : Dc cX0_addCases 22 (.iload_n 2) 1 23 := ⟨by decide +kernel, rfl⟩
theorem dX0_addCases_23 : Dc cX0_addCases 23 (.iaload) 1 24 := ⟨by decide +kernel, rfl⟩
theorem dX0_addCases_24 : Dc cX0_addCases 24 (.iconst (-1)) 1 25 := ⟨by decide +kernel, rfl⟩
theorem djX0_addCases_25 : Dj cX0_addCases 25 (.if_icmp .ne 27) 3 28 27 52 := ⟨by decide +kernel, rfl, by decide⟩
theorem dX0_addCases_28 : Dc cX0_addCases 28 (.aload_n 0) 1 29 := ⟨by decide +kernel, rfl⟩
theorem dX0_addCases_29 : Dc cX0_addCases 29 (.iload_n 2) 1 30 := ⟨by decide +kernel, rfl⟩
theorem dX0_addCases_30 : Dc cX0_addCases 30 (.iconst (-1)) 1 31 := ⟨by decide +kernel, rfl⟩
theorem dX0_addCases_31 : Dc cX0_addCases 31 (.aload_n 0) 1 32 := ⟨by decide +kernel, rfl⟩
theorem dX0_addCases_32 : Dc cX0_addCases 32 (.aload_n 0) 1 33 := ⟨by decide +kernel, rfl⟩
theorem dX0_addCases_33 : Dc cX0_addCases 33 (.getfield 9) 3 36 := ⟨by decide +kernel, rfl⟩
theorem dX0_addCases_36 : Dc cX0_addCases 36 (.getfield 106) 3 39 := ⟨by decide +kernel, rfl⟩
theorem dX0_addCases_39 : Dc cX0_addCases 39 (.iload_n 2) 1 40 := ⟨by decide +kernel, rfl⟩
theorem dX0_addCases_40 : Dc cX0_addCases 40 (.iaload) 1 41 := ⟨by decide +kernel, rfl⟩
theorem dX0_addCases_41 : Dc cX0_addCases 41 (.iload_n 3) 1 42 := ⟨by decide +kernel, rfl⟩
theorem dX0_addCases_42 : Dc cX0_addCases 42 (.iload 4) 2 44 := ⟨by decide +kernel, rfl⟩
theorem dX0_addCases_44 : Dc cX0_addCases 44 (.invokevirtual 107) 3 47 := ⟨by decide +kernel, rfl⟩
theorem dX0_addCases_47 : Dc cX0_addCases 47 (.iconst (-1)) 1 48 := ⟨by decide +kernel, rfl⟩
theorem dX0_addCases_48 : Dc cX0_addCases 48 (.invokevirtual 111) 3 51 := ⟨by decide +kernel, rfl⟩
theorem dX0_addCases_51 : Dc cX0_addCases 51 (.return_) 1 52 := ⟨by decide +kernel, rfl⟩
theorem dX0_addCases_52 : Dc cX0_addCases 52 (.iload_n 3) 1 53 := ⟨by decide +kernel, rfl⟩
theorem dX0_addCases_53 : Dc cX0_addCases 53 (.iconst 1) 1 54 := ⟨by decide +kernel, rfl⟩
theorem dX0_addCases_54 : Dc cX0_addCases 54 (.iadd) 1 55 := ⟨by decide +kernel, rfl⟩
theorem dX0_addCases_55 : Dc cX0_addCases 55 (.istore 5) 2 57 := ⟨by decide +kernel, rfl⟩
theorem dX0_addCases_57 : Dc cX0_addCases 57 (.iload 5) 2 59 := ⟨by decide +kernel, rfl⟩
theorem dX0_addCases_59 : Dc cX0_addCases 59 (.iload 4) 2 61 := ⟨by decide +kernel, rfl⟩
theorem djX0_addCases_61 : Dj cX0_addCases 61 (.if_icmp .ge 49) 3 64 49 110 := ⟨by decide +kernel, rfl, by decide⟩
theorem dX0_addCases_64 : Dc cX0_addCases 64 (.aload_n 0) 1 65 := ⟨by decide +kernel, rfl⟩
theorem dX0_addCases_65 : Dc cX0_addCases 65 (.iload_n 2) 1 66 := ⟨by decide +kernel, rfl⟩
theorem dX0_addCases_66 : Dc cX0_addCases 66 (.iload 5) 2 68 := ⟨by decide +kernel, rfl⟩
theorem dX0_addCases_68 : Dc cX0_addCases 68 (.aload_n 0) 1 69 := ⟨by decide +kernel, rfl⟩
theorem dX0_addCases_69 : Dc cX0_addCases 69 (.aload_n 0) 1 70 := ⟨by decide +kernel, rfl⟩
theorem dX0_addCases_70 : Dc cX0_addCases 70 (.getfield 9) 3 73 := ⟨by decide +kernel, rfl⟩
theorem dX0_addCases_73 : Dc cX0_addCases 73 (.getfield 106) 3 76 := ⟨by decide +kernel, rfl⟩
theorem dX0_addCases_76 : Dc cX0_addCases 76 (.iload_n 2) 1 77 := ⟨by decide +kernel, rfl⟩
theorem dX0_addCases_77 : Dc cX0_addCases 77 (.iaload) 1 78 := ⟨by decide +kernel, rfl⟩
theorem dX0_addCases_78 : Dc cX0_addCases 78 (.iload_n 3) 1 79 := ⟨by decide +kernel, rfl⟩
theorem dX0_addCases_79 : Dc cX0_addCases 79 (.iload 5) 2 81 := ⟨by decide +kernel, rfl⟩
theorem dX0_addCases_81 : Dc cX0_addCases 81 (.invokevirtual 107) 3 84 := ⟨by decide +kernel, rfl⟩
theorem dX0_addCases_84 : Dc cX0_addCases 84 (.aload_n 0) 1 85 := ⟨by decide +kernel, rfl⟩
theorem dX0_addCases_85 : Dc cX0_addCases 85 (.aload_n 0) 1 86 := ⟨by decide +kernel, rfl⟩
theorem dX0_addCases_86 : Dc cX0_addCases 86 (.getfield 9) 3 89 := ⟨by decide +kernel, rfl⟩
theorem dX0_addCases_89 : Dc cX0_addCases 89 (.getfield 105) 3 92 := ⟨by decide +kernel, rfl⟩
theorem dX0_addCases_92 : Dc cX0_addCases 92 (.iload_n 2) 1 93 := ⟨by decide +kernel, rfl⟩
theorem dX0_addCases_93 : Dc cX0_addCases 93 (.iaload) 1 94 := ⟨by decide +kernel, rfl⟩
theorem dX0_addCases_94 : Dc cX0_addCases 94 (.iload 5) 2 96 := ⟨by decide +kernel, rfl⟩
theorem dX0_addCases_96 : Dc cX0_addCases 96 (.iload 4) 2 98 := ⟨by decide +kernel, rfl⟩
theorem dX0_addCases_98 : Dc cX0_addCases 98 (.invokevirtual 107) 3 101 := ⟨by decide +kernel, rfl⟩
theorem dX0_addCases_101 : Dc cX0_addCases 101 (.invokevirtual 111) 3 104 := ⟨by decide +kernel, rfl⟩
theorem dX0_addCases_104 : Dc cX0_addCases 104 (.iinc 5 1) 3 107 := ⟨by decide +kernel, rfl⟩
theorem djX0_addCases_107 : Dj cX0_addCases 107 (.goto (-50)) 3 110 (-50) 57 := ⟨by decide +kernel, rfl, by decide⟩
theorem dX0_addCases_110 : Dc cX0_addCases 110 (.return_) 1 111 := ⟨by decide +kernel, rfl⟩
section
variable {p : Program} {l : Launch} {e : Env} {s : State} {m : MethodId} {args : Array Value} {below : List Frame} {meth : Method} {c : Code} {A0 : Nat → Prop} {D : va_G} {cA : Nat → ClassId} {ad : Nat → Nat} {Z : (Nat → Nat) × (Nat → Nat)} {Q : Int → St → Prop} {b : Bool}
set_option maxHeartbeats 4000000 in
set_option maxRecDepth 100000 in
theorem t_X0_addCases_l57 (E : Ev p s m args meth c cX0_addCases 6 RX0 A0 D cA ad (NC b) Z) (hr : meth.sig.returnType = none) : ∀ (n : Nat) (x2 : Int) (x3 : Int) (x4 : Int) (x5 : Int) (σ : St), C32 x2 → C32 x3 → C32 x4 → C32 x5 → CanS (shC b) (NC b) σ → wp_X0_addCases_l57 Q n x2 x3 x4 x5 σ → G p l e (rmL 2 0 0) s m args below meth c 6 A0 D cA ad (shC b) (NC b) 0 0 (MQ below (QVc D cA ad (shC b) (NC b) Q A0) args s 0 0 A0) σ 57 [some (.ref (ad 24)), none, some (vI x2), some (vI x3), some (vI x4), some (vI x5)] [] := by
  intro n
  induction n with
  | zero => intro _ _ _ _ _ _ _ _ _ _ h; exact h.elim
  | succ n ih =>
    intro x2 x3 x4 x5 σ c2 c3 c4 c5 hσ h
    unfold wp_X0_addCases_l57 at h
    refine g_iload_5 E dX0_addCases_57 ?_
    refine g_iload_4 E dX0_addCases_59 ?_
    refine g_icmp_ge E c5 c4 djX0_addCases_61 (fun hc => ?_) (fun hc => ?_)
    · replace h := h.1 hc
      exact g_vret E hr h hσ dX0_addCases_110
    · replace h := h.2 hc
      refine g_aload_0 E dX0_addCases_64 ?_
      refine g_iload_2 E dX0_addCases_65 ?_
      refine g_iload_5 E dX0_addCases_66 ?_
      refine g_aload_0 E dX0_addCases_68 ?_
      refine g_aload_0 E dX0_addCases_69 ?_
      refine g_getR E fl_RX0_9 (kC_24 b) (sC_24 b) rfl dX0_addCases_70 ?_
      refine g_getR E fl_RX0_106 (kC_14 b) (sC_14 b) rfl dX0_addCases_73 ?_
      refine g_iload_2 E dX0_addCases_76 ?_
      refine g_iald E (kC_16 b) (sC_16 b) (by decide) h.1 dX0_addCases_77 ?_
      replace h := h.2
      refine g_iload_3 E dX0_addCases_78 ?_
      refine g_iload_5 E dX0_addCases_79 ?_
      refine g_callvI E my_X0_partOver mi_X0_partOver msel_X0_partOver ml_RX0_107 (rm_ok (by decide) (by decide)) ⟨Nat.zero_le _, Nat.zero_le _⟩ (kC_24 b) (sC_24 b) rfl (m_X0_partOver E.2.2.1 (aC_16 hσ _) c3 c5 hσ h) rfl rfl (Nat.le_of_ble_eq_true rfl) dX0_addCases_81 (fun r8 σ9 cr8 hσ9 h => ?_)
      refine g_aload_0 E dX0_addCases_84 ?_
      refine g_aload_0 E dX0_addCases_85 ?_
      refine g_getR E fl_RX0_9 (kC_24 b) (sC_24 b) rfl dX0_addCases_86 ?_
      refine g_getR E fl_RX0_105 (kC_14 b) (sC_14 b) rfl dX0_addCases_89 ?_
      refine g_iload_2 E dX0_addCases_92 ?_
      refine g_iald E (kC_17 b) (sC_17 b) (by decide) h.1 dX0_addCases_93 ?_
      replace h := h.2
      refine g_iload_5 E dX0_addCases_94 ?_
      refine g_iload_4 E dX0_addCases_96 ?_
      refine g_callvI E my_X0_partOver mi_X0_partOver msel_X0_partOver ml_RX0_107 (rm_ok (by decide) (by decide)) ⟨Nat.zero_le _, Nat.zero_le _⟩ (kC_24 b) (sC_24 b) rfl (m_X0_partOver E.2.2.1 (aC_17 hσ9 _) c5 c4 hσ9 h) rfl rfl (Nat.le_of_ble_eq_true rfl) dX0_addCases_98 (fun r10 σ11 cr10 hσ11 h => ?_)
      refine g_callvV E my_X0_addCase mi_X0_addCase msel_X0_addCase ml_RX0_111 (rm_ok (by decide) (by decide)) ⟨Nat.zero_le _, Nat.zero_le _⟩ (kC_24 b) (sC_24 b) rfl (m_X0_addCase E.2.2.1 c2 c5 cr8 cr10 hσ11 h) rfl rfl (Nat.le_of_ble_eq_true rfl) dX0_addCases_101 (fun σ13 r12 hσ13 h => ?_)
      refine g_iinc_5 E rfl (by decide) dX0_addCases_104 (fun v14 ev14 => ?_)
      replace h := h v14 ev14
      have cv14 : C32 v14 := by rw [ev14]; exact c32_w _
      refine g_goto E djX0_addCases_107 ?_
      exact (ih x2 x3 x4 v14 σ13 c2 c3 c4 cv14 hσ13 h).weak (w_k (w_d (w_k (w_k (w_k (w_k w_n))))))
set_option maxHeartbeats 4000000 in
set_option maxRecDepth 100000 in
theorem t_X0_addCases (E : Ev p s m args meth c cX0_addCases 6 RX0 A0 D cA ad (NC b) Z) (hr : meth.sig.returnType = none) (x1 : Int) (x2 : Int) (σ : St) (c1 : C32 x1) (c2 : C32 x2) (hσ : CanS (shC b) (NC b) σ) (h : wp_X0_addCases x1 x2 σ Q) : G p l e (rmL 2 0 0) s m args below meth c 6 A0 D cA ad (shC b) (NC b) 0 0 (MQ below (QVc D cA ad (shC b) (NC b) Q A0) args s 0 0 A0) σ 0 [some (.ref (ad 24)), some (vI x1), some (vI x2), none, none, none] [] := by
  unfold wp_X0_addCases at h
  refine g_aload_0 E dX0_addCases_0 ?_
  refine g_getR E fl_RX0_19 (kC_24 b) (sC_24 b) rfl dX0_addCases_1 ?_
  refine g_iload_1 E dX0_addCases_4 ?_
  refine g_iald E (kC_26 b) (sC_26 b) (by decide) h.1 dX0_addCases_5 ?_
  replace h := h.2
  refine g_nmI (fun v1 ev1 => ?_)
  replace h := h v1 ev1
  have cv1 : C32 v1 := by rw [ev1]; exact (aC_26 hσ _)
  refine g_istore_3 E rfl (by decide) dX0_addCases_6 ?_
  refine g_aload_0 E dX0_addCases_7 ?_
  refine g_getR E fl_RX0_22 (kC_24 b) (sC_24 b) rfl dX0_addCases_8 ?_
  refine g_iload_1 E dX0_addCases_11 ?_
  refine g_iald E (kC_27 b) (sC_27 b) (by decide) h.1 dX0_addCases_12 ?_
  replace h := h.2
  refine g_nmI (fun v2 ev2 => ?_)
  replace h := h v2 ev2
  have cv2 : C32 v2 := by rw [ev2]; exact (aC_27 hσ _)
  refine g_istore_4 E rfl (by decide) dX0_addCases_13 ?_
  refine g_aload_0 E dX0_addCases_15 ?_
  refine g_getR E fl_RX0_9 (kC_24 b) (sC_24 b) rfl dX0_addCases_16 ?_
  refine g_getR E fl_RX0_105 (kC_14 b) (sC_14 b) rfl dX0_addCases_19 ?_
  refine g_iload_2 E dX0_addCases_22 ?_
  refine g_iald E (kC_17 b) (sC_17 b) (by decide) h.1 dX0_addCases_23 ?_
  replace h := h.2
  refine g_iconst E dX0_addCases_24 ?_
  refine g_icmp_ne E (aC_17 hσ _) cl_m1 djX0_addCases_25 (fun hc => ?_) (fun hc => ?_)
  · replace h := h.1 hc
    refine g_iload_3 E dX0_addCases_52 ?_
    refine g_iconst E dX0_addCases_53 ?_
    refine g_iadd E dX0_addCases_54 ?_
    refine g_nmI (fun v3 ev3 => ?_)
    replace h := h v3 ev3
    have cv3 : C32 v3 := by rw [ev3]; exact (c32_w _)
    refine g_istore_5 E rfl (by decide) dX0_addCases_55 ?_
    exact (t_X0_addCases_l57 E hr bigN x2 v1 v2 v3 σ c2 cv1 cv2 cv3 hσ h).weak (w_k (w_d (w_k (w_k (w_k (w_k w_n))))))
  · replace h := h.2 hc
    refine g_aload_0 E dX0_addCases_28 ?_
    refine g_iload_2 E dX0_addCases_29 ?_
    refine g_iconst E dX0_addCases_30 ?_
    refine g_aload_0 E dX0_addCases_31 ?_
    refine g_aload_0 E dX0_addCases_32 ?_
    refine g_getR E fl_RX0_9 (kC_24 b) (sC_24 b) rfl dX0_addCases_33 ?_
    refine g_getR E fl_RX0_106 (kC_14 b) (sC_14 b) rfl dX0_addCases_36 ?_
    refine g_iload_2 E dX0_addCases_39 ?_
    refine g_iald E (kC_16 b) (sC_16 b) (by decide) h.1 dX0_addCases_40 ?_
    replace h := h.2
    refine g_iload_3 E dX0_addCases_41 ?_
    refine g_iload_4 E dX0_addCases_42 ?_
    refine g_callvI E my_X0_partOver mi_X0_partOver msel_X0_partOver ml_RX0_107 (rm_ok (by decide) (by decide)) ⟨Nat.zero_le _, Nat.zero_le _⟩ (kC_24 b) (sC_24 b) rfl (m_X0_partOver E.2.2.1 (aC_16 hσ _) cv1 cv2 hσ h) rfl rfl (Nat.le_of_ble_eq_true rfl) dX0_addCases_44 (fun r4 σ5 cr4 hσ5 h => ?_)
    refine g_iconst E dX0_addCases_47 ?_
    refine g_callvV E my_X0_addCase mi_X0_addCase msel_X0_addCase ml_RX0_111 (rm_ok (by decide) (by decide)) ⟨Nat.zero_le _, Nat.zero_le _⟩ (kC_24 b) (sC_24 b) rfl (m_X0_addCase E.2.2.1 c2 cl_m1 cr4 cl_m1 hσ5 h) rfl rfl (Nat.le_of_ble_eq_true rfl) dX0_addCases_48 (fun σ7 r6 hσ7 h => ?_)
    exact g_vret E hr h hσ7 dX0_addCases_51
end
theorem m_X0_addCases {Z : (Nat → Nat) × (Nat → Nat)} {l : Launch} {D : va_G} {cA : Nat → ClassId} {ad : Nat → Nat} {b : Bool} {x1 x2 : Int} {σ : St} {Q : Int → St → Prop} (hA : AdOk (NC b) ad) (c1 : C32 x1) (c2 : C32 x2) (hσ : CanS (shC b) (NC b) σ) (h : wp_X0_addCases x1 x2 σ Q) : KtV Z l D cA ad (shC b) (NC b) yX0_addCases cX0_addCases 6 none 2 [.ref (ad 24), vI x1, vI x2] σ Q :=
  KtV.of my_X0_addCases hA [some (.ref (ad 24)), some (vI x1), some (vI x2), none, none, none] (Nat.le_of_ble_eq_true rfl) rfl (fun p e s m args below meth c A0 E hr => t_X0_addCases E hr x1 x2 σ c1 c2 hσ h)
theorem dX0_addSpan_0 : Dc cX0_addSpan 0 (.iconst 0) 1 1 := ⟨by decide +kernel, rfl⟩
theorem dX0_addSpan_1 : Dc cX0_addSpan 1 (.istore_n 2) 1 2 := ⟨by decide +kernel, rfl⟩
theorem dX0_addSpan_2 : Dc cX0_addSpan 2 (.iconst 0) 1 3 := ⟨by decide +kernel, rfl⟩
theorem dX0_addSpan_3 : Dc cX0_addSpan 3 (.istore_n 3) 1 4 := ⟨by decide +kernel, rfl⟩
theorem dX0_addSpan_4 : Dc cX0_addSpan 4 (.iload_n 3) 1 5 := ⟨by decide +kernel, rfl⟩
theorem dX0_addSpan_5 : Dc cX0_addSpan 5 (.aload_n 0) 1 6 := ⟨by decide +kernel, rfl⟩
theorem dX0_addSpan_6 : Dc cX0_addSpan 6 (.getfield 79) 3 9 := ⟨by decide +kernel, rfl⟩
theorem djX0_addSpan_9 : Dj cX0_addSpan 9 (.if_icmp .ge 63) 3 12 63 72 := ⟨by decide +kernel, rfl, by decide⟩
theorem dX0_addSpan_12 : Dc cX0_addSpan 12 (.aload_n 0) 1 13 := ⟨by decide +kernel, rfl⟩
theorem dX0_addSpan_13 : Dc cX0_addSpan 13 (.getfield 9) 3 16 := ⟨by decide +kernel, rfl⟩
theorem dX0_addSpan_16 : Dc cX0_addSpan 16 (.getfield 90) 3 19 := ⟨by decide +kernel, rfl⟩
theorem dX0_addSpan_19 : Dc cX0_addSpan 19 (.aload_n 0) 1 20 := ⟨by decide +kernel, rfl⟩
theorem dX0_addSpan_20 : Dc cX0_addSpan 20 (.getfield 43) 3 23 := ⟨by decide +kernel, rfl⟩
theorem dX0_addSpan_23 : Dc cX0_addSpan 23 (.iload_n 3) 1 24 := ⟨by decide +kernel, rfl⟩
theorem dX0_addSpan_24 : Dc cX0_addSpan 24 (.iaload) 1 25 := ⟨by decide +kernel, rfl⟩
theorem dX0_addSpan_25 : Dc cX0_addSpan 25 (.iaload) 1 26 := ⟨by decide +kernel, rfl⟩
theorem dX0_addSpan_26 : Dc cX0_addSpan 26 (.istore 4) 2 28 := ⟨by decide +kernel, rfl⟩
theorem dX0_addSpan_28 : Dc cX0_addSpan 28 (.iload_n 2) 1 29 := ⟨by decide +kernel, rfl⟩
theorem dX0_addSpan_29 : Dc cX0_addSpan 29 (.iload 4) 2 31 := ⟨by decide +kernel, rfl⟩
theorem djX0_addSpan_31 : Dj cX0_addSpan 31 (.if_icmp .gt 24) 3 34 24 55 := ⟨by decide +kernel, rfl, by decide⟩
theorem dX0_addSpan_34 : Dc cX0_addSpan 34 (.aload_n 0) 1 35 := ⟨by decide +kernel, rfl⟩
theorem dX0_addSpan_35 : Dc cX0_addSpan 35 (.getfield 46) 3 38 := ⟨by decide +kernel, rfl⟩
theorem dX0_addSpan_38 : Dc cX0_addSpan 38 (.iload_n 1) 1 39 := ⟨by decide +kernel, rfl⟩
theorem dX0_addSpan_39 : Dc cX0_addSpan 39 (.bipush 12) 2 41 := ⟨by decide +kernel, rfl⟩
theorem dX0_addSpan_41 : Dc cX0_addSpan 41 (.imul) 1 42 := ⟨by decide +kernel, rfl⟩
theorem dX0_addSpan_42 : Dc cX0_addSpan 42 (.iload_n 2) 1 43 := ⟨by decide +kernel, rfl⟩
theorem dX0_addSpan_43 : Dc cX0_addSpan 43 (.iadd) 1 44 := ⟨by decide +kernel, rfl⟩
theorem dX0_addSpan_44 : Dc cX0_addSpan 44 (.aload_n 0) 1 45 := ⟨by decide +kernel, rfl⟩
theorem dX0_addSpan_45 : Dc cX0_addSpan 45 (.getfield 69) 3 48 := ⟨by decide +kernel, rfl⟩
theorem dX0_addSpan_48 : Dc cX0_addSpan 48 (.iastore) 1 49 := ⟨by decide +kernel, rfl⟩
theorem dX0_addSpan_49 : Dc cX0_addSpan 49 (.iinc 2 1) 3 52 := ⟨by decide +kernel, rfl⟩
theorem djX0_addSpan_52 : Dj cX0_addSpan 52 (.goto (-24)) 3 55 (-24) 28 := ⟨by decide +kernel, rfl, by decide⟩
theorem dX0_addSpan_55 : Dc cX0_addSpan 55 (.aload_n 0) 1 56 := ⟨by decide +kernel, rfl⟩
theorem dX0_addSpan_56 : Dc cX0_addSpan 56 (.iload_n 1) 1 57 := ⟨by decide +kernel, rfl⟩
theorem dX0_addSpan_57 : Dc cX0_addSpan 57 (.aload_n 0) 1 58 := ⟨by decide +kernel, rfl⟩
theorem dX0_addSpan_58 : Dc cX0_addSpan 58 (.getfield 43) 3 61 := ⟨by decide +kernel, rfl⟩
theorem dX0_addSpan_61 : Dc cX0_addSpan 61 (.iload_n 3) 1 62 := ⟨by decide +kernel, rfl⟩
theorem dX0_addSpan_62 : Dc cX0_addSpan 62 (.iaload) 1 63 := ⟨by decide +kernel, rfl⟩
theorem dX0_addSpan_63 : Dc cX0_addSpan 63 (.invokevirtual 101) 3 66 := ⟨by decide +kernel, rfl⟩
theorem dX0_addSpan_66 : Dc cX0_addSpan 66 (.iinc 3 1) 3 69 := ⟨by decide +kernel, rfl⟩
theorem djX0_addSpan_69 : Dj cX0_addSpan 69 (.goto (-65)) 3 72 (-65) 4 := ⟨by decide +kernel, rfl, by decide⟩
theorem dX0_addSpan_72 : Dc cX0_addSpan 72 (.iload_n 2) 1 73 := ⟨by decide +kernel, rfl⟩
theorem dX0_addSpan_73 : Dc cX0_addSpan 73 (.bipush 12) 2 75 := ⟨by decide +kernel, rfl⟩
theorem djX0_addSpan_75 : Dj cX0_addSpan 75 (.if_icmp .ge 24) 3 78 24 99 := ⟨by decide +kernel, rfl, by decide⟩
theorem dX0_addSpan_78 : Dc cX0_addSpan 78 (.aload_n 0) 1 79 := ⟨by decide +kernel, rfl⟩
theorem dX0_addSpan_79 : Dc cX0_addSpan 79 (.getfield 46) 3 82 := ⟨by decide +kernel, rfl⟩
theorem dX0_addSpan_82 : Dc cX0_addSpan 82 (.iload_n 1) 1 83 := ⟨by decide +kernel, rfl⟩
theorem dX0_addSpan_83 : Dc cX0_addSpan 83 (.bipush 12) 2 85 := ⟨by decide +kernel, rfl⟩
theorem dX0_addSpan_85 : Dc cX0_addSpan 85 (.imul) 1 86 := ⟨by decide +kernel, rfl⟩
theorem dX0_addSpan_86 : Dc cX0_addSpan 86 (.iload_n 2) 1 87 := ⟨by decide +kernel, rfl⟩
theorem dX0_addSpan_87 : Dc cX0_addSpan 87 (.iadd) 1 88 := ⟨by decide +kernel, rfl⟩
theorem dX0_addSpan_88 : Dc cX0_addSpan 88 (.aload_n 0) 1 89 := ⟨by decide +kernel, rfl⟩
theorem dX0_addSpan_89 : Dc cX0_addSpan 89 (.getfield 69) 3 92 := ⟨by decide +kernel, rfl⟩
theorem dX0_addSpan_92 : Dc cX0_addSpan 92 (.iastore) 1 93 := ⟨by decide +kernel, rfl⟩
theorem dX0_addSpan_93 : Dc cX0_addSpan 93 (.iinc 2 1) 3 96 := ⟨by decide +kernel, rfl⟩
theorem djX0_addSpan_96 : Dj cX0_addSpan 96 (.goto (-24)) 3 99 (-24) 72 := ⟨by decide +kernel, rfl, by decide⟩
theorem dX0_addSpan_99 : Dc cX0_addSpan 99 (.return_) 1 100 := ⟨by decide +kernel, rfl⟩
section
variable {p : Program} {l : Launch} {e : Env} {s : State} {m : MethodId} {args : Array Value} {below : List Frame} {meth : Method} {c : Code} {A0 : Nat → Prop} {D : va_G} {cA : Nat → ClassId} {ad : Nat → Nat} {Z : (Nat → Nat) × (Nat → Nat)} {Q : Int → St → Prop} {b : Bool}
set_option maxHeartbeats 4000000 in
set_option maxRecDepth 100000 in
theorem t_X0_addSpan_l28 (E : Ev p s m args meth c cX0_addSpan 5 RX0 A0 D cA ad (NC b) Z) (hr : meth.sig.returnType = none) {K4 : Int → Int → Int → St → Prop} (hK4 : ∀ (x1 : Int) (x2 : Int) (x3 : Int) (σ : St), C32 x1 → C32 x2 → C32 x3 → CanS (shC b) (NC b) σ → K4 x1 x2 x3 σ → G p l e (rmL 3 0 0) s m args below meth c 5 A0 D cA ad (shC b) (NC b) 0 0 (MQ below (QVc D cA ad (shC b) (NC b) Q A0) args s 0 0 A0) σ 4 [some (.ref (ad 24)), some (vI x1), some (vI x2), some (vI x3), none] []) : ∀ (n : Nat) (x1 : Int) (x2 : Int) (x3 : Int) (x4 : Int) (σ : St), C32 x1 → C32 x2 → C32 x3 → C32 x4 → CanS (shC b) (NC b) σ → wp_X0_addSpan_l28 Q K4 n x1 x2 x3 x4 σ → G p l e (rmL 3 0 0) s m args below meth c 5 A0 D cA ad (shC b) (NC b) 0 0 (MQ below (QVc D cA ad (shC b) (NC b) Q A0) args s 0 0 A0) σ 28 [some (.ref (ad 24)), some (vI x1), some (vI x2), some (vI x3), some (vI x4)] [] := by
  intro n
  induction n with
  | zero => intro _ _ _ _ _ _ _ _ _ _ h; exact h.elim
  | succ n ih =>
    intro x1 x2 x3 x4 σ c1 c2 c3 c4 hσ h
    unfold wp_X0_addSpan_l28 at h
    refine g_iload_2 E dX0_addSpan_28 ?_
    refine g_iload_4 E dX0_addSpan_29 ?_
    refine g_icmp_gt E c2 c4 djX0_addSpan_31 (fun hc => ?_) (fun hc => ?_)
    · replace h := h.1 hc
      refine g_aload_0 E dX0_addSpan_55 ?_
      refine g_iload_1 E dX0_addSpan_56 ?_
      refine g_aload_0 E dX0_addSpan_57 ?_
      refine g_getR E fl_RX0_43 (kC_24 b) (sC_24 b) rfl dX0_addSpan_58 ?_
      refine g_iload_3 E dX0_addSpan_61 ?_
      refine g_iald E (kC_34 b) (sC_34 b) (by decide) h.1 dX0_addSpan_62 ?_
      replace h := h.2
      refine g_callvV E my_X0_addCases mi_X0_addCases msel_X0_addCases ml_RX0_101 (rm_ok (by decide) (by decide)) ⟨Nat.zero_le _, Nat.zero_le _⟩ (kC_24 b) (sC_24 b) rfl (m_X0_addCases E.2.2.1 c1 (aC_34 hσ _) hσ h) rfl rfl (Nat.le_of_ble_eq_true rfl) dX0_addSpan_63 (fun σ5 r4 hσ5 h => ?_)
      refine g_iinc_3 E rfl (by decide) dX0_addSpan_66 (fun v6 ev6 => ?_)
      replace h := h v6 ev6
      have cv6 : C32 v6 := by rw [ev6]; exact c32_w _
      refine g_goto E djX0_addSpan_69 ?_
      exact (hK4 x1 x2 v6 σ5 c1 c2 cv6 hσ5 h).weak (w_k (w_k (w_k (w_k (w_d w_n)))))
    · replace h := h.2 hc
      refine g_aload_0 E dX0_addSpan_34 ?_
      refine g_getR E fl_RX0_46 (kC_24 b) (sC_24 b) rfl dX0_addSpan_35 ?_
      refine g_iload_1 E dX0_addSpan_38 ?_
      refine g_bipush E (by decide) dX0_addSpan_39 ?_
      refine g_imul E dX0_addSpan_41 ?_
      refine g_iload_2 E dX0_addSpan_42 ?_
      refine g_iadd E dX0_addSpan_43 ?_
      refine g_aload_0 E dX0_addSpan_44 ?_
      refine g_getI E fl_RX0_69 (kC_24 b) (sC_24 b) rfl dX0_addSpan_45 ?_
      refine g_iast E (kC_35 b) (sC_35 b) (by decide) h.1 dX0_addSpan_48 (g_nmS (fun σ7 eσ7 => ?_))
      replace h := h.2 σ7 eσ7
      have hσ7 : CanS (shC b) (NC b) σ7 := by rw [eσ7]; exact wC_35 hσ (fC_24_16 hσ)
      refine g_iinc_2 E rfl (by decide) dX0_addSpan_49 (fun v8 ev8 => ?_)
      replace h := h v8 ev8
      have cv8 : C32 v8 := by rw [ev8]; exact c32_w _
      refine g_goto E djX0_addSpan_52 ?_
      exact (ih x1 v8 x3 x4 σ7 c1 cv8 c3 c4 hσ7 h).weak (w_k (w_k (w_k (w_k (w_k w_n)))))
set_option maxHeartbeats 4000000 in
set_option maxRecDepth 100000 in
theorem t_X0_addSpan_l72 (E : Ev p s m args meth c cX0_addSpan 5 RX0 A0 D cA ad (NC b) Z) (hr : meth.sig.returnType = none) : ∀ (n : Nat) (x1 : Int) (x2 : Int) (σ : St), C32 x1 → C32 x2 → CanS (shC b) (NC b) σ → wp_X0_addSpan_l72 Q n x1 x2 σ → G p l e (rmL 3 0 0) s m args below meth c 5 A0 D cA ad (shC b) (NC b) 0 0 (MQ below (QVc D cA ad (shC b) (NC b) Q A0) args s 0 0 A0) σ 72 [some (.ref (ad 24)), some (vI x1), some (vI x2), none, none] [] := by
  intro n
  induction n with
  | zero => intro _ _ _ _ _ _ h; exact h.elim
  | succ n ih =>
    intro x1 x2 σ c1 c2 hσ h
    unfold wp_X0_addSpan_l72 at h
    refine g_iload_2 E dX0_addSpan_72 ?_
    refine g_bipush E (by decide) dX0_addSpan_73 ?_
    refine g_icmp_ge E c2 cl_12 djX0_addSpan_75 (fun hc => ?_) (fun hc => ?_)
    · replace h := h.1 hc
      exact g_vret E hr h hσ dX0_addSpan_99
    · replace h := h.2 hc
      refine g_aload_0 E dX0_addSpan_78 ?_
      refine g_getR E fl_RX0_46 (kC_24 b) (sC_24 b) rfl dX0_addSpan_79 ?_
      refine g_iload_1 E dX0_addSpan_82 ?_
      refine g_bipush E (by decide) dX0_addSpan_83 ?_
      refine g_imul E dX0_addSpan_85 ?_
      refine g_iload_2 E dX0_addSpan_86 ?_
      refine g_iadd E dX0_addSpan_87 ?_
      refine g_aload_0 E dX0_addSpan_88 ?_
      refine g_getI E fl_RX0_69 (kC_24 b) (sC_24 b) rfl dX0_addSpan_89 ?_
      refine g_iast E (kC_35 b) (sC_35 b) (by decide) h.1 dX0_addSpan_92 (g_nmS (fun σ2 eσ2 => ?_))
      replace h := h.2 σ2 eσ2
      have hσ2 : CanS (shC b) (NC b) σ2 := by rw [eσ2]; exact wC_35 hσ (fC_24_16 hσ)
      refine g_iinc_2 E rfl (by decide) dX0_addSpan_93 (fun v3 ev3 => ?_)
      replace h := h v3 ev3
      have cv3 : C32 v3 := by rw [ev3]; exact c32_w _
      refine g_goto E djX0_addSpan_96 ?_
      exact (ih x1 v3 σ2 c1 cv3 hσ2 h).weak (w_k (w_k (w_k (w_d (w_d w_n)))))
set_option maxHeartbeats 4000000 in
set_option maxRecDepth 100000 in
theorem t_X0_addSpan_l4 (E : Ev p s m args meth c cX0_addSpan 5 RX0 A0 D cA ad (NC b) Z) (hr : meth.sig.returnType = none) : ∀ (n : Nat) (x1 : Int) (x2 : Int) (x3 : Int) (σ : St), C32 x1 → C32 x2 → C32 x3 → CanS (shC b) (NC b) σ → wp_X0_addSpan_l4 Q n x1 x2 x3 σ → G p l e (rmL 3 0 0) s m args below meth c 5 A0 D cA ad (shC b) (NC b) 0 0 (MQ below (QVc D cA ad (shC b) (NC b) Q A0) args s 0 0 A0) σ 4 [some (.ref (ad 24)), some (vI x1), some (vI x2), some (vI x3), none] [] := by
  intro n
  induction n with
  | zero => intro _ _ _ _ _ _ _ _ h; exact h.elim
  | succ n ih =>
    intro x1 x2 x3 σ c1 c2 c3 hσ h
    unfold wp_X0_addSpan_l4 at h
    refine g_iload_3 E dX0_addSpan_4 ?_
    refine g_aload_0 E dX0_addSpan_5 ?_
    refine g_getI E fl_RX0_79 (kC_24 b) (sC_24 b) rfl dX0_addSpan_6 ?_
    refine g_icmp_ge E c3 (fC_24_14 hσ) djX0_addSpan_9 (fun hc => ?_) (fun hc => ?_)
    · replace h := h.1 hc
      exact (t_X0_addSpan_l72 E hr bigN x1 x2 σ c1 c2 hσ h).weak (w_k (w_k (w_k (w_d (w_d w_n)))))
    · replace h := h.2 hc
      refine g_aload_0 E dX0_addSpan_12 ?_
      refine g_getR E fl_RX0_9 (kC_24 b) (sC_24 b) rfl dX0_addSpan_13 ?_
      refine g_getR E fl_RX0_90 (kC_14 b) (sC_14 b) rfl dX0_addSpan_16 ?_
      refine g_aload_0 E dX0_addSpan_19 ?_
      refine g_getR E fl_RX0_43 (kC_24 b) (sC_24 b) rfl dX0_addSpan_20 ?_
      refine g_iload_3 E dX0_addSpan_23 ?_
      refine g_iald E (kC_34 b) (sC_34 b) (by decide) h.1 dX0_addSpan_24 ?_
      replace h := h.2
      refine g_iald E (kC_15 b) (sC_15 b) (by decide) h.1 dX0_addSpan_25 ?_
      replace h := h.2
      refine g_nmI (fun v1 ev1 => ?_)
      replace h := h v1 ev1
      have cv1 : C32 v1 := by rw [ev1]; exact (aC_15 hσ _)
      refine g_istore_4 E rfl (by decide) dX0_addSpan_26 ?_
      exact (t_X0_addSpan_l28 E hr ih bigN x1 x2 x3 v1 σ c1 c2 c3 cv1 hσ h).weak (w_k (w_k (w_k (w_k (w_k w_n)))))
set_option maxHeartbeats 4000000 in
set_option maxRecDepth 100000 in
theorem t_X0_addSpan (E : Ev p s m args meth c cX0_addSpan 5 RX0 A0 D cA ad (NC b) Z) (hr : meth.sig.returnType = none) (x1 : Int) (σ : St) (c1 : C32 x1) (hσ : CanS (shC b) (NC b) σ) (h : wp_X0_addSpan x1 σ Q) : G p l e (rmL 3 0 0) s m args below meth c 5 A0 D cA ad (shC b) (NC b) 0 0 (MQ below (QVc D cA ad (shC b) (NC b) Q A0) args s 0 0 A0) σ 0 [some (.ref (ad 24)), some (vI x1), none, none, none] [] := by
  unfold wp_X0_addSpan at h
  refine g_iconst E dX0_addSpan_0 ?_
  refine g_istore_2 E rfl (by decide) dX0_addSpan_1 ?_
  refine g_iconst E dX0_addSpan_2 ?_
  refine g_istore_3 E rfl (by decide) dX0_addSpan_3 ?_
  exact (t_X0_addSpan_l4 E hr bigN x1 0 0 σ c1 cl_0 cl_0 hσ h).weak (w_k (w_k (w_k (w_k (w_d w_n)))))
end
theorem m_X0_addSpan {Z : (Nat → Nat) × (Nat → Nat)} {l : Launch} {D : va_G} {cA : Nat → ClassId} {ad : Nat → Nat} {b : Bool} {x1 : Int} {σ : St} {Q : Int → St → Prop} (hA : AdOk (NC b) ad) (c1 : C32 x1) (hσ : CanS (shC b) (NC b) σ) (h : wp_X0_addSpan x1 σ Q) : KtV Z l D cA ad (shC b) (NC b) yX0_addSpan cX0_addSpan 5 none 3 [.ref (ad 24), vI x1] σ Q :=
  KtV.of my_X0_addSpan hA [some (.ref (ad 24)), some (vI x1), none, none, none] (Nat.le_of_ble_eq_true rfl) rfl (fun p e s m args below meth c A0 E hr => t_X0_addSpan E hr x1 σ c1 hσ h)
theorem dX0_build_0 : Dc cX0_build 0 (.aload_n 0) 1 1 := ⟨by decide +kernel, rfl⟩
theorem dX0_build_1 : Dc cX0_build 1 (.getfield 59) 3 4 := ⟨by decide +kernel, rfl⟩
theorem djX0_build_4 : Dj cX0_build 4 (.ifCond .eq 4) 3 7 4 8 := ⟨by decide +kernel, rfl, by decide⟩
theorem dX0_build_7 : Dc cX0_build 7 (.return_) 1 8 := ⟨by decide +kernel, rfl⟩
theorem dX0_build_8 : Dc cX0_build 8 (.aload_n 0) 1 9 := ⟨by decide +kernel, rfl⟩
theorem dX0_build_9 : Dc cX0_build 9 (.iconst 1) 1 10 := ⟨by decide +kernel, rfl⟩
theorem dX0_build_10 : Dc cX0_build 10 (.putfield 59) 3 13 := ⟨by decide +kernel, rfl⟩
theorem dX0_build_13 : Dc cX0_build 13 (.aload_n 0) 1 14 := ⟨by decide +kernel, rfl⟩
theorem dX0_build_14 : Dc cX0_build 14 (.invokevirtual 63) 3 17 := ⟨by decide +kernel, rfl⟩
theorem dX0_build_17 : Dc cX0_build 17 (.aload_n 0) 1 18 := ⟨by decide +kernel, rfl⟩
theorem dX0_build_18 : Dc cX0_build 18 (.invokevirtual 66) 3 21 := ⟨by decide +kernel, rfl⟩
theorem dX0_build_21 : Dc cX0_build 21 (.aload_n 0) 1 22 := ⟨by decide +kernel, rfl⟩
theorem dX0_build_22 : Dc cX0_build 22 (.iconst 0) 1 23 := ⟨by decide +kernel, rfl⟩
theorem dX0_build_23 : Dc cX0_build 23 (.putfield 69) 3 26 := ⟨by decide +kernel, rfl⟩
theorem dX0_build_26 : Dc cX0_build 26 (.iconst 0) 1 27 := ⟨by decide +kernel, rfl⟩
theorem dX0_build_27 : Dc cX0_build 27 (.istore_n 1) 1 28 := ⟨by decide +kernel, rfl⟩
theorem dX0_build_28 : Dc cX0_build 28 (.iload_n 1) 1 29 := ⟨by decide +kernel, rfl⟩
theorem dX0_build_29 : Dc cX0_build 29 (.aload_n 0) 1 30 := ⟨by decide +kernel, rfl⟩
theorem dX0_build_30 : Dc cX0_build 30 (.getfield 72) 3 33 := ⟨by decide +kernel, rfl⟩
theorem djX0_build_33 : Dj cX0_build 33 (.if_icmp .ge 14) 3 36 14 47 := ⟨by decide +kernel, rfl, by decide⟩
theorem dX0_build_36 : Dc cX0_build 36 (.aload_n 0) 1 37 := ⟨by decide +kernel, rfl⟩
theorem dX0_build_37 : Dc cX0_build 37 (.iload_n 1) 1 38 := ⟨by decide +kernel, rfl⟩
theorem dX0_build_38 : Dc cX0_build 38 (.invokevirtual 75) 3 41 := ⟨by decide +kernel, rfl⟩
theorem dX0_build_41 : Dc cX0_build 41 (.iinc 1 1) 3 44 := ⟨by decide +kernel, rfl⟩
theorem djX0_build_44 : Dj cX0_build 44 (.goto (-16)) 3 47 (-16) 28 := ⟨by decide +kernel, rfl, by decide⟩
theorem dX0_build_47 : Dc cX0_build 47 (.aload_n 0) 1 48 := ⟨by decide +kernel, rfl⟩
theorem dX0_build_48 : Dc cX0_build 48 (.getfield 46) 3 51 := ⟨by decide +kernel, rfl⟩
theorem dX0_build_51 : Dc cX0_build 51 (.aload_n 0) 1 52 := ⟨by decide +kernel, rfl⟩
theorem dX0_build_52 : Dc cX0_build 52 (.getfield 72) 3 55 := ⟨by decide +kernel, rfl⟩
theorem dX0_build_55 : Dc cX0_build 55 (.bipush 12) 2 57 := ⟨by decide +kernel, rfl⟩
theorem dX0_build_57 : Dc cX0_build 57 (.imul) 1 58 := ⟨by decide +kernel, rfl⟩
theorem dX0_build_58 : Dc cX0_build 58 (.aload_n 0) 1 59 := ⟨by decide +kernel, rfl⟩
theorem dX0_build_59 : Dc cX0_build 59 (.getfield 69) 3 62 := ⟨by decide +kernel, rfl⟩
theorem dX0_build_62 : Dc cX0_build 62 (.iastore) 1 63 := ⟨by decide +kernel, rfl⟩
theorem dX0_build_63 : Dc cX0_build 63 (.return_) 1 64 := ⟨by decide +kernel, rfl⟩
section
variable {p : Program} {l : Launch} {e : Env} {s : State} {m : MethodId} {args : Array Value} {below : List Frame} {meth : Method} {c : Code} {A0 : Nat → Prop} {D : va_G} {cA : Nat → ClassId} {ad : Nat → Nat} {Z : (Nat → Nat) × (Nat → Nat)} {Q : Int → St → Prop} {b : Bool}
set_option maxHeartbeats 4000000 in
set_option maxRecDepth 100000 in
theorem t_X0_build_l28 (E : Ev p s m args meth c cX0_build 2 RX0 A0 D cA ad (NC b) Z) (hr : meth.sig.returnType = none) : ∀ (n : Nat) (x1 : Int) (σ : St), C32 x1 → CanS (shC b) (NC b) σ → wp_X0_build_l28 Q n x1 σ → G p l e (rmL 4 0 0) s m args below meth c 2 A0 D cA ad (shC b) (NC b) 0 0 (MQ below (QVc D cA ad (shC b) (NC b) Q A0) args s 0 0 A0) σ 28 [some (.ref (ad 24)), some (vI x1)] [] := by
  intro n
  induction n with
  | zero => intro _ _ _ _ h; exact h.elim
  | succ n ih =>
    intro x1 σ c1 hσ h
    unfold wp_X0_build_l28 at h
    refine g_iload_1 E dX0_build_28 ?_
    refine g_aload_0 E dX0_build_29 ?_
    refine g_getI E fl_RX0_72 (kC_24 b) (sC_24 b) rfl dX0_build_30 ?_
    refine g_icmp_ge E c1 (fC_24_3 hσ) djX0_build_33 (fun hc => ?_) (fun hc => ?_)
    · replace h := h.1 hc
      refine g_aload_0 E dX0_build_47 ?_
      refine g_getR E fl_RX0_46 (kC_24 b) (sC_24 b) rfl dX0_build_48 ?_
      refine g_aload_0 E dX0_build_51 ?_
      refine g_getI E fl_RX0_72 (kC_24 b) (sC_24 b) rfl dX0_build_52 ?_
      refine g_bipush E (by decide) dX0_build_55 ?_
      refine g_imul E dX0_build_57 ?_
      refine g_aload_0 E dX0_build_58 ?_
      refine g_getI E fl_RX0_69 (kC_24 b) (sC_24 b) rfl dX0_build_59 ?_
      refine g_iast E (kC_35 b) (sC_35 b) (by decide) h.1 dX0_build_62 (g_nmS (fun σ7 eσ7 => ?_))
      replace h := h.2 σ7 eσ7
      have hσ7 : CanS (shC b) (NC b) σ7 := by rw [eσ7]; exact wC_35 hσ (fC_24_16 hσ)
      exact g_vret E hr h hσ7 dX0_build_63
    · replace h := h.2 hc
      refine g_aload_0 E dX0_build_36 ?_
      refine g_iload_1 E dX0_build_37 ?_
      refine g_callvV E my_X0_addSpan mi_X0_addSpan msel_X0_addSpan ml_RX0_75 (rm_ok (by decide) (by decide)) ⟨Nat.zero_le _, Nat.zero_le _⟩ (kC_24 b) (sC_24 b) rfl (m_X0_addSpan E.2.2.1 c1 hσ h) rfl rfl (Nat.le_of_ble_eq_true rfl) dX0_build_38 (fun σ9 r8 hσ9 h => ?_)
      refine g_iinc_1 E rfl (by decide) dX0_build_41 (fun v10 ev10 => ?_)
      replace h := h v10 ev10
      have cv10 : C32 v10 := by rw [ev10]; exact c32_w _
      refine g_goto E djX0_build_44 ?_
      exact (ih v10 σ9 cv10 hσ9 h).weak (w_k (w_k w_n))
set_option maxHeartbeats 4000000 in
set_option maxRecDepth 100000 in
theorem t_X0_build (E : Ev p s m args meth c cX0_build 2 RX0 A0 D cA ad (NC b) Z) (hr : meth.sig.returnType = none) (σ : St) (hσ : CanS (shC b) (NC b) σ) (h : wp_X0_build  σ Q) : G p l e (rmL 4 0 0) s m args below meth c 2 A0 D cA ad (shC b) (NC b) 0 0 (MQ below (QVc D cA ad (shC b) (NC b) Q A0) args s 0 0 A0) σ 0 [some (.ref (ad 24)), none] [] := by
  unfold wp_X0_build at h
  refine g_aload_0 E dX0_build_0 ?_
  refine g_getI E fl_RX0_59 (kC_24 b) (sC_24 b) rfl dX0_build_1 ?_
  refine g_if_eq E (fC_24_17 hσ) djX0_build_4 (fun hc => ?_) (fun hc => ?_)
  · replace h := h.1 hc
    refine g_aload_0 E dX0_build_8 ?_
    refine g_iconst E dX0_build_9 ?_
    refine g_putZ E fl_RX0_59 rfl rfl (Or.inr rfl) (kC_24 b) (sC_24 b) rfl dX0_build_10 (g_nmS (fun σ1 eσ1 => ?_))
    replace h := h σ1 eσ1
    have hσ1 : CanS (shC b) (NC b) σ1 := by rw [eσ1]; exact uC_24_17 hσ cl_1
    refine g_aload_0 E dX0_build_13 ?_
    refine g_callvV E my_X0_layOutSpans mi_X0_layOutSpans msel_X0_layOutSpans ml_RX0_63 (rm_ok (by decide) (by decide)) ⟨Nat.zero_le _, Nat.zero_le _⟩ (kC_24 b) (sC_24 b) rfl (m_X0_layOutSpans E.2.2.1 hσ1 h) rfl rfl (Nat.le_of_ble_eq_true rfl) dX0_build_14 (fun σ3 r2 hσ3 h => ?_)
    refine g_aload_0 E dX0_build_17 ?_
    refine g_callvV E my_X0_gatherLive mi_X0_gatherLive msel_X0_gatherLive ml_RX0_66 (rm_ok (by decide) (by decide)) ⟨Nat.zero_le _, Nat.zero_le _⟩ (kC_24 b) (sC_24 b) rfl (m_X0_gatherLive E.2.2.1 hσ3 h) rfl rfl (Nat.le_of_ble_eq_true rfl) dX0_build_18 (fun σ5 r4 hσ5 h => ?_)
    refine g_aload_0 E dX0_build_21 ?_
    refine g_iconst E dX0_build_22 ?_
    refine g_putI E fl_RX0_69 rfl rfl (kC_24 b) (sC_24 b) rfl dX0_build_23 (g_nmS (fun σ6 eσ6 => ?_))
    replace h := h σ6 eσ6
    have hσ6 : CanS (shC b) (NC b) σ6 := by rw [eσ6]; exact uC_24_16 hσ5 cl_0
    refine g_iconst E dX0_build_26 ?_
    refine g_istore_1 E rfl (by decide) dX0_build_27 ?_
    exact (t_X0_build_l28 E hr bigN 0 σ6 cl_0 hσ6 h).weak (w_k (w_k w_n))
  · replace h := h.2 hc
    exact g_vret E hr h hσ dX0_build_7
end
theorem m_X0_build {Z : (Nat → Nat) × (Nat → Nat)} {l : Launch} {D : va_G} {cA : Nat → ClassId} {ad : Nat → Nat} {b : Bool} {σ : St} {Q : Int → St → Prop} (hA : AdOk (NC b) ad) (hσ : CanS (shC b) (NC b) σ) (h : wp_X0_build  σ Q) : KtV Z l D cA ad (shC b) (NC b) yX0_build cX0_build 2 none 4 [.ref (ad 24)] σ Q :=
  KtV.of my_X0_build hA [some (.ref (ad 24)), none] (Nat.le_of_ble_eq_true rfl) rfl (fun p e s m args below meth c A0 E hr => t_X0_build E hr σ hσ h)
theorem dX0_caseStart_0 : Dc cX0_caseStart 0 (.aload_n 0) 1 1 := ⟨by decide +kernel, rfl⟩
theorem dX0_caseStart_1 : Dc cX0_caseStart 1 (.getfield 46) 3 4 := ⟨by decide +kernel, rfl⟩
theorem dX0_caseStart_4 : Dc cX0_caseStart 4 (.iload_n 1) 1 5 := ⟨by decide +kernel, rfl⟩
theorem dX0_caseStart_5 : Dc cX0_caseStart 5 (.iaload) 1 6 := ⟨by decide +kernel, rfl⟩
theorem dX0_caseStart_6 : Dc cX0_caseStart 6 (.ireturn) 1 7 := ⟨by decide +kernel, rfl⟩
section
variable {p : Program} {l : Launch} {e : Env} {s : State} {m : MethodId} {args : Array Value} {below : List Frame} {meth : Method} {c : Code} {A0 : Nat → Prop} {D : va_G} {cA : Nat → ClassId} {ad : Nat → Nat} {Z : (Nat → Nat) × (Nat → Nat)} {Q : Int → St → Prop} {b : Bool}
set_option maxHeartbeats 4000000 in
set_option maxRecDepth 100000 in
theorem t_X0_caseStart (E : Ev p s m args meth c cX0_caseStart 2 RX0 A0 D cA ad (NC b) Z) (hr : meth.sig.returnType = (some .int)) (x1 : Int) (σ : St) (c1 : C32 x1) (hσ : CanS (shC b) (NC b) σ) (h : wp_X0_caseStart x1 σ Q) : G p l e (rmL 1 0 0) s m args below meth c 2 A0 D cA ad (shC b) (NC b) 0 0 (MQ below (QIc D cA ad (shC b) (NC b) Q A0) args s 0 0 A0) σ 0 [some (.ref (ad 24)), some (vI x1)] [] := by
  unfold wp_X0_caseStart at h
  refine g_aload_0 E dX0_caseStart_0 ?_
  refine g_getR E fl_RX0_46 (kC_24 b) (sC_24 b) rfl dX0_caseStart_1 ?_
  refine g_iload_1 E dX0_caseStart_4 ?_
  refine g_iald E (kC_35 b) (sC_35 b) (by decide) h.1 dX0_caseStart_5 ?_
  replace h := h.2
  exact g_iret E hr (aC_35 hσ _) h hσ dX0_caseStart_6
end
theorem m_X0_caseStart {Z : (Nat → Nat) × (Nat → Nat)} {l : Launch} {D : va_G} {cA : Nat → ClassId} {ad : Nat → Nat} {b : Bool} {x1 : Int} {σ : St} {Q : Int → St → Prop} (hA : AdOk (NC b) ad) (c1 : C32 x1) (hσ : CanS (shC b) (NC b) σ) (h : wp_X0_caseStart x1 σ Q) : KtI Z l D cA ad (shC b) (NC b) yX0_caseStart cX0_caseStart 2 (some .int) 1 [.ref (ad 24), vI x1] σ Q :=
  KtI.of my_X0_caseStart hA [some (.ref (ad 24)), some (vI x1)] (Nat.le_of_ble_eq_true rfl) rfl (fun p e s m args below meth c A0 E hr => t_X0_caseStart E hr x1 σ c1 hσ h)
theorem dX0_caseEnd_0 : Dc cX0_caseEnd 0 (.aload_n 0) 1 1 := ⟨by decide +kernel, rfl⟩
theorem dX0_caseEnd_1 : Dc cX0_caseEnd 1 (.getfield 46) 3 4 := ⟨by decide +kernel, rfl⟩
theorem dX0_caseEnd_4 : Dc cX0_caseEnd 4 (.iload_n 1) 1 5 := ⟨by decide +kernel, rfl⟩
theorem dX0_caseEnd_5 : Dc cX0_caseEnd 5 (.iconst 1) 1 6 := ⟨by decide +kernel, rfl⟩
theorem dX0_caseEnd_6 : Dc cX0_caseEnd 6 (.iadd) 1 7 := ⟨by decide +kernel, rfl⟩
theorem dX0_caseEnd_7 : Dc cX0_caseEnd 7 (.iaload) 1 8 := ⟨by decide +kernel, rfl⟩
theorem dX0_caseEnd_8 : Dc cX0_caseEnd 8 (.ireturn) 1 9 := ⟨by decide +kernel, rfl⟩
section
variable {p : Program} {l : Launch} {e : Env} {s : State} {m : MethodId} {args : Array Value} {below : List Frame} {meth : Method} {c : Code} {A0 : Nat → Prop} {D : va_G} {cA : Nat → ClassId} {ad : Nat → Nat} {Z : (Nat → Nat) × (Nat → Nat)} {Q : Int → St → Prop} {b : Bool}
set_option maxHeartbeats 4000000 in
set_option maxRecDepth 100000 in
theorem t_X0_caseEnd (E : Ev p s m args meth c cX0_caseEnd 2 RX0 A0 D cA ad (NC b) Z) (hr : meth.sig.returnType = (some .int)) (x1 : Int) (σ : St) (c1 : C32 x1) (hσ : CanS (shC b) (NC b) σ) (h : wp_X0_caseEnd x1 σ Q) : G p l e (rmL 1 0 0) s m args below meth c 2 A0 D cA ad (shC b) (NC b) 0 0 (MQ below (QIc D cA ad (shC b) (NC b) Q A0) args s 0 0 A0) σ 0 [some (.ref (ad 24)), some (vI x1)] [] := by
  unfold wp_X0_caseEnd at h
  refine g_aload_0 E dX0_caseEnd_0 ?_
  refine g_getR E fl_RX0_46 (kC_24 b) (sC_24 b) rfl dX0_caseEnd_1 ?_
  refine g_iload_1 E dX0_caseEnd_4 ?_
  refine g_iconst E dX0_caseEnd_5 ?_
  refine g_iadd E dX0_caseEnd_6 ?_
  refine g_iald E (kC_35 b) (sC_35 b) (by decide) h.1 dX0_caseEnd_7 ?_
  replace h := h.2
  exact g_iret E hr (aC_35 hσ _) h hσ dX0_caseEnd_8
end
theorem m_X0_caseEnd {Z : (Nat → Nat) × (Nat → Nat)} {l : Launch} {D : va_G} {cA : Nat → ClassId} {ad : Nat → Nat} {b : Bool} {x1 : Int} {σ : St} {Q : Int → St → Prop} (hA : AdOk (NC b) ad) (c1 : C32 x1) (hσ : CanS (shC b) (NC b) σ) (h : wp_X0_caseEnd x1 σ Q) : KtI Z l D cA ad (shC b) (NC b) yX0_caseEnd cX0_caseEnd 2 (some .int) 1 [.ref (ad 24), vI x1] σ Q :=
  KtI.of my_X0_caseEnd hA [some (.ref (ad 24)), some (vI x1)] (Nat.le_of_ble_eq_true rfl) rfl (fun p e s m args below meth c A0 E hr => t_X0_caseEnd E hr x1 σ c1 hσ h)
theorem dX0_goesOn_0 : Dc cX0_goesOn 0 (.aload_n 0) 1 1 := ⟨by decide +kernel, rfl⟩
theorem dX0_goesOn_1 : Dc cX0_goesOn 1 (.getfield 31) 3 4 := ⟨by decide +kernel, rfl⟩
theorem dX0_goesOn_4 : Dc cX0_goesOn 4 (.iload_n 1) 1 5 := ⟨by decide +kernel, rfl⟩
theorem dX0_goesOn_5 : Dc cX0_goesOn 5 (.iaload) 1 6 := ⟨by decide +kernel, rfl⟩
theorem dX0_goesOn_6 : Dc cX0_goesOn 6 (.iconst (-1)) 1 7 := ⟨by decide +kernel, rfl⟩
theorem djX0_goesOn_7 : Dj cX0_goesOn 7 (.if_icmp .ne 16) 3 10 16 23 := ⟨by decide +kernel, rfl, by decide⟩
theorem dX0_goesOn_10 : Dc cX0_goesOn 10 (.aload_n 0) 1 11 := ⟨by decide +kernel, rfl⟩
theorem dX0_goesOn_11 : Dc cX0_goesOn 11 (.getfield 34) 3 14 := ⟨by decide +kernel, rfl⟩
theorem dX0_goesOn_14 : Dc cX0_goesOn 14 (.iload_n 1) 1 15 := ⟨by decide +kernel, rfl⟩
theorem dX0_goesOn_15 : Dc cX0_goesOn 15 (.iaload) 1 16 := ⟨by decide +kernel, rfl⟩
theorem djX0_goesOn_16 : Dj cX0_goesOn 16 (.ifCond .lt 7) 3 19 7 23 := ⟨by decide +kernel, rfl, by decide⟩
theorem dX0_goesOn_19 : Dc cX0_goesOn 19 (.iconst 1) 1 20 := ⟨by decide +kernel, rfl⟩
theorem djX0_goesOn_20 : Dj cX0_goesOn 20 (.goto 4) 3 23 4 24 := ⟨by decide +kernel, rfl, by decide⟩
theorem dX0_goesOn_23 : Dc cX0_goesOn 23 (.iconst 0) 1 24 := ⟨by decide +kernel, rfl⟩
theorem dX0_goesOn_24 : Dc cX0_goesOn 24 (.ireturn) 1 25 := ⟨by decide +kernel, rfl⟩
section
variable {p : Program} {l : Launch} {e : Env} {s : State} {m : MethodId} {args : Array Value} {below : List Frame} {meth : Method} {c : Code} {A0 : Nat → Prop} {D : va_G} {cA : Nat → ClassId} {ad : Nat → Nat} {Z : (Nat → Nat) × (Nat → Nat)} {Q : Int → St → Prop} {b : Bool}
set_option maxHeartbeats 4000000 in
set_option maxRecDepth 100000 in
theorem t_X0_goesOn_b23 (E : Ev p s m args meth c cX0_goesOn 2 RX0 A0 D cA ad (NC b) Z) (hr : meth.sig.returnType = (some .boolean)) (σ : St) (hσ : CanS (shC b) (NC b) σ) (h : wp_X0_goesOn_b23 Q  σ) : G p l e (rmL 1 0 0) s m args below meth c 2 A0 D cA ad (shC b) (NC b) 0 0 (MQ below (QIc D cA ad (shC b) (NC b) Q A0) args s 0 0 A0) σ 23 [none, none] [] := by
  unfold wp_X0_goesOn_b23 at h
  refine g_iconst E dX0_goesOn_23 ?_
  exact g_zret E hr (Or.inl rfl) h hσ dX0_goesOn_24
set_option maxHeartbeats 4000000 in
set_option maxRecDepth 100000 in
theorem t_X0_goesOn (E : Ev p s m args meth c cX0_goesOn 2 RX0 A0 D cA ad (NC b) Z) (hr : meth.sig.returnType = (some .boolean)) (x1 : Int) (σ : St) (c1 : C32 x1) (hσ : CanS (shC b) (NC b) σ) (h : wp_X0_goesOn x1 σ Q) : G p l e (rmL 1 0 0) s m args below meth c 2 A0 D cA ad (shC b) (NC b) 0 0 (MQ below (QIc D cA ad (shC b) (NC b) Q A0) args s 0 0 A0) σ 0 [some (.ref (ad 24)), some (vI x1)] [] := by
  unfold wp_X0_goesOn at h
  refine g_aload_0 E dX0_goesOn_0 ?_
  refine g_getR E fl_RX0_31 (kC_24 b) (sC_24 b) rfl dX0_goesOn_1 ?_
  refine g_iload_1 E dX0_goesOn_4 ?_
  refine g_iald E (kC_30 b) (sC_30 b) (by decide) h.1 dX0_goesOn_5 ?_
  replace h := h.2
  refine g_iconst E dX0_goesOn_6 ?_
  refine g_icmp_ne E (aC_30 hσ _) cl_m1 djX0_goesOn_7 (fun hc => ?_) (fun hc => ?_)
  · replace h := h.1 hc
    exact (t_X0_goesOn_b23 E hr σ hσ h).weak (w_d (w_d w_n))
  · replace h := h.2 hc
    refine g_aload_0 E dX0_goesOn_10 ?_
    refine g_getR E fl_RX0_34 (kC_24 b) (sC_24 b) rfl dX0_goesOn_11 ?_
    refine g_iload_1 E dX0_goesOn_14 ?_
    refine g_iald E (kC_31 b) (sC_31 b) (by decide) h.1 dX0_goesOn_15 ?_
    replace h := h.2
    refine g_if_lt E (aC_31 hσ _) djX0_goesOn_16 (fun hc => ?_) (fun hc => ?_)
    · replace h := h.1 hc
      exact (t_X0_goesOn_b23 E hr σ hσ h).weak (w_d (w_d w_n))
    · replace h := h.2 hc
      refine g_iconst E dX0_goesOn_19 ?_
      refine g_goto E djX0_goesOn_20 ?_
      exact g_zret E hr (Or.inr rfl) h hσ dX0_goesOn_24
end
theorem m_X0_goesOn {Z : (Nat → Nat) × (Nat → Nat)} {l : Launch} {D : va_G} {cA : Nat → ClassId} {ad : Nat → Nat} {b : Bool} {x1 : Int} {σ : St} {Q : Int → St → Prop} (hA : AdOk (NC b) ad) (c1 : C32 x1) (hσ : CanS (shC b) (NC b) σ) (h : wp_X0_goesOn x1 σ Q) : KtI Z l D cA ad (shC b) (NC b) yX0_goesOn cX0_goesOn 2 (some .boolean) 1 [.ref (ad 24), vI x1] σ Q :=
  KtI.of my_X0_goesOn hA [some (.ref (ad 24)), some (vI x1)] (Nat.le_of_ble_eq_true rfl) rfl (fun p e s m args below meth c A0 E hr => t_X0_goesOn E hr x1 σ c1 hσ h)
theorem dX1_join_0 : Dc cX1_join 0 (.iload_n 2) 1 1 := ⟨by decide +kernel, rfl⟩
theorem djX1_join_1 : Dj cX1_join 1 (.ifCond .eq 9) 3 4 9 10 := ⟨by decide +kernel, rfl, by decide⟩
theorem dX1_join_4 : Dc cX1_join 4 (.iload_n 0) 1 5 := ⟨by decide +kernel, rfl⟩
theorem dX1_join_5 : Dc cX1_join 5 (.iload_n 1) 1 6 := ⟨by decide +kernel, rfl⟩
theorem dX1_join_6 : Dc cX1_join 6 (.iadd) 1 7 := ⟨by decide +kernel, rfl⟩
theorem djX1_join_7 : Dj cX1_join 7 (.goto 8) 3 10 8 15 := ⟨by decide +kernel, rfl, by decide⟩
theorem dX1_join_10 : Dc cX1_join 10 (.iload_n 0) 1 11 := ⟨by decide +kernel, rfl⟩
theorem dX1_join_11 : Dc cX1_join 11 (.iload_n 1) 1 12 := ⟨by decide +kernel, rfl⟩
theorem dX1_join_12 : Dc cX1_join 12 (.invokestatic 109) 3 15 := ⟨by decide +kernel, rfl⟩
theorem dX1_join_15 : Dc cX1_join 15 (.ireturn) 1 16 := ⟨by decide +kernel, rfl⟩
section
variable {p : Program} {l : Launch} {e : Env} {s : State} {m : MethodId} {args : Array Value} {below : List Frame} {meth : Method} {c : Code} {A0 : Nat → Prop} {D : va_G} {cA : Nat → ClassId} {ad : Nat → Nat} {Z : (Nat → Nat) × (Nat → Nat)} {Q : Int → St → Prop} {b : Bool}
set_option maxHeartbeats 4000000 in
set_option maxRecDepth 100000 in
theorem t_X1_join (E : Ev p s m args meth c cX1_join 3 RX1 A0 D cA ad (NC b) Z) (hr : meth.sig.returnType = (some .int)) (x0 : Int) (x1 : Int) (x2 : Int) (σ : St) (c0 : C32 x0) (c1 : C32 x1) (c2 : C32 x2) (hσ : CanS (shC b) (NC b) σ) (h : wp_X1_join x0 x1 x2 σ Q) : G p l e (rmL 1 0 0) s m args below meth c 3 A0 D cA ad (shC b) (NC b) 0 0 (MQ below (QIc D cA ad (shC b) (NC b) Q A0) args s 0 0 A0) σ 0 [some (vI x0), some (vI x1), some (vI x2)] [] := by
  unfold wp_X1_join at h
  refine g_iload_2 E dX1_join_0 ?_
  refine g_if_eq E c2 djX1_join_1 (fun hc => ?_) (fun hc => ?_)
  · replace h := h.1 hc
    refine g_iload_0 E dX1_join_10 ?_
    refine g_iload_1 E dX1_join_11 ?_
    refine g_mmax E ml_RX1_109 c0 c1 (Nat.le_of_ble_eq_true rfl) (rm_1 1) ⟨Nat.zero_le _, Nat.zero_le _⟩ dX1_join_12 ?_
    exact g_iret E hr (c32_max c0 c1) h hσ dX1_join_15
  · replace h := h.2 hc
    refine g_iload_0 E dX1_join_4 ?_
    refine g_iload_1 E dX1_join_5 ?_
    refine g_iadd E dX1_join_6 ?_
    refine g_goto E djX1_join_7 ?_
    exact g_iret E hr (c32_w _) h hσ dX1_join_15
end
theorem m_X1_join {Z : (Nat → Nat) × (Nat → Nat)} {l : Launch} {D : va_G} {cA : Nat → ClassId} {ad : Nat → Nat} {b : Bool} {x0 x1 x2 : Int} {σ : St} {Q : Int → St → Prop} (hA : AdOk (NC b) ad) (c0 : C32 x0) (c1 : C32 x1) (c2 : C32 x2) (hσ : CanS (shC b) (NC b) σ) (h : wp_X1_join x0 x1 x2 σ Q) : KtI Z l D cA ad (shC b) (NC b) yX1_join cX1_join 3 (some .int) 1 [vI x0, vI x1, vI x2] σ Q :=
  KtI.of my_X1_join hA [some (vI x0), some (vI x1), some (vI x2)] (Nat.le_of_ble_eq_true rfl) rfl (fun p e s m args below meth c A0 E hr => t_X1_join E hr x0 x1 x2 σ c0 c1 c2 hσ h)
theorem dX1_lesser_0 : Dc cX1_lesser 0 (.iload_n 0) 1 1 := ⟨by decide +kernel, rfl⟩
theorem dX1_lesser_1 : Dc cX1_lesser 1 (.iconst (-1)) 1 2 := ⟨by decide +kernel, rfl⟩
theorem djX1_lesser_2 : Dj cX1_lesser 2 (.if_icmp .eq 8) 3 5 8 10 := ⟨by decide +kernel, rfl, by decide⟩
theorem dX1_lesser_5 : Dc cX1_lesser 5 (.iload_n 1) 1 6 := ⟨by decide +kernel, rfl⟩
theorem dX1_lesser_6 : Dc cX1_lesser 6 (.iload_n 0) 1 7 := ⟨by decide +kernel, rfl⟩
theorem djX1_lesser_7 : Dj cX1_lesser 7 (.if_icmp .ge 7) 3 10 7 14 := ⟨by decide +kernel, rfl, by decide⟩
theorem dX1_lesser_10 : Dc cX1_lesser 10 (.iload_n 1) 1 11 := ⟨by decide +kernel, rfl⟩
theorem djX1_lesser_11 : Dj cX1_lesser 11 (.goto 4) 3 14 4 15 := ⟨by decide +kernel, rfl, by decide⟩
theorem dX1_lesser_14 : Dc cX1_lesser 14 (.iload_n 0) 1 15 := ⟨by decide +kernel, rfl⟩
theorem dX1_lesser_15 : Dc cX1_lesser 15 (.ireturn) 1 16 := ⟨by decide +kernel, rfl⟩
section
variable {p : Program} {l : Launch} {e : Env} {s : State} {m : MethodId} {args : Array Value} {below : List Frame} {meth : Method} {c : Code} {A0 : Nat → Prop} {D : va_G} {cA : Nat → ClassId} {ad : Nat → Nat} {Z : (Nat → Nat) × (Nat → Nat)} {Q : Int → St → Prop} {b : Bool}
set_option maxHeartbeats 4000000 in
set_option maxRecDepth 100000 in
theorem t_X1_lesser_b10 (E : Ev p s m args meth c cX1_lesser 2 RX1 A0 D cA ad (NC b) Z) (hr : meth.sig.returnType = (some .int)) (x1 : Int) (σ : St) (c1 : C32 x1) (hσ : CanS (shC b) (NC b) σ) (h : wp_X1_lesser_b10 Q x1 σ) : G p l e (rmL 1 0 0) s m args below meth c 2 A0 D cA ad (shC b) (NC b) 0 0 (MQ below (QIc D cA ad (shC b) (NC b) Q A0) args s 0 0 A0) σ 10 [none, some (vI x1)] [] := by
  unfold wp_X1_lesser_b10 at h
  refine g_iload_1 E dX1_lesser_10 ?_
  refine g_goto E djX1_lesser_11 ?_
  exact g_iret E hr c1 h hσ dX1_lesser_15
set_option maxHeartbeats 4000000 in
set_option maxRecDepth 100000 in
theorem t_X1_lesser (E : Ev p s m args meth c cX1_lesser 2 RX1 A0 D cA ad (NC b) Z) (hr : meth.sig.returnType = (some .int)) (x0 : Int) (x1 : Int) (σ : St) (c0 : C32 x0) (c1 : C32 x1) (hσ : CanS (shC b) (NC b) σ) (h : wp_X1_lesser x0 x1 σ Q) : G p l e (rmL 1 0 0) s m args below meth c 2 A0 D cA ad (shC b) (NC b) 0 0 (MQ below (QIc D cA ad (shC b) (NC b) Q A0) args s 0 0 A0) σ 0 [some (vI x0), some (vI x1)] [] := by
  unfold wp_X1_lesser at h
  refine g_iload_0 E dX1_lesser_0 ?_
  refine g_iconst E dX1_lesser_1 ?_
  refine g_icmp_eq E c0 cl_m1 djX1_lesser_2 (fun hc => ?_) (fun hc => ?_)
  · replace h := h.1 hc
    exact (t_X1_lesser_b10 E hr x1 σ c1 hσ h).weak (w_d (w_k w_n))
  · replace h := h.2 hc
    refine g_iload_1 E dX1_lesser_5 ?_
    refine g_iload_0 E dX1_lesser_6 ?_
    refine g_icmp_ge E c1 c0 djX1_lesser_7 (fun hc => ?_) (fun hc => ?_)
    · replace h := h.1 hc
      refine g_iload_0 E dX1_lesser_14 ?_
      exact g_iret E hr c0 h hσ dX1_lesser_15
    · replace h := h.2 hc
      exact (t_X1_lesser_b10 E hr x1 σ c1 hσ h).weak (w_d (w_k w_n))
end
theorem m_X1_lesser {Z : (Nat → Nat) × (Nat → Nat)} {l : Launch} {D : va_G} {cA : Nat → ClassId} {ad : Nat → Nat} {b : Bool} {x0 x1 : Int} {σ : St} {Q : Int → St → Prop} (hA : AdOk (NC b) ad) (c0 : C32 x0) (c1 : C32 x1) (hσ : CanS (shC b) (NC b) σ) (h : wp_X1_lesser x0 x1 σ Q) : KtI Z l D cA ad (shC b) (NC b) yX1_lesser cX1_lesser 2 (some .int) 1 [vI x0, vI x1] σ Q :=
  KtI.of my_X1_lesser hA [some (vI x0), some (vI x1)] (Nat.le_of_ble_eq_true rfl) rfl (fun p e s m args below meth c A0 E hr => t_X1_lesser E hr x0 x1 σ c0 c1 hσ h)
theorem dX1_leastOfCases_0 : Dc cX1_leastOfCases 0 (.iconst (-1)) 1 1 := ⟨by decide +kernel, rfl⟩
theorem dX1_leastOfCases_1 : Dc cX1_leastOfCases 1 (.istore 5) 2 3 := ⟨by decide +kernel, rfl⟩
theorem dX1_leastOfCases_3 : Dc cX1_leastOfCases 3 (.aload_n 0) 1 4 := ⟨by decide +kernel, rfl⟩
theorem dX1_leastOfCases_4 : Dc cX1_leastOfCases 4 (.getfield 15) 3 7 := ⟨by decide +kernel, rfl⟩
theorem dX1_leastOfCases_7 : Dc cX1_leastOfCases 7 (.iload_n 2) 1 8 := ⟨by decide +kernel, rfl⟩
theorem dX1_leastOfCases_8 : Dc cX1_leastOfCases 8 (.invokevirtual 66) 3 11 := ⟨by decide +kernel, rfl⟩
theorem dX1_leastOfCases_11 : Dc cX1_leastOfCases 11 (.istore 6) 2 13 := ⟨by decide +kernel, rfl⟩
theorem dX1_leastOfCases_13 : Dc cX1_leastOfCases 13 (.iload 6) 2 15 := ⟨by decide +kernel, rfl⟩
theorem dX1_leastOfCases_15 : Dc cX1_leastOfCases 15 (.aload_n 0) 1 16 := ⟨by decide +kernel, rfl⟩
theorem dX1_leastOfCases_16 : Dc cX1_leastOfCases 16 (.getfield 15) 3 19 := ⟨by decide +kernel, rfl⟩
theorem dX1_leastOfCases_19 : Dc cX1_leastOfCases 19 (.iload_n 2) 1 20 := ⟨by decide +kernel, rfl⟩
theorem dX1_leastOfCases_20 : Dc cX1_leastOfCases 20 (.invokevirtual 70) 3 23 := ⟨by decide +kernel, rfl⟩
theorem djX1_leastOfCases_23 : Dj cX1_leastOfCases 23 (.if_icmp .ge 142) 3 26 142 165 := ⟨by decide +kernel, rfl, by decide⟩
theorem dX1_leastOfCases_26 : Dc cX1_leastOfCases 26 (.aload_n 0) 1 27 := ⟨by decide +kernel, rfl⟩
theorem dX1_leastOfCases_27 : Dc cX1_leastOfCases 27 (.getfield 15) 3 30 := ⟨by decide +kernel, rfl⟩
theorem dX1_leastOfCases_30 : Dc cX1_leastOfCases 30 (.getfield 73) 3 33 := ⟨by decide +kernel, rfl⟩
theorem dX1_leastOfCases_33 : Dc cX1_leastOfCases 33 (.iload 6) 2 35 := ⟨by decide +kernel, rfl⟩
theorem dX1_leastOfCases_35 : Dc cX1_leastOfCases 35 (.iaload) 1 36 := ⟨by decide +kernel, rfl⟩
theorem dX1_leastOfCases_36 : Dc cX1_leastOfCases 36 (.istore 7) 2 38 := ⟨by decide +kernel, rfl⟩
theorem dX1_leastOfCases_38 : Dc cX1_leastOfCases 38 (.iload 7) 2 40 := ⟨by decide +kernel, rfl⟩
theorem dX1_leastOfCases_40 : Dc cX1_leastOfCases 40 (.iload_n 3) 1 41 := ⟨by decide +kernel, rfl⟩
theorem djX1_leastOfCases_41 : Dj cX1_leastOfCases 41 (.if_icmp .eq 118) 3 44 118 159 := ⟨by decide +kernel, rfl, by decide⟩
theorem dX1_leastOfCases_44 : Dc cX1_leastOfCases 44 (.aload_n 0) 1 45 := ⟨by decide +kernel, rfl⟩
theorem dX1_leastOfCases_45 : Dc cX1_leastOfCases 45 (.getfield 15) 3 48 := ⟨by decide +kernel, rfl⟩
theorem dX1_leastOfCases_48 : Dc cX1_leastOfCases 48 (.iload 6) 2 50 := ⟨by decide +kernel, rfl⟩
theorem dX1_leastOfCases_50 : Dc cX1_leastOfCases 50 (.invokevirtual 76) 3 53 := ⟨by decide +kernel, rfl⟩
theorem djX1_leastOfCases_53 : Dj cX1_leastOfCases 53 (.ifCond .ne 106) 3 56 106 159 := ⟨by decide +kernel, rfl, by decide⟩
theorem dX1_leastOfCases_56 : Dc cX1_leastOfCases 56 (.aload_n 0) 1 57 := ⟨by decide +kernel, rfl⟩
theorem dX1_leastOfCases_57 : Dc cX1_leastOfCases 57 (.getfield 15) 3 60 := ⟨by decide +kernel, rfl⟩
theorem dX1_leastOfCases_60 : Dc cX1_leastOfCases 60 (.getfield 80) 3 63 := ⟨by decide +kernel, rfl⟩
theorem dX1_leastOfCases_63 : Dc cX1_leastOfCases 63 (.iload 6) 2 65 := ⟨by decide +kernel, rfl⟩
theorem dX1_leastOfCases_65 : Dc cX1_leastOfCases 65 (.iaload) 1 66 := ⟨by decide +kernel, rfl⟩
theorem djX1_leastOfCases_66 : Dj cX1_leastOfCases 66 (.ifCond .ge 7) 3 69 7 73 := ⟨by decide +kernel, rfl, by decide⟩
theorem dX1_leastOfCases_69 : Dc cX1_leastOfCases 69 (.iconst 0) 1 70 := ⟨by decide +kernel, rfl⟩
theorem djX1_leastOfCases_70 : Dj cX1_leastOfCases 70 (.goto 15) 3 73 15 85 := ⟨by decide +kernel, rfl, by decide⟩
theorem dX1_leastOfCases_73 : Dc cX1_leastOfCases 73 (.aload_n 1) 1 74 := ⟨by decide +kernel, rfl⟩
theorem dX1_leastOfCases_74 : Dc cX1_leastOfCases 74 (.aload_n 0) 1 75 := ⟨by decide +kernel, rfl⟩
theorem dX1_leastOfCases_75 : Dc cX1_leastOfCases 75 (.getfield 15) 3 78 := ⟨by decide +kernel, rfl⟩
theorem dX1_leastOfCases_78 : Dc cX1_leastOfCases 78 (.getfield 80) 3 81 := ⟨by decide +kernel, rfl⟩
theorem dX1_leastOfCases_81 : Dc cX1_leastOfCases 81 (.iload 6) 2 83 := ⟨by decide +kernel, rfl⟩
theorem dX1_leastOfCases_83 : Dc cX1_leastOfCases 83 (.iaload) 1 84 := ⟨by decide +kernel, rfl⟩
theorem dX1_leastOfCases_84 : Dc cX1_leastOfCases 84 (.iaload) 1 85 := ⟨by decide +kernel, rfl⟩
theorem dX1_leastOfCases_85 : Dc cX1_leastOfCases 85 (.istore 8) 2 87 := ⟨by decide +kernel, rfl⟩
theorem dX1_leastOfCases_87 : Dc cX1_leastOfCases 87 (.aload_n 0) 1 88 := ⟨by decide +kernel, rfl⟩
theorem dX1_leastOfCases_88 : Dc cX1_leastOfCases 88 (.getfield 15) 3 91 := ⟨by decide +kernel, rfl⟩
theorem dX1_leastOfCases_91 : Dc cX1_leastOfCases 91 (.getfield 83) 3 94 := ⟨by decide +kernel, rfl⟩
theorem dX1_leastOfCases_94 : Dc cX1_leastOfCases 94 (.iload 6) 2 96 := ⟨by decide +kernel, rfl⟩
theorem dX1_leastOfCases_96 : Dc cX1_leastOfCases 96 (.iaload) 1 97 := ⟨by decide +kernel, rfl⟩
theorem djX1_leastOfCases_97 : Dj cX1_leastOfCases 97 (.ifCond .ge 7) 3 100 7 104 := ⟨by decide +kernel, rfl, by decide⟩
theorem dX1_leastOfCases_100 : Dc cX1_leastOfCases 100 (.iconst 0) 1 101 := ⟨by decide +kernel, rfl⟩
theorem djX1_leastOfCases_101 : Dj cX1_leastOfCases 101 (.goto 15) 3 104 15 116 := ⟨by decide +kernel, rfl, by decide⟩
theorem dX1_leastOfCases_104 : Dc cX1_leastOfCases 104 (.aload_n 1) 1 105 := ⟨by decide +kernel, rfl⟩
theorem dX1_leastOfCases_105 : Dc cX1_leastOfCases 105 (.aload_n 0) 1 106 := ⟨by decide +kernel, rfl⟩
theorem dX1_leastOfCases_106 : Dc cX1_leastOfCases 106 (.getfield 15) 3 109 := ⟨by decide +kernel, rfl⟩
theorem dX1_leastOfCases_109 : Dc cX1_leastOfCases 109 (.getfield 83) 3 112 := ⟨by decide +kernel, rfl⟩
theorem dX1_leastOfCases_112 : Dc cX1_leastOfCases 112 (.iload 6) 2 114 := ⟨by decide +kernel, rfl⟩
theorem dX1_leastOfCases_114 : Dc cX1_leastOfCases 114 (.iaload) 1 115 := ⟨by decide +kernel, rfl⟩
theorem dX1_leastOfCases_115 : Dc cX1_leastOfCases 115 (.iaload) 1 116 := ⟨by decide +kernel, rfl⟩
theorem dX1_leastOfCases_116 : Dc cX1_leastOfCases 116 (.istore 9) 2 118 := ⟨by decide +kernel, rfl⟩
theorem dX1_leastOfCases_118 : Dc cX1_leastOfCases 118 (.iload 8) 2 120 := ⟨by decide +kernel, rfl⟩
theorem djX1_leastOfCases_120 : Dj cX1_leastOfCases 120 (.ifCond .lt 39) 3 123 39 159 := ⟨by decide +kernel, rfl, by decide⟩
theorem dX1_leastOfCases_123 : Dc cX1_leastOfCases 123 (.iload 9) 2 125 := ⟨by decide +kernel, rfl⟩
theorem djX1_leastOfCases_125 : Dj cX1_leastOfCases 125 (.ifCond .lt 34) 3 128 34 159 := ⟨by decide +kernel, rfl, by decide⟩
theorem dX1_leastOfCases_128 : Dc cX1_leastOfCases 128 (.iload 5) 2 130 := ⟨by decide +kernel, rfl⟩
theorem dX1_leastOfCases_130 : Dc cX1_leastOfCases 130 (.aload_n 0) 1 131 := ⟨by decide +kernel, rfl⟩
theorem dX1_leastOfCases_131 : Dc cX1_leastOfCases 131 (.getfield 9) 3 134 := ⟨by decide +kernel, rfl⟩
theorem dX1_leastOfCases_134 : Dc cX1_leastOfCases 134 (.getfield 86) 3 137 := ⟨by decide +kernel, rfl⟩
theorem dX1_leastOfCases_137 : Dc cX1_leastOfCases 137 (.iload 7) 2 139 := ⟨by decide +kernel, rfl⟩
theorem dX1_leastOfCases_139 : Dc cX1_leastOfCases 139 (.iaload) 1 140 := ⟨by decide +kernel, rfl⟩
theorem dX1_leastOfCases_140 : Dc cX1_leastOfCases 140 (.iload 8) 2 142 := ⟨by decide +kernel, rfl⟩
theorem dX1_leastOfCases_142 : Dc cX1_leastOfCases 142 (.iload 9) 2 144 := ⟨by decide +kernel, rfl⟩
theorem dX1_leastOfCases_144 : Dc cX1_leastOfCases 144 (.iload 4) 2 146 := ⟨by decide +kernel, rfl⟩
theorem dX1_leastOfCases_146 : Dc cX1_leastOfCases 146 (.invokestatic 91) 3 149 := ⟨by decide +kernel, rfl⟩
theorem dX1_leastOfCases_149 : Dc cX1_leastOfCases 149 (.iload 4) 2 151 := ⟨by decide +kernel, rfl⟩
theorem dX1_leastOfCases_151 : Dc cX1_leastOfCases 151 (.invokestatic 91) 3 154 := ⟨by decide +kernel, rfl⟩
theorem dX1_leastOfCases_154 : Dc cX1_leastOfCases 154 (.invokestatic 95) 3 157 := ⟨by decide +kernel, rfl⟩
theorem dX1_leastOfCases_157 : Dc cX1_leastOfCases 157 (.istore 5) 2 159 := ⟨by decide +kernel, rfl⟩
theorem dX1_leastOfCases_159 : Dc cX1_leastOfCases 159 (.iinc 6 1) 3 162 := ⟨by decide +kernel, rfl⟩
theorem djX1_leastOfCases_162 : Dj cX1_leastOfCases 162 (.goto (-149)) 3 165 (-149) 13 := ⟨by decide +kernel, rfl, by decide⟩
theorem dX1_leastOfCases_165 : Dc cX1_leastOfCases 165 (.iload 5) 2 167 := ⟨by decide +kernel, rfl⟩
theorem dX1_leastOfCases_167 : Dc cX1_leastOfCases 167 (.ireturn) 1 168 := ⟨by decide +kernel, rfl⟩
section
variable {p : Program} {l : Launch} {e : Env} {s : State} {m : MethodId} {args : Array Value} {below : List Frame} {meth : Method} {c : Code} {A0 : Nat → Prop} {D : va_G} {cA : Nat → ClassId} {ad : Nat → Nat} {Z : (Nat → Nat) × (Nat → Nat)} {Q : Int → St → Prop} {b : Bool}
set_option maxHeartbeats 4000000 in
set_option maxRecDepth 100000 in
theorem t_X1_leastOfCases_c37_b159 (E : Ev p s m args meth c cX1_leastOfCases 10 RX1 A0 D cA ad (NC b) Z) (hr : meth.sig.returnType = (some .int)) {K13 : Int → Int → Int → Int → Int → St → Prop} (hK13 : ∀ (x2 : Int) (x3 : Int) (x4 : Int) (x5 : Int) (x6 : Int) (σ : St), C32 x2 → C32 x3 → C32 x4 → C32 x5 → C32 x6 → CanS (shC b) (NC b) σ → K13 x2 x3 x4 x5 x6 σ → G p l e (rmL 2 0 0) s m args below meth c 10 A0 D cA ad (shC b) (NC b) 0 0 (MQ below (QIc D cA ad (shC b) (NC b) Q A0) args s 0 0 A0) σ 13 [some (.ref (ad 36)), some (.ref (ad 37)), some (vI x2), some (vI x3), some (vI x4), some (vI x5), some (vI x6), none, none, none] []) (x2 : Int) (x3 : Int) (x4 : Int) (x5 : Int) (x6 : Int) (σ : St) (c2 : C32 x2) (c3 : C32 x3) (c4 : C32 x4) (c5 : C32 x5) (c6 : C32 x6) (hσ : CanS (shC b) (NC b) σ) (h : wp_X1_leastOfCases_c37_b159 Q K13 x2 x3 x4 x5 x6 σ) : G p l e (rmL 2 0 0) s m args below meth c 10 A0 D cA ad (shC b) (NC b) 0 0 (MQ below (QIc D cA ad (shC b) (NC b) Q A0) args s 0 0 A0) σ 159 [some (.ref (ad 36)), some (.ref (ad 37)), some (vI x2), some (vI x3), some (vI x4), some (vI x5), some (vI x6), none, none, none] [] := by
  unfold wp_X1_leastOfCases_c37_b159 at h
  refine g_iinc_6 E rfl (by decide) dX1_leastOfCases_159 (fun v8 ev8 => ?_)
  replace h := h v8 ev8
  have cv8 : C32 v8 := by rw [ev8]; exact c32_w _
  refine g_goto E djX1_leastOfCases_162 ?_
  exact (hK13 x2 x3 x4 x5 v8 σ c2 c3 c4 c5 cv8 hσ h).weak (w_k (w_k (w_k (w_k (w_k (w_k (w_k (w_d (w_d (w_d w_n))))))))))
set_option maxHeartbeats 4000000 in
set_option maxRecDepth 100000 in
theorem t_X1_leastOfCases_c37_b116 (E : Ev p s m args meth c cX1_leastOfCases 10 RX1 A0 D cA ad (NC b) Z) (hr : meth.sig.returnType = (some .int)) {K13 : Int → Int → Int → Int → Int → St → Prop} (hK13 : ∀ (x2 : Int) (x3 : Int) (x4 : Int) (x5 : Int) (x6 : Int) (σ : St), C32 x2 → C32 x3 → C32 x4 → C32 x5 → C32 x6 → CanS (shC b) (NC b) σ → K13 x2 x3 x4 x5 x6 σ → G p l e (rmL 2 0 0) s m args below meth c 10 A0 D cA ad (shC b) (NC b) 0 0 (MQ below (QIc D cA ad (shC b) (NC b) Q A0) args s 0 0 A0) σ 13 [some (.ref (ad 36)), some (.ref (ad 37)), some (vI x2), some (vI x3), some (vI x4), some (vI x5), some (vI x6), none, none, none] []) (x2 : Int) (x3 : Int) (x4 : Int) (x5 : Int) (x6 : Int) (x7 : Int) (x8 : Int) (s0 : Int) (σ : St) (c2 : C32 x2) (c3 : C32 x3) (c4 : C32 x4) (c5 : C32 x5) (c6 : C32 x6) (c7 : C32 x7) (c8 : C32 x8) (cs0 : C32 s0) (hσ : CanS (shC b) (NC b) σ) (h : wp_X1_leastOfCases_c37_b116 Q K13 x2 x3 x4 x5 x6 x7 x8 s0 σ) : G p l e (rmL 2 0 0) s m args below meth c 10 A0 D cA ad (shC b) (NC b) 0 0 (MQ below (QIc D cA ad (shC b) (NC b) Q A0) args s 0 0 A0) σ 116 [some (.ref (ad 36)), some (.ref (ad 37)), some (vI x2), some (vI x3), some (vI x4), some (vI x5), some (vI x6), some (vI x7), some (vI x8), none] [vI s0] := by
  unfold wp_X1_leastOfCases_c37_b116 at h
  refine g_istore_9 E rfl (by decide) dX1_leastOfCases_116 ?_
  refine g_iload_8 E dX1_leastOfCases_118 ?_
  refine g_if_lt E c8 djX1_leastOfCases_120 (fun hc => ?_) (fun hc => ?_)
  · replace h := h.1 hc
    exact (t_X1_leastOfCases_c37_b159 E hr hK13 x2 x3 x4 x5 x6 σ c2 c3 c4 c5 c6 hσ h).weak (w_k (w_k (w_k (w_k (w_k (w_k (w_k (w_d (w_d (w_d w_n))))))))))
  · replace h := h.2 hc
    refine g_iload_9 E dX1_leastOfCases_123 ?_
    refine g_if_lt E cs0 djX1_leastOfCases_125 (fun hc => ?_) (fun hc => ?_)
    · replace h := h.1 hc
      exact (t_X1_leastOfCases_c37_b159 E hr hK13 x2 x3 x4 x5 x6 σ c2 c3 c4 c5 c6 hσ h).weak (w_k (w_k (w_k (w_k (w_k (w_k (w_k (w_d (w_d (w_d w_n))))))))))
    · replace h := h.2 hc
      refine g_iload_5 E dX1_leastOfCases_128 ?_
      refine g_aload_0 E dX1_leastOfCases_130 ?_
      refine g_getR E fl_RX1_9 (kC_36 b) (sC_36 b) rfl dX1_leastOfCases_131 ?_
      refine g_getR E fl_RX1_86 (kC_14 b) (sC_14 b) rfl dX1_leastOfCases_134 ?_
      refine g_iload_7 E dX1_leastOfCases_137 ?_
      refine g_iald E (kC_18 b) (sC_18 b) (by decide) h.1 dX1_leastOfCases_139 ?_
      replace h := h.2
      refine g_iload_8 E dX1_leastOfCases_140 ?_
      refine g_iload_9 E dX1_leastOfCases_142 ?_
      refine g_iload_4 E dX1_leastOfCases_144 ?_
      refine g_callsI E my_X1_join ms_X1_join ml_RX1_91 (rm_ok (by decide) (by decide)) ⟨Nat.zero_le _, Nat.zero_le _⟩ (m_X1_join E.2.2.1 c8 cs0 c4 hσ h) rfl rfl (Nat.le_of_ble_eq_true rfl) dX1_leastOfCases_146 (fun r9 σ10 cr9 hσ10 h => ?_)
      refine g_iload_4 E dX1_leastOfCases_149 ?_
      refine g_callsI E my_X1_join ms_X1_join ml_RX1_91 (rm_ok (by decide) (by decide)) ⟨Nat.zero_le _, Nat.zero_le _⟩ (m_X1_join E.2.2.1 (aC_18 hσ _) cr9 c4 hσ10 h) rfl rfl (Nat.le_of_ble_eq_true rfl) dX1_leastOfCases_151 (fun r11 σ12 cr11 hσ12 h => ?_)
      refine g_callsI E my_X1_lesser ms_X1_lesser ml_RX1_95 (rm_ok (by decide) (by decide)) ⟨Nat.zero_le _, Nat.zero_le _⟩ (m_X1_lesser E.2.2.1 c5 cr11 hσ12 h) rfl rfl (Nat.le_of_ble_eq_true rfl) dX1_leastOfCases_154 (fun r13 σ14 cr13 hσ14 h => ?_)
      refine g_istore_5 E rfl (by decide) dX1_leastOfCases_157 ?_
      exact (t_X1_leastOfCases_c37_b159 E hr hK13 x2 x3 x4 r13 x6 σ14 c2 c3 c4 cr13 c6 hσ14 h).weak (w_k (w_k (w_k (w_k (w_k (w_k (w_k (w_d (w_d (w_d w_n))))))))))
set_option maxHeartbeats 4000000 in
set_option maxRecDepth 100000 in
theorem t_X1_leastOfCases_c37_b85 (E : Ev p s m args meth c cX1_leastOfCases 10 RX1 A0 D cA ad (NC b) Z) (hr : meth.sig.returnType = (some .int)) {K13 : Int → Int → Int → Int → Int → St → Prop} (hK13 : ∀ (x2 : Int) (x3 : Int) (x4 : Int) (x5 : Int) (x6 : Int) (σ : St), C32 x2 → C32 x3 → C32 x4 → C32 x5 → C32 x6 → CanS (shC b) (NC b) σ → K13 x2 x3 x4 x5 x6 σ → G p l e (rmL 2 0 0) s m args below meth c 10 A0 D cA ad (shC b) (NC b) 0 0 (MQ below (QIc D cA ad (shC b) (NC b) Q A0) args s 0 0 A0) σ 13 [some (.ref (ad 36)), some (.ref (ad 37)), some (vI x2), some (vI x3), some (vI x4), some (vI x5), some (vI x6), none, none, none] []) (x2 : Int) (x3 : Int) (x4 : Int) (x5 : Int) (x6 : Int) (x7 : Int) (s0 : Int) (σ : St) (c2 : C32 x2) (c3 : C32 x3) (c4 : C32 x4) (c5 : C32 x5) (c6 : C32 x6) (c7 : C32 x7) (cs0 : C32 s0) (hσ : CanS (shC b) (NC b) σ) (h : wp_X1_leastOfCases_c37_b85 Q K13 x2 x3 x4 x5 x6 x7 s0 σ) : G p l e (rmL 2 0 0) s m args below meth c 10 A0 D cA ad (shC b) (NC b) 0 0 (MQ below (QIc D cA ad (shC b) (NC b) Q A0) args s 0 0 A0) σ 85 [some (.ref (ad 36)), some (.ref (ad 37)), some (vI x2), some (vI x3), some (vI x4), some (vI x5), some (vI x6), some (vI x7), none, none] [vI s0] := by
  unfold wp_X1_leastOfCases_c37_b85 at h
  refine g_istore_8 E rfl (by decide) dX1_leastOfCases_85 ?_
  refine g_aload_0 E dX1_leastOfCases_87 ?_
  refine g_getR E fl_RX1_15 (kC_36 b) (sC_36 b) rfl dX1_leastOfCases_88 ?_
  refine g_getR E fl_RX1_83 (kC_24 b) (sC_24 b) rfl dX1_leastOfCases_91 ?_
  refine g_iload_6 E dX1_leastOfCases_94 ?_
  refine g_iald E (kC_32 b) (sC_32 b) (by decide) h.1 dX1_leastOfCases_96 ?_
  replace h := h.2
  refine g_if_ge E (aC_32 hσ _) djX1_leastOfCases_97 (fun hc => ?_) (fun hc => ?_)
  · replace h := h.1 hc
    refine g_aload_1 E dX1_leastOfCases_104 ?_
    refine g_aload_0 E dX1_leastOfCases_105 ?_
    refine g_getR E fl_RX1_15 (kC_36 b) (sC_36 b) rfl dX1_leastOfCases_106 ?_
    refine g_getR E fl_RX1_83 (kC_24 b) (sC_24 b) rfl dX1_leastOfCases_109 ?_
    refine g_iload_6 E dX1_leastOfCases_112 ?_
    refine g_iald E (kC_32 b) (sC_32 b) (by decide) h.1 dX1_leastOfCases_114 ?_
    replace h := h.2
    refine g_iald E (kC_37 b) (sC_37 b) (by decide) h.1 dX1_leastOfCases_115 ?_
    replace h := h.2
    exact (t_X1_leastOfCases_c37_b116 E hr hK13 x2 x3 x4 x5 x6 x7 s0 (σ 37 ((σ 32 (x6.toNat)).toNat)) σ c2 c3 c4 c5 c6 c7 cs0 (aC_37 hσ _) hσ h).weak (w_k (w_k (w_k (w_k (w_k (w_k (w_k (w_k (w_k (w_d w_n))))))))))
  · replace h := h.2 hc
    refine g_iconst E dX1_leastOfCases_100 ?_
    refine g_goto E djX1_leastOfCases_101 ?_
    exact (t_X1_leastOfCases_c37_b116 E hr hK13 x2 x3 x4 x5 x6 x7 s0 0 σ c2 c3 c4 c5 c6 c7 cs0 cl_0 hσ h).weak (w_k (w_k (w_k (w_k (w_k (w_k (w_k (w_k (w_k (w_d w_n))))))))))
set_option maxHeartbeats 4000000 in
set_option maxRecDepth 100000 in
theorem t_X1_leastOfCases_c37_l13 (E : Ev p s m args meth c cX1_leastOfCases 10 RX1 A0 D cA ad (NC b) Z) (hr : meth.sig.returnType = (some .int)) : ∀ (n : Nat) (x2 : Int) (x3 : Int) (x4 : Int) (x5 : Int) (x6 : Int) (σ : St), C32 x2 → C32 x3 → C32 x4 → C32 x5 → C32 x6 → CanS (shC b) (NC b) σ → wp_X1_leastOfCases_c37_l13 Q n x2 x3 x4 x5 x6 σ → G p l e (rmL 2 0 0) s m args below meth c 10 A0 D cA ad (shC b) (NC b) 0 0 (MQ below (QIc D cA ad (shC b) (NC b) Q A0) args s 0 0 A0) σ 13 [some (.ref (ad 36)), some (.ref (ad 37)), some (vI x2), some (vI x3), some (vI x4), some (vI x5), some (vI x6), none, none, none] [] := by
  intro n
  induction n with
  | zero => intro _ _ _ _ _ _ _ _ _ _ _ _ h; exact h.elim
  | succ n ih =>
    intro x2 x3 x4 x5 x6 σ c2 c3 c4 c5 c6 hσ h
    unfold wp_X1_leastOfCases_c37_l13 at h
    refine g_iload_6 E dX1_leastOfCases_13 ?_
    refine g_aload_0 E dX1_leastOfCases_15 ?_
    refine g_getR E fl_RX1_15 (kC_36 b) (sC_36 b) rfl dX1_leastOfCases_16 ?_
    refine g_iload_2 E dX1_leastOfCases_19 ?_
    refine g_callvI E my_X0_caseEnd mi_X0_caseEnd msel_X0_caseEnd ml_RX1_70 (rm_ok (by decide) (by decide)) ⟨Nat.zero_le _, Nat.zero_le _⟩ (kC_24 b) (sC_24 b) rfl (m_X0_caseEnd E.2.2.1 c2 hσ h) rfl rfl (Nat.le_of_ble_eq_true rfl) dX1_leastOfCases_20 (fun r3 σ4 cr3 hσ4 h => ?_)
    refine g_icmp_ge E c6 cr3 djX1_leastOfCases_23 (fun hc => ?_) (fun hc => ?_)
    · replace h := h.1 hc
      refine g_iload_5 E dX1_leastOfCases_165 ?_
      exact g_iret E hr c5 h hσ4 dX1_leastOfCases_167
    · replace h := h.2 hc
      refine g_aload_0 E dX1_leastOfCases_26 ?_
      refine g_getR E fl_RX1_15 (kC_36 b) (sC_36 b) rfl dX1_leastOfCases_27 ?_
      refine g_getR E fl_RX1_73 (kC_24 b) (sC_24 b) rfl dX1_leastOfCases_30 ?_
      refine g_iload_6 E dX1_leastOfCases_33 ?_
      refine g_iald E (kC_29 b) (sC_29 b) (by decide) h.1 dX1_leastOfCases_35 ?_
      replace h := h.2
      refine g_nmI (fun v5 ev5 => ?_)
      replace h := h v5 ev5
      have cv5 : C32 v5 := by rw [ev5]; exact (aC_29 hσ4 _)
      refine g_istore_7 E rfl (by decide) dX1_leastOfCases_36 ?_
      refine g_iload_7 E dX1_leastOfCases_38 ?_
      refine g_iload_3 E dX1_leastOfCases_40 ?_
      refine g_icmp_eq E cv5 c3 djX1_leastOfCases_41 (fun hc => ?_) (fun hc => ?_)
      · replace h := h.1 hc
        exact (t_X1_leastOfCases_c37_b159 E hr ih x2 x3 x4 x5 x6 σ4 c2 c3 c4 c5 c6 hσ4 h).weak (w_k (w_k (w_k (w_k (w_k (w_k (w_k (w_d (w_d (w_d w_n))))))))))
      · replace h := h.2 hc
        refine g_aload_0 E dX1_leastOfCases_44 ?_
        refine g_getR E fl_RX1_15 (kC_36 b) (sC_36 b) rfl dX1_leastOfCases_45 ?_
        refine g_iload_6 E dX1_leastOfCases_48 ?_
        refine g_callvI E my_X0_goesOn mi_X0_goesOn msel_X0_goesOn ml_RX1_76 (rm_ok (by decide) (by decide)) ⟨Nat.zero_le _, Nat.zero_le _⟩ (kC_24 b) (sC_24 b) rfl (m_X0_goesOn E.2.2.1 c6 hσ4 h) rfl rfl (Nat.le_of_ble_eq_true rfl) dX1_leastOfCases_50 (fun r6 σ7 cr6 hσ7 h => ?_)
        refine g_if_ne E cr6 djX1_leastOfCases_53 (fun hc => ?_) (fun hc => ?_)
        · replace h := h.1 hc
          exact (t_X1_leastOfCases_c37_b159 E hr ih x2 x3 x4 x5 x6 σ7 c2 c3 c4 c5 c6 hσ7 h).weak (w_k (w_k (w_k (w_k (w_k (w_k (w_k (w_d (w_d (w_d w_n))))))))))
        · replace h := h.2 hc
          refine g_aload_0 E dX1_leastOfCases_56 ?_
          refine g_getR E fl_RX1_15 (kC_36 b) (sC_36 b) rfl dX1_leastOfCases_57 ?_
          refine g_getR E fl_RX1_80 (kC_24 b) (sC_24 b) rfl dX1_leastOfCases_60 ?_
          refine g_iload_6 E dX1_leastOfCases_63 ?_
          refine g_iald E (kC_31 b) (sC_31 b) (by decide) h.1 dX1_leastOfCases_65 ?_
          replace h := h.2
          refine g_if_ge E (aC_31 hσ7 _) djX1_leastOfCases_66 (fun hc => ?_) (fun hc => ?_)
          · replace h := h.1 hc
            refine g_aload_1 E dX1_leastOfCases_73 ?_
            refine g_aload_0 E dX1_leastOfCases_74 ?_
            refine g_getR E fl_RX1_15 (kC_36 b) (sC_36 b) rfl dX1_leastOfCases_75 ?_
            refine g_getR E fl_RX1_80 (kC_24 b) (sC_24 b) rfl dX1_leastOfCases_78 ?_
            refine g_iload_6 E dX1_leastOfCases_81 ?_
            refine g_iald E (kC_31 b) (sC_31 b) (by decide) h.1 dX1_leastOfCases_83 ?_
            replace h := h.2
            refine g_iald E (kC_37 b) (sC_37 b) (by decide) h.1 dX1_leastOfCases_84 ?_
            replace h := h.2
            exact (t_X1_leastOfCases_c37_b85 E hr ih x2 x3 x4 x5 x6 v5 (σ7 37 ((σ7 31 (x6.toNat)).toNat)) σ7 c2 c3 c4 c5 c6 cv5 (aC_37 hσ7 _) hσ7 h).weak (w_k (w_k (w_k (w_k (w_k (w_k (w_k (w_k (w_d (w_d w_n))))))))))
          · replace h := h.2 hc
            refine g_iconst E dX1_leastOfCases_69 ?_
            refine g_goto E djX1_leastOfCases_70 ?_
            exact (t_X1_leastOfCases_c37_b85 E hr ih x2 x3 x4 x5 x6 v5 0 σ7 c2 c3 c4 c5 c6 cv5 cl_0 hσ7 h).weak (w_k (w_k (w_k (w_k (w_k (w_k (w_k (w_k (w_d (w_d w_n))))))))))
set_option maxHeartbeats 4000000 in
set_option maxRecDepth 100000 in
theorem t_X1_leastOfCases_c37 (E : Ev p s m args meth c cX1_leastOfCases 10 RX1 A0 D cA ad (NC b) Z) (hr : meth.sig.returnType = (some .int)) (x2 : Int) (x3 : Int) (x4 : Int) (σ : St) (c2 : C32 x2) (c3 : C32 x3) (c4 : C32 x4) (hσ : CanS (shC b) (NC b) σ) (h : wp_X1_leastOfCases_c37 x2 x3 x4 σ Q) : G p l e (rmL 2 0 0) s m args below meth c 10 A0 D cA ad (shC b) (NC b) 0 0 (MQ below (QIc D cA ad (shC b) (NC b) Q A0) args s 0 0 A0) σ 0 [some (.ref (ad 36)), some (.ref (ad 37)), some (vI x2), some (vI x3), some (vI x4), none, none, none, none, none] [] := by
  unfold wp_X1_leastOfCases_c37 at h
  refine g_iconst E dX1_leastOfCases_0 ?_
  refine g_istore_5 E rfl (by decide) dX1_leastOfCases_1 ?_
  refine g_aload_0 E dX1_leastOfCases_3 ?_
  refine g_getR E fl_RX1_15 (kC_36 b) (sC_36 b) rfl dX1_leastOfCases_4 ?_
  refine g_iload_2 E dX1_leastOfCases_7 ?_
  refine g_callvI E my_X0_caseStart mi_X0_caseStart msel_X0_caseStart ml_RX1_66 (rm_ok (by decide) (by decide)) ⟨Nat.zero_le _, Nat.zero_le _⟩ (kC_24 b) (sC_24 b) rfl (m_X0_caseStart E.2.2.1 c2 hσ h) rfl rfl (Nat.le_of_ble_eq_true rfl) dX1_leastOfCases_8 (fun r1 σ2 cr1 hσ2 h => ?_)
  refine g_istore_6 E rfl (by decide) dX1_leastOfCases_11 ?_
  exact (t_X1_leastOfCases_c37_l13 E hr bigN x2 x3 x4 ((-1)) r1 σ2 c2 c3 c4 cl_m1 cr1 hσ2 h).weak (w_k (w_k (w_k (w_k (w_k (w_k (w_k (w_d (w_d (w_d w_n))))))))))
end
theorem m_X1_leastOfCases_c37 {Z : (Nat → Nat) × (Nat → Nat)} {l : Launch} {D : va_G} {cA : Nat → ClassId} {ad : Nat → Nat} {b : Bool} {x2 x3 x4 : Int} {σ : St} {Q : Int → St → Prop} (hA : AdOk (NC b) ad) (c2 : C32 x2) (c3 : C32 x3) (c4 : C32 x4) (hσ : CanS (shC b) (NC b) σ) (h : wp_X1_leastOfCases_c37 x2 x3 x4 σ Q) : KtI Z l D cA ad (shC b) (NC b) yX1_leastOfCases cX1_leastOfCases 10 (some .int) 2 [.ref (ad 36), .ref (ad 37), vI x2, vI x3, vI x4] σ Q :=
  KtI.of my_X1_leastOfCases hA [some (.ref (ad 36)), some (.ref (ad 37)), some (vI x2), some (vI x3), some (vI x4), none, none, none, none, none] (Nat.le_of_ble_eq_true rfl) rfl (fun p e s m args below meth c A0 E hr => t_X1_leastOfCases_c37 E hr x2 x3 x4 σ c2 c3 c4 hσ h)
theorem dX1_relax_0 : Dc cX1_relax 0 (.iconst 0) 1 1 := ⟨by decide +kernel, rfl⟩
theorem dX1_relax_1 : Dc cX1_relax 1 (.istore 5) 2 3 := ⟨by decide +kernel, rfl⟩
theorem dX1_relax_3 : Dc cX1_relax 3 (.iconst 0) 1 4 := ⟨by decide +kernel, rfl⟩
theorem dX1_relax_4 : Dc cX1_relax 4 (.istore 6) 2 6 := ⟨by decide +kernel, rfl⟩
theorem dX1_relax_6 : Dc cX1_relax 6 (.iload 6) 2 8 := ⟨by decide +kernel, rfl⟩
theorem dX1_relax_8 : Dc cX1_relax 8 (.aload_n 0) 1 9 := ⟨by decide +kernel, rfl⟩
theorem dX1_relax_9 : Dc cX1_relax 9 (.getfield 15) 3 12 := ⟨by decide +kernel, rfl⟩
theorem dX1_relax_12 : Dc cX1_relax 12 (.getfield 99) 3 15 := ⟨by decide +kernel, rfl⟩
theorem djX1_relax_15 : Dj cX1_relax 15 (.if_icmp .ge 113) 3 18 113 128 := ⟨by decide +kernel, rfl, by decide⟩
theorem dX1_relax_18 : Dc cX1_relax 18 (.aload_n 0) 1 19 := ⟨by decide +kernel, rfl⟩
theorem dX1_relax_19 : Dc cX1_relax 19 (.getfield 15) 3 22 := ⟨by decide +kernel, rfl⟩
theorem dX1_relax_22 : Dc cX1_relax 22 (.getfield 102) 3 25 := ⟨by decide +kernel, rfl⟩
theorem dX1_relax_25 : Dc cX1_relax 25 (.iload 6) 2 27 := ⟨by decide +kernel, rfl⟩
theorem dX1_relax_27 : Dc cX1_relax 27 (.iaload) 1 28 := ⟨by decide +kernel, rfl⟩
theorem dX1_relax_28 : Dc cX1_relax 28 (.istore 7) 2 30 := ⟨by decide +kernel, rfl⟩
theorem dX1_relax_30 : Dc cX1_relax 30 (.aload_n 1) 1 31 := ⟨by decide +kernel, rfl⟩
theorem dX1_relax_31 : Dc cX1_relax 31 (.iload_n 2) 1 32 := ⟨by decide +kernel, rfl⟩
theorem dX1_relax_32 : Dc cX1_relax 32 (.aload_n 0) 1 33 := ⟨by decide +kernel, rfl⟩
theorem dX1_relax_33 : Dc cX1_relax 33 (.getfield 9) 3 36 := ⟨by decide +kernel, rfl⟩
theorem dX1_relax_36 : Dc cX1_relax 36 (.getfield 105) 3 39 := ⟨by decide +kernel, rfl⟩
theorem dX1_relax_39 : Dc cX1_relax 39 (.iload 7) 2 41 := ⟨by decide +kernel, rfl⟩
theorem dX1_relax_41 : Dc cX1_relax 41 (.iaload) 1 42 := ⟨by decide +kernel, rfl⟩
theorem dX1_relax_42 : Dc cX1_relax 42 (.iadd) 1 43 := ⟨by decide +kernel, rfl⟩
theorem dX1_relax_43 : Dc cX1_relax 43 (.iaload) 1 44 := ⟨by decide +kernel, rfl⟩
theorem dX1_relax_44 : Dc cX1_relax 44 (.istore 8) 2 46 := ⟨by decide +kernel, rfl⟩
theorem dX1_relax_46 : Dc cX1_relax 46 (.iload_n 2) 1 47 := ⟨by decide +kernel, rfl⟩
theorem dX1_relax_47 : Dc cX1_relax 47 (.aload_n 0) 1 48 := ⟨by decide +kernel, rfl⟩
theorem dX1_relax_48 : Dc cX1_relax 48 (.getfield 9) 3 51 := ⟨by decide +kernel, rfl⟩
theorem dX1_relax_51 : Dc cX1_relax 51 (.getfield 106) 3 54 := ⟨by decide +kernel, rfl⟩
theorem dX1_relax_54 : Dc cX1_relax 54 (.iload 7) 2 56 := ⟨by decide +kernel, rfl⟩
theorem dX1_relax_56 : Dc cX1_relax 56 (.iaload) 1 57 := ⟨by decide +kernel, rfl⟩
theorem dX1_relax_57 : Dc cX1_relax 57 (.iadd) 1 58 := ⟨by decide +kernel, rfl⟩
theorem dX1_relax_58 : Dc cX1_relax 58 (.istore 9) 2 60 := ⟨by decide +kernel, rfl⟩
theorem dX1_relax_60 : Dc cX1_relax 60 (.iload 7) 2 62 := ⟨by decide +kernel, rfl⟩
theorem dX1_relax_62 : Dc cX1_relax 62 (.iload_n 3) 1 63 := ⟨by decide +kernel, rfl⟩
theorem djX1_relax_63 : Dj cX1_relax 63 (.if_icmp .eq 59) 3 66 59 122 := ⟨by decide +kernel, rfl, by decide⟩
theorem dX1_relax_66 : Dc cX1_relax 66 (.iload 8) 2 68 := ⟨by decide +kernel, rfl⟩
theorem djX1_relax_68 : Dj cX1_relax 68 (.ifCond .lt 54) 3 71 54 122 := ⟨by decide +kernel, rfl, by decide⟩
theorem dX1_relax_71 : Dc cX1_relax 71 (.aload_n 1) 1 72 := ⟨by decide +kernel, rfl⟩
theorem dX1_relax_72 : Dc cX1_relax 72 (.iload 9) 2 74 := ⟨by decide +kernel, rfl⟩
theorem dX1_relax_74 : Dc cX1_relax 74 (.iaload) 1 75 := ⟨by decide +kernel, rfl⟩
theorem dX1_relax_75 : Dc cX1_relax 75 (.aload_n 0) 1 76 := ⟨by decide +kernel, rfl⟩
theorem dX1_relax_76 : Dc cX1_relax 76 (.getfield 9) 3 79 := ⟨by decide +kernel, rfl⟩
theorem dX1_relax_79 : Dc cX1_relax 79 (.getfield 86) 3 82 := ⟨by decide +kernel, rfl⟩
theorem dX1_relax_82 : Dc cX1_relax 82 (.iload 7) 2 84 := ⟨by decide +kernel, rfl⟩
theorem dX1_relax_84 : Dc cX1_relax 84 (.iaload) 1 85 := ⟨by decide +kernel, rfl⟩
theorem dX1_relax_85 : Dc cX1_relax 85 (.iload 8) 2 87 := ⟨by decide +kernel, rfl⟩
theorem dX1_relax_87 : Dc cX1_relax 87 (.iload 4) 2 89 := ⟨by decide +kernel, rfl⟩
theorem dX1_relax_89 : Dc cX1_relax 89 (.invokestatic 91) 3 92 := ⟨by decide +kernel, rfl⟩
theorem dX1_relax_92 : Dc cX1_relax 92 (.invokestatic 95) 3 95 := ⟨by decide +kernel, rfl⟩
theorem dX1_relax_95 : Dc cX1_relax 95 (.istore 10) 2 97 := ⟨by decide +kernel, rfl⟩
theorem dX1_relax_97 : Dc cX1_relax 97 (.iload 5) 2 99 := ⟨by decide +kernel, rfl⟩
theorem dX1_relax_99 : Dc cX1_relax 99 (.iload 10) 2 101 := ⟨by decide +kernel, rfl⟩
theorem dX1_relax_101 : Dc cX1_relax 101 (.aload_n 1) 1 102 := ⟨by decide +kernel, rfl⟩
theorem dX1_relax_102 : Dc cX1_relax 102 (.iload 9) 2 104 := ⟨by decide +kernel, rfl⟩
theorem dX1_relax_104 : Dc cX1_relax 104 (.iaload) 1 105 := ⟨by decide +kernel, rfl⟩
theorem djX1_relax_105 : Dj cX1_relax 105 (.if_icmp .eq 7) 3 108 7 112 := ⟨by decide +kernel, rfl, by decide⟩
theorem dX1_relax_108 : Dc cX1_relax 108 (.iconst 1) 1 109 := ⟨by decide +kernel, rfl⟩
theorem djX1_relax_109 : Dj cX1_relax 109 (.goto 4) 3 112 4 113 := ⟨by decide +kernel, rfl, by decide⟩
theorem dX1_relax_112 : Dc cX1_relax 112 (.iconst 0) 1 113 := ⟨by decide +kernel, rfl⟩
theorem dX1_relax_113 : Dc cX1_relax 113 (.ior) 1 114 := ⟨by decide +kernel, rfl⟩
theorem dX1_relax_114 : Dc cX1_relax 114 (.istore 5) 2 116 := ⟨by decide +kernel, rfl⟩
theorem dX1_relax_116 : Dc cX1_relax 116 (.aload_n 1) 1 117 := ⟨by decide +kernel, rfl⟩
theorem dX1_relax_117 : Dc cX1_relax 117 (.iload 9) 2 119 := ⟨by decide +kernel, rfl⟩
theorem dX1_relax_119 : Dc cX1_relax 119 (.iload 10) 2 121 := ⟨by decide +kernel, rfl⟩
theorem dX1_relax_121 : Dc cX1_relax 121 (.iastore) 1 122 := ⟨by decide +kernel, rfl⟩
theorem dX1_relax_122 : Dc cX1_relax 122 (.iinc 6 1) 3 125 := ⟨by decide +kernel, rfl⟩
theorem djX1_relax_125 : Dj cX1_relax 125 (.goto (-119)) 3 128 (-119) 6 := ⟨by decide +kernel, rfl, by decide⟩
theorem dX1_relax_128 : Dc cX1_relax 128 (.iload 5) 2 130 := ⟨by decide +kernel, rfl⟩
theorem dX1_relax_130 : Dc cX1_relax 130 (.ireturn) 1 131 := ⟨by decide +kernel, rfl⟩
section
variable {p : Program} {l : Launch} {e : Env} {s : State} {m : MethodId} {args : Array Value} {below : List Frame} {meth : Method} {c : Code} {A0 : Nat → Prop} {D : va_G} {cA : Nat → ClassId} {ad : Nat → Nat} {Z : (Nat → Nat) × (Nat → Nat)} {Q : Int → St → Prop} {b : Bool}
set_option maxHeartbeats 4000000 in
set_option maxRecDepth 100000 in
theorem t_X1_relax_c37_b122 (E : Ev p s m args meth c cX1_relax 11 RX1 A0 D cA ad (NC b) Z) (hr : meth.sig.returnType = (some .boolean)) {K6 : Int → Int → Int → Int → Int → St → Prop} (hK6 : ∀ (x2 : Int) (x3 : Int) (x4 : Int) (x5 : Int) (x6 : Int) (σ : St), C32 x2 → C32 x3 → C32 x4 → C32 x5 → C32 x6 → CanS (shC b) (NC b) σ → K6 x2 x3 x4 x5 x6 σ → G p l e (rmL 2 0 0) s m args below meth c 11 A0 D cA ad (shC b) (NC b) 0 0 (MQ below (QIc D cA ad (shC b) (NC b) Q A0) args s 0 0 A0) σ 6 [some (.ref (ad 36)), some (.ref (ad 37)), some (vI x2), some (vI x3), some (vI x4), some (vI x5), some (vI x6), none, none, none, none] []) (x2 : Int) (x3 : Int) (x4 : Int) (x5 : Int) (x6 : Int) (σ : St) (c2 : C32 x2) (c3 : C32 x3) (c4 : C32 x4) (c5 : C32 x5) (c6 : C32 x6) (hσ : CanS (shC b) (NC b) σ) (h : wp_X1_relax_c37_b122 Q K6 x2 x3 x4 x5 x6 σ) : G p l e (rmL 2 0 0) s m args below meth c 11 A0 D cA ad (shC b) (NC b) 0 0 (MQ below (QIc D cA ad (shC b) (NC b) Q A0) args s 0 0 A0) σ 122 [some (.ref (ad 36)), some (.ref (ad 37)), some (vI x2), some (vI x3), some (vI x4), some (vI x5), some (vI x6), none, none, none, none] [] := by
  unfold wp_X1_relax_c37_b122 at h
  refine g_iinc_6 E rfl (by decide) dX1_relax_122 (fun v8 ev8 => ?_)
  replace h := h v8 ev8
  have cv8 : C32 v8 := by rw [ev8]; exact c32_w _
  refine g_goto E djX1_relax_125 ?_
  exact (hK6 x2 x3 x4 x5 v8 σ c2 c3 c4 c5 cv8 hσ h).weak (w_k (w_k (w_k (w_k (w_k (w_k (w_k (w_d (w_d (w_d (w_d w_n)))))))))))
set_option maxHeartbeats 4000000 in
set_option maxRecDepth 100000 in
theorem t_X1_relax_c37_b113 (E : Ev p s m args meth c cX1_relax 11 RX1 A0 D cA ad (NC b) Z) (hr : meth.sig.returnType = (some .boolean)) {K6 : Int → Int → Int → Int → Int → St → Prop} (hK6 : ∀ (x2 : Int) (x3 : Int) (x4 : Int) (x5 : Int) (x6 : Int) (σ : St), C32 x2 → C32 x3 → C32 x4 → C32 x5 → C32 x6 → CanS (shC b) (NC b) σ → K6 x2 x3 x4 x5 x6 σ → G p l e (rmL 2 0 0) s m args below meth c 11 A0 D cA ad (shC b) (NC b) 0 0 (MQ below (QIc D cA ad (shC b) (NC b) Q A0) args s 0 0 A0) σ 6 [some (.ref (ad 36)), some (.ref (ad 37)), some (vI x2), some (vI x3), some (vI x4), some (vI x5), some (vI x6), none, none, none, none] []) (x2 : Int) (x3 : Int) (x4 : Int) (x6 : Int) (x9 : Int) (x10 : Int) (s0 : Int) (s1 : Int) (σ : St) (c2 : C32 x2) (c3 : C32 x3) (c4 : C32 x4) (c6 : C32 x6) (c9 : C32 x9) (c10 : C32 x10) (cs0 : C32 s0) (cs1 : C32 s1) (hσ : CanS (shC b) (NC b) σ) (h : wp_X1_relax_c37_b113 Q K6 x2 x3 x4 x6 x9 x10 s0 s1 σ) : G p l e (rmL 2 0 0) s m args below meth c 11 A0 D cA ad (shC b) (NC b) 0 0 (MQ below (QIc D cA ad (shC b) (NC b) Q A0) args s 0 0 A0) σ 113 [some (.ref (ad 36)), some (.ref (ad 37)), some (vI x2), some (vI x3), some (vI x4), none, some (vI x6), none, none, some (vI x9), some (vI x10)] [vI s0, vI s1] := by
  unfold wp_X1_relax_c37_b113 at h
  refine g_ior E dX1_relax_113 ?_
  refine g_nmI (fun v9 ev9 => ?_)
  replace h := h v9 ev9
  have cv9 : C32 v9 := by rw [ev9]; exact (c32_t _)
  refine g_istore_5 E rfl (by decide) dX1_relax_114 ?_
  refine g_aload_1 E dX1_relax_116 ?_
  refine g_iload_9 E dX1_relax_117 ?_
  refine g_iload_10 E dX1_relax_119 ?_
  refine g_iast E (kC_37 b) (sC_37 b) (by decide) h.1 dX1_relax_121 (g_nmS (fun σ10 eσ10 => ?_))
  replace h := h.2 σ10 eσ10
  have hσ10 : CanS (shC b) (NC b) σ10 := by rw [eσ10]; exact wC_37 hσ c10
  exact (t_X1_relax_c37_b122 E hr hK6 x2 x3 x4 v9 x6 σ10 c2 c3 c4 cv9 c6 hσ10 h).weak (w_k (w_k (w_k (w_k (w_k (w_k (w_k (w_d (w_d (w_d (w_d w_n)))))))))))
set_option maxHeartbeats 4000000 in
set_option maxRecDepth 100000 in
theorem t_X1_relax_c37_l6 (E : Ev p s m args meth c cX1_relax 11 RX1 A0 D cA ad (NC b) Z) (hr : meth.sig.returnType = (some .boolean)) : ∀ (n : Nat) (x2 : Int) (x3 : Int) (x4 : Int) (x5 : Int) (x6 : Int) (σ : St), C32 x2 → C32 x3 → C32 x4 → C32 x5 → C32 x6 → CanS (shC b) (NC b) σ → wp_X1_relax_c37_l6 Q n x2 x3 x4 x5 x6 σ → G p l e (rmL 2 0 0) s m args below meth c 11 A0 D cA ad (shC b) (NC b) 0 0 (MQ below (QIc D cA ad (shC b) (NC b) Q A0) args s 0 0 A0) σ 6 [some (.ref (ad 36)), some (.ref (ad 37)), some (vI x2), some (vI x3), some (vI x4), some (vI x5), some (vI x6), none, none, none, none] [] := by
  intro n
  induction n with
  | zero => intro _ _ _ _ _ _ _ _ _ _ _ _ h; exact h.elim
  | succ n ih =>
    intro x2 x3 x4 x5 x6 σ c2 c3 c4 c5 c6 hσ h
    unfold wp_X1_relax_c37_l6 at h
    refine g_iload_6 E dX1_relax_6 ?_
    refine g_aload_0 E dX1_relax_8 ?_
    refine g_getR E fl_RX1_15 (kC_36 b) (sC_36 b) rfl dX1_relax_9 ?_
    refine g_getI E fl_RX1_99 (kC_24 b) (sC_24 b) rfl dX1_relax_12 ?_
    refine g_icmp_ge E c6 (fC_24_12 hσ) djX1_relax_15 (fun hc => ?_) (fun hc => ?_)
    · replace h := h.1 hc
      refine g_iload_5 E dX1_relax_128 ?_
      exact g_zret E hr h.1 h.2 hσ dX1_relax_130
    · replace h := h.2 hc
      refine g_aload_0 E dX1_relax_18 ?_
      refine g_getR E fl_RX1_15 (kC_36 b) (sC_36 b) rfl dX1_relax_19 ?_
      refine g_getR E fl_RX1_102 (kC_24 b) (sC_24 b) rfl dX1_relax_22 ?_
      refine g_iload_6 E dX1_relax_25 ?_
      refine g_iald E (kC_33 b) (sC_33 b) (by decide) h.1 dX1_relax_27 ?_
      replace h := h.2
      refine g_nmI (fun v1 ev1 => ?_)
      replace h := h v1 ev1
      have cv1 : C32 v1 := by rw [ev1]; exact (aC_33 hσ _)
      refine g_istore_7 E rfl (by decide) dX1_relax_28 ?_
      refine g_aload_1 E dX1_relax_30 ?_
      refine g_iload_2 E dX1_relax_31 ?_
      refine g_aload_0 E dX1_relax_32 ?_
      refine g_getR E fl_RX1_9 (kC_36 b) (sC_36 b) rfl dX1_relax_33 ?_
      refine g_getR E fl_RX1_105 (kC_14 b) (sC_14 b) rfl dX1_relax_36 ?_
      refine g_iload_7 E dX1_relax_39 ?_
      refine g_iald E (kC_16 b) (sC_16 b) (by decide) h.1 dX1_relax_41 ?_
      replace h := h.2
      refine g_iadd E dX1_relax_42 ?_
      refine g_iald E (kC_37 b) (sC_37 b) (by decide) h.1 dX1_relax_43 ?_
      replace h := h.2
      refine g_nmI (fun v2 ev2 => ?_)
      replace h := h v2 ev2
      have cv2 : C32 v2 := by rw [ev2]; exact (aC_37 hσ _)
      refine g_istore_8 E rfl (by decide) dX1_relax_44 ?_
      refine g_iload_2 E dX1_relax_46 ?_
      refine g_aload_0 E dX1_relax_47 ?_
      refine g_getR E fl_RX1_9 (kC_36 b) (sC_36 b) rfl dX1_relax_48 ?_
      refine g_getR E fl_RX1_106 (kC_14 b) (sC_14 b) rfl dX1_relax_51 ?_
      refine g_iload_7 E dX1_relax_54 ?_
      refine g_iald E (kC_15 b) (sC_15 b) (by decide) h.1 dX1_relax_56 ?_
      replace h := h.2
      refine g_iadd E dX1_relax_57 ?_
      refine g_nmI (fun v3 ev3 => ?_)
      replace h := h v3 ev3
      have cv3 : C32 v3 := by rw [ev3]; exact (c32_w _)
      refine g_istore_9 E rfl (by decide) dX1_relax_58 ?_
      refine g_iload_7 E dX1_relax_60 ?_
      refine g_iload_3 E dX1_relax_62 ?_
      refine g_icmp_eq E cv1 c3 djX1_relax_63 (fun hc => ?_) (fun hc => ?_)
      · replace h := h.1 hc
        exact (t_X1_relax_c37_b122 E hr ih x2 x3 x4 x5 x6 σ c2 c3 c4 c5 c6 hσ h).weak (w_k (w_k (w_k (w_k (w_k (w_k (w_k (w_d (w_d (w_d (w_d w_n)))))))))))
      · replace h := h.2 hc
        refine g_iload_8 E dX1_relax_66 ?_
        refine g_if_lt E cv2 djX1_relax_68 (fun hc => ?_) (fun hc => ?_)
        · replace h := h.1 hc
          exact (t_X1_relax_c37_b122 E hr ih x2 x3 x4 x5 x6 σ c2 c3 c4 c5 c6 hσ h).weak (w_k (w_k (w_k (w_k (w_k (w_k (w_k (w_d (w_d (w_d (w_d w_n)))))))))))
        · replace h := h.2 hc
          refine g_aload_1 E dX1_relax_71 ?_
          refine g_iload_9 E dX1_relax_72 ?_
          refine g_iald E (kC_37 b) (sC_37 b) (by decide) h.1 dX1_relax_74 ?_
          replace h := h.2
          refine g_aload_0 E dX1_relax_75 ?_
          refine g_getR E fl_RX1_9 (kC_36 b) (sC_36 b) rfl dX1_relax_76 ?_
          refine g_getR E fl_RX1_86 (kC_14 b) (sC_14 b) rfl dX1_relax_79 ?_
          refine g_iload_7 E dX1_relax_82 ?_
          refine g_iald E (kC_18 b) (sC_18 b) (by decide) h.1 dX1_relax_84 ?_
          replace h := h.2
          refine g_iload_8 E dX1_relax_85 ?_
          refine g_iload_4 E dX1_relax_87 ?_
          refine g_callsI E my_X1_join ms_X1_join ml_RX1_91 (rm_ok (by decide) (by decide)) ⟨Nat.zero_le _, Nat.zero_le _⟩ (m_X1_join E.2.2.1 (aC_18 hσ _) cv2 c4 hσ h) rfl rfl (Nat.le_of_ble_eq_true rfl) dX1_relax_89 (fun r4 σ5 cr4 hσ5 h => ?_)
          refine g_callsI E my_X1_lesser ms_X1_lesser ml_RX1_95 (rm_ok (by decide) (by decide)) ⟨Nat.zero_le _, Nat.zero_le _⟩ (m_X1_lesser E.2.2.1 (aC_37 hσ _) cr4 hσ5 h) rfl rfl (Nat.le_of_ble_eq_true rfl) dX1_relax_92 (fun r6 σ7 cr6 hσ7 h => ?_)
          refine g_istore_10 E rfl (by decide) dX1_relax_95 ?_
          refine g_iload_5 E dX1_relax_97 ?_
          refine g_iload_10 E dX1_relax_99 ?_
          refine g_aload_1 E dX1_relax_101 ?_
          refine g_iload_9 E dX1_relax_102 ?_
          refine g_iald E (kC_37 b) (sC_37 b) (by decide) h.1 dX1_relax_104 ?_
          replace h := h.2
          refine g_icmp_eq E cr6 (aC_37 hσ7 _) djX1_relax_105 (fun hc => ?_) (fun hc => ?_)
          · replace h := h.1 hc
            refine g_iconst E dX1_relax_112 ?_
            exact (t_X1_relax_c37_b113 E hr ih x2 x3 x4 x6 v3 r6 0 x5 σ7 c2 c3 c4 c6 cv3 cr6 cl_0 c5 hσ7 h).weak (w_k (w_k (w_k (w_k (w_k (w_d (w_k (w_d (w_d (w_k (w_k w_n)))))))))))
          · replace h := h.2 hc
            refine g_iconst E dX1_relax_108 ?_
            refine g_goto E djX1_relax_109 ?_
            exact (t_X1_relax_c37_b113 E hr ih x2 x3 x4 x6 v3 r6 1 x5 σ7 c2 c3 c4 c6 cv3 cr6 cl_1 c5 hσ7 h).weak (w_k (w_k (w_k (w_k (w_k (w_d (w_k (w_d (w_d (w_k (w_k w_n)))))))))))
set_option maxHeartbeats 4000000 in
set_option maxRecDepth 100000 in
theorem t_X1_relax_c37 (E : Ev p s m args meth c cX1_relax 11 RX1 A0 D cA ad (NC b) Z) (hr : meth.sig.returnType = (some .boolean)) (x2 : Int) (x3 : Int) (x4 : Int) (σ : St) (c2 : C32 x2) (c3 : C32 x3) (c4 : C32 x4) (hσ : CanS (shC b) (NC b) σ) (h : wp_X1_relax_c37 x2 x3 x4 σ Q) : G p l e (rmL 2 0 0) s m args below meth c 11 A0 D cA ad (shC b) (NC b) 0 0 (MQ below (QIc D cA ad (shC b) (NC b) Q A0) args s 0 0 A0) σ 0 [some (.ref (ad 36)), some (.ref (ad 37)), some (vI x2), some (vI x3), some (vI x4), none, none, none, none, none, none] [] := by
  unfold wp_X1_relax_c37 at h
  refine g_iconst E dX1_relax_0 ?_
  refine g_istore_5 E rfl (by decide) dX1_relax_1 ?_
  refine g_iconst E dX1_relax_3 ?_
  refine g_istore_6 E rfl (by decide) dX1_relax_4 ?_
  exact (t_X1_relax_c37_l6 E hr bigN x2 x3 x4 0 0 σ c2 c3 c4 cl_0 cl_0 hσ h).weak (w_k (w_k (w_k (w_k (w_k (w_k (w_k (w_d (w_d (w_d (w_d w_n)))))))))))
end
theorem m_X1_relax_c37 {Z : (Nat → Nat) × (Nat → Nat)} {l : Launch} {D : va_G} {cA : Nat → ClassId} {ad : Nat → Nat} {b : Bool} {x2 x3 x4 : Int} {σ : St} {Q : Int → St → Prop} (hA : AdOk (NC b) ad) (c2 : C32 x2) (c3 : C32 x3) (c4 : C32 x4) (hσ : CanS (shC b) (NC b) σ) (h : wp_X1_relax_c37 x2 x3 x4 σ Q) : KtI Z l D cA ad (shC b) (NC b) yX1_relax cX1_relax 11 (some .boolean) 2 [.ref (ad 36), .ref (ad 37), vI x2, vI x3, vI x4] σ Q :=
  KtI.of my_X1_relax hA [some (.ref (ad 36)), some (.ref (ad 37)), some (vI x2), some (vI x3), some (vI x4), none, none, none, none, none, none] (Nat.le_of_ble_eq_true rfl) rfl (fun p e s m args below meth c A0 E hr => t_X1_relax_c37 E hr x2 x3 x4 σ c2 c3 c4 hσ h)
theorem dX1_fill_0 : Dc cX1_fill 0 (.iconst 0) 1 1 := ⟨by decide +kernel, rfl⟩
theorem dX1_fill_1 : Dc cX1_fill 1 (.istore 4) 2 3 := ⟨by decide +kernel, rfl⟩
theorem dX1_fill_3 : Dc cX1_fill 3 (.iload 4) 2 5 := ⟨by decide +kernel, rfl⟩
theorem dX1_fill_5 : Dc cX1_fill 5 (.aload_n 0) 1 6 := ⟨by decide +kernel, rfl⟩
theorem dX1_fill_6 : Dc cX1_fill 6 (.getfield 15) 3 9 := ⟨by decide +kernel, rfl⟩
theorem dX1_fill_9 : Dc cX1_fill 9 (.getfield 54) 3 12 := ⟨by decide +kernel, rfl⟩
theorem djX1_fill_12 : Dj cX1_fill 12 (.if_icmp .ge 84) 3 15 84 96 := ⟨by decide +kernel, rfl, by decide⟩
theorem dX1_fill_15 : Dc cX1_fill 15 (.iload 4) 2 17 := ⟨by decide +kernel, rfl⟩
theorem dX1_fill_17 : Dc cX1_fill 17 (.bipush 12) 2 19 := ⟨by decide +kernel, rfl⟩
theorem dX1_fill_19 : Dc cX1_fill 19 (.imul) 1 20 := ⟨by decide +kernel, rfl⟩
theorem dX1_fill_20 : Dc cX1_fill 20 (.istore 5) 2 22 := ⟨by decide +kernel, rfl⟩
theorem dX1_fill_22 : Dc cX1_fill 22 (.iload 5) 2 24 := ⟨by decide +kernel, rfl⟩
theorem dX1_fill_24 : Dc cX1_fill 24 (.istore 6) 2 26 := ⟨by decide +kernel, rfl⟩
theorem dX1_fill_26 : Dc cX1_fill 26 (.iload 6) 2 28 := ⟨by decide +kernel, rfl⟩
theorem dX1_fill_28 : Dc cX1_fill 28 (.iload 5) 2 30 := ⟨by decide +kernel, rfl⟩
theorem dX1_fill_30 : Dc cX1_fill 30 (.bipush 12) 2 32 := ⟨by decide +kernel, rfl⟩
theorem dX1_fill_32 : Dc cX1_fill 32 (.iadd) 1 33 := ⟨by decide +kernel, rfl⟩
theorem djX1_fill_33 : Dj cX1_fill 33 (.if_icmp .ge 22) 3 36 22 55 := ⟨by decide +kernel, rfl, by decide⟩
theorem dX1_fill_36 : Dc cX1_fill 36 (.aload_n 1) 1 37 := ⟨by decide +kernel, rfl⟩
theorem dX1_fill_37 : Dc cX1_fill 37 (.iload 6) 2 39 := ⟨by decide +kernel, rfl⟩
theorem dX1_fill_39 : Dc cX1_fill 39 (.aload_n 0) 1 40 := ⟨by decide +kernel, rfl⟩
theorem dX1_fill_40 : Dc cX1_fill 40 (.aload_n 1) 1 41 := ⟨by decide +kernel, rfl⟩
theorem dX1_fill_41 : Dc cX1_fill 41 (.iload 6) 2 43 := ⟨by decide +kernel, rfl⟩
theorem dX1_fill_43 : Dc cX1_fill 43 (.iload_n 2) 1 44 := ⟨by decide +kernel, rfl⟩
theorem dX1_fill_44 : Dc cX1_fill 44 (.iload_n 3) 1 45 := ⟨by decide +kernel, rfl⟩
theorem dX1_fill_45 : Dc cX1_fill 45 (.invokevirtual 58) 3 48 := ⟨by decide +kernel, rfl⟩
theorem dX1_fill_48 : Dc cX1_fill 48 (.iastore) 1 49 := ⟨by decide +kernel, rfl⟩
theorem dX1_fill_49 : Dc cX1_fill 49 (.iinc 6 1) 3 52 := ⟨by decide +kernel, rfl⟩
theorem djX1_fill_52 : Dj cX1_fill 52 (.goto (-26)) 3 55 (-26) 26 := ⟨by decide +kernel, rfl, by decide⟩
theorem dX1_fill_55 : Dc cX1_fill 55 (.iconst 1) 1 56 := ⟨by decide +kernel, rfl⟩
theorem dX1_fill_56 : Dc cX1_fill 56 (.istore 6) 2 58 := ⟨by decide +kernel, rfl⟩
theorem dX1_fill_58 : Dc cX1_fill 58 (.iconst 0) 1 59 := ⟨by decide +kernel, rfl⟩
theorem dX1_fill_59 : Dc cX1_fill 59 (.istore 7) 2 61 := ⟨by decide +kernel, rfl⟩
theorem dX1_fill_61 : Dc cX1_fill 61 (.iload 7) 2 63 := ⟨by decide +kernel, rfl⟩
theorem dX1_fill_63 : Dc cX1_fill 63 (.bipush 12) 2 65 := ⟨by decide +kernel, rfl⟩
theorem djX1_fill_65 : Dj cX1_fill 65 (.if_icmp .gt 25) 3 68 25 90 := ⟨by decide +kernel, rfl, by decide⟩
theorem dX1_fill_68 : Dc cX1_fill 68 (.iload 6) 2 70 := ⟨by decide +kernel, rfl⟩
theorem djX1_fill_70 : Dj cX1_fill 70 (.ifCond .eq 20) 3 73 20 90 := ⟨by decide +kernel, rfl, by decide⟩
theorem dX1_fill_73 : Dc cX1_fill 73 (.aload_n 0) 1 74 := ⟨by decide +kernel, rfl⟩
theorem dX1_fill_74 : Dc cX1_fill 74 (.aload_n 1) 1 75 := ⟨by decide +kernel, rfl⟩
theorem dX1_fill_75 : Dc cX1_fill 75 (.iload 5) 2 77 := ⟨by decide +kernel, rfl⟩
theorem dX1_fill_77 : Dc cX1_fill 77 (.iload_n 2) 1 78 := ⟨by decide +kernel, rfl⟩
theorem dX1_fill_78 : Dc cX1_fill 78 (.iload_n 3) 1 79 := ⟨by decide +kernel, rfl⟩
theorem dX1_fill_79 : Dc cX1_fill 79 (.invokevirtual 62) 3 82 := ⟨by decide +kernel, rfl⟩
theorem dX1_fill_82 : Dc cX1_fill 82 (.istore 6) 2 84 := ⟨by decide +kernel, rfl⟩
theorem dX1_fill_84 : Dc cX1_fill 84 (.iinc 7 1) 3 87 := ⟨by decide +kernel, rfl⟩
theorem djX1_fill_87 : Dj cX1_fill 87 (.goto (-26)) 3 90 (-26) 61 := ⟨by decide +kernel, rfl, by decide⟩
theorem dX1_fill_90 : Dc cX1_fill 90 (.iinc 4 1) 3 93 := ⟨by decide +kernel, rfl⟩
theorem djX1_fill_93 : Dj cX1_fill 93 (.goto (-90)) 3 96 (-90) 3 := ⟨by decide +kernel, rfl, by decide⟩
theorem dX1_fill_96 : Dc cX1_fill 96 (.return_) 1 97 := ⟨by decide +kernel, rfl⟩
section
variable {p : Program} {l : Launch} {e : Env} {s : State} {m : MethodId} {args : Array Value} {below : List Frame} {meth : Method} {c : Code} {A0 : Nat → Prop} {D : va_G} {cA : Nat → ClassId} {ad : Nat → Nat} {Z : (Nat → Nat) × (Nat → Nat)} {Q : Int → St → Prop} {b : Bool}
set_option maxHeartbeats 4000000 in
set_option maxRecDepth 100000 in
theorem t_X1_fill_c37_b90 (E : Ev p s m args meth c cX1_fill 8 RX1 A0 D cA ad (NC b) Z) (hr : meth.sig.returnType = none) {K3 : Int → Int → Int → St → Prop} (hK3 : ∀ (x2 : Int) (x3 : Int) (x4 : Int) (σ : St), C32 x2 → C32 x3 → C32 x4 → CanS (shC b) (NC b) σ → K3 x2 x3 x4 σ → G p l e (rmL 3 0 0) s m args below meth c 8 A0 D cA ad (shC b) (NC b) 0 0 (MQ below (QVc D cA ad (shC b) (NC b) Q A0) args s 0 0 A0) σ 3 [some (.ref (ad 36)), some (.ref (ad 37)), some (vI x2), some (vI x3), some (vI x4), none, none, none] []) (x2 : Int) (x3 : Int) (x4 : Int) (σ : St) (c2 : C32 x2) (c3 : C32 x3) (c4 : C32 x4) (hσ : CanS (shC b) (NC b) σ) (h : wp_X1_fill_c37_b90 Q K3 x2 x3 x4 σ) : G p l e (rmL 3 0 0) s m args below meth c 8 A0 D cA ad (shC b) (NC b) 0 0 (MQ below (QVc D cA ad (shC b) (NC b) Q A0) args s 0 0 A0) σ 90 [some (.ref (ad 36)), some (.ref (ad 37)), some (vI x2), some (vI x3), some (vI x4), none, none, none] [] := by
  unfold wp_X1_fill_c37_b90 at h
  refine g_iinc_4 E rfl (by decide) dX1_fill_90 (fun v9 ev9 => ?_)
  replace h := h v9 ev9
  have cv9 : C32 v9 := by rw [ev9]; exact c32_w _
  refine g_goto E djX1_fill_93 ?_
  exact (hK3 x2 x3 v9 σ c2 c3 cv9 hσ h).weak (w_k (w_k (w_k (w_k (w_k (w_d (w_d (w_d w_n))))))))
set_option maxHeartbeats 4000000 in
set_option maxRecDepth 100000 in
theorem t_X1_fill_c37_l61 (E : Ev p s m args meth c cX1_fill 8 RX1 A0 D cA ad (NC b) Z) (hr : meth.sig.returnType = none) {K3 : Int → Int → Int → St → Prop} (hK3 : ∀ (x2 : Int) (x3 : Int) (x4 : Int) (σ : St), C32 x2 → C32 x3 → C32 x4 → CanS (shC b) (NC b) σ → K3 x2 x3 x4 σ → G p l e (rmL 3 0 0) s m args below meth c 8 A0 D cA ad (shC b) (NC b) 0 0 (MQ below (QVc D cA ad (shC b) (NC b) Q A0) args s 0 0 A0) σ 3 [some (.ref (ad 36)), some (.ref (ad 37)), some (vI x2), some (vI x3), some (vI x4), none, none, none] []) : ∀ (n : Nat) (x2 : Int) (x3 : Int) (x4 : Int) (x5 : Int) (x6 : Int) (x7 : Int) (σ : St), C32 x2 → C32 x3 → C32 x4 → C32 x5 → C32 x6 → C32 x7 → CanS (shC b) (NC b) σ → wp_X1_fill_c37_l61 Q K3 n x2 x3 x4 x5 x6 x7 σ → G p l e (rmL 3 0 0) s m args below meth c 8 A0 D cA ad (shC b) (NC b) 0 0 (MQ below (QVc D cA ad (shC b) (NC b) Q A0) args s 0 0 A0) σ 61 [some (.ref (ad 36)), some (.ref (ad 37)), some (vI x2), some (vI x3), some (vI x4), some (vI x5), some (vI x6), some (vI x7)] [] := by
  intro n
  induction n with
  | zero => intro _ _ _ _ _ _ _ _ _ _ _ _ _ _ h; exact h.elim
  | succ n ih =>
    intro x2 x3 x4 x5 x6 x7 σ c2 c3 c4 c5 c6 c7 hσ h
    unfold wp_X1_fill_c37_l61 at h
    refine g_iload_7 E dX1_fill_61 ?_
    refine g_bipush E (by decide) dX1_fill_63 ?_
    refine g_icmp_gt E c7 cl_12 djX1_fill_65 (fun hc => ?_) (fun hc => ?_)
    · replace h := h.1 hc
      exact (t_X1_fill_c37_b90 E hr hK3 x2 x3 x4 σ c2 c3 c4 hσ h).weak (w_k (w_k (w_k (w_k (w_k (w_d (w_d (w_d w_n))))))))
    · replace h := h.2 hc
      refine g_iload_6 E dX1_fill_68 ?_
      refine g_if_eq E c6 djX1_fill_70 (fun hc => ?_) (fun hc => ?_)
      · replace h := h.1 hc
        exact (t_X1_fill_c37_b90 E hr hK3 x2 x3 x4 σ c2 c3 c4 hσ h).weak (w_k (w_k (w_k (w_k (w_k (w_d (w_d (w_d w_n))))))))
      · replace h := h.2 hc
        refine g_aload_0 E dX1_fill_73 ?_
        refine g_aload_1 E dX1_fill_74 ?_
        refine g_iload_5 E dX1_fill_75 ?_
        refine g_iload_2 E dX1_fill_77 ?_
        refine g_iload_3 E dX1_fill_78 ?_
        refine g_callvI E my_X1_relax mi_X1_relax msel_X1_relax ml_RX1_62 (rm_ok (by decide) (by decide)) ⟨Nat.zero_le _, Nat.zero_le _⟩ (kC_36 b) (sC_36 b) rfl (m_X1_relax_c37 E.2.2.1 c5 c2 c3 hσ h) rfl rfl (Nat.le_of_ble_eq_true rfl) dX1_fill_79 (fun r6 σ7 cr6 hσ7 h => ?_)
        refine g_istore_6 E rfl (by decide) dX1_fill_82 ?_
        refine g_iinc_7 E rfl (by decide) dX1_fill_84 (fun v8 ev8 => ?_)
        replace h := h v8 ev8
        have cv8 : C32 v8 := by rw [ev8]; exact c32_w _
        refine g_goto E djX1_fill_87 ?_
        exact (ih x2 x3 x4 x5 r6 v8 σ7 c2 c3 c4 c5 cr6 cv8 hσ7 h).weak (w_k (w_k (w_k (w_k (w_k (w_k (w_k (w_k w_n))))))))
set_option maxHeartbeats 4000000 in
set_option maxRecDepth 100000 in
theorem t_X1_fill_c37_l26 (E : Ev p s m args meth c cX1_fill 8 RX1 A0 D cA ad (NC b) Z) (hr : meth.sig.returnType = none) {K3 : Int → Int → Int → St → Prop} (hK3 : ∀ (x2 : Int) (x3 : Int) (x4 : Int) (σ : St), C32 x2 → C32 x3 → C32 x4 → CanS (shC b) (NC b) σ → K3 x2 x3 x4 σ → G p l e (rmL 3 0 0) s m args below meth c 8 A0 D cA ad (shC b) (NC b) 0 0 (MQ below (QVc D cA ad (shC b) (NC b) Q A0) args s 0 0 A0) σ 3 [some (.ref (ad 36)), some (.ref (ad 37)), some (vI x2), some (vI x3), some (vI x4), none, none, none] []) : ∀ (n : Nat) (x2 : Int) (x3 : Int) (x4 : Int) (x5 : Int) (x6 : Int) (σ : St), C32 x2 → C32 x3 → C32 x4 → C32 x5 → C32 x6 → CanS (shC b) (NC b) σ → wp_X1_fill_c37_l26 Q K3 n x2 x3 x4 x5 x6 σ → G p l e (rmL 3 0 0) s m args below meth c 8 A0 D cA ad (shC b) (NC b) 0 0 (MQ below (QVc D cA ad (shC b) (NC b) Q A0) args s 0 0 A0) σ 26 [some (.ref (ad 36)), some (.ref (ad 37)), some (vI x2), some (vI x3), some (vI x4), some (vI x5), some (vI x6), none] [] := by
  intro n
  induction n with
  | zero => intro _ _ _ _ _ _ _ _ _ _ _ _ h; exact h.elim
  | succ n ih =>
    intro x2 x3 x4 x5 x6 σ c2 c3 c4 c5 c6 hσ h
    unfold wp_X1_fill_c37_l26 at h
    refine g_iload_6 E dX1_fill_26 ?_
    refine g_iload_5 E dX1_fill_28 ?_
    refine g_bipush E (by decide) dX1_fill_30 ?_
    refine g_iadd E dX1_fill_32 ?_
    refine g_icmp_ge E c6 (c32_w _) djX1_fill_33 (fun hc => ?_) (fun hc => ?_)
    · replace h := h.1 hc
      refine g_iconst E dX1_fill_55 ?_
      refine g_istore_6 E rfl (by decide) dX1_fill_56 ?_
      refine g_iconst E dX1_fill_58 ?_
      refine g_istore_7 E rfl (by decide) dX1_fill_59 ?_
      exact (t_X1_fill_c37_l61 E hr hK3 bigN x2 x3 x4 x5 1 0 σ c2 c3 c4 c5 cl_1 cl_0 hσ h).weak (w_k (w_k (w_k (w_k (w_k (w_k (w_k (w_k w_n))))))))
    · replace h := h.2 hc
      refine g_aload_1 E dX1_fill_36 ?_
      refine g_iload_6 E dX1_fill_37 ?_
      refine g_aload_0 E dX1_fill_39 ?_
      refine g_aload_1 E dX1_fill_40 ?_
      refine g_iload_6 E dX1_fill_41 ?_
      refine g_iload_2 E dX1_fill_43 ?_
      refine g_iload_3 E dX1_fill_44 ?_
      refine g_callvI E my_X1_leastOfCases mi_X1_leastOfCases msel_X1_leastOfCases ml_RX1_58 (rm_ok (by decide) (by decide)) ⟨Nat.zero_le _, Nat.zero_le _⟩ (kC_36 b) (sC_36 b) rfl (m_X1_leastOfCases_c37 E.2.2.1 c6 c2 c3 hσ h) rfl rfl (Nat.le_of_ble_eq_true rfl) dX1_fill_45 (fun r2 σ3 cr2 hσ3 h => ?_)
      refine g_iast E (kC_37 b) (sC_37 b) (by decide) h.1 dX1_fill_48 (g_nmS (fun σ4 eσ4 => ?_))
      replace h := h.2 σ4 eσ4
      have hσ4 : CanS (shC b) (NC b) σ4 := by rw [eσ4]; exact wC_37 hσ3 cr2
      refine g_iinc_6 E rfl (by decide) dX1_fill_49 (fun v5 ev5 => ?_)
      replace h := h v5 ev5
      have cv5 : C32 v5 := by rw [ev5]; exact c32_w _
      refine g_goto E djX1_fill_52 ?_
      exact (ih x2 x3 x4 x5 v5 σ4 c2 c3 c4 c5 cv5 hσ4 h).weak (w_k (w_k (w_k (w_k (w_k (w_k (w_k (w_d w_n))))))))
set_option maxHeartbeats 4000000 in
set_option maxRecDepth 100000 in
theorem t_X1_fill_c37_l3 (E : Ev p s m args meth c cX1_fill 8 RX1 A0 D cA ad (NC b) Z) (hr : meth.sig.returnType = none) : ∀ (n : Nat) (x2 : Int) (x3 : Int) (x4 : Int) (σ : St), C32 x2 → C32 x3 → C32 x4 → CanS (shC b) (NC b) σ → wp_X1_fill_c37_l3 Q n x2 x3 x4 σ → G p l e (rmL 3 0 0) s m args below meth c 8 A0 D cA ad (shC b) (NC b) 0 0 (MQ below (QVc D cA ad (shC b) (NC b) Q A0) args s 0 0 A0) σ 3 [some (.ref (ad 36)), some (.ref (ad 37)), some (vI x2), some (vI x3), some (vI x4), none, none, none] [] := by
  intro n
  induction n with
  | zero => intro _ _ _ _ _ _ _ _ h; exact h.elim
  | succ n ih =>
    intro x2 x3 x4 σ c2 c3 c4 hσ h
    unfold wp_X1_fill_c37_l3 at h
    refine g_iload_4 E dX1_fill_3 ?_
    refine g_aload_0 E dX1_fill_5 ?_
    refine g_getR E fl_RX1_15 (kC_36 b) (sC_36 b) rfl dX1_fill_6 ?_
    refine g_getI E fl_RX1_54 (kC_24 b) (sC_24 b) rfl dX1_fill_9 ?_
    refine g_icmp_ge E c4 (fC_24_3 hσ) djX1_fill_12 (fun hc => ?_) (fun hc => ?_)
    · replace h := h.1 hc
      exact g_vret E hr h hσ dX1_fill_96
    · replace h := h.2 hc
      refine g_iload_4 E dX1_fill_15 ?_
      refine g_bipush E (by decide) dX1_fill_17 ?_
      refine g_imul E dX1_fill_19 ?_
      refine g_nmI (fun v1 ev1 => ?_)
      replace h := h v1 ev1
      have cv1 : C32 v1 := by rw [ev1]; exact (c32_w _)
      refine g_istore_5 E rfl (by decide) dX1_fill_20 ?_
      refine g_iload_5 E dX1_fill_22 ?_
      refine g_istore_6 E rfl (by decide) dX1_fill_24 ?_
      exact (t_X1_fill_c37_l26 E hr ih bigN x2 x3 x4 v1 v1 σ c2 c3 c4 cv1 cv1 hσ h).weak (w_k (w_k (w_k (w_k (w_k (w_k (w_k (w_d w_n))))))))
set_option maxHeartbeats 4000000 in
set_option maxRecDepth 100000 in
theorem t_X1_fill_c37 (E : Ev p s m args meth c cX1_fill 8 RX1 A0 D cA ad (NC b) Z) (hr : meth.sig.returnType = none) (x2 : Int) (x3 : Int) (σ : St) (c2 : C32 x2) (c3 : C32 x3) (hσ : CanS (shC b) (NC b) σ) (h : wp_X1_fill_c37 x2 x3 σ Q) : G p l e (rmL 3 0 0) s m args below meth c 8 A0 D cA ad (shC b) (NC b) 0 0 (MQ below (QVc D cA ad (shC b) (NC b) Q A0) args s 0 0 A0) σ 0 [some (.ref (ad 36)), some (.ref (ad 37)), some (vI x2), some (vI x3), none, none, none, none] [] := by
  unfold wp_X1_fill_c37 at h
  refine g_iconst E dX1_fill_0 ?_
  refine g_istore_4 E rfl (by decide) dX1_fill_1 ?_
  exact (t_X1_fill_c37_l3 E hr bigN x2 x3 0 σ c2 c3 cl_0 hσ h).weak (w_k (w_k (w_k (w_k (w_k (w_d (w_d (w_d w_n))))))))
end
theorem m_X1_fill_c37 {Z : (Nat → Nat) × (Nat → Nat)} {l : Launch} {D : va_G} {cA : Nat → ClassId} {ad : Nat → Nat} {b : Bool} {x2 x3 : Int} {σ : St} {Q : Int → St → Prop} (hA : AdOk (NC b) ad) (c2 : C32 x2) (c3 : C32 x3) (hσ : CanS (shC b) (NC b) σ) (h : wp_X1_fill_c37 x2 x3 σ Q) : KtV Z l D cA ad (shC b) (NC b) yX1_fill cX1_fill 8 none 3 [.ref (ad 36), .ref (ad 37), vI x2, vI x3] σ Q :=
  KtV.of my_X1_fill hA [some (.ref (ad 36)), some (.ref (ad 37)), some (vI x2), some (vI x3), none, none, none, none] (Nat.le_of_ble_eq_true rfl) rfl (fun p e s m args below meth c A0 E hr => t_X1_fill_c37 E hr x2 x3 σ c2 c3 hσ h)
theorem dX1_prepare_0 : Dc cX1_prepare 0 (.aload_n 0) 1 1 := ⟨by decide +kernel, rfl⟩
theorem dX1_prepare_1 : Dc cX1_prepare 1 (.getfield 15) 3 4 := ⟨by decide +kernel, rfl⟩
theorem dX1_prepare_4 : Dc cX1_prepare 4 (.invokevirtual 42) 3 7 := ⟨by decide +kernel, rfl⟩
theorem dX1_prepare_7 : Dc cX1_prepare 7 (.aload_n 0) 1 8 := ⟨by decide +kernel, rfl⟩
theorem dX1_prepare_8 : Dc cX1_prepare 8 (.getfield 32) 3 11 := ⟨by decide +kernel, rfl⟩
theorem djX1_prepare_11 : Dj cX1_prepare 11 (.ifCond .ne 18) 3 14 18 29 := ⟨by decide +kernel, rfl, by decide⟩
theorem dX1_prepare_14 : Dc cX1_prepare 14 (.aload_n 0) 1 15 := ⟨by decide +kernel, rfl⟩
theorem dX1_prepare_15 : Dc cX1_prepare 15 (.iconst 1) 1 16 := ⟨by decide +kernel, rfl⟩
theorem dX1_prepare_16 : Dc cX1_prepare 16 (.putfield 32) 3 19 := ⟨by decide +kernel, rfl⟩
theorem dX1_prepare_19 : Dc cX1_prepare 19 (.aload_n 0) 1 20 := ⟨by decide +kernel, rfl⟩
theorem dX1_prepare_20 : Dc cX1_prepare 20 (.aload_n 0) 1 21 := ⟨by decide +kernel, rfl⟩
theorem dX1_prepare_21 : Dc cX1_prepare 21 (.getfield 19) 3 24 := ⟨by decide +kernel, rfl⟩
theorem dX1_prepare_24 : Dc cX1_prepare 24 (.iconst (-1)) 1 25 := ⟨by decide +kernel, rfl⟩
theorem dX1_prepare_25 : Dc cX1_prepare 25 (.iconst 1) 1 26 := ⟨by decide +kernel, rfl⟩
theorem dX1_prepare_26 : Dc cX1_prepare 26 (.invokevirtual 47) 3 29 := ⟨by decide +kernel, rfl⟩
theorem dX1_prepare_29 : Dc cX1_prepare 29 (.return_) 1 30 := ⟨by decide +kernel, rfl⟩
section
variable {p : Program} {l : Launch} {e : Env} {s : State} {m : MethodId} {args : Array Value} {below : List Frame} {meth : Method} {c : Code} {A0 : Nat → Prop} {D : va_G} {cA : Nat → ClassId} {ad : Nat → Nat} {Z : (Nat → Nat) × (Nat → Nat)} {Q : Int → St → Prop} {b : Bool}
set_option maxHeartbeats 4000000 in
set_option maxRecDepth 100000 in
theorem t_X1_prepare (E : Ev p s m args meth c cX1_prepare 1 RX1 A0 D cA ad (NC b) Z) (hr : meth.sig.returnType = none) (σ : St) (hσ : CanS (shC b) (NC b) σ) (h : wp_X1_prepare  σ Q) : G p l e (rmL 5 0 0) s m args below meth c 1 A0 D cA ad (shC b) (NC b) 0 0 (MQ below (QVc D cA ad (shC b) (NC b) Q A0) args s 0 0 A0) σ 0 [some (.ref (ad 36))] [] := by
  unfold wp_X1_prepare at h
  refine g_aload_0 E dX1_prepare_0 ?_
  refine g_getR E fl_RX1_15 (kC_36 b) (sC_36 b) rfl dX1_prepare_1 ?_
  refine g_callvV E my_X0_build mi_X0_build msel_X0_build ml_RX1_42 (rm_ok (by decide) (by decide)) ⟨Nat.zero_le _, Nat.zero_le _⟩ (kC_24 b) (sC_24 b) rfl (m_X0_build E.2.2.1 hσ h) rfl rfl (Nat.le_of_ble_eq_true rfl) dX1_prepare_4 (fun σ2 r1 hσ2 h => ?_)
  refine g_aload_0 E dX1_prepare_7 ?_
  refine g_getI E fl_RX1_32 (kC_36 b) (sC_36 b) rfl dX1_prepare_8 ?_
  refine g_if_ne E (fC_36_7 hσ2) djX1_prepare_11 (fun hc => ?_) (fun hc => ?_)
  · replace h := h.1 hc
    exact g_vret E hr h hσ2 dX1_prepare_29
  · replace h := h.2 hc
    refine g_aload_0 E dX1_prepare_14 ?_
    refine g_iconst E dX1_prepare_15 ?_
    refine g_putZ E fl_RX1_32 rfl rfl (Or.inr rfl) (kC_36 b) (sC_36 b) rfl dX1_prepare_16 (g_nmS (fun σ3 eσ3 => ?_))
    replace h := h σ3 eσ3
    have hσ3 : CanS (shC b) (NC b) σ3 := by rw [eσ3]; exact uC_36_7 hσ2 cl_1
    refine g_aload_0 E dX1_prepare_19 ?_
    refine g_aload_0 E dX1_prepare_20 ?_
    refine g_getR E fl_RX1_19 (kC_36 b) (sC_36 b) rfl dX1_prepare_21 ?_
    refine g_iconst E dX1_prepare_24 ?_
    refine g_iconst E dX1_prepare_25 ?_
    refine g_callvV E my_X1_fill mi_X1_fill msel_X1_fill ml_RX1_47 (rm_ok (by decide) (by decide)) ⟨Nat.zero_le _, Nat.zero_le _⟩ (kC_36 b) (sC_36 b) rfl (m_X1_fill_c37 E.2.2.1 cl_m1 cl_1 hσ3 h) rfl rfl (Nat.le_of_ble_eq_true rfl) dX1_prepare_26 (fun σ5 r4 hσ5 h => ?_)
    exact g_vret E hr h hσ5 dX1_prepare_29
end
theorem m_X1_prepare {Z : (Nat → Nat) × (Nat → Nat)} {l : Launch} {D : va_G} {cA : Nat → ClassId} {ad : Nat → Nat} {b : Bool} {σ : St} {Q : Int → St → Prop} (hA : AdOk (NC b) ad) (hσ : CanS (shC b) (NC b) σ) (h : wp_X1_prepare  σ Q) : KtV Z l D cA ad (shC b) (NC b) yX1_prepare cX1_prepare 1 none 5 [.ref (ad 36)] σ Q :=
  KtV.of my_X1_prepare hA [some (.ref (ad 36))] (Nat.le_of_ble_eq_true rfl) rfl (fun p e s m args below meth c A0 E hr => t_X1_prepare E hr σ hσ h)
theorem dX0_itemCount_0 : Dc cX0_itemCount 0 (.aload_n 0) 1 1 := ⟨by decide +kernel, rfl⟩
theorem dX0_itemCount_1 : Dc cX0_itemCount 1 (.getfield 72) 3 4 := ⟨by decide +kernel, rfl⟩
theorem dX0_itemCount_4 : Dc cX0_itemCount 4 (.bipush 12) 2 6 := ⟨by decide +kernel, rfl⟩
theorem dX0_itemCount_6 : Dc cX0_itemCount 6 (.imul) 1 7 := ⟨by decide +kernel, rfl⟩
theorem dX0_itemCount_7 : Dc cX0_itemCount 7 (.ireturn) 1 8 := ⟨by decide +kernel, rfl⟩
section
variable {p : Program} {l : Launch} {e : Env} {s : State} {m : MethodId} {args : Array Value} {below : List Frame} {meth : Method} {c : Code} {A0 : Nat → Prop} {D : va_G} {cA : Nat → ClassId} {ad : Nat → Nat} {Z : (Nat → Nat) × (Nat → Nat)} {Q : Int → St → Prop} {b : Bool}
set_option maxHeartbeats 4000000 in
set_option maxRecDepth 100000 in
theorem t_X0_itemCount (E : Ev p s m args meth c cX0_itemCount 1 RX0 A0 D cA ad (NC b) Z) (hr : meth.sig.returnType = (some .int)) (σ : St) (hσ : CanS (shC b) (NC b) σ) (h : wp_X0_itemCount  σ Q) : G p l e (rmL 1 0 0) s m args below meth c 1 A0 D cA ad (shC b) (NC b) 0 0 (MQ below (QIc D cA ad (shC b) (NC b) Q A0) args s 0 0 A0) σ 0 [some (.ref (ad 24))] [] := by
  unfold wp_X0_itemCount at h
  refine g_aload_0 E dX0_itemCount_0 ?_
  refine g_getI E fl_RX0_72 (kC_24 b) (sC_24 b) rfl dX0_itemCount_1 ?_
  refine g_bipush E (by decide) dX0_itemCount_4 ?_
  refine g_imul E dX0_itemCount_6 ?_
  exact g_iret E hr (c32_w _) h hσ dX0_itemCount_7
end
theorem m_X0_itemCount {Z : (Nat → Nat) × (Nat → Nat)} {l : Launch} {D : va_G} {cA : Nat → ClassId} {ad : Nat → Nat} {b : Bool} {σ : St} {Q : Int → St → Prop} (hA : AdOk (NC b) ad) (hσ : CanS (shC b) (NC b) σ) (h : wp_X0_itemCount  σ Q) : KtI Z l D cA ad (shC b) (NC b) yX0_itemCount cX0_itemCount 1 (some .int) 1 [.ref (ad 24)] σ Q :=
  KtI.of my_X0_itemCount hA [some (.ref (ad 24))] (Nat.le_of_ble_eq_true rfl) rfl (fun p e s m args below meth c A0 E hr => t_X0_itemCount E hr σ hσ h)
theorem dX1_has_0 : Dc cX1_has 0 (.aload_n 0) 1 1 := ⟨by decide +kernel, rfl⟩
theorem dX1_has_1 : Dc cX1_has 1 (.getfield 19) 3 4 := ⟨by decide +kernel, rfl⟩
theorem dX1_has_4 : Dc cX1_has 4 (.iload_n 1) 1 5 := ⟨by decide +kernel, rfl⟩
theorem dX1_has_5 : Dc cX1_has 5 (.iaload) 1 6 := ⟨by decide +kernel, rfl⟩
theorem djX1_has_6 : Dj cX1_has 6 (.ifCond .le 7) 3 9 7 13 := ⟨by decide +kernel, rfl, by decide⟩
theorem dX1_has_9 : Dc cX1_has 9 (.iconst 1) 1 10 := ⟨by decide +kernel, rfl⟩
theorem djX1_has_10 : Dj cX1_has 10 (.goto 4) 3 13 4 14 := ⟨by decide +kernel, rfl, by decide⟩
theorem dX1_has_13 : Dc cX1_has 13 (.iconst 0) 1 14 := ⟨by decide +kernel, rfl⟩
theorem dX1_has_14 : Dc cX1_has 14 (.ireturn) 1 15 := ⟨by decide +kernel, rfl⟩
section
variable {p : Program} {l : Launch} {e : Env} {s : State} {m : MethodId} {args : Array Value} {below : List Frame} {meth : Method} {c : Code} {A0 : Nat → Prop} {D : va_G} {cA : Nat → ClassId} {ad : Nat → Nat} {Z : (Nat → Nat) × (Nat → Nat)} {Q : Int → St → Prop} {b : Bool}
set_option maxHeartbeats 4000000 in
set_option maxRecDepth 100000 in
theorem t_X1_has (E : Ev p s m args meth c cX1_has 2 RX1 A0 D cA ad (NC b) Z) (hr : meth.sig.returnType = (some .boolean)) (x1 : Int) (σ : St) (c1 : C32 x1) (hσ : CanS (shC b) (NC b) σ) (h : wp_X1_has x1 σ Q) : G p l e (rmL 1 0 0) s m args below meth c 2 A0 D cA ad (shC b) (NC b) 0 0 (MQ below (QIc D cA ad (shC b) (NC b) Q A0) args s 0 0 A0) σ 0 [some (.ref (ad 36)), some (vI x1)] [] := by
  unfold wp_X1_has at h
  refine g_aload_0 E dX1_has_0 ?_
  refine g_getR E fl_RX1_19 (kC_36 b) (sC_36 b) rfl dX1_has_1 ?_
  refine g_iload_1 E dX1_has_4 ?_
  refine g_iald E (kC_37 b) (sC_37 b) (by decide) h.1 dX1_has_5 ?_
  replace h := h.2
  refine g_if_le E (aC_37 hσ _) djX1_has_6 (fun hc => ?_) (fun hc => ?_)
  · replace h := h.1 hc
    refine g_iconst E dX1_has_13 ?_
    exact g_zret E hr (Or.inl rfl) h hσ dX1_has_14
  · replace h := h.2 hc
    refine g_iconst E dX1_has_9 ?_
    refine g_goto E djX1_has_10 ?_
    exact g_zret E hr (Or.inr rfl) h hσ dX1_has_14
end
theorem m_X1_has {Z : (Nat → Nat) × (Nat → Nat)} {l : Launch} {D : va_G} {cA : Nat → ClassId} {ad : Nat → Nat} {b : Bool} {x1 : Int} {σ : St} {Q : Int → St → Prop} (hA : AdOk (NC b) ad) (c1 : C32 x1) (hσ : CanS (shC b) (NC b) σ) (h : wp_X1_has x1 σ Q) : KtI Z l D cA ad (shC b) (NC b) yX1_has cX1_has 2 (some .boolean) 1 [.ref (ad 36), vI x1] σ Q :=
  KtI.of my_X1_has hA [some (.ref (ad 36)), some (vI x1)] (Nat.le_of_ble_eq_true rfl) rfl (fun p e s m args below meth c A0 E hr => t_X1_has E hr x1 σ c1 hσ h)
theorem dX1_itemsWithTrees_0 : Dc cX1_itemsWithTrees 0 (.aload_n 0) 1 1 := ⟨by decide +kernel, rfl⟩
theorem dX1_itemsWithTrees_1 : Dc cX1_itemsWithTrees 1 (.invokevirtual 51) 3 4 := ⟨by decide +kernel, rfl⟩
theorem dX1_itemsWithTrees_4 : Dc cX1_itemsWithTrees 4 (.iconst 0) 1 5 := ⟨by decide +kernel, rfl⟩
theorem dX1_itemsWithTrees_5 : Dc cX1_itemsWithTrees 5 (.istore_n 1) 1 6 := ⟨by decide +kernel, rfl⟩
theorem dX1_itemsWithTrees_6 : Dc cX1_itemsWithTrees 6 (.iconst 0) 1 7 := ⟨by decide +kernel, rfl⟩
theorem dX1_itemsWithTrees_7 : Dc cX1_itemsWithTrees 7 (.istore_n 2) 1 8 := ⟨by decide +kernel, rfl⟩
theorem dX1_itemsWithTrees_8 : Dc cX1_itemsWithTrees 8 (.iload_n 2) 1 9 := ⟨by decide +kernel, rfl⟩
theorem dX1_itemsWithTrees_9 : Dc cX1_itemsWithTrees 9 (.aload_n 0) 1 10 := ⟨by decide +kernel, rfl⟩
theorem dX1_itemsWithTrees_10 : Dc cX1_itemsWithTrees 10 (.getfield 15) 3 13 := ⟨by decide +kernel, rfl⟩
theorem dX1_itemsWithTrees_13 : Dc cX1_itemsWithTrees 13 (.invokevirtual 123) 3 16 := ⟨by decide +kernel, rfl⟩
theorem djX1_itemsWithTrees_16 : Dj cX1_itemsWithTrees 16 (.if_icmp .ge 20) 3 19 20 36 := ⟨by decide +kernel, rfl, by decide⟩
theorem dX1_itemsWithTrees_19 : Dc cX1_itemsWithTrees 19 (.aload_n 0) 1 20 := ⟨by decide +kernel, rfl⟩
theorem dX1_itemsWithTrees_20 : Dc cX1_itemsWithTrees 20 (.iload_n 2) 1 21 := ⟨by decide +kernel, rfl⟩
theorem dX1_itemsWithTrees_21 : Dc cX1_itemsWithTrees 21 (.invokevirtual 114) 3 24 := ⟨by decide +kernel, rfl⟩
theorem djX1_itemsWithTrees_24 : Dj cX1_itemsWithTrees 24 (.ifCond .eq 6) 3 27 6 30 := ⟨by decide +kernel, rfl, by decide⟩
theorem dX1_itemsWithTrees_27 : Dc cX1_itemsWithTrees 27 (.iinc 1 1) 3 30 := ⟨by decide +kernel, rfl⟩
theorem dX1_itemsWithTrees_30 : Dc cX1_itemsWithTrees 30 (.iinc 2 1) 3 33 := ⟨by decide +kernel, rfl⟩
theorem djX1_itemsWithTrees_33 : Dj cX1_itemsWithTrees 33 (.goto (-25)) 3 36 (-25) 8 := ⟨by decide +kernel, rfl, by decide⟩
theorem dX1_itemsWithTrees_36 : Dc cX1_itemsWithTrees 36 (.iload_n 1) 1 37 := ⟨by decide +kernel, rfl⟩
theorem dX1_itemsWithTrees_37 : Dc cX1_itemsWithTrees 37 (.ireturn) 1 38 := ⟨by decide +kernel, rfl⟩
section
variable {p : Program} {l : Launch} {e : Env} {s : State} {m : MethodId} {args : Array Value} {below : List Frame} {meth : Method} {c : Code} {A0 : Nat → Prop} {D : va_G} {cA : Nat → ClassId} {ad : Nat → Nat} {Z : (Nat → Nat) × (Nat → Nat)} {Q : Int → St → Prop} {b : Bool}
set_option maxHeartbeats 4000000 in
set_option maxRecDepth 100000 in
theorem t_X1_itemsWithTrees_b30 (E : Ev p s m args meth c cX1_itemsWithTrees 3 RX1 A0 D cA ad (NC b) Z) (hr : meth.sig.returnType = (some .int)) {K8 : Int → Int → St → Prop} (hK8 : ∀ (x1 : Int) (x2 : Int) (σ : St), C32 x1 → C32 x2 → CanS (shC b) (NC b) σ → K8 x1 x2 σ → G p l e (rmL 6 0 0) s m args below meth c 3 A0 D cA ad (shC b) (NC b) 0 0 (MQ below (QIc D cA ad (shC b) (NC b) Q A0) args s 0 0 A0) σ 8 [some (.ref (ad 36)), some (vI x1), some (vI x2)] []) (x1 : Int) (x2 : Int) (σ : St) (c1 : C32 x1) (c2 : C32 x2) (hσ : CanS (shC b) (NC b) σ) (h : wp_X1_itemsWithTrees_b30 Q K8 x1 x2 σ) : G p l e (rmL 6 0 0) s m args below meth c 3 A0 D cA ad (shC b) (NC b) 0 0 (MQ below (QIc D cA ad (shC b) (NC b) Q A0) args s 0 0 A0) σ 30 [some (.ref (ad 36)), some (vI x1), some (vI x2)] [] := by
  unfold wp_X1_itemsWithTrees_b30 at h
  refine g_iinc_2 E rfl (by decide) dX1_itemsWithTrees_30 (fun v8 ev8 => ?_)
  replace h := h v8 ev8
  have cv8 : C32 v8 := by rw [ev8]; exact c32_w _
  refine g_goto E djX1_itemsWithTrees_33 ?_
  exact (hK8 x1 v8 σ c1 cv8 hσ h).weak (w_k (w_k (w_k w_n)))
set_option maxHeartbeats 4000000 in
set_option maxRecDepth 100000 in
theorem t_X1_itemsWithTrees_l8 (E : Ev p s m args meth c cX1_itemsWithTrees 3 RX1 A0 D cA ad (NC b) Z) (hr : meth.sig.returnType = (some .int)) : ∀ (n : Nat) (x1 : Int) (x2 : Int) (σ : St), C32 x1 → C32 x2 → CanS (shC b) (NC b) σ → wp_X1_itemsWithTrees_l8 Q n x1 x2 σ → G p l e (rmL 6 0 0) s m args below meth c 3 A0 D cA ad (shC b) (NC b) 0 0 (MQ below (QIc D cA ad (shC b) (NC b) Q A0) args s 0 0 A0) σ 8 [some (.ref (ad 36)), some (vI x1), some (vI x2)] [] := by
  intro n
  induction n with
  | zero => intro _ _ _ _ _ _ h; exact h.elim
  | succ n ih =>
    intro x1 x2 σ c1 c2 hσ h
    unfold wp_X1_itemsWithTrees_l8 at h
    refine g_iload_2 E dX1_itemsWithTrees_8 ?_
    refine g_aload_0 E dX1_itemsWithTrees_9 ?_
    refine g_getR E fl_RX1_15 (kC_36 b) (sC_36 b) rfl dX1_itemsWithTrees_10 ?_
    refine g_callvI E my_X0_itemCount mi_X0_itemCount msel_X0_itemCount ml_RX1_123 (rm_ok (by decide) (by decide)) ⟨Nat.zero_le _, Nat.zero_le _⟩ (kC_24 b) (sC_24 b) rfl (m_X0_itemCount E.2.2.1 hσ h) rfl rfl (Nat.le_of_ble_eq_true rfl) dX1_itemsWithTrees_13 (fun r3 σ4 cr3 hσ4 h => ?_)
    refine g_icmp_ge E c2 cr3 djX1_itemsWithTrees_16 (fun hc => ?_) (fun hc => ?_)
    · replace h := h.1 hc
      refine g_iload_1 E dX1_itemsWithTrees_36 ?_
      exact g_iret E hr c1 h hσ4 dX1_itemsWithTrees_37
    · replace h := h.2 hc
      refine g_aload_0 E dX1_itemsWithTrees_19 ?_
      refine g_iload_2 E dX1_itemsWithTrees_20 ?_
      refine g_callvI E my_X1_has mi_X1_has msel_X1_has ml_RX1_114 (rm_ok (by decide) (by decide)) ⟨Nat.zero_le _, Nat.zero_le _⟩ (kC_36 b) (sC_36 b) rfl (m_X1_has E.2.2.1 c2 hσ4 h) rfl rfl (Nat.le_of_ble_eq_true rfl) dX1_itemsWithTrees_21 (fun r5 σ6 cr5 hσ6 h => ?_)
      refine g_if_eq E cr5 djX1_itemsWithTrees_24 (fun hc => ?_) (fun hc => ?_)
      · replace h := h.1 hc
        exact (t_X1_itemsWithTrees_b30 E hr ih x1 x2 σ6 c1 c2 hσ6 h).weak (w_k (w_k (w_k w_n)))
      · replace h := h.2 hc
        refine g_iinc_1 E rfl (by decide) dX1_itemsWithTrees_27 (fun v7 ev7 => ?_)
        replace h := h v7 ev7
        have cv7 : C32 v7 := by rw [ev7]; exact c32_w _
        exact (t_X1_itemsWithTrees_b30 E hr ih v7 x2 σ6 cv7 c2 hσ6 h).weak (w_k (w_k (w_k w_n)))
set_option maxHeartbeats 4000000 in
set_option maxRecDepth 100000 in
theorem t_X1_itemsWithTrees (E : Ev p s m args meth c cX1_itemsWithTrees 3 RX1 A0 D cA ad (NC b) Z) (hr : meth.sig.returnType = (some .int)) (σ : St) (hσ : CanS (shC b) (NC b) σ) (h : wp_X1_itemsWithTrees  σ Q) : G p l e (rmL 6 0 0) s m args below meth c 3 A0 D cA ad (shC b) (NC b) 0 0 (MQ below (QIc D cA ad (shC b) (NC b) Q A0) args s 0 0 A0) σ 0 [some (.ref (ad 36)), none, none] [] := by
  unfold wp_X1_itemsWithTrees at h
  refine g_aload_0 E dX1_itemsWithTrees_0 ?_
  refine g_callvV E my_X1_prepare mi_X1_prepare msel_X1_prepare ml_RX1_51 (rm_ok (by decide) (by decide)) ⟨Nat.zero_le _, Nat.zero_le _⟩ (kC_36 b) (sC_36 b) rfl (m_X1_prepare E.2.2.1 hσ h) rfl rfl (Nat.le_of_ble_eq_true rfl) dX1_itemsWithTrees_1 (fun σ2 r1 hσ2 h => ?_)
  refine g_iconst E dX1_itemsWithTrees_4 ?_
  refine g_istore_1 E rfl (by decide) dX1_itemsWithTrees_5 ?_
  refine g_iconst E dX1_itemsWithTrees_6 ?_
  refine g_istore_2 E rfl (by decide) dX1_itemsWithTrees_7 ?_
  exact (t_X1_itemsWithTrees_l8 E hr bigN 0 0 σ2 cl_0 cl_0 hσ2 h).weak (w_k (w_k (w_k w_n)))
end
theorem m_X1_itemsWithTrees {Z : (Nat → Nat) × (Nat → Nat)} {l : Launch} {D : va_G} {cA : Nat → ClassId} {ad : Nat → Nat} {b : Bool} {σ : St} {Q : Int → St → Prop} (hA : AdOk (NC b) ad) (hσ : CanS (shC b) (NC b) σ) (h : wp_X1_itemsWithTrees  σ Q) : KtI Z l D cA ad (shC b) (NC b) yX1_itemsWithTrees cX1_itemsWithTrees 3 (some .int) 6 [.ref (ad 36)] σ Q :=
  KtI.of my_X1_itemsWithTrees hA [some (.ref (ad 36)), none, none] (Nat.le_of_ble_eq_true rfl) rfl (fun p e s m args below meth c A0 E hr => t_X1_itemsWithTrees E hr σ hσ h)
theorem dX4_rulesIn_0 : Dc cX4_rulesIn 0 (.iconst 0) 1 1 := ⟨by decide +kernel, rfl⟩
theorem dX4_rulesIn_1 : Dc cX4_rulesIn 1 (.istore_n 1) 1 2 := ⟨by decide +kernel, rfl⟩
theorem dX4_rulesIn_2 : Dc cX4_rulesIn 2 (.iconst 0) 1 3 := ⟨by decide +kernel, rfl⟩
theorem dX4_rulesIn_3 : Dc cX4_rulesIn 3 (.istore_n 2) 1 4 := ⟨by decide +kernel, rfl⟩
theorem dX4_rulesIn_4 : Dc cX4_rulesIn 4 (.iload_n 2) 1 5 := ⟨by decide +kernel, rfl⟩
theorem dX4_rulesIn_5 : Dc cX4_rulesIn 5 (.aload_n 0) 1 6 := ⟨by decide +kernel, rfl⟩
theorem dX4_rulesIn_6 : Dc cX4_rulesIn 6 (.getfield 43) 3 9 := ⟨by decide +kernel, rfl⟩
theorem djX4_rulesIn_9 : Dj cX4_rulesIn 9 (.if_icmp .ge 21) 3 12 21 30 := ⟨by decide +kernel, rfl, by decide⟩
theorem dX4_rulesIn_12 : Dc cX4_rulesIn 12 (.aload_n 0) 1 13 := ⟨by decide +kernel, rfl⟩
theorem dX4_rulesIn_13 : Dc cX4_rulesIn 13 (.getfield 27) 3 16 := ⟨by decide +kernel, rfl⟩
theorem dX4_rulesIn_16 : Dc cX4_rulesIn 16 (.iload_n 2) 1 17 := ⟨by decide +kernel, rfl⟩
theorem dX4_rulesIn_17 : Dc cX4_rulesIn 17 (.baload) 1 18 := ⟨by decide +kernel, rfl⟩
theorem djX4_rulesIn_18 : Dj cX4_rulesIn 18 (.ifCond .ne 6) 3 21 6 24 := ⟨by decide +kernel, rfl, by decide⟩
theorem dX4_rulesIn_21 : Dc cX4_rulesIn 21 (.iinc 1 1) 3 24 := ⟨by decide +kernel, rfl⟩
theorem dX4_rulesIn_24 : Dc cX4_rulesIn 24 (.iinc 2 1) 3 27 := ⟨by decide +kernel, rfl⟩
theorem djX4_rulesIn_27 : Dj cX4_rulesIn 27 (.goto (-23)) 3 30 (-23) 4 := ⟨by decide +kernel, rfl, by decide⟩
theorem dX4_rulesIn_30 : Dc cX4_rulesIn 30 (.iload_n 1) 1 31 := ⟨by decide +kernel, rfl⟩
theorem dX4_rulesIn_31 : Dc cX4_rulesIn 31 (.ireturn) 1 32 := ⟨by decide +kernel, rfl⟩
section
variable {p : Program} {l : Launch} {e : Env} {s : State} {m : MethodId} {args : Array Value} {below : List Frame} {meth : Method} {c : Code} {A0 : Nat → Prop} {D : va_G} {cA : Nat → ClassId} {ad : Nat → Nat} {Z : (Nat → Nat) × (Nat → Nat)} {Q : Int → St → Prop} {b : Bool}
set_option maxHeartbeats 4000000 in
set_option maxRecDepth 100000 in
theorem t_X4_rulesIn_b24 (E : Ev p s m args meth c cX4_rulesIn 3 RX4 A0 D cA ad (NC b) Z) (hr : meth.sig.returnType = (some .int)) {K4 : Int → Int → St → Prop} (hK4 : ∀ (x1 : Int) (x2 : Int) (σ : St), C32 x1 → C32 x2 → CanS (shC b) (NC b) σ → K4 x1 x2 σ → G p l e (rmL 1 0 0) s m args below meth c 3 A0 D cA ad (shC b) (NC b) 0 0 (MQ below (QIc D cA ad (shC b) (NC b) Q A0) args s 0 0 A0) σ 4 [some (.ref (ad 14)), some (vI x1), some (vI x2)] []) (x1 : Int) (x2 : Int) (σ : St) (c1 : C32 x1) (c2 : C32 x2) (hσ : CanS (shC b) (NC b) σ) (h : wp_X4_rulesIn_b24 Q K4 x1 x2 σ) : G p l e (rmL 1 0 0) s m args below meth c 3 A0 D cA ad (shC b) (NC b) 0 0 (MQ below (QIc D cA ad (shC b) (NC b) Q A0) args s 0 0 A0) σ 24 [some (.ref (ad 14)), some (vI x1), some (vI x2)] [] := by
  unfold wp_X4_rulesIn_b24 at h
  refine g_iinc_2 E rfl (by decide) dX4_rulesIn_24 (fun v2 ev2 => ?_)
  replace h := h v2 ev2
  have cv2 : C32 v2 := by rw [ev2]; exact c32_w _
  refine g_goto E djX4_rulesIn_27 ?_
  exact (hK4 x1 v2 σ c1 cv2 hσ h).weak (w_k (w_k (w_k w_n)))
set_option maxHeartbeats 4000000 in
set_option maxRecDepth 100000 in
theorem t_X4_rulesIn_l4 (E : Ev p s m args meth c cX4_rulesIn 3 RX4 A0 D cA ad (NC b) Z) (hr : meth.sig.returnType = (some .int)) : ∀ (n : Nat) (x1 : Int) (x2 : Int) (σ : St), C32 x1 → C32 x2 → CanS (shC b) (NC b) σ → wp_X4_rulesIn_l4 Q n x1 x2 σ → G p l e (rmL 1 0 0) s m args below meth c 3 A0 D cA ad (shC b) (NC b) 0 0 (MQ below (QIc D cA ad (shC b) (NC b) Q A0) args s 0 0 A0) σ 4 [some (.ref (ad 14)), some (vI x1), some (vI x2)] [] := by
  intro n
  induction n with
  | zero => intro _ _ _ _ _ _ h; exact h.elim
  | succ n ih =>
    intro x1 x2 σ c1 c2 hσ h
    unfold wp_X4_rulesIn_l4 at h
    refine g_iload_2 E dX4_rulesIn_4 ?_
    refine g_aload_0 E dX4_rulesIn_5 ?_
    refine g_getI E fl_RX4_43 (kC_14 b) (sC_14 b) rfl dX4_rulesIn_6 ?_
    refine g_icmp_ge E c2 (fC_14_0 hσ) djX4_rulesIn_9 (fun hc => ?_) (fun hc => ?_)
    · replace h := h.1 hc
      refine g_iload_1 E dX4_rulesIn_30 ?_
      exact g_iret E hr c1 h hσ dX4_rulesIn_31
    · replace h := h.2 hc
      refine g_aload_0 E dX4_rulesIn_12 ?_
      refine g_getR E fl_RX4_27 (kC_14 b) (sC_14 b) rfl dX4_rulesIn_13 ?_
      refine g_iload_2 E dX4_rulesIn_16 ?_
      refine g_zald E (kC_20 b) (sC_20 b) (by decide) h.1 dX4_rulesIn_17 ?_
      replace h := h.2
      refine g_if_ne E (aC_20 hσ _) djX4_rulesIn_18 (fun hc => ?_) (fun hc => ?_)
      · replace h := h.1 hc
        exact (t_X4_rulesIn_b24 E hr ih x1 x2 σ c1 c2 hσ h).weak (w_k (w_k (w_k w_n)))
      · replace h := h.2 hc
        refine g_iinc_1 E rfl (by decide) dX4_rulesIn_21 (fun v1 ev1 => ?_)
        replace h := h v1 ev1
        have cv1 : C32 v1 := by rw [ev1]; exact c32_w _
        exact (t_X4_rulesIn_b24 E hr ih v1 x2 σ cv1 c2 hσ h).weak (w_k (w_k (w_k w_n)))
set_option maxHeartbeats 4000000 in
set_option maxRecDepth 100000 in
theorem t_X4_rulesIn (E : Ev p s m args meth c cX4_rulesIn 3 RX4 A0 D cA ad (NC b) Z) (hr : meth.sig.returnType = (some .int)) (σ : St) (hσ : CanS (shC b) (NC b) σ) (h : wp_X4_rulesIn  σ Q) : G p l e (rmL 1 0 0) s m args below meth c 3 A0 D cA ad (shC b) (NC b) 0 0 (MQ below (QIc D cA ad (shC b) (NC b) Q A0) args s 0 0 A0) σ 0 [some (.ref (ad 14)), none, none] [] := by
  unfold wp_X4_rulesIn at h
  refine g_iconst E dX4_rulesIn_0 ?_
  refine g_istore_1 E rfl (by decide) dX4_rulesIn_1 ?_
  refine g_iconst E dX4_rulesIn_2 ?_
  refine g_istore_2 E rfl (by decide) dX4_rulesIn_3 ?_
  exact (t_X4_rulesIn_l4 E hr bigN 0 0 σ cl_0 cl_0 hσ h).weak (w_k (w_k (w_k w_n)))
end
theorem m_X4_rulesIn {Z : (Nat → Nat) × (Nat → Nat)} {l : Launch} {D : va_G} {cA : Nat → ClassId} {ad : Nat → Nat} {b : Bool} {σ : St} {Q : Int → St → Prop} (hA : AdOk (NC b) ad) (hσ : CanS (shC b) (NC b) σ) (h : wp_X4_rulesIn  σ Q) : KtI Z l D cA ad (shC b) (NC b) yX4_rulesIn cX4_rulesIn 3 (some .int) 1 [.ref (ad 14)] σ Q :=
  KtI.of my_X4_rulesIn hA [some (.ref (ad 14)), none, none] (Nat.le_of_ble_eq_true rfl) rfl (fun p e s m args below meth c A0 E hr => t_X4_rulesIn E hr σ hσ h)
theorem dX11_count_0 : Dc cX11_count 0 (.iload_n 1) 1 1 := ⟨by decide +kernel, rfl⟩
theorem dX11_count_1 : Dc cX11_count 1 (.tableswitch 129 0 9 #[55, 63, 71, 79, 87, 95, 103, 111, 116, 121]) 55 56 := ⟨by decide +kernel, rfl⟩
theorem dX11_count_56 : Dc cX11_count 56 (.aload_n 0) 1 57 := ⟨by decide +kernel, rfl⟩
theorem dX11_count_57 : Dc cX11_count 57 (.getfield 28) 3 60 := ⟨by decide +kernel, rfl⟩
theorem dX11_count_60 : Dc cX11_count 60 (.getfield 129) 3 63 := ⟨by decide +kernel, rfl⟩
theorem dX11_count_63 : Dc cX11_count 63 (.ireturn) 1 64 := ⟨by decide +kernel, rfl⟩
theorem dX11_count_64 : Dc cX11_count 64 (.aload_n 0) 1 65 := ⟨by decide +kernel, rfl⟩
theorem dX11_count_65 : Dc cX11_count 65 (.getfield 37) 3 68 := ⟨by decide +kernel, rfl⟩
theorem dX11_count_68 : Dc cX11_count 68 (.getfield 146) 3 71 := ⟨by decide +kernel, rfl⟩
theorem dX11_count_71 : Dc cX11_count 71 (.ireturn) 1 72 := ⟨by decide +kernel, rfl⟩
theorem dX11_count_72 : Dc cX11_count 72 (.aload_n 0) 1 73 := ⟨by decide +kernel, rfl⟩
theorem dX11_count_73 : Dc cX11_count 73 (.getfield 28) 3 76 := ⟨by decide +kernel, rfl⟩
theorem dX11_count_76 : Dc cX11_count 76 (.invokevirtual 149) 3 79 := ⟨by decide +kernel, rfl⟩
theorem dX11_count_79 : Dc cX11_count 79 (.ireturn) 1 80 := ⟨by decide +kernel, rfl⟩
theorem dX11_count_80 : Dc cX11_count 80 (.aload_n 0) 1 81 := ⟨by decide +kernel, rfl⟩
theorem dX11_count_81 : Dc cX11_count 81 (.getfield 28) 3 84 := ⟨by decide +kernel, rfl⟩
theorem dX11_count_84 : Dc cX11_count 84 (.getfield 153) 3 87 := ⟨by decide +kernel, rfl⟩
theorem dX11_count_87 : Dc cX11_count 87 (.ireturn) 1 88 := ⟨by decide +kernel, rfl⟩
theorem dX11_count_88 : Dc cX11_count 88 (.aload_n 0) 1 89 := ⟨by decide +kernel, rfl⟩
theorem dX11_count_89 : Dc cX11_count 89 (.getfield 28) 3 92 := ⟨by decide +kernel, rfl⟩
theorem dX11_count_92 : Dc cX11_count 92 (.getfield 156) 3 95 := ⟨by decide +kernel, rfl⟩
theorem dX11_count_95 : Dc cX11_count 95 (.ireturn) 1 96 := ⟨by decide +kernel, rfl⟩
theorem dX11_count_96 : Dc cX11_count 96 (.aload_n 0) 1 97 := ⟨by decide +kernel, rfl⟩
theorem dX11_count_97 : Dc cX11_count 97 (.getfield 28) 3 100 := ⟨by decide +kernel, rfl⟩
theorem dX11_count_100 : Dc cX11_count 100 (.getfield 159) 3 103 := ⟨by decide +kernel, rfl⟩
theorem dX11_count_103 : Dc cX11_count 103 (.ireturn) 1 104 := ⟨by decide +kernel, rfl⟩
theorem dX11_count_104 : Dc cX11_count 104 (.aload_n 0) 1 105 := ⟨by decide +kernel, rfl⟩
theorem dX11_count_105 : Dc cX11_count 105 (.getfield 46) 3 108 := ⟨by decide +kernel, rfl⟩
theorem dX11_count_108 : Dc cX11_count 108 (.invokevirtual 162) 3 111 := ⟨by decide +kernel, rfl⟩
theorem dX11_count_111 : Dc cX11_count 111 (.ireturn) 1 112 := ⟨by decide +kernel, rfl⟩
theorem dX11_count_112 : Dc cX11_count 112 (.aload_n 0) 1 113 := ⟨by decide +kernel, rfl⟩
theorem dX11_count_113 : Dc cX11_count 113 (.getfield 106) 3 116 := ⟨by decide +kernel, rfl⟩
theorem dX11_count_116 : Dc cX11_count 116 (.ireturn) 1 117 := ⟨by decide +kernel, rfl⟩
theorem dX11_count_117 : Dc cX11_count 117 (.aload_n 0) 1 118 := ⟨by decide +kernel, rfl⟩
theorem dX11_count_118 : Dc cX11_count 118 (.getfield 165) 3 121 := ⟨by decide +kernel, rfl⟩
theorem dX11_count_121 : Dc cX11_count 121 (.ireturn) 1 122 := ⟨by decide +kernel, rfl⟩
theorem dX11_count_122 : Dc cX11_count 122 (.aload_n 0) 1 123 := ⟨by decide +kernel, rfl⟩
theorem dX11_count_123 : Dc cX11_count 123 (.getfield 28) 3 126 := ⟨by decide +kernel, rfl⟩
theorem dX11_count_126 : Dc cX11_count 126 (.invokevirtual 168) 3 129 := ⟨by decide +kernel, rfl⟩
theorem dX11_count_129 : Dc cX11_count 129 (.ireturn) 1 130 := ⟨by decide +kernel, rfl⟩
theorem dX11_count_130 : Dc cX11_count 130 (.iconst (-1)) 1 131 := ⟨by decide +kernel, rfl⟩
theorem dX11_count_131 : Dc cX11_count 131 (.ireturn) 1 132 := ⟨by decide +kernel, rfl⟩
section
variable {p : Program} {l : Launch} {e : Env} {s : State} {m : MethodId} {args : Array Value} {below : List Frame} {meth : Method} {c : Code} {A0 : Nat → Prop} {D : va_G} {cA : Nat → ClassId} {ad : Nat → Nat} {Z : (Nat → Nat) × (Nat → Nat)} {Q : Int → St → Prop} {b : Bool}
set_option maxHeartbeats 4000000 in
set_option maxRecDepth 100000 in
theorem t_X11_count (E : Ev p s m args meth c cX11_count 2 RX11 A0 D cA ad (NC b) Z) (hr : meth.sig.returnType = (some .int)) (x1 : Int) (σ : St) (c1 : C32 x1) (hσ : CanS (shC b) (NC b) σ) (h : wp_X11_count x1 σ Q) : G p l e (rmL 7 0 0) s m args below meth c 2 A0 D cA ad (shC b) (NC b) 0 0 (MQ below (QIc D cA ad (shC b) (NC b) Q A0) args s 0 0 A0) σ 0 [some (.ref (ad 0)), some (vI x1)] [] := by
  unfold wp_X11_count at h
  refine g_iload_1 E dX11_count_0 ?_
  by_cases hs0 : x1 = 0
  · refine g_tableIn (v := 0) (i := 0) E c1 hs0 (by decide) (by decide) dX11_count_1 rfl (tgt := 56) (by decide) ?_
    replace h := h.1 hs0
    refine g_aload_0 E dX11_count_56 ?_
    refine g_getR E fl_RX11_28 (kC_0 b) (sC_0 b) rfl dX11_count_57 ?_
    refine g_getI E fl_RX11_129 (kC_14 b) (sC_14 b) rfl dX11_count_60 ?_
    exact g_iret E hr (fC_14_0 hσ) h hσ dX11_count_63
  by_cases hs1 : x1 = 1
  · refine g_tableIn (v := 1) (i := 1) E c1 hs1 (by decide) (by decide) dX11_count_1 rfl (tgt := 64) (by decide) ?_
    replace h := h.2.1 hs1
    refine g_aload_0 E dX11_count_64 ?_
    refine g_getR E fl_RX11_37 (kC_0 b) (sC_0 b) rfl dX11_count_65 ?_
    refine g_getI E fl_RX11_146 (kC_24 b) (sC_24 b) rfl dX11_count_68 ?_
    exact g_iret E hr (fC_24_2 hσ) h hσ dX11_count_71
  by_cases hs2 : x1 = 2
  · refine g_tableIn (v := 2) (i := 2) E c1 hs2 (by decide) (by decide) dX11_count_1 rfl (tgt := 72) (by decide) ?_
    replace h := h.2.2.1 hs2
    refine g_aload_0 E dX11_count_72 ?_
    refine g_getR E fl_RX11_28 (kC_0 b) (sC_0 b) rfl dX11_count_73 ?_
    refine g_callvI E my_X4_start mi_X4_start msel_X4_start ml_RX11_149 (rm_ok (by decide) (by decide)) ⟨Nat.zero_le _, Nat.zero_le _⟩ (kC_14 b) (sC_14 b) rfl (m_X4_start E.2.2.1 hσ h) rfl rfl (Nat.le_of_ble_eq_true rfl) dX11_count_76 (fun r1 σ2 cr1 hσ2 h => ?_)
    exact g_iret E hr cr1 h hσ2 dX11_count_79
  by_cases hs3 : x1 = 3
  · refine g_tableIn (v := 3) (i := 3) E c1 hs3 (by decide) (by decide) dX11_count_1 rfl (tgt := 80) (by decide) ?_
    replace h := h.2.2.2.1 hs3
    refine g_aload_0 E dX11_count_80 ?_
    refine g_getR E fl_RX11_28 (kC_0 b) (sC_0 b) rfl dX11_count_81 ?_
    refine g_getI E fl_RX11_153 (kC_14 b) (sC_14 b) rfl dX11_count_84 ?_
    exact g_iret E hr (fC_14_7 hσ) h hσ dX11_count_87
  by_cases hs4 : x1 = 4
  · refine g_tableIn (v := 4) (i := 4) E c1 hs4 (by decide) (by decide) dX11_count_1 rfl (tgt := 88) (by decide) ?_
    replace h := h.2.2.2.2.1 hs4
    refine g_aload_0 E dX11_count_88 ?_
    refine g_getR E fl_RX11_28 (kC_0 b) (sC_0 b) rfl dX11_count_89 ?_
    refine g_getI E fl_RX11_156 (kC_14 b) (sC_14 b) rfl dX11_count_92 ?_
    exact g_iret E hr (fC_14_8 hσ) h hσ dX11_count_95
  by_cases hs5 : x1 = 5
  · refine g_tableIn (v := 5) (i := 5) E c1 hs5 (by decide) (by decide) dX11_count_1 rfl (tgt := 96) (by decide) ?_
    replace h := h.2.2.2.2.2.1 hs5
    refine g_aload_0 E dX11_count_96 ?_
    refine g_getR E fl_RX11_28 (kC_0 b) (sC_0 b) rfl dX11_count_97 ?_
    refine g_getI E fl_RX11_159 (kC_14 b) (sC_14 b) rfl dX11_count_100 ?_
    exact g_iret E hr (fC_14_9 hσ) h hσ dX11_count_103
  by_cases hs6 : x1 = 6
  · refine g_tableIn (v := 6) (i := 6) E c1 hs6 (by decide) (by decide) dX11_count_1 rfl (tgt := 104) (by decide) ?_
    replace h := h.2.2.2.2.2.2.1 hs6
    refine g_aload_0 E dX11_count_104 ?_
    refine g_getR E fl_RX11_46 (kC_0 b) (sC_0 b) rfl dX11_count_105 ?_
    refine g_callvI E my_X1_itemsWithTrees mi_X1_itemsWithTrees msel_X1_itemsWithTrees ml_RX11_162 (rm_ok (by decide) (by decide)) ⟨Nat.zero_le _, Nat.zero_le _⟩ (kC_36 b) (sC_36 b) rfl (m_X1_itemsWithTrees E.2.2.1 hσ h) rfl rfl (Nat.le_of_ble_eq_true rfl) dX11_count_108 (fun r3 σ4 cr3 hσ4 h => ?_)
    exact g_iret E hr cr3 h hσ4 dX11_count_111
  by_cases hs7 : x1 = 7
  · refine g_tableIn (v := 7) (i := 7) E c1 hs7 (by decide) (by decide) dX11_count_1 rfl (tgt := 112) (by decide) ?_
    replace h := h.2.2.2.2.2.2.2.1 hs7
    refine g_aload_0 E dX11_count_112 ?_
    refine g_getI E fl_RX11_106 (kC_0 b) (sC_0 b) rfl dX11_count_113 ?_
    exact g_iret E hr (fC_0_1 hσ) h hσ dX11_count_116
  by_cases hs8 : x1 = 8
  · refine g_tableIn (v := 8) (i := 8) E c1 hs8 (by decide) (by decide) dX11_count_1 rfl (tgt := 117) (by decide) ?_
    replace h := h.2.2.2.2.2.2.2.2.1 hs8
    refine g_aload_0 E dX11_count_117 ?_
    refine g_getI E fl_RX11_165 (kC_0 b) (sC_0 b) rfl dX11_count_118 ?_
    exact g_iret E hr (fC_0_3 hσ) h hσ dX11_count_121
  by_cases hs9 : x1 = 9
  · refine g_tableIn (v := 9) (i := 9) E c1 hs9 (by decide) (by decide) dX11_count_1 rfl (tgt := 122) (by decide) ?_
    replace h := h.2.2.2.2.2.2.2.2.2.1 hs9
    refine g_aload_0 E dX11_count_122 ?_
    refine g_getR E fl_RX11_28 (kC_0 b) (sC_0 b) rfl dX11_count_123 ?_
    refine g_callvI E my_X4_rulesIn mi_X4_rulesIn msel_X4_rulesIn ml_RX11_168 (rm_ok (by decide) (by decide)) ⟨Nat.zero_le _, Nat.zero_le _⟩ (kC_14 b) (sC_14 b) rfl (m_X4_rulesIn E.2.2.1 hσ h) rfl rfl (Nat.le_of_ble_eq_true rfl) dX11_count_126 (fun r5 σ6 cr5 hσ6 h => ?_)
    exact g_iret E hr cr5 h hσ6 dX11_count_129
  replace h := h.2.2.2.2.2.2.2.2.2.2 ⟨hs0, hs1, hs2, hs3, hs4, hs5, hs6, hs7, hs8, hs9⟩
  refine g_tableOut E c1 (by omega) dX11_count_1 (tgt := 130) (by decide) ?_
  refine g_iconst E dX11_count_130 ?_
  exact g_iret E hr cl_m1 h hσ dX11_count_131
end
theorem m_X11_count {Z : (Nat → Nat) × (Nat → Nat)} {l : Launch} {D : va_G} {cA : Nat → ClassId} {ad : Nat → Nat} {b : Bool} {x1 : Int} {σ : St} {Q : Int → St → Prop} (hA : AdOk (NC b) ad) (c1 : C32 x1) (hσ : CanS (shC b) (NC b) σ) (h : wp_X11_count x1 σ Q) : KtI Z l D cA ad (shC b) (NC b) yX11_count cX11_count 2 (some .int) 7 [.ref (ad 0), vI x1] σ Q :=
  KtI.of my_X11_count hA [some (.ref (ad 0)), some (vI x1)] (Nat.le_of_ble_eq_true rfl) rfl (fun p e s m args below meth c A0 E hr => t_X11_count E hr x1 σ c1 hσ h)
theorem dX4_knows_0 : Dc cX4_knows 0 (.iload_n 1) 1 1 := ⟨by decide +kernel, rfl⟩
theorem djX4_knows_1 : Dj cX4_knows 1 (.ifCond .lt 15) 3 4 15 16 := ⟨by decide +kernel, rfl, by decide⟩
theorem dX4_knows_4 : Dc cX4_knows 4 (.iload_n 1) 1 5 := ⟨by decide +kernel, rfl⟩
theorem dX4_knows_5 : Dc cX4_knows 5 (.aload_n 0) 1 6 := ⟨by decide +kernel, rfl⟩
theorem dX4_knows_6 : Dc cX4_knows 6 (.getfield 43) 3 9 := ⟨by decide +kernel, rfl⟩
theorem djX4_knows_9 : Dj cX4_knows 9 (.if_icmp .ge 7) 3 12 7 16 := ⟨by decide +kernel, rfl, by decide⟩
theorem dX4_knows_12 : Dc cX4_knows 12 (.iconst 1) 1 13 := ⟨by decide +kernel, rfl⟩
theorem djX4_knows_13 : Dj cX4_knows 13 (.goto 4) 3 16 4 17 := ⟨by decide +kernel, rfl, by decide⟩
theorem dX4_knows_16 : Dc cX4_knows 16 (.iconst 0) 1 17 := ⟨by decide +kernel, rfl⟩
theorem dX4_knows_17 : Dc cX4_knows 17 (.ireturn) 1 18 := ⟨by decide +kernel, rfl⟩
section
variable {p : Program} {l : Launch} {e : Env} {s : State} {m : MethodId} {args : Array Value} {below : List Frame} {meth : Method} {c : Code} {A0 : Nat → Prop} {D : va_G} {cA : Nat → ClassId} {ad : Nat → Nat} {Z : (Nat → Nat) × (Nat → Nat)} {Q : Int → St → Prop} {b : Bool}
set_option maxHeartbeats 4000000 in
set_option maxRecDepth 100000 in
theorem t_X4_knows_b16 (E : Ev p s m args meth c cX4_knows 2 RX4 A0 D cA ad (NC b) Z) (hr : meth.sig.returnType = (some .boolean)) (σ : St) (hσ : CanS (shC b) (NC b) σ) (h : wp_X4_knows_b16 Q  σ) : G p l e (rmL 1 0 0) s m args below meth c 2 A0 D cA ad (shC b) (NC b) 0 0 (MQ below (QIc D cA ad (shC b) (NC b) Q A0) args s 0 0 A0) σ 16 [none, none] [] := by
  unfold wp_X4_knows_b16 at h
  refine g_iconst E dX4_knows_16 ?_
  exact g_zret E hr (Or.inl rfl) h hσ dX4_knows_17
set_option maxHeartbeats 4000000 in
set_option maxRecDepth 100000 in
theorem t_X4_knows (E : Ev p s m args meth c cX4_knows 2 RX4 A0 D cA ad (NC b) Z) (hr : meth.sig.returnType = (some .boolean)) (x1 : Int) (σ : St) (c1 : C32 x1) (hσ : CanS (shC b) (NC b) σ) (h : wp_X4_knows x1 σ Q) : G p l e (rmL 1 0 0) s m args below meth c 2 A0 D cA ad (shC b) (NC b) 0 0 (MQ below (QIc D cA ad (shC b) (NC b) Q A0) args s 0 0 A0) σ 0 [some (.ref (ad 14)), some (vI x1)] [] := by
  unfold wp_X4_knows at h
  refine g_iload_1 E dX4_knows_0 ?_
  refine g_if_lt E c1 djX4_knows_1 (fun hc => ?_) (fun hc => ?_)
  · replace h := h.1 hc
    exact (t_X4_knows_b16 E hr σ hσ h).weak (w_d (w_d w_n))
  · replace h := h.2 hc
    refine g_iload_1 E dX4_knows_4 ?_
    refine g_aload_0 E dX4_knows_5 ?_
    refine g_getI E fl_RX4_43 (kC_14 b) (sC_14 b) rfl dX4_knows_6 ?_
    refine g_icmp_ge E c1 (fC_14_0 hσ) djX4_knows_9 (fun hc => ?_) (fun hc => ?_)
    · replace h := h.1 hc
      exact (t_X4_knows_b16 E hr σ hσ h).weak (w_d (w_d w_n))
    · replace h := h.2 hc
      refine g_iconst E dX4_knows_12 ?_
      refine g_goto E djX4_knows_13 ?_
      exact g_zret E hr (Or.inr rfl) h hσ dX4_knows_17
end
theorem m_X4_knows {Z : (Nat → Nat) × (Nat → Nat)} {l : Launch} {D : va_G} {cA : Nat → ClassId} {ad : Nat → Nat} {b : Bool} {x1 : Int} {σ : St} {Q : Int → St → Prop} (hA : AdOk (NC b) ad) (c1 : C32 x1) (hσ : CanS (shC b) (NC b) σ) (h : wp_X4_knows x1 σ Q) : KtI Z l D cA ad (shC b) (NC b) yX4_knows cX4_knows 2 (some .boolean) 1 [.ref (ad 14), vI x1] σ Q :=
  KtI.of my_X4_knows hA [some (.ref (ad 14)), some (vI x1)] (Nat.le_of_ble_eq_true rfl) rfl (fun p e s m args below meth c A0 E hr => t_X4_knows E hr x1 σ c1 hσ h)
theorem dX11_rule_0 : Dc cX11_rule 0 (.aload_n 0) 1 1 := ⟨by decide +kernel, rfl⟩
theorem dX11_rule_1 : Dc cX11_rule 1 (.getfield 28) 3 4 := ⟨by decide +kernel, rfl⟩
theorem dX11_rule_4 : Dc cX11_rule 4 (.iload_n 1) 1 5 := ⟨by decide +kernel, rfl⟩
theorem dX11_rule_5 : Dc cX11_rule 5 (.invokevirtual 171) 3 8 := ⟨by decide +kernel, rfl⟩
theorem djX11_rule_8 : Dj cX11_rule 8 (.ifCond .ne 6) 3 11 6 14 := ⟨by decide +kernel, rfl, by decide⟩
theorem dX11_rule_11 : Dc cX11_rule 11 (.bipush (-2)) 2 13 := ⟨by decide +kernel, rfl⟩
theorem dX11_rule_13 : Dc cX11_rule 13 (.ireturn) 1 14 := ⟨by decide +kernel, rfl⟩
theorem dX11_rule_14 : Dc cX11_rule 14 (.iload_n 2) 1 15 := ⟨by decide +kernel, rfl⟩
theorem dX11_rule_15 : Dc cX11_rule 15 (.tableswitch 105 0 5 #[37, 47, 57, 67, 77, 87]) 37 52 := ⟨by decide +kernel, rfl⟩
theorem dX11_rule_52 : Dc cX11_rule 52 (.aload_n 0) 1 53 := ⟨by decide +kernel, rfl⟩
theorem dX11_rule_53 : Dc cX11_rule 53 (.getfield 28) 3 56 := ⟨by decide +kernel, rfl⟩
theorem dX11_rule_56 : Dc cX11_rule 56 (.getfield 174) 3 59 := ⟨by decide +kernel, rfl⟩
theorem dX11_rule_59 : Dc cX11_rule 59 (.iload_n 1) 1 60 := ⟨by decide +kernel, rfl⟩
theorem dX11_rule_60 : Dc cX11_rule 60 (.iaload) 1 61 := ⟨by decide +kernel, rfl⟩
theorem dX11_rule_61 : Dc cX11_rule 61 (.ireturn) 1 62 := ⟨by decide +kernel, rfl⟩
theorem dX11_rule_62 : Dc cX11_rule 62 (.aload_n 0) 1 63 := ⟨by decide +kernel, rfl⟩
theorem dX11_rule_63 : Dc cX11_rule 63 (.getfield 28) 3 66 := ⟨by decide +kernel, rfl⟩
theorem dX11_rule_66 : Dc cX11_rule 66 (.getfield 177) 3 69 := ⟨by decide +kernel, rfl⟩
theorem dX11_rule_69 : Dc cX11_rule 69 (.iload_n 1) 1 70 := ⟨by decide +kernel, rfl⟩
theorem dX11_rule_70 : Dc cX11_rule 70 (.iaload) 1 71 := ⟨by decide +kernel, rfl⟩
theorem dX11_rule_71 : Dc cX11_rule 71 (.ireturn) 1 72 := ⟨by decide +kernel, rfl⟩
theorem dX11_rule_72 : Dc cX11_rule 72 (.aload_n 0) 1 73 := ⟨by decide +kernel, rfl⟩
theorem dX11_rule_73 : Dc cX11_rule 73 (.getfield 28) 3 76 := ⟨by decide +kernel, rfl⟩
theorem dX11_rule_76 : Dc cX11_rule 76 (.getfield 180) 3 79 := ⟨by decide +kernel, rfl⟩
theorem dX11_rule_79 : Dc cX11_rule 79 (.iload_n 1) 1 80 := ⟨by decide +kernel, rfl⟩
theorem dX11_rule_80 : Dc cX11_rule 80 (.iaload) 1 81 := ⟨by decide +kernel, rfl⟩
theorem dX11_rule_81 : Dc cX11_rule 81 (.ireturn) 1 82 := ⟨by decide +kernel, rfl⟩
theorem dX11_rule_82 : Dc cX11_rule 82 (.aload_n 0) 1 83 := ⟨by decide +kernel, rfl⟩
theorem dX11_rule_83 : Dc cX11_rule 83 (.getfield 28) 3 86 := ⟨by decide +kernel, rfl⟩
theorem dX11_rule_86 : Dc cX11_rule 86 (.getfield 183) 3 89 := ⟨by decide +kernel, rfl⟩
theorem dX11_rule_89 : Dc cX11_rule 89 (.iload_n 1) 1 90 := ⟨by decide +kernel, rfl⟩
theorem dX11_rule_90 : Dc cX11_rule 90 (.iaload) 1 91 := ⟨by decide +kernel, rfl⟩
theorem dX11_rule_91 : Dc cX11_rule 91 (.ireturn) 1 92 := ⟨by decide +kernel, rfl⟩
theorem dX11_rule_92 : Dc cX11_rule 92 (.aload_n 0) 1 93 := ⟨by decide +kernel, rfl⟩
theorem dX11_rule_93 : Dc cX11_rule 93 (.getfield 28) 3 96 := ⟨by decide +kernel, rfl⟩
theorem dX11_rule_96 : Dc cX11_rule 96 (.getfield 186) 3 99 := ⟨by decide +kernel, rfl⟩
theorem dX11_rule_99 : Dc cX11_rule 99 (.iload_n 1) 1 100 := ⟨by decide +kernel, rfl⟩
theorem dX11_rule_100 : Dc cX11_rule 100 (.iaload) 1 101 := ⟨by decide +kernel, rfl⟩
theorem dX11_rule_101 : Dc cX11_rule 101 (.ireturn) 1 102 := ⟨by decide +kernel, rfl⟩
theorem dX11_rule_102 : Dc cX11_rule 102 (.aload_n 0) 1 103 := ⟨by decide +kernel, rfl⟩
theorem dX11_rule_103 : Dc cX11_rule 103 (.getfield 28) 3 106 := ⟨by decide +kernel, rfl⟩
theorem dX11_rule_106 : Dc cX11_rule 106 (.getfield 189) 3 109 := ⟨by decide +kernel, rfl⟩
theorem dX11_rule_109 : Dc cX11_rule 109 (.iload_n 1) 1 110 := ⟨by decide +kernel, rfl⟩
theorem dX11_rule_110 : Dc cX11_rule 110 (.baload) 1 111 := ⟨by decide +kernel, rfl⟩
theorem djX11_rule_111 : Dj cX11_rule 111 (.ifCond .eq 7) 3 114 7 118 := ⟨by decide +kernel, rfl, by decide⟩
theorem dX11_rule_114 : Dc cX11_rule 114 (.iconst 1) 1 115 := ⟨by decide +kernel, rfl⟩
theorem djX11_rule_115 : Dj cX11_rule 115 (.goto 4) 3 118 4 119 := ⟨by decide +kernel, rfl, by decide⟩
theorem dX11_rule_118 : Dc cX11_rule 118 (.iconst 0) 1 119 := ⟨by decide +kernel, rfl⟩
theorem dX11_rule_119 : Dc cX11_rule 119 (.ireturn) 1 120 := ⟨by decide +kernel, rfl⟩
theorem dX11_rule_120 : Dc cX11_rule 120 (.bipush (-2)) 2 122 := ⟨by decide +kernel, rfl⟩
theorem dX11_rule_122 : Dc cX11_rule 122 (.ireturn) 1 123 := ⟨by decide +kernel, rfl⟩
section
variable {p : Program} {l : Launch} {e : Env} {s : State} {m : MethodId} {args : Array Value} {below : List Frame} {meth : Method} {c : Code} {A0 : Nat → Prop} {D : va_G} {cA : Nat → ClassId} {ad : Nat → Nat} {Z : (Nat → Nat) × (Nat → Nat)} {Q : Int → St → Prop} {b : Bool}
set_option maxHeartbeats 4000000 in
set_option maxRecDepth 100000 in
theorem t_X11_rule (E : Ev p s m args meth c cX11_rule 3 RX11 A0 D cA ad (NC b) Z) (hr : meth.sig.returnType = (some .int)) (x1 : Int) (x2 : Int) (σ : St) (c1 : C32 x1) (c2 : C32 x2) (hσ : CanS (shC b) (NC b) σ) (h : wp_X11_rule x1 x2 σ Q) : G p l e (rmL 2 0 0) s m args below meth c 3 A0 D cA ad (shC b) (NC b) 0 0 (MQ below (QIc D cA ad (shC b) (NC b) Q A0) args s 0 0 A0) σ 0 [some (.ref (ad 0)), some (vI x1), some (vI x2)] [] := by
  unfold wp_X11_rule at h
  refine g_aload_0 E dX11_rule_0 ?_
  refine g_getR E fl_RX11_28 (kC_0 b) (sC_0 b) rfl dX11_rule_1 ?_
  refine g_iload_1 E dX11_rule_4 ?_
  refine g_callvI E my_X4_knows mi_X4_knows msel_X4_knows ml_RX11_171 (rm_ok (by decide) (by decide)) ⟨Nat.zero_le _, Nat.zero_le _⟩ (kC_14 b) (sC_14 b) rfl (m_X4_knows E.2.2.1 c1 hσ h) rfl rfl (Nat.le_of_ble_eq_true rfl) dX11_rule_5 (fun r1 σ2 cr1 hσ2 h => ?_)
  refine g_if_ne E cr1 djX11_rule_8 (fun hc => ?_) (fun hc => ?_)
  · replace h := h.1 hc
    refine g_iload_2 E dX11_rule_14 ?_
    by_cases hs0 : x2 = 0
    · refine g_tableIn (v := 0) (i := 0) E c2 hs0 (by decide) (by decide) dX11_rule_15 rfl (tgt := 52) (by decide) ?_
      replace h := h.1 hs0
      refine g_aload_0 E dX11_rule_52 ?_
      refine g_getR E fl_RX11_28 (kC_0 b) (sC_0 b) rfl dX11_rule_53 ?_
      refine g_getR E fl_RX11_174 (kC_14 b) (sC_14 b) rfl dX11_rule_56 ?_
      refine g_iload_1 E dX11_rule_59 ?_
      refine g_iald E (kC_15 b) (sC_15 b) (by decide) h.1 dX11_rule_60 ?_
      replace h := h.2
      exact g_iret E hr (aC_15 hσ2 _) h hσ2 dX11_rule_61
    by_cases hs1 : x2 = 1
    · refine g_tableIn (v := 1) (i := 1) E c2 hs1 (by decide) (by decide) dX11_rule_15 rfl (tgt := 62) (by decide) ?_
      replace h := h.2.1 hs1
      refine g_aload_0 E dX11_rule_62 ?_
      refine g_getR E fl_RX11_28 (kC_0 b) (sC_0 b) rfl dX11_rule_63 ?_
      refine g_getR E fl_RX11_177 (kC_14 b) (sC_14 b) rfl dX11_rule_66 ?_
      refine g_iload_1 E dX11_rule_69 ?_
      refine g_iald E (kC_16 b) (sC_16 b) (by decide) h.1 dX11_rule_70 ?_
      replace h := h.2
      exact g_iret E hr (aC_16 hσ2 _) h hσ2 dX11_rule_71
    by_cases hs2 : x2 = 2
    · refine g_tableIn (v := 2) (i := 2) E c2 hs2 (by decide) (by decide) dX11_rule_15 rfl (tgt := 72) (by decide) ?_
      replace h := h.2.2.1 hs2
      refine g_aload_0 E dX11_rule_72 ?_
      refine g_getR E fl_RX11_28 (kC_0 b) (sC_0 b) rfl dX11_rule_73 ?_
      refine g_getR E fl_RX11_180 (kC_14 b) (sC_14 b) rfl dX11_rule_76 ?_
      refine g_iload_1 E dX11_rule_79 ?_
      refine g_iald E (kC_17 b) (sC_17 b) (by decide) h.1 dX11_rule_80 ?_
      replace h := h.2
      exact g_iret E hr (aC_17 hσ2 _) h hσ2 dX11_rule_81
    by_cases hs3 : x2 = 3
    · refine g_tableIn (v := 3) (i := 3) E c2 hs3 (by decide) (by decide) dX11_rule_15 rfl (tgt := 82) (by decide) ?_
      replace h := h.2.2.2.1 hs3
      refine g_aload_0 E dX11_rule_82 ?_
      refine g_getR E fl_RX11_28 (kC_0 b) (sC_0 b) rfl dX11_rule_83 ?_
      refine g_getR E fl_RX11_183 (kC_14 b) (sC_14 b) rfl dX11_rule_86 ?_
      refine g_iload_1 E dX11_rule_89 ?_
      refine g_iald E (kC_18 b) (sC_18 b) (by decide) h.1 dX11_rule_90 ?_
      replace h := h.2
      exact g_iret E hr (aC_18 hσ2 _) h hσ2 dX11_rule_91
    by_cases hs4 : x2 = 4
    · refine g_tableIn (v := 4) (i := 4) E c2 hs4 (by decide) (by decide) dX11_rule_15 rfl (tgt := 92) (by decide) ?_
      replace h := h.2.2.2.2.1 hs4
      refine g_aload_0 E dX11_rule_92 ?_
      refine g_getR E fl_RX11_28 (kC_0 b) (sC_0 b) rfl dX11_rule_93 ?_
      refine g_getR E fl_RX11_186 (kC_14 b) (sC_14 b) rfl dX11_rule_96 ?_
      refine g_iload_1 E dX11_rule_99 ?_
      refine g_iald E (kC_19 b) (sC_19 b) (by decide) h.1 dX11_rule_100 ?_
      replace h := h.2
      exact g_iret E hr (aC_19 hσ2 _) h hσ2 dX11_rule_101
    by_cases hs5 : x2 = 5
    · refine g_tableIn (v := 5) (i := 5) E c2 hs5 (by decide) (by decide) dX11_rule_15 rfl (tgt := 102) (by decide) ?_
      replace h := h.2.2.2.2.2.1 hs5
      refine g_aload_0 E dX11_rule_102 ?_
      refine g_getR E fl_RX11_28 (kC_0 b) (sC_0 b) rfl dX11_rule_103 ?_
      refine g_getR E fl_RX11_189 (kC_14 b) (sC_14 b) rfl dX11_rule_106 ?_
      refine g_iload_1 E dX11_rule_109 ?_
      refine g_zald E (kC_20 b) (sC_20 b) (by decide) h.1 dX11_rule_110 ?_
      replace h := h.2
      refine g_if_eq E (aC_20 hσ2 _) djX11_rule_111 (fun hc => ?_) (fun hc => ?_)
      · replace h := h.1 hc
        refine g_iconst E dX11_rule_118 ?_
        exact g_iret E hr cl_0 h hσ2 dX11_rule_119
      · replace h := h.2 hc
        refine g_iconst E dX11_rule_114 ?_
        refine g_goto E djX11_rule_115 ?_
        exact g_iret E hr cl_1 h hσ2 dX11_rule_119
    replace h := h.2.2.2.2.2.2 ⟨hs0, hs1, hs2, hs3, hs4, hs5⟩
    refine g_tableOut E c2 (by omega) dX11_rule_15 (tgt := 120) (by decide) ?_
    refine g_bipush E (by decide) dX11_rule_120 ?_
    exact g_iret E hr cl_m2 h hσ2 dX11_rule_122
  · replace h := h.2 hc
    refine g_bipush E (by decide) dX11_rule_11 ?_
    exact g_iret E hr cl_m2 h hσ2 dX11_rule_13
end
theorem m_X11_rule {Z : (Nat → Nat) × (Nat → Nat)} {l : Launch} {D : va_G} {cA : Nat → ClassId} {ad : Nat → Nat} {b : Bool} {x1 x2 : Int} {σ : St} {Q : Int → St → Prop} (hA : AdOk (NC b) ad) (c1 : C32 x1) (c2 : C32 x2) (hσ : CanS (shC b) (NC b) σ) (h : wp_X11_rule x1 x2 σ Q) : KtI Z l D cA ad (shC b) (NC b) yX11_rule cX11_rule 3 (some .int) 2 [.ref (ad 0), vI x1, vI x2] σ Q :=
  KtI.of my_X11_rule hA [some (.ref (ad 0)), some (vI x1), some (vI x2)] (Nat.le_of_ble_eq_true rfl) rfl (fun p e s m args below meth c A0 E hr => t_X11_rule E hr x1 x2 σ c1 c2 hσ h)
theorem dX4_isElement_0 : Dc cX4_isElement 0 (.iload_n 1) 1 1 := ⟨by decide +kernel, rfl⟩
theorem djX4_isElement_1 : Dj cX4_isElement 1 (.ifCond .lt 15) 3 4 15 16 := ⟨by decide +kernel, rfl, by decide⟩
theorem dX4_isElement_4 : Dc cX4_isElement 4 (.iload_n 1) 1 5 := ⟨by decide +kernel, rfl⟩
theorem dX4_isElement_5 : Dc cX4_isElement 5 (.aload_n 0) 1 6 := ⟨by decide +kernel, rfl⟩
theorem dX4_isElement_6 : Dc cX4_isElement 6 (.getfield 47) 3 9 := ⟨by decide +kernel, rfl⟩
theorem djX4_isElement_9 : Dj cX4_isElement 9 (.if_icmp .ge 7) 3 12 7 16 := ⟨by decide +kernel, rfl, by decide⟩
theorem dX4_isElement_12 : Dc cX4_isElement 12 (.iconst 1) 1 13 := ⟨by decide +kernel, rfl⟩
theorem djX4_isElement_13 : Dj cX4_isElement 13 (.goto 4) 3 16 4 17 := ⟨by decide +kernel, rfl, by decide⟩
theorem dX4_isElement_16 : Dc cX4_isElement 16 (.iconst 0) 1 17 := ⟨by decide +kernel, rfl⟩
theorem dX4_isElement_17 : Dc cX4_isElement 17 (.ireturn) 1 18 := ⟨by decide +kernel, rfl⟩
section
variable {p : Program} {l : Launch} {e : Env} {s : State} {m : MethodId} {args : Array Value} {below : List Frame} {meth : Method} {c : Code} {A0 : Nat → Prop} {D : va_G} {cA : Nat → ClassId} {ad : Nat → Nat} {Z : (Nat → Nat) × (Nat → Nat)} {Q : Int → St → Prop} {b : Bool}
set_option maxHeartbeats 4000000 in
set_option maxRecDepth 100000 in
theorem t_X4_isElement_b16 (E : Ev p s m args meth c cX4_isElement 2 RX4 A0 D cA ad (NC b) Z) (hr : meth.sig.returnType = (some .boolean)) (σ : St) (hσ : CanS (shC b) (NC b) σ) (h : wp_X4_isElement_b16 Q  σ) : G p l e (rmL 1 0 0) s m args below meth c 2 A0 D cA ad (shC b) (NC b) 0 0 (MQ below (QIc D cA ad (shC b) (NC b) Q A0) args s 0 0 A0) σ 16 [none, none] [] := by
  unfold wp_X4_isElement_b16 at h
  refine g_iconst E dX4_isElement_16 ?_
  exact g_zret E hr (Or.inl rfl) h hσ dX4_isElement_17
set_option maxHeartbeats 4000000 in
set_option maxRecDepth 100000 in
theorem t_X4_isElement (E : Ev p s m args meth c cX4_isElement 2 RX4 A0 D cA ad (NC b) Z) (hr : meth.sig.returnType = (some .boolean)) (x1 : Int) (σ : St) (c1 : C32 x1) (hσ : CanS (shC b) (NC b) σ) (h : wp_X4_isElement x1 σ Q) : G p l e (rmL 1 0 0) s m args below meth c 2 A0 D cA ad (shC b) (NC b) 0 0 (MQ below (QIc D cA ad (shC b) (NC b) Q A0) args s 0 0 A0) σ 0 [some (.ref (ad 14)), some (vI x1)] [] := by
  unfold wp_X4_isElement at h
  refine g_iload_1 E dX4_isElement_0 ?_
  refine g_if_lt E c1 djX4_isElement_1 (fun hc => ?_) (fun hc => ?_)
  · replace h := h.1 hc
    exact (t_X4_isElement_b16 E hr σ hσ h).weak (w_d (w_d w_n))
  · replace h := h.2 hc
    refine g_iload_1 E dX4_isElement_4 ?_
    refine g_aload_0 E dX4_isElement_5 ?_
    refine g_getI E fl_RX4_47 (kC_14 b) (sC_14 b) rfl dX4_isElement_6 ?_
    refine g_icmp_ge E c1 (fC_14_7 hσ) djX4_isElement_9 (fun hc => ?_) (fun hc => ?_)
    · replace h := h.1 hc
      exact (t_X4_isElement_b16 E hr σ hσ h).weak (w_d (w_d w_n))
    · replace h := h.2 hc
      refine g_iconst E dX4_isElement_12 ?_
      refine g_goto E djX4_isElement_13 ?_
      exact g_zret E hr (Or.inr rfl) h hσ dX4_isElement_17
end
theorem m_X4_isElement {Z : (Nat → Nat) × (Nat → Nat)} {l : Launch} {D : va_G} {cA : Nat → ClassId} {ad : Nat → Nat} {b : Bool} {x1 : Int} {σ : St} {Q : Int → St → Prop} (hA : AdOk (NC b) ad) (c1 : C32 x1) (hσ : CanS (shC b) (NC b) σ) (h : wp_X4_isElement x1 σ Q) : KtI Z l D cA ad (shC b) (NC b) yX4_isElement cX4_isElement 2 (some .boolean) 1 [.ref (ad 14), vI x1] σ Q :=
  KtI.of my_X4_isElement hA [some (.ref (ad 14)), some (vI x1)] (Nat.le_of_ble_eq_true rfl) rfl (fun p e s m args below meth c A0 E hr => t_X4_isElement E hr x1 σ c1 hσ h)
theorem dX4_plus_0 : Dc cX4_plus 0 (.aload_n 0) 1 1 := ⟨by decide +kernel, rfl⟩
theorem dX4_plus_1 : Dc cX4_plus 1 (.getfield 31) 3 4 := ⟨by decide +kernel, rfl⟩
theorem dX4_plus_4 : Dc cX4_plus 4 (.iload_n 1) 1 5 := ⟨by decide +kernel, rfl⟩
theorem dX4_plus_5 : Dc cX4_plus 5 (.aload_n 0) 1 6 := ⟨by decide +kernel, rfl⟩
theorem dX4_plus_6 : Dc cX4_plus 6 (.getfield 47) 3 9 := ⟨by decide +kernel, rfl⟩
theorem dX4_plus_9 : Dc cX4_plus 9 (.imul) 1 10 := ⟨by decide +kernel, rfl⟩
theorem dX4_plus_10 : Dc cX4_plus 10 (.iload_n 2) 1 11 := ⟨by decide +kernel, rfl⟩
theorem dX4_plus_11 : Dc cX4_plus 11 (.iadd) 1 12 := ⟨by decide +kernel, rfl⟩
theorem dX4_plus_12 : Dc cX4_plus 12 (.iaload) 1 13 := ⟨by decide +kernel, rfl⟩
theorem dX4_plus_13 : Dc cX4_plus 13 (.ireturn) 1 14 := ⟨by decide +kernel, rfl⟩
section
variable {p : Program} {l : Launch} {e : Env} {s : State} {m : MethodId} {args : Array Value} {below : List Frame} {meth : Method} {c : Code} {A0 : Nat → Prop} {D : va_G} {cA : Nat → ClassId} {ad : Nat → Nat} {Z : (Nat → Nat) × (Nat → Nat)} {Q : Int → St → Prop} {b : Bool}
set_option maxHeartbeats 4000000 in
set_option maxRecDepth 100000 in
theorem t_X4_plus (E : Ev p s m args meth c cX4_plus 3 RX4 A0 D cA ad (NC b) Z) (hr : meth.sig.returnType = (some .int)) (x1 : Int) (x2 : Int) (σ : St) (c1 : C32 x1) (c2 : C32 x2) (hσ : CanS (shC b) (NC b) σ) (h : wp_X4_plus x1 x2 σ Q) : G p l e (rmL 1 0 0) s m args below meth c 3 A0 D cA ad (shC b) (NC b) 0 0 (MQ below (QIc D cA ad (shC b) (NC b) Q A0) args s 0 0 A0) σ 0 [some (.ref (ad 14)), some (vI x1), some (vI x2)] [] := by
  unfold wp_X4_plus at h
  refine g_aload_0 E dX4_plus_0 ?_
  refine g_getR E fl_RX4_31 (kC_14 b) (sC_14 b) rfl dX4_plus_1 ?_
  refine g_iload_1 E dX4_plus_4 ?_
  refine g_aload_0 E dX4_plus_5 ?_
  refine g_getI E fl_RX4_47 (kC_14 b) (sC_14 b) rfl dX4_plus_6 ?_
  refine g_imul E dX4_plus_9 ?_
  refine g_iload_2 E dX4_plus_10 ?_
  refine g_iadd E dX4_plus_11 ?_
  refine g_iald E (kC_21 b) (sC_21 b) (by decide) h.1 dX4_plus_12 ?_
  replace h := h.2
  exact g_iret E hr (aC_21 hσ _) h hσ dX4_plus_13
end
theorem m_X4_plus {Z : (Nat → Nat) × (Nat → Nat)} {l : Launch} {D : va_G} {cA : Nat → ClassId} {ad : Nat → Nat} {b : Bool} {x1 x2 : Int} {σ : St} {Q : Int → St → Prop} (hA : AdOk (NC b) ad) (c1 : C32 x1) (c2 : C32 x2) (hσ : CanS (shC b) (NC b) σ) (h : wp_X4_plus x1 x2 σ Q) : KtI Z l D cA ad (shC b) (NC b) yX4_plus cX4_plus 3 (some .int) 1 [.ref (ad 14), vI x1, vI x2] σ Q :=
  KtI.of my_X4_plus hA [some (.ref (ad 14)), some (vI x1), some (vI x2)] (Nat.le_of_ble_eq_true rfl) rfl (fun p e s m args below meth c A0 E hr => t_X4_plus E hr x1 x2 σ c1 c2 hσ h)
theorem dX4_times_0 : Dc cX4_times 0 (.aload_n 0) 1 1 := ⟨by decide +kernel, rfl⟩
theorem dX4_times_1 : Dc cX4_times 1 (.getfield 34) 3 4 := ⟨by decide +kernel, rfl⟩
theorem dX4_times_4 : Dc cX4_times 4 (.iload_n 1) 1 5 := ⟨by decide +kernel, rfl⟩
theorem dX4_times_5 : Dc cX4_times 5 (.aload_n 0) 1 6 := ⟨by decide +kernel, rfl⟩
theorem dX4_times_6 : Dc cX4_times 6 (.getfield 47) 3 9 := ⟨by decide +kernel, rfl⟩
theorem dX4_times_9 : Dc cX4_times 9 (.imul) 1 10 := ⟨by decide +kernel, rfl⟩
theorem dX4_times_10 : Dc cX4_times 10 (.iload_n 2) 1 11 := ⟨by decide +kernel, rfl⟩
theorem dX4_times_11 : Dc cX4_times 11 (.iadd) 1 12 := ⟨by decide +kernel, rfl⟩
theorem dX4_times_12 : Dc cX4_times 12 (.iaload) 1 13 := ⟨by decide +kernel, rfl⟩
theorem dX4_times_13 : Dc cX4_times 13 (.ireturn) 1 14 := ⟨by decide +kernel, rfl⟩
section
variable {p : Program} {l : Launch} {e : Env} {s : State} {m : MethodId} {args : Array Value} {below : List Frame} {meth : Method} {c : Code} {A0 : Nat → Prop} {D : va_G} {cA : Nat → ClassId} {ad : Nat → Nat} {Z : (Nat → Nat) × (Nat → Nat)} {Q : Int → St → Prop} {b : Bool}
set_option maxHeartbeats 4000000 in
set_option maxRecDepth 100000 in
theorem t_X4_times (E : Ev p s m args meth c cX4_times 3 RX4 A0 D cA ad (NC b) Z) (hr : meth.sig.returnType = (some .int)) (x1 : Int) (x2 : Int) (σ : St) (c1 : C32 x1) (c2 : C32 x2) (hσ : CanS (shC b) (NC b) σ) (h : wp_X4_times x1 x2 σ Q) : G p l e (rmL 1 0 0) s m args below meth c 3 A0 D cA ad (shC b) (NC b) 0 0 (MQ below (QIc D cA ad (shC b) (NC b) Q A0) args s 0 0 A0) σ 0 [some (.ref (ad 14)), some (vI x1), some (vI x2)] [] := by
  unfold wp_X4_times at h
  refine g_aload_0 E dX4_times_0 ?_
  refine g_getR E fl_RX4_34 (kC_14 b) (sC_14 b) rfl dX4_times_1 ?_
  refine g_iload_1 E dX4_times_4 ?_
  refine g_aload_0 E dX4_times_5 ?_
  refine g_getI E fl_RX4_47 (kC_14 b) (sC_14 b) rfl dX4_times_6 ?_
  refine g_imul E dX4_times_9 ?_
  refine g_iload_2 E dX4_times_10 ?_
  refine g_iadd E dX4_times_11 ?_
  refine g_iald E (kC_22 b) (sC_22 b) (by decide) h.1 dX4_times_12 ?_
  replace h := h.2
  exact g_iret E hr (aC_22 hσ _) h hσ dX4_times_13
end
theorem m_X4_times {Z : (Nat → Nat) × (Nat → Nat)} {l : Launch} {D : va_G} {cA : Nat → ClassId} {ad : Nat → Nat} {b : Bool} {x1 x2 : Int} {σ : St} {Q : Int → St → Prop} (hA : AdOk (NC b) ad) (c1 : C32 x1) (c2 : C32 x2) (hσ : CanS (shC b) (NC b) σ) (h : wp_X4_times x1 x2 σ Q) : KtI Z l D cA ad (shC b) (NC b) yX4_times cX4_times 3 (some .int) 1 [.ref (ad 14), vI x1, vI x2] σ Q :=
  KtI.of my_X4_times hA [some (.ref (ad 14)), some (vI x1), some (vI x2)] (Nat.le_of_ble_eq_true rfl) rfl (fun p e s m args below meth c A0 E hr => t_X4_times E hr x1 x2 σ c1 c2 hσ h)
theorem dX11_table_0 : Dc cX11_table 0 (.aload_n 0) 1 1 := ⟨by decide +kernel, rfl⟩
theorem dX11_table_1 : Dc cX11_table 1 (.getfield 28) 3 4 := ⟨by decide +kernel, rfl⟩
theorem dX11_table_4 : Dc cX11_table 4 (.iload_n 2) 1 5 := ⟨by decide +kernel, rfl⟩
theorem dX11_table_5 : Dc cX11_table 5 (.invokevirtual 193) 3 8 := ⟨by decide +kernel, rfl⟩
theorem djX11_table_8 : Dj cX11_table 8 (.ifCond .eq 14) 3 11 14 22 := ⟨by decide +kernel, rfl, by decide⟩
theorem dX11_table_11 : Dc cX11_table 11 (.aload_n 0) 1 12 := ⟨by decide +kernel, rfl⟩
theorem dX11_table_12 : Dc cX11_table 12 (.getfield 28) 3 15 := ⟨by decide +kernel, rfl⟩
theorem dX11_table_15 : Dc cX11_table 15 (.iload_n 3) 1 16 := ⟨by decide +kernel, rfl⟩
theorem dX11_table_16 : Dc cX11_table 16 (.invokevirtual 193) 3 19 := ⟨by decide +kernel, rfl⟩
theorem djX11_table_19 : Dj cX11_table 19 (.ifCond .ne 6) 3 22 6 25 := ⟨by decide +kernel, rfl, by decide⟩
theorem dX11_table_22 : Dc cX11_table 22 (.bipush (-2)) 2 24 := ⟨by decide +kernel, rfl⟩
theorem dX11_table_24 : Dc cX11_table 24 (.ireturn) 1 25 := ⟨by decide +kernel, rfl⟩
theorem dX11_table_25 : Dc cX11_table 25 (.iload_n 1) 1 26 := ⟨by decide +kernel, rfl⟩
theorem dX11_table_26 : Dc cX11_table 26 (.lookupswitch 46 #[(0, 26), (1, 36)]) 26 52 := ⟨by decide +kernel, rfl⟩
theorem dX11_table_52 : Dc cX11_table 52 (.aload_n 0) 1 53 := ⟨by decide +kernel, rfl⟩
theorem dX11_table_53 : Dc cX11_table 53 (.getfield 28) 3 56 := ⟨by decide +kernel, rfl⟩
theorem dX11_table_56 : Dc cX11_table 56 (.iload_n 2) 1 57 := ⟨by decide +kernel, rfl⟩
theorem dX11_table_57 : Dc cX11_table 57 (.iload_n 3) 1 58 := ⟨by decide +kernel, rfl⟩
theorem dX11_table_58 : Dc cX11_table 58 (.invokevirtual 196) 3 61 := ⟨by decide +kernel, rfl⟩
theorem dX11_table_61 : Dc cX11_table 61 (.ireturn) 1 62 := ⟨by decide +kernel, rfl⟩
theorem dX11_table_62 : Dc cX11_table 62 (.aload_n 0) 1 63 := ⟨by decide +kernel, rfl⟩
theorem dX11_table_63 : Dc cX11_table 63 (.getfield 28) 3 66 := ⟨by decide +kernel, rfl⟩
theorem dX11_table_66 : Dc cX11_table 66 (.iload_n 2) 1 67 := ⟨by decide +kernel, rfl⟩
theorem dX11_table_67 : Dc cX11_table 67 (.iload_n 3) 1 68 := ⟨by decide +kernel, rfl⟩
theorem dX11_table_68 : Dc cX11_table 68 (.invokevirtual 200) 3 71 := ⟨by decide +kernel, rfl⟩
theorem dX11_table_71 : Dc cX11_table 71 (.ireturn) 1 72 := ⟨by decide +kernel, rfl⟩
theorem dX11_table_72 : Dc cX11_table 72 (.bipush (-2)) 2 74 := ⟨by decide +kernel, rfl⟩
theorem dX11_table_74 : Dc cX11_table 74 (.ireturn) 1 75 := ⟨by decide +kernel, rfl⟩
section
variable {p : Program} {l : Launch} {e : Env} {s : State} {m : MethodId} {args : Array Value} {below : List Frame} {meth : Method} {c : Code} {A0 : Nat → Prop} {D : va_G} {cA : Nat → ClassId} {ad : Nat → Nat} {Z : (Nat → Nat) × (Nat → Nat)} {Q : Int → St → Prop} {b : Bool}
set_option maxHeartbeats 4000000 in
set_option maxRecDepth 100000 in
theorem t_X11_table (E : Ev p s m args meth c cX11_table 4 RX11 A0 D cA ad (NC b) Z) (hr : meth.sig.returnType = (some .int)) (x1 : Int) (x2 : Int) (x3 : Int) (σ : St) (c1 : C32 x1) (c2 : C32 x2) (c3 : C32 x3) (hσ : CanS (shC b) (NC b) σ) (h : wp_X11_table x1 x2 x3 σ Q) : G p l e (rmL 2 0 0) s m args below meth c 4 A0 D cA ad (shC b) (NC b) 0 0 (MQ below (QIc D cA ad (shC b) (NC b) Q A0) args s 0 0 A0) σ 0 [some (.ref (ad 0)), some (vI x1), some (vI x2), some (vI x3)] [] := by
  unfold wp_X11_table at h
  refine g_aload_0 E dX11_table_0 ?_
  refine g_getR E fl_RX11_28 (kC_0 b) (sC_0 b) rfl dX11_table_1 ?_
  refine g_iload_2 E dX11_table_4 ?_
  refine g_callvI E my_X4_isElement mi_X4_isElement msel_X4_isElement ml_RX11_193 (rm_ok (by decide) (by decide)) ⟨Nat.zero_le _, Nat.zero_le _⟩ (kC_14 b) (sC_14 b) rfl (m_X4_isElement E.2.2.1 c2 hσ h) rfl rfl (Nat.le_of_ble_eq_true rfl) dX11_table_5 (fun r1 σ2 cr1 hσ2 h => ?_)
  refine g_if_eq E cr1 djX11_table_8 (fun hc => ?_) (fun hc => ?_)
  · replace h := h.1 hc
    refine g_bipush E (by decide) dX11_table_22 ?_
    exact g_iret E hr cl_m2 h hσ2 dX11_table_24
  · replace h := h.2 hc
    refine g_aload_0 E dX11_table_11 ?_
    refine g_getR E fl_RX11_28 (kC_0 b) (sC_0 b) rfl dX11_table_12 ?_
    refine g_iload_3 E dX11_table_15 ?_
    refine g_callvI E my_X4_isElement mi_X4_isElement msel_X4_isElement ml_RX11_193 (rm_ok (by decide) (by decide)) ⟨Nat.zero_le _, Nat.zero_le _⟩ (kC_14 b) (sC_14 b) rfl (m_X4_isElement E.2.2.1 c3 hσ2 h) rfl rfl (Nat.le_of_ble_eq_true rfl) dX11_table_16 (fun r3 σ4 cr3 hσ4 h => ?_)
    refine g_if_ne E cr3 djX11_table_19 (fun hc => ?_) (fun hc => ?_)
    · replace h := h.1 hc
      refine g_iload_1 E dX11_table_25 ?_
      by_cases hs0 : x1 = 0
      · refine g_lookup (v := 0) E c1 hs0 dX11_table_26 rfl rfl (tgt := 52) (by decide) ?_
        replace h := h.1 hs0
        refine g_aload_0 E dX11_table_52 ?_
        refine g_getR E fl_RX11_28 (kC_0 b) (sC_0 b) rfl dX11_table_53 ?_
        refine g_iload_2 E dX11_table_56 ?_
        refine g_iload_3 E dX11_table_57 ?_
        refine g_callvI E my_X4_plus mi_X4_plus msel_X4_plus ml_RX11_196 (rm_ok (by decide) (by decide)) ⟨Nat.zero_le _, Nat.zero_le _⟩ (kC_14 b) (sC_14 b) rfl (m_X4_plus E.2.2.1 c2 c3 hσ4 h) rfl rfl (Nat.le_of_ble_eq_true rfl) dX11_table_58 (fun r5 σ6 cr5 hσ6 h => ?_)
        exact g_iret E hr cr5 h hσ6 dX11_table_61
      by_cases hs1 : x1 = 1
      · refine g_lookup (v := 1) E c1 hs1 dX11_table_26 rfl rfl (tgt := 62) (by decide) ?_
        replace h := h.2.1 hs1
        refine g_aload_0 E dX11_table_62 ?_
        refine g_getR E fl_RX11_28 (kC_0 b) (sC_0 b) rfl dX11_table_63 ?_
        refine g_iload_2 E dX11_table_66 ?_
        refine g_iload_3 E dX11_table_67 ?_
        refine g_callvI E my_X4_times mi_X4_times msel_X4_times ml_RX11_200 (rm_ok (by decide) (by decide)) ⟨Nat.zero_le _, Nat.zero_le _⟩ (kC_14 b) (sC_14 b) rfl (m_X4_times E.2.2.1 c2 c3 hσ4 h) rfl rfl (Nat.le_of_ble_eq_true rfl) dX11_table_68 (fun r7 σ8 cr7 hσ8 h => ?_)
        exact g_iret E hr cr7 h hσ8 dX11_table_71
      replace h := h.2.2 ⟨hs0, hs1⟩
      refine g_lookupD E c1 dX11_table_26 rfl (by intro q hq; simp only [List.mem_cons, List.not_mem_nil, or_false] at hq; rcases hq with rfl | rfl <;> omega) (tgt := 72) (by decide) ?_
      refine g_bipush E (by decide) dX11_table_72 ?_
      exact g_iret E hr cl_m2 h hσ4 dX11_table_74
    · replace h := h.2 hc
      refine g_bipush E (by decide) dX11_table_22 ?_
      exact g_iret E hr cl_m2 h hσ4 dX11_table_24
end
theorem m_X11_table {Z : (Nat → Nat) × (Nat → Nat)} {l : Launch} {D : va_G} {cA : Nat → ClassId} {ad : Nat → Nat} {b : Bool} {x1 x2 x3 : Int} {σ : St} {Q : Int → St → Prop} (hA : AdOk (NC b) ad) (c1 : C32 x1) (c2 : C32 x2) (c3 : C32 x3) (hσ : CanS (shC b) (NC b) σ) (h : wp_X11_table x1 x2 x3 σ Q) : KtI Z l D cA ad (shC b) (NC b) yX11_table cX11_table 4 (some .int) 2 [.ref (ad 0), vI x1, vI x2, vI x3] σ Q :=
  KtI.of my_X11_table hA [some (.ref (ad 0)), some (vI x1), some (vI x2), some (vI x3)] (Nat.le_of_ble_eq_true rfl) rfl (fun p e s m args below meth c A0 E hr => t_X11_table E hr x1 x2 x3 σ c1 c2 c3 hσ h)
