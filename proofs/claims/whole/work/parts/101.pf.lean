theorem dX6_readPart_0 : Dc cX6_readPart 0 (.iconst 0) 1 1 := ⟨by decide +kernel, rfl⟩
theorem dX6_readPart_1 : Dc cX6_readPart 1 (.istore_n 2) 1 2 := ⟨by decide +kernel, rfl⟩
theorem dX6_readPart_2 : Dc cX6_readPart 2 (.aload_n 0) 1 3 := ⟨by decide +kernel, rfl⟩
theorem dX6_readPart_3 : Dc cX6_readPart 3 (.invokevirtual 120) 3 6 := ⟨by decide +kernel, rfl⟩
theorem djX6_readPart_6 : Dj cX6_readPart 6 (.ifCond .eq 19) 3 9 19 25 := ⟨by decide +kernel, rfl, by decide⟩
theorem dX6_readPart_9 : Dc cX6_readPart 9 (.aload_n 0) 1 10 := ⟨by decide +kernel, rfl⟩
theorem dX6_readPart_10 : Dc cX6_readPart 10 (.getfield 9) 3 13 := ⟨by decide +kernel, rfl⟩
theorem dX6_readPart_13 : Dc cX6_readPart 13 (.aload_n 0) 1 14 := ⟨by decide +kernel, rfl⟩
theorem dX6_readPart_14 : Dc cX6_readPart 14 (.getfield 137) 3 17 := ⟨by decide +kernel, rfl⟩
theorem dX6_readPart_17 : Dc cX6_readPart 17 (.iaload) 1 18 := ⟨by decide +kernel, rfl⟩
theorem dX6_readPart_18 : Dc cX6_readPart 18 (.bipush 65) 2 20 := ⟨by decide +kernel, rfl⟩
theorem dX6_readPart_20 : Dc cX6_readPart 20 (.isub) 1 21 := ⟨by decide +kernel, rfl⟩
theorem dX6_readPart_21 : Dc cX6_readPart 21 (.istore_n 2) 1 22 := ⟨by decide +kernel, rfl⟩
theorem djX6_readPart_22 : Dj cX6_readPart 22 (.goto 38) 3 25 38 60 := ⟨by decide +kernel, rfl, by decide⟩
theorem dX6_readPart_25 : Dc cX6_readPart 25 (.aload_n 0) 1 26 := ⟨by decide +kernel, rfl⟩
theorem dX6_readPart_26 : Dc cX6_readPart 26 (.invokevirtual 124) 3 29 := ⟨by decide +kernel, rfl⟩
theorem djX6_readPart_29 : Dj cX6_readPart 29 (.ifCond .eq 26) 3 32 26 55 := ⟨by decide +kernel, rfl, by decide⟩
theorem dX6_readPart_32 : Dc cX6_readPart 32 (.iload_n 1) 1 33 := ⟨by decide +kernel, rfl⟩
theorem djX6_readPart_33 : Dj cX6_readPart 33 (.ifCond .ne 22) 3 36 22 55 := ⟨by decide +kernel, rfl, by decide⟩
theorem dX6_readPart_36 : Dc cX6_readPart 36 (.bipush 100) 2 38 := ⟨by decide +kernel, rfl⟩
theorem dX6_readPart_38 : Dc cX6_readPart 38 (.aload_n 0) 1 39 := ⟨by decide +kernel, rfl⟩
theorem dX6_readPart_39 : Dc cX6_readPart 39 (.getfield 9) 3 42 := ⟨by decide +kernel, rfl⟩
theorem dX6_readPart_42 : Dc cX6_readPart 42 (.aload_n 0) 1 43 := ⟨by decide +kernel, rfl⟩
theorem dX6_readPart_43 : Dc cX6_readPart 43 (.getfield 137) 3 46 := ⟨by decide +kernel, rfl⟩
theorem dX6_readPart_46 : Dc cX6_readPart 46 (.iaload) 1 47 := ⟨by decide +kernel, rfl⟩
theorem dX6_readPart_47 : Dc cX6_readPart 47 (.iadd) 1 48 := ⟨by decide +kernel, rfl⟩
theorem dX6_readPart_48 : Dc cX6_readPart 48 (.bipush 97) 2 50 := ⟨by decide +kernel, rfl⟩
theorem dX6_readPart_50 : Dc cX6_readPart 50 (.isub) 1 51 := ⟨by decide +kernel, rfl⟩
theorem dX6_readPart_51 : Dc cX6_readPart 51 (.istore_n 2) 1 52 := ⟨by decide +kernel, rfl⟩
theorem djX6_readPart_52 : Dj cX6_readPart 52 (.goto 8) 3 55 8 60 := ⟨by decide +kernel, rfl, by decide⟩
theorem dX6_readPart_55 : Dc cX6_readPart 55 (.aload_n 0) 1 56 := ⟨by decide +kernel, rfl⟩
theorem dX6_readPart_56 : Dc cX6_readPart 56 (.iconst 1) 1 57 := ⟨by decide +kernel, rfl⟩
theorem dX6_readPart_57 : Dc cX6_readPart 57 (.invokevirtual 58) 3 60 := ⟨by decide +kernel, rfl⟩
theorem dX6_readPart_60 : Dc cX6_readPart 60 (.aload_n 0) 1 61 := ⟨by decide +kernel, rfl⟩
theorem dX6_readPart_61 : Dc cX6_readPart 61 (.invokevirtual 38) 3 64 := ⟨by decide +kernel, rfl⟩
theorem dX6_readPart_64 : Dc cX6_readPart 64 (.iload_n 2) 1 65 := ⟨by decide +kernel, rfl⟩
theorem dX6_readPart_65 : Dc cX6_readPart 65 (.ireturn) 1 66 := ⟨by decide +kernel, rfl⟩
section
variable {p : Program} {l : Launch} {e : Env} {s : State} {m : MethodId} {args : Array Value} {below : List Frame} {meth : Method} {c : Code} {A0 : Nat → Prop} {D : va_G} {cA : Nat → ClassId} {ad : Nat → Nat} {Z : (Nat → Nat) × (Nat → Nat)} {Q : Int → St → Prop} {b : Bool}
set_option maxHeartbeats 4000000 in
set_option maxRecDepth 100000 in
theorem t_X6_readPart_b60 (E : Ev p s m args meth c cX6_readPart 3 RX6 A0 D cA ad (NC b) Z) (hr : meth.sig.returnType = (some .int)) (x2 : Int) (σ : St) (c2 : C32 x2) (hσ : CanS (shC b) (NC b) σ) (h : wp_X6_readPart_b60 Q x2 σ) : G p l e (rmL 3 0 0) s m args below meth c 3 A0 D cA ad (shC b) (NC b) 0 0 (MQ below (QIc D cA ad (shC b) (NC b) Q A0) args s 0 0 A0) σ 60 [some (.ref (ad 3)), none, some (vI x2)] [] := by
  unfold wp_X6_readPart_b60 at h
  refine g_aload_0 E dX6_readPart_60 ?_
  refine g_callvV E my_X6_advance mi_X6_advance msel_X6_advance ml_RX6_38 (rm_ok (by decide) (by decide)) ⟨Nat.zero_le _, Nat.zero_le _⟩ (kC_3 b) (sC_3 b) rfl (m_X6_advance E.2.2.1 hσ h) rfl rfl (Nat.le_of_ble_eq_true rfl) dX6_readPart_61 (fun σ10 r9 hσ10 h => ?_)
  refine g_iload_2 E dX6_readPart_64 ?_
  exact g_iret E hr c2 h hσ10 dX6_readPart_65
set_option maxHeartbeats 4000000 in
set_option maxRecDepth 100000 in
theorem t_X6_readPart_b55 (E : Ev p s m args meth c cX6_readPart 3 RX6 A0 D cA ad (NC b) Z) (hr : meth.sig.returnType = (some .int)) (x2 : Int) (σ : St) (c2 : C32 x2) (hσ : CanS (shC b) (NC b) σ) (h : wp_X6_readPart_b55 Q x2 σ) : G p l e (rmL 3 0 0) s m args below meth c 3 A0 D cA ad (shC b) (NC b) 0 0 (MQ below (QIc D cA ad (shC b) (NC b) Q A0) args s 0 0 A0) σ 55 [some (.ref (ad 3)), none, some (vI x2)] [] := by
  unfold wp_X6_readPart_b55 at h
  refine g_aload_0 E dX6_readPart_55 ?_
  refine g_iconst E dX6_readPart_56 ?_
  refine g_callvV E my_X6_fail mi_X6_fail msel_X6_fail ml_RX6_58 (rm_ok (by decide) (by decide)) ⟨Nat.zero_le _, Nat.zero_le _⟩ (kC_3 b) (sC_3 b) rfl (m_X6_fail E.2.2.1 cl_1 hσ h) rfl rfl (Nat.le_of_ble_eq_true rfl) dX6_readPart_57 (fun σ8 r7 hσ8 h => ?_)
  exact (t_X6_readPart_b60 E hr x2 σ8 c2 hσ8 h).weak (w_k (w_d (w_k w_n)))
set_option maxHeartbeats 4000000 in
set_option maxRecDepth 100000 in
theorem t_X6_readPart (E : Ev p s m args meth c cX6_readPart 3 RX6 A0 D cA ad (NC b) Z) (hr : meth.sig.returnType = (some .int)) (x1 : Int) (σ : St) (c1 : C32 x1) (hσ : CanS (shC b) (NC b) σ) (h : wp_X6_readPart x1 σ Q) : G p l e (rmL 3 0 0) s m args below meth c 3 A0 D cA ad (shC b) (NC b) 0 0 (MQ below (QIc D cA ad (shC b) (NC b) Q A0) args s 0 0 A0) σ 0 [some (.ref (ad 3)), some (vI x1), none] [] := by
  unfold wp_X6_readPart at h
  refine g_iconst E dX6_readPart_0 ?_
  refine g_istore_2 E rfl (by decide) dX6_readPart_1 ?_
  refine g_aload_0 E dX6_readPart_2 ?_
  refine g_callvI E my_X6_isLabel mi_X6_isLabel msel_X6_isLabel ml_RX6_120 (rm_ok (by decide) (by decide)) ⟨Nat.zero_le _, Nat.zero_le _⟩ (kC_3 b) (sC_3 b) rfl (m_X6_isLabel E.2.2.1 hσ h) rfl rfl (Nat.le_of_ble_eq_true rfl) dX6_readPart_3 (fun r1 σ2 cr1 hσ2 h => ?_)
  refine g_if_eq E cr1 djX6_readPart_6 (fun hc => ?_) (fun hc => ?_)
  · replace h := h.1 hc
    refine g_aload_0 E dX6_readPart_25 ?_
    refine g_callvI E my_X6_isLetter mi_X6_isLetter msel_X6_isLetter ml_RX6_124 (rm_ok (by decide) (by decide)) ⟨Nat.zero_le _, Nat.zero_le _⟩ (kC_3 b) (sC_3 b) rfl (m_X6_isLetter E.2.2.1 hσ2 h) rfl rfl (Nat.le_of_ble_eq_true rfl) dX6_readPart_26 (fun r3 σ4 cr3 hσ4 h => ?_)
    refine g_if_eq E cr3 djX6_readPart_29 (fun hc => ?_) (fun hc => ?_)
    · replace h := h.1 hc
      exact (t_X6_readPart_b55 E hr 0 σ4 cl_0 hσ4 h).weak (w_k (w_d (w_k w_n)))
    · replace h := h.2 hc
      refine g_iload_1 E dX6_readPart_32 ?_
      refine g_if_ne E c1 djX6_readPart_33 (fun hc => ?_) (fun hc => ?_)
      · replace h := h.1 hc
        exact (t_X6_readPart_b55 E hr 0 σ4 cl_0 hσ4 h).weak (w_k (w_d (w_k w_n)))
      · replace h := h.2 hc
        refine g_bipush E (by decide) dX6_readPart_36 ?_
        refine g_aload_0 E dX6_readPart_38 ?_
        refine g_getR E fl_RX6_9 (kC_3 b) (sC_3 b) rfl dX6_readPart_39 ?_
        refine g_aload_0 E dX6_readPart_42 ?_
        refine g_getI E fl_RX6_137 (kC_3 b) (sC_3 b) rfl dX6_readPart_43 ?_
        refine g_iald E (kC_1 b) (sC_1 b) (by decide) h.1 dX6_readPart_46 ?_
        replace h := h.2
        refine g_iadd E dX6_readPart_47 ?_
        refine g_bipush E (by decide) dX6_readPart_48 ?_
        refine g_isub E dX6_readPart_50 ?_
        refine g_nmI (fun v5 ev5 => ?_)
        replace h := h v5 ev5
        have cv5 : C32 v5 := by rw [ev5]; exact (c32_w _)
        refine g_istore_2 E rfl (by decide) dX6_readPart_51 ?_
        refine g_goto E djX6_readPart_52 ?_
        exact (t_X6_readPart_b60 E hr v5 σ4 cv5 hσ4 h).weak (w_k (w_d (w_k w_n)))
  · replace h := h.2 hc
    refine g_aload_0 E dX6_readPart_9 ?_
    refine g_getR E fl_RX6_9 (kC_3 b) (sC_3 b) rfl dX6_readPart_10 ?_
    refine g_aload_0 E dX6_readPart_13 ?_
    refine g_getI E fl_RX6_137 (kC_3 b) (sC_3 b) rfl dX6_readPart_14 ?_
    refine g_iald E (kC_1 b) (sC_1 b) (by decide) h.1 dX6_readPart_17 ?_
    replace h := h.2
    refine g_bipush E (by decide) dX6_readPart_18 ?_
    refine g_isub E dX6_readPart_20 ?_
    refine g_nmI (fun v6 ev6 => ?_)
    replace h := h v6 ev6
    have cv6 : C32 v6 := by rw [ev6]; exact (c32_w _)
    refine g_istore_2 E rfl (by decide) dX6_readPart_21 ?_
    refine g_goto E djX6_readPart_22 ?_
    exact (t_X6_readPart_b60 E hr v6 σ2 cv6 hσ2 h).weak (w_k (w_d (w_k w_n)))
end
theorem m_X6_readPart {Z : (Nat → Nat) × (Nat → Nat)} {l : Launch} {D : va_G} {cA : Nat → ClassId} {ad : Nat → Nat} {b : Bool} {x1 : Int} {σ : St} {Q : Int → St → Prop} (hA : AdOk (NC b) ad) (c1 : C32 x1) (hσ : CanS (shC b) (NC b) σ) (h : wp_X6_readPart x1 σ Q) : KtI Z l D cA ad (shC b) (NC b) yX6_readPart cX6_readPart 3 (some .int) 3 [.ref (ad 3), vI x1] σ Q :=
  KtI.of my_X6_readPart hA [some (.ref (ad 3)), some (vI x1), none] (Nat.le_of_ble_eq_true rfl) rfl (fun p e s m args below meth c A0 E hr => t_X6_readPart E hr x1 σ c1 hσ h)
theorem dX6_passSign_0 : Dc cX6_passSign 0 (.aload_n 0) 1 1 := ⟨by decide +kernel, rfl⟩
theorem dX6_passSign_1 : Dc cX6_passSign 1 (.getfield 41) 3 4 := ⟨by decide +kernel, rfl⟩
theorem dX6_passSign_4 : Dc cX6_passSign 4 (.iconst 3) 1 5 := ⟨by decide +kernel, rfl⟩
theorem djX6_passSign_5 : Dj cX6_passSign 5 (.if_icmp .ne 16) 3 8 16 21 := ⟨by decide +kernel, rfl, by decide⟩
theorem dX6_passSign_8 : Dc cX6_passSign 8 (.aload_n 0) 1 9 := ⟨by decide +kernel, rfl⟩
theorem dX6_passSign_9 : Dc cX6_passSign 9 (.getfield 9) 3 12 := ⟨by decide +kernel, rfl⟩
theorem dX6_passSign_12 : Dc cX6_passSign 12 (.aload_n 0) 1 13 := ⟨by decide +kernel, rfl⟩
theorem dX6_passSign_13 : Dc cX6_passSign 13 (.getfield 137) 3 16 := ⟨by decide +kernel, rfl⟩
theorem dX6_passSign_16 : Dc cX6_passSign 16 (.iaload) 1 17 := ⟨by decide +kernel, rfl⟩
theorem dX6_passSign_17 : Dc cX6_passSign 17 (.iload_n 1) 1 18 := ⟨by decide +kernel, rfl⟩
theorem djX6_passSign_18 : Dj cX6_passSign 18 (.if_icmp .eq 8) 3 21 8 26 := ⟨by decide +kernel, rfl, by decide⟩
theorem dX6_passSign_21 : Dc cX6_passSign 21 (.aload_n 0) 1 22 := ⟨by decide +kernel, rfl⟩
theorem dX6_passSign_22 : Dc cX6_passSign 22 (.iconst 1) 1 23 := ⟨by decide +kernel, rfl⟩
theorem dX6_passSign_23 : Dc cX6_passSign 23 (.invokevirtual 58) 3 26 := ⟨by decide +kernel, rfl⟩
theorem dX6_passSign_26 : Dc cX6_passSign 26 (.aload_n 0) 1 27 := ⟨by decide +kernel, rfl⟩
theorem dX6_passSign_27 : Dc cX6_passSign 27 (.invokevirtual 38) 3 30 := ⟨by decide +kernel, rfl⟩
theorem dX6_passSign_30 : Dc cX6_passSign 30 (.return_) 1 31 := ⟨by decide +kernel, rfl⟩
section
variable {p : Program} {l : Launch} {e : Env} {s : State} {m : MethodId} {args : Array Value} {below : List Frame} {meth : Method} {c : Code} {A0 : Nat → Prop} {D : va_G} {cA : Nat → ClassId} {ad : Nat → Nat} {Z : (Nat → Nat) × (Nat → Nat)} {Q : Int → St → Prop} {b : Bool}
set_option maxHeartbeats 4000000 in
set_option maxRecDepth 100000 in
theorem t_X6_passSign_b21 (E : Ev p s m args meth c cX6_passSign 2 RX6 A0 D cA ad (NC b) Z) (hr : meth.sig.returnType = none) (σ : St) (hσ : CanS (shC b) (NC b) σ) (h : wp_X6_passSign_b21 Q  σ) : G p l e (rmL 3 0 0) s m args below meth c 2 A0 D cA ad (shC b) (NC b) 0 0 (MQ below (QVc D cA ad (shC b) (NC b) Q A0) args s 0 0 A0) σ 21 [some (.ref (ad 3)), none] [] := by
  unfold wp_X6_passSign_b21 at h
  refine g_aload_0 E dX6_passSign_21 ?_
  refine g_iconst E dX6_passSign_22 ?_
  refine g_callvV E my_X6_fail mi_X6_fail msel_X6_fail ml_RX6_58 (rm_ok (by decide) (by decide)) ⟨Nat.zero_le _, Nat.zero_le _⟩ (kC_3 b) (sC_3 b) rfl (m_X6_fail E.2.2.1 cl_1 hσ h) rfl rfl (Nat.le_of_ble_eq_true rfl) dX6_passSign_23 (fun σ4 r3 hσ4 h => ?_)
  refine g_aload_0 E dX6_passSign_26 ?_
  refine g_callvV E my_X6_advance mi_X6_advance msel_X6_advance ml_RX6_38 (rm_ok (by decide) (by decide)) ⟨Nat.zero_le _, Nat.zero_le _⟩ (kC_3 b) (sC_3 b) rfl (m_X6_advance E.2.2.1 hσ4 h) rfl rfl (Nat.le_of_ble_eq_true rfl) dX6_passSign_27 (fun σ6 r5 hσ6 h => ?_)
  exact g_vret E hr h hσ6 dX6_passSign_30
set_option maxHeartbeats 4000000 in
set_option maxRecDepth 100000 in
theorem t_X6_passSign (E : Ev p s m args meth c cX6_passSign 2 RX6 A0 D cA ad (NC b) Z) (hr : meth.sig.returnType = none) (x1 : Int) (σ : St) (c1 : C32 x1) (hσ : CanS (shC b) (NC b) σ) (h : wp_X6_passSign x1 σ Q) : G p l e (rmL 3 0 0) s m args below meth c 2 A0 D cA ad (shC b) (NC b) 0 0 (MQ below (QVc D cA ad (shC b) (NC b) Q A0) args s 0 0 A0) σ 0 [some (.ref (ad 3)), some (vI x1)] [] := by
  unfold wp_X6_passSign at h
  refine g_aload_0 E dX6_passSign_0 ?_
  refine g_getI E fl_RX6_41 (kC_3 b) (sC_3 b) rfl dX6_passSign_1 ?_
  refine g_iconst E dX6_passSign_4 ?_
  refine g_icmp_ne E (fC_3_5 hσ) cl_3 djX6_passSign_5 (fun hc => ?_) (fun hc => ?_)
  · replace h := h.1 hc
    exact (t_X6_passSign_b21 E hr σ hσ h).weak (w_k (w_d w_n))
  · replace h := h.2 hc
    refine g_aload_0 E dX6_passSign_8 ?_
    refine g_getR E fl_RX6_9 (kC_3 b) (sC_3 b) rfl dX6_passSign_9 ?_
    refine g_aload_0 E dX6_passSign_12 ?_
    refine g_getI E fl_RX6_137 (kC_3 b) (sC_3 b) rfl dX6_passSign_13 ?_
    refine g_iald E (kC_1 b) (sC_1 b) (by decide) h.1 dX6_passSign_16 ?_
    replace h := h.2
    refine g_iload_1 E dX6_passSign_17 ?_
    refine g_icmp_eq E (aC_1 hσ _) c1 djX6_passSign_18 (fun hc => ?_) (fun hc => ?_)
    · replace h := h.1 hc
      refine g_aload_0 E dX6_passSign_26 ?_
      refine g_callvV E my_X6_advance mi_X6_advance msel_X6_advance ml_RX6_38 (rm_ok (by decide) (by decide)) ⟨Nat.zero_le _, Nat.zero_le _⟩ (kC_3 b) (sC_3 b) rfl (m_X6_advance E.2.2.1 hσ h) rfl rfl (Nat.le_of_ble_eq_true rfl) dX6_passSign_27 (fun σ2 r1 hσ2 h => ?_)
      exact g_vret E hr h hσ2 dX6_passSign_30
    · replace h := h.2 hc
      exact (t_X6_passSign_b21 E hr σ hσ h).weak (w_k (w_d w_n))
end
theorem m_X6_passSign {Z : (Nat → Nat) × (Nat → Nat)} {l : Launch} {D : va_G} {cA : Nat → ClassId} {ad : Nat → Nat} {b : Bool} {x1 : Int} {σ : St} {Q : Int → St → Prop} (hA : AdOk (NC b) ad) (c1 : C32 x1) (hσ : CanS (shC b) (NC b) σ) (h : wp_X6_passSign x1 σ Q) : KtV Z l D cA ad (shC b) (NC b) yX6_passSign cX6_passSign 2 none 3 [.ref (ad 3), vI x1] σ Q :=
  KtV.of my_X6_passSign hA [some (.ref (ad 3)), some (vI x1)] (Nat.le_of_ble_eq_true rfl) rfl (fun p e s m args below meth c A0 E hr => t_X6_passSign E hr x1 σ c1 hσ h)
section
variable {p : Program} {l : Launch} {e : Env} {s : State} {m : MethodId} {args : Array Value} {below : List Frame} {meth : Method} {c : Code} {A0 : Nat → Prop} {D : va_G} {cA : Nat → ClassId} {ad : Nat → Nat} {Z : (Nat → Nat) × (Nat → Nat)} {Q : Int → St → Prop} {b : Bool}
set_option maxHeartbeats 4000000 in
set_option maxRecDepth 100000 in
theorem t_X6_isWord_s1_l28 (E : Ev p s m args meth c cX6_isWord 3 RX6 A0 D cA ad (NC b) Z) (hr : meth.sig.returnType = (some .boolean)) : ∀ (n : Nat) (x2 : Int) (σ : St), C32 x2 → CanS (shC b) (NC b) σ → wp_X6_isWord_s1_l28 Q n x2 σ → G p l e (rmL 6 0 0) s m args below meth c 3 A0 D cA ad (shC b) (NC b) 0 0 (MQ below (QIc D cA ad (shC b) (NC b) Q A0) args s 0 0 A0) σ 28 [some (.ref (ad 3)), some (.ref (Z.1 1)), some (vI x2)] [] := by
  intro n
  induction n with
  | zero => intro _ _ _ _ h; exact h.elim
  | succ n ih =>
    intro x2 σ c2 hσ h
    unfold wp_X6_isWord_s1_l28 at h
    refine g_iload_2 E dX6_isWord_28 ?_
    refine g_aload_1 E dX6_isWord_29 ?_
    refine g_slen E ml_RX6_143 (i := 1) (by decide) hσ (n := 4) rfl (Nat.le_of_ble_eq_true rfl) (rm_s 6 (by decide)) ⟨Nat.zero_le _, Nat.zero_le _⟩ dX6_isWord_30 ?_
    refine g_icmp_ge E c2 cl_4 djX6_isWord_33 (fun hc => ?_) (fun hc => ?_)
    · replace h := h.1 hc
      refine g_iconst E dX6_isWord_63 ?_
      exact g_zret E hr (Or.inr rfl) h hσ dX6_isWord_64
    · replace h := h.2 hc
      refine g_aload_0 E dX6_isWord_36 ?_
      refine g_getR E fl_RX6_9 (kC_3 b) (sC_3 b) rfl dX6_isWord_37 ?_
      refine g_aload_0 E dX6_isWord_40 ?_
      refine g_getI E fl_RX6_137 (kC_3 b) (sC_3 b) rfl dX6_isWord_41 ?_
      refine g_iload_2 E dX6_isWord_44 ?_
      refine g_iadd E dX6_isWord_45 ?_
      refine g_iald E (kC_1 b) (sC_1 b) (by decide) h.1 dX6_isWord_46 ?_
      replace h := h.2
      refine g_aload_1 E dX6_isWord_47 ?_
      refine g_iload_2 E dX6_isWord_48 ?_
      refine g_schar E ml_RX6_148 (i := 1) (by decide) hσ (n := 4) rfl h.1 (Nat.le_of_ble_eq_true rfl) (rm_s 6 (by decide)) ⟨Nat.zero_le _, Nat.zero_le _⟩ dX6_isWord_49 ?_
      replace h := h.2
      refine g_icmp_eq E (aC_1 hσ _) (c32_str 1 (by decide) _) djX6_isWord_52 (fun hc => ?_) (fun hc => ?_)
      · replace h := h.1 hc
        refine g_iinc_2 E rfl (by decide) dX6_isWord_57 (fun v1 ev1 => ?_)
        replace h := h v1 ev1
        have cv1 : C32 v1 := by rw [ev1]; exact c32_w _
        refine g_goto E djX6_isWord_60 ?_
        exact (ih v1 σ cv1 hσ h).weak (w_k (w_k (w_k w_n)))
      · replace h := h.2 hc
        refine g_iconst E dX6_isWord_55 ?_
        exact g_zret E hr (Or.inl rfl) h hσ dX6_isWord_56
set_option maxHeartbeats 4000000 in
set_option maxRecDepth 100000 in
theorem t_X6_isWord_s1 (E : Ev p s m args meth c cX6_isWord 3 RX6 A0 D cA ad (NC b) Z) (hr : meth.sig.returnType = (some .boolean)) (σ : St) (hσ : CanS (shC b) (NC b) σ) (h : wp_X6_isWord_s1  σ Q) : G p l e (rmL 6 0 0) s m args below meth c 3 A0 D cA ad (shC b) (NC b) 0 0 (MQ below (QIc D cA ad (shC b) (NC b) Q A0) args s 0 0 A0) σ 0 [some (.ref (ad 3)), some (.ref (Z.1 1)), none] [] := by
  unfold wp_X6_isWord_s1 at h
  refine g_aload_0 E dX6_isWord_0 ?_
  refine g_getI E fl_RX6_41 (kC_3 b) (sC_3 b) rfl dX6_isWord_1 ?_
  refine g_iconst E dX6_isWord_4 ?_
  refine g_icmp_ne E (fC_3_5 hσ) cl_1 djX6_isWord_5 (fun hc => ?_) (fun hc => ?_)
  · replace h := h.1 hc
    refine g_iconst E dX6_isWord_24 ?_
    exact g_zret E hr (Or.inl rfl) h hσ dX6_isWord_25
  · replace h := h.2 hc
    refine g_aload_0 E dX6_isWord_8 ?_
    refine g_getI E fl_RX6_32 (kC_3 b) (sC_3 b) rfl dX6_isWord_9 ?_
    refine g_aload_0 E dX6_isWord_12 ?_
    refine g_getI E fl_RX6_137 (kC_3 b) (sC_3 b) rfl dX6_isWord_13 ?_
    refine g_isub E dX6_isWord_16 ?_
    refine g_aload_1 E dX6_isWord_17 ?_
    refine g_slen E ml_RX6_143 (i := 1) (by decide) hσ (n := 4) rfl (Nat.le_of_ble_eq_true rfl) (rm_s 6 (by decide)) ⟨Nat.zero_le _, Nat.zero_le _⟩ dX6_isWord_18 ?_
    refine g_icmp_eq E (c32_w _) cl_4 djX6_isWord_21 (fun hc => ?_) (fun hc => ?_)
    · replace h := h.1 hc
      refine g_iconst E dX6_isWord_26 ?_
      refine g_istore_2 E rfl (by decide) dX6_isWord_27 ?_
      exact (t_X6_isWord_s1_l28 E hr bigN 0 σ cl_0 hσ h).weak (w_k (w_k (w_k w_n)))
    · replace h := h.2 hc
      refine g_iconst E dX6_isWord_24 ?_
      exact g_zret E hr (Or.inl rfl) h hσ dX6_isWord_25
end
theorem m_X6_isWord_s1 {Z : (Nat → Nat) × (Nat → Nat)} {l : Launch} {D : va_G} {cA : Nat → ClassId} {ad : Nat → Nat} {b : Bool} {σ : St} {Q : Int → St → Prop} (hA : AdOk (NC b) ad) (hσ : CanS (shC b) (NC b) σ) (h : wp_X6_isWord_s1  σ Q) : KtI Z l D cA ad (shC b) (NC b) yX6_isWord cX6_isWord 3 (some .boolean) 6 [.ref (ad 3), .ref (Z.1 1)] σ Q :=
  KtI.of my_X6_isWord hA [some (.ref (ad 3)), some (.ref (Z.1 1)), none] (Nat.le_of_ble_eq_true rfl) rfl (fun p e s m args below meth c A0 E hr => t_X6_isWord_s1 E hr σ hσ h)
section
variable {p : Program} {l : Launch} {e : Env} {s : State} {m : MethodId} {args : Array Value} {below : List Frame} {meth : Method} {c : Code} {A0 : Nat → Prop} {D : va_G} {cA : Nat → ClassId} {ad : Nat → Nat} {Z : (Nat → Nat) × (Nat → Nat)} {Q : Int → St → Prop} {b : Bool}
set_option maxHeartbeats 4000000 in
set_option maxRecDepth 100000 in
theorem t_X6_isWord_s2_l28 (E : Ev p s m args meth c cX6_isWord 3 RX6 A0 D cA ad (NC b) Z) (hr : meth.sig.returnType = (some .boolean)) : ∀ (n : Nat) (x2 : Int) (σ : St), C32 x2 → CanS (shC b) (NC b) σ → wp_X6_isWord_s2_l28 Q n x2 σ → G p l e (rmL 6 0 0) s m args below meth c 3 A0 D cA ad (shC b) (NC b) 0 0 (MQ below (QIc D cA ad (shC b) (NC b) Q A0) args s 0 0 A0) σ 28 [some (.ref (ad 3)), some (.ref (Z.1 2)), some (vI x2)] [] := by
  intro n
  induction n with
  | zero => intro _ _ _ _ h; exact h.elim
  | succ n ih =>
    intro x2 σ c2 hσ h
    unfold wp_X6_isWord_s2_l28 at h
    refine g_iload_2 E dX6_isWord_28 ?_
    refine g_aload_1 E dX6_isWord_29 ?_
    refine g_slen E ml_RX6_143 (i := 2) (by decide) hσ (n := 2) rfl (Nat.le_of_ble_eq_true rfl) (rm_s 6 (by decide)) ⟨Nat.zero_le _, Nat.zero_le _⟩ dX6_isWord_30 ?_
    refine g_icmp_ge E c2 cl_2 djX6_isWord_33 (fun hc => ?_) (fun hc => ?_)
    · replace h := h.1 hc
      refine g_iconst E dX6_isWord_63 ?_
      exact g_zret E hr (Or.inr rfl) h hσ dX6_isWord_64
    · replace h := h.2 hc
      refine g_aload_0 E dX6_isWord_36 ?_
      refine g_getR E fl_RX6_9 (kC_3 b) (sC_3 b) rfl dX6_isWord_37 ?_
      refine g_aload_0 E dX6_isWord_40 ?_
      refine g_getI E fl_RX6_137 (kC_3 b) (sC_3 b) rfl dX6_isWord_41 ?_
      refine g_iload_2 E dX6_isWord_44 ?_
      refine g_iadd E dX6_isWord_45 ?_
      refine g_iald E (kC_1 b) (sC_1 b) (by decide) h.1 dX6_isWord_46 ?_
      replace h := h.2
      refine g_aload_1 E dX6_isWord_47 ?_
      refine g_iload_2 E dX6_isWord_48 ?_
      refine g_schar E ml_RX6_148 (i := 2) (by decide) hσ (n := 2) rfl h.1 (Nat.le_of_ble_eq_true rfl) (rm_s 6 (by decide)) ⟨Nat.zero_le _, Nat.zero_le _⟩ dX6_isWord_49 ?_
      replace h := h.2
      refine g_icmp_eq E (aC_1 hσ _) (c32_str 2 (by decide) _) djX6_isWord_52 (fun hc => ?_) (fun hc => ?_)
      · replace h := h.1 hc
        refine g_iinc_2 E rfl (by decide) dX6_isWord_57 (fun v1 ev1 => ?_)
        replace h := h v1 ev1
        have cv1 : C32 v1 := by rw [ev1]; exact c32_w _
        refine g_goto E djX6_isWord_60 ?_
        exact (ih v1 σ cv1 hσ h).weak (w_k (w_k (w_k w_n)))
      · replace h := h.2 hc
        refine g_iconst E dX6_isWord_55 ?_
        exact g_zret E hr (Or.inl rfl) h hσ dX6_isWord_56
set_option maxHeartbeats 4000000 in
set_option maxRecDepth 100000 in
theorem t_X6_isWord_s2 (E : Ev p s m args meth c cX6_isWord 3 RX6 A0 D cA ad (NC b) Z) (hr : meth.sig.returnType = (some .boolean)) (σ : St) (hσ : CanS (shC b) (NC b) σ) (h : wp_X6_isWord_s2  σ Q) : G p l e (rmL 6 0 0) s m args below meth c 3 A0 D cA ad (shC b) (NC b) 0 0 (MQ below (QIc D cA ad (shC b) (NC b) Q A0) args s 0 0 A0) σ 0 [some (.ref (ad 3)), some (.ref (Z.1 2)), none] [] := by
  unfold wp_X6_isWord_s2 at h
  refine g_aload_0 E dX6_isWord_0 ?_
  refine g_getI E fl_RX6_41 (kC_3 b) (sC_3 b) rfl dX6_isWord_1 ?_
  refine g_iconst E dX6_isWord_4 ?_
  refine g_icmp_ne E (fC_3_5 hσ) cl_1 djX6_isWord_5 (fun hc => ?_) (fun hc => ?_)
  · replace h := h.1 hc
    refine g_iconst E dX6_isWord_24 ?_
    exact g_zret E hr (Or.inl rfl) h hσ dX6_isWord_25
  · replace h := h.2 hc
    refine g_aload_0 E dX6_isWord_8 ?_
    refine g_getI E fl_RX6_32 (kC_3 b) (sC_3 b) rfl dX6_isWord_9 ?_
    refine g_aload_0 E dX6_isWord_12 ?_
    refine g_getI E fl_RX6_137 (kC_3 b) (sC_3 b) rfl dX6_isWord_13 ?_
    refine g_isub E dX6_isWord_16 ?_
    refine g_aload_1 E dX6_isWord_17 ?_
    refine g_slen E ml_RX6_143 (i := 2) (by decide) hσ (n := 2) rfl (Nat.le_of_ble_eq_true rfl) (rm_s 6 (by decide)) ⟨Nat.zero_le _, Nat.zero_le _⟩ dX6_isWord_18 ?_
    refine g_icmp_eq E (c32_w _) cl_2 djX6_isWord_21 (fun hc => ?_) (fun hc => ?_)
    · replace h := h.1 hc
      refine g_iconst E dX6_isWord_26 ?_
      refine g_istore_2 E rfl (by decide) dX6_isWord_27 ?_
      exact (t_X6_isWord_s2_l28 E hr bigN 0 σ cl_0 hσ h).weak (w_k (w_k (w_k w_n)))
    · replace h := h.2 hc
      refine g_iconst E dX6_isWord_24 ?_
      exact g_zret E hr (Or.inl rfl) h hσ dX6_isWord_25
end
theorem m_X6_isWord_s2 {Z : (Nat → Nat) × (Nat → Nat)} {l : Launch} {D : va_G} {cA : Nat → ClassId} {ad : Nat → Nat} {b : Bool} {σ : St} {Q : Int → St → Prop} (hA : AdOk (NC b) ad) (hσ : CanS (shC b) (NC b) σ) (h : wp_X6_isWord_s2  σ Q) : KtI Z l D cA ad (shC b) (NC b) yX6_isWord cX6_isWord 3 (some .boolean) 6 [.ref (ad 3), .ref (Z.1 2)] σ Q :=
  KtI.of my_X6_isWord hA [some (.ref (ad 3)), some (.ref (Z.1 2)), none] (Nat.le_of_ble_eq_true rfl) rfl (fun p e s m args below meth c A0 E hr => t_X6_isWord_s2 E hr σ hσ h)
theorem dX6_readRule_0 : Dc cX6_readRule 0 (.aload_n 0) 1 1 := ⟨by decide +kernel, rfl⟩
theorem dX6_readRule_1 : Dc cX6_readRule 1 (.getfield 18) 3 4 := ⟨by decide +kernel, rfl⟩
theorem dX6_readRule_4 : Dc cX6_readRule 4 (.getfield 104) 3 7 := ⟨by decide +kernel, rfl⟩
theorem dX6_readRule_7 : Dc cX6_readRule 7 (.istore_n 1) 1 8 := ⟨by decide +kernel, rfl⟩
theorem dX6_readRule_8 : Dc cX6_readRule 8 (.iload_n 1) 1 9 := ⟨by decide +kernel, rfl⟩
theorem dX6_readRule_9 : Dc cX6_readRule 9 (.bipush 40) 2 11 := ⟨by decide +kernel, rfl⟩
theorem djX6_readRule_11 : Dj cX6_readRule 11 (.if_icmp .lt 9) 3 14 9 20 := ⟨by decide +kernel, rfl, by decide⟩
theorem dX6_readRule_14 : Dc cX6_readRule 14 (.aload_n 0) 1 15 := ⟨by decide +kernel, rfl⟩
theorem dX6_readRule_15 : Dc cX6_readRule 15 (.iconst 3) 1 16 := ⟨by decide +kernel, rfl⟩
theorem dX6_readRule_16 : Dc cX6_readRule 16 (.invokevirtual 58) 3 19 := ⟨by decide +kernel, rfl⟩
theorem dX6_readRule_19 : Dc cX6_readRule 19 (.return_) 1 20 := ⟨by decide +kernel, rfl⟩
theorem dX6_readRule_20 : Dc cX6_readRule 20 (.aload_n 0) 1 21 := ⟨by decide +kernel, rfl⟩
theorem dX6_readRule_21 : Dc cX6_readRule 21 (.invokevirtual 38) 3 24 := ⟨by decide +kernel, rfl⟩
theorem dX6_readRule_24 : Dc cX6_readRule 24 (.aload_n 0) 1 25 := ⟨by decide +kernel, rfl⟩
theorem dX6_readRule_25 : Dc cX6_readRule 25 (.getfield 18) 3 28 := ⟨by decide +kernel, rfl⟩
theorem dX6_readRule_28 : Dc cX6_readRule 28 (.getfield 107) 3 31 := ⟨by decide +kernel, rfl⟩
theorem dX6_readRule_31 : Dc cX6_readRule 31 (.iload_n 1) 1 32 := ⟨by decide +kernel, rfl⟩
theorem dX6_readRule_32 : Dc cX6_readRule 32 (.aload_n 0) 1 33 := ⟨by decide +kernel, rfl⟩
theorem dX6_readRule_33 : Dc cX6_readRule 33 (.iconst 1) 1 34 := ⟨by decide +kernel, rfl⟩
theorem dX6_readRule_34 : Dc cX6_readRule 34 (.invokevirtual 110) 3 37 := ⟨by decide +kernel, rfl⟩
theorem dX6_readRule_37 : Dc cX6_readRule 37 (.iastore) 1 38 := ⟨by decide +kernel, rfl⟩
theorem dX6_readRule_38 : Dc cX6_readRule 38 (.aload_n 0) 1 39 := ⟨by decide +kernel, rfl⟩
theorem dX6_readRule_39 : Dc cX6_readRule 39 (.bipush 61) 2 41 := ⟨by decide +kernel, rfl⟩
theorem dX6_readRule_41 : Dc cX6_readRule 41 (.invokevirtual 62) 3 44 := ⟨by decide +kernel, rfl⟩
theorem dX6_readRule_44 : Dc cX6_readRule 44 (.aload_n 0) 1 45 := ⟨by decide +kernel, rfl⟩
theorem dX6_readRule_45 : Dc cX6_readRule 45 (.getfield 18) 3 48 := ⟨by decide +kernel, rfl⟩
theorem dX6_readRule_48 : Dc cX6_readRule 48 (.getfield 114) 3 51 := ⟨by decide +kernel, rfl⟩
theorem dX6_readRule_51 : Dc cX6_readRule 51 (.iload_n 1) 1 52 := ⟨by decide +kernel, rfl⟩
theorem dX6_readRule_52 : Dc cX6_readRule 52 (.aload_n 0) 1 53 := ⟨by decide +kernel, rfl⟩
theorem dX6_readRule_53 : Dc cX6_readRule 53 (.iconst 0) 1 54 := ⟨by decide +kernel, rfl⟩
theorem dX6_readRule_54 : Dc cX6_readRule 54 (.invokevirtual 110) 3 57 := ⟨by decide +kernel, rfl⟩
theorem dX6_readRule_57 : Dc cX6_readRule 57 (.iastore) 1 58 := ⟨by decide +kernel, rfl⟩
theorem dX6_readRule_58 : Dc cX6_readRule 58 (.aload_n 0) 1 59 := ⟨by decide +kernel, rfl⟩
theorem dX6_readRule_59 : Dc cX6_readRule 59 (.getfield 18) 3 62 := ⟨by decide +kernel, rfl⟩
theorem dX6_readRule_62 : Dc cX6_readRule 62 (.getfield 117) 3 65 := ⟨by decide +kernel, rfl⟩
theorem dX6_readRule_65 : Dc cX6_readRule 65 (.iload_n 1) 1 66 := ⟨by decide +kernel, rfl⟩
theorem dX6_readRule_66 : Dc cX6_readRule 66 (.aload_n 0) 1 67 := ⟨by decide +kernel, rfl⟩
theorem dX6_readRule_67 : Dc cX6_readRule 67 (.invokevirtual 120) 3 70 := ⟨by decide +kernel, rfl⟩
theorem djX6_readRule_70 : Dj cX6_readRule 70 (.ifCond .ne 10) 3 73 10 80 := ⟨by decide +kernel, rfl, by decide⟩
theorem dX6_readRule_73 : Dc cX6_readRule 73 (.aload_n 0) 1 74 := ⟨by decide +kernel, rfl⟩
theorem dX6_readRule_74 : Dc cX6_readRule 74 (.invokevirtual 124) 3 77 := ⟨by decide +kernel, rfl⟩
theorem djX6_readRule_77 : Dj cX6_readRule 77 (.ifCond .eq 11) 3 80 11 88 := ⟨by decide +kernel, rfl, by decide⟩
theorem dX6_readRule_80 : Dc cX6_readRule 80 (.aload_n 0) 1 81 := ⟨by decide +kernel, rfl⟩
theorem dX6_readRule_81 : Dc cX6_readRule 81 (.iconst 0) 1 82 := ⟨by decide +kernel, rfl⟩
theorem dX6_readRule_82 : Dc cX6_readRule 82 (.invokevirtual 110) 3 85 := ⟨by decide +kernel, rfl⟩
theorem djX6_readRule_85 : Dj cX6_readRule 85 (.goto 4) 3 88 4 89 := ⟨by decide +kernel, rfl, by decide⟩
theorem dX6_readRule_88 : Dc cX6_readRule 88 (.iconst (-1)) 1 89 := ⟨by decide +kernel, rfl⟩
theorem dX6_readRule_89 : Dc cX6_readRule 89 (.iastore) 1 90 := ⟨by decide +kernel, rfl⟩
theorem dX6_readRule_90 : Dc cX6_readRule 90 (.aload_n 0) 1 91 := ⟨by decide +kernel, rfl⟩
theorem dX6_readRule_91 : Dc cX6_readRule 91 (.getfield 18) 3 94 := ⟨by decide +kernel, rfl⟩
theorem dX6_readRule_94 : Dc cX6_readRule 94 (.getfield 127) 3 97 := ⟨by decide +kernel, rfl⟩
theorem dX6_readRule_97 : Dc cX6_readRule 97 (.iload_n 1) 1 98 := ⟨by decide +kernel, rfl⟩
theorem dX6_readRule_98 : Dc cX6_readRule 98 (.iconst 1) 1 99 := ⟨by decide +kernel, rfl⟩
theorem dX6_readRule_99 : Dc cX6_readRule 99 (.iastore) 1 100 := ⟨by decide +kernel, rfl⟩
theorem dX6_readRule_100 : Dc cX6_readRule 100 (.aload_n 0) 1 101 := ⟨by decide +kernel, rfl⟩
theorem dX6_readRule_101 : Dc cX6_readRule 101 (.ldc 130) 2 103 := ⟨by decide +kernel, rfl⟩
theorem dX6_readRule_103 : Dc cX6_readRule 103 (.invokevirtual 46) 3 106 := ⟨by decide +kernel, rfl⟩
theorem djX6_readRule_106 : Dj cX6_readRule 106 (.ifCond .eq 23) 3 109 23 129 := ⟨by decide +kernel, rfl, by decide⟩
theorem dX6_readRule_109 : Dc cX6_readRule 109 (.aload_n 0) 1 110 := ⟨by decide +kernel, rfl⟩
theorem dX6_readRule_110 : Dc cX6_readRule 110 (.invokevirtual 38) 3 113 := ⟨by decide +kernel, rfl⟩
theorem dX6_readRule_113 : Dc cX6_readRule 113 (.aload_n 0) 1 114 := ⟨by decide +kernel, rfl⟩
theorem dX6_readRule_114 : Dc cX6_readRule 114 (.getfield 18) 3 117 := ⟨by decide +kernel, rfl⟩
theorem dX6_readRule_117 : Dc cX6_readRule 117 (.getfield 127) 3 120 := ⟨by decide +kernel, rfl⟩
theorem dX6_readRule_120 : Dc cX6_readRule 120 (.iload_n 1) 1 121 := ⟨by decide +kernel, rfl⟩
theorem dX6_readRule_121 : Dc cX6_readRule 121 (.aload_n 0) 1 122 := ⟨by decide +kernel, rfl⟩
theorem dX6_readRule_122 : Dc cX6_readRule 122 (.iconst 1) 1 123 := ⟨by decide +kernel, rfl⟩
theorem dX6_readRule_123 : Dc cX6_readRule 123 (.bipush 99) 2 125 := ⟨by decide +kernel, rfl⟩
theorem dX6_readRule_125 : Dc cX6_readRule 125 (.invokevirtual 66) 3 128 := ⟨by decide +kernel, rfl⟩
theorem dX6_readRule_128 : Dc cX6_readRule 128 (.iastore) 1 129 := ⟨by decide +kernel, rfl⟩
theorem dX6_readRule_129 : Dc cX6_readRule 129 (.aload_n 0) 1 130 := ⟨by decide +kernel, rfl⟩
theorem dX6_readRule_130 : Dc cX6_readRule 130 (.getfield 18) 3 133 := ⟨by decide +kernel, rfl⟩
theorem dX6_readRule_133 : Dc cX6_readRule 133 (.getfield 132) 3 136 := ⟨by decide +kernel, rfl⟩
theorem dX6_readRule_136 : Dc cX6_readRule 136 (.iload_n 1) 1 137 := ⟨by decide +kernel, rfl⟩
theorem dX6_readRule_137 : Dc cX6_readRule 137 (.aload_n 0) 1 138 := ⟨by decide +kernel, rfl⟩
theorem dX6_readRule_138 : Dc cX6_readRule 138 (.getfield 18) 3 141 := ⟨by decide +kernel, rfl⟩
theorem dX6_readRule_141 : Dc cX6_readRule 141 (.getfield 83) 3 144 := ⟨by decide +kernel, rfl⟩
theorem dX6_readRule_144 : Dc cX6_readRule 144 (.iastore) 1 145 := ⟨by decide +kernel, rfl⟩
theorem dX6_readRule_145 : Dc cX6_readRule 145 (.aload_n 0) 1 146 := ⟨by decide +kernel, rfl⟩
theorem dX6_readRule_146 : Dc cX6_readRule 146 (.ldc 135) 2 148 := ⟨by decide +kernel, rfl⟩
theorem dX6_readRule_148 : Dc cX6_readRule 148 (.invokevirtual 46) 3 151 := ⟨by decide +kernel, rfl⟩
theorem djX6_readRule_151 : Dj cX6_readRule 151 (.ifCond .eq 30) 3 154 30 181 := ⟨by decide +kernel, rfl, by decide⟩
theorem dX6_readRule_154 : Dc cX6_readRule 154 (.aload_n 0) 1 155 := ⟨by decide +kernel, rfl⟩
theorem dX6_readRule_155 : Dc cX6_readRule 155 (.invokevirtual 38) 3 158 := ⟨by decide +kernel, rfl⟩
theorem dX6_readRule_158 : Dc cX6_readRule 158 (.aload_n 0) 1 159 := ⟨by decide +kernel, rfl⟩
theorem dX6_readRule_159 : Dc cX6_readRule 159 (.getfield 18) 3 162 := ⟨by decide +kernel, rfl⟩
theorem dX6_readRule_162 : Dc cX6_readRule 162 (.getfield 132) 3 165 := ⟨by decide +kernel, rfl⟩
theorem dX6_readRule_165 : Dc cX6_readRule 165 (.iload_n 1) 1 166 := ⟨by decide +kernel, rfl⟩
theorem dX6_readRule_166 : Dc cX6_readRule 166 (.aload_n 0) 1 167 := ⟨by decide +kernel, rfl⟩
theorem dX6_readRule_167 : Dc cX6_readRule 167 (.iconst 0) 1 168 := ⟨by decide +kernel, rfl⟩
theorem dX6_readRule_168 : Dc cX6_readRule 168 (.aload_n 0) 1 169 := ⟨by decide +kernel, rfl⟩
theorem dX6_readRule_169 : Dc cX6_readRule 169 (.getfield 18) 3 172 := ⟨by decide +kernel, rfl⟩
theorem dX6_readRule_172 : Dc cX6_readRule 172 (.getfield 70) 3 175 := ⟨by decide +kernel, rfl⟩
theorem dX6_readRule_175 : Dc cX6_readRule 175 (.iconst 1) 1 176 := ⟨by decide +kernel, rfl⟩
theorem dX6_readRule_176 : Dc cX6_readRule 176 (.isub) 1 177 := ⟨by decide +kernel, rfl⟩
theorem dX6_readRule_177 : Dc cX6_readRule 177 (.invokevirtual 66) 3 180 := ⟨by decide +kernel, rfl⟩
theorem dX6_readRule_180 : Dc cX6_readRule 180 (.iastore) 1 181 := ⟨by decide +kernel, rfl⟩
theorem dX6_readRule_181 : Dc cX6_readRule 181 (.aload_n 0) 1 182 := ⟨by decide +kernel, rfl⟩
theorem dX6_readRule_182 : Dc cX6_readRule 182 (.getfield 18) 3 185 := ⟨by decide +kernel, rfl⟩
theorem dX6_readRule_185 : Dc cX6_readRule 185 (.iload_n 1) 1 186 := ⟨by decide +kernel, rfl⟩
theorem dX6_readRule_186 : Dc cX6_readRule 186 (.iconst 1) 1 187 := ⟨by decide +kernel, rfl⟩
theorem dX6_readRule_187 : Dc cX6_readRule 187 (.iadd) 1 188 := ⟨by decide +kernel, rfl⟩
theorem dX6_readRule_188 : Dc cX6_readRule 188 (.putfield 104) 3 191 := ⟨by decide +kernel, rfl⟩
theorem dX6_readRule_191 : Dc cX6_readRule 191 (.return_) 1 192 := ⟨by decide +kernel, rfl⟩
section
variable {p : Program} {l : Launch} {e : Env} {s : State} {m : MethodId} {args : Array Value} {below : List Frame} {meth : Method} {c : Code} {A0 : Nat → Prop} {D : va_G} {cA : Nat → ClassId} {ad : Nat → Nat} {Z : (Nat → Nat) × (Nat → Nat)} {Q : Int → St → Prop} {b : Bool}
set_option maxHeartbeats 4000000 in
set_option maxRecDepth 100000 in
theorem t_X6_readRule_b181 (E : Ev p s m args meth c cX6_readRule 2 RX6 A0 D cA ad (NC b) Z) (hr : meth.sig.returnType = none) (x1 : Int) (σ : St) (c1 : C32 x1) (hσ : CanS (shC b) (NC b) σ) (h : wp_X6_readRule_b181 Q x1 σ) : G p l e (rmL 7 0 0) s m args below meth c 2 A0 D cA ad (shC b) (NC b) 0 0 (MQ below (QVc D cA ad (shC b) (NC b) Q A0) args s 0 0 A0) σ 181 [some (.ref (ad 3)), some (vI x1)] [] := by
  unfold wp_X6_readRule_b181 at h
  refine g_aload_0 E dX6_readRule_181 ?_
  refine g_getR E fl_RX6_18 (kC_3 b) (sC_3 b) rfl dX6_readRule_182 ?_
  refine g_iload_1 E dX6_readRule_185 ?_
  refine g_iconst E dX6_readRule_186 ?_
  refine g_iadd E dX6_readRule_187 ?_
  refine g_putI E fl_RX6_104 rfl rfl (kC_4 b) (sC_4 b) rfl dX6_readRule_188 (g_nmS (fun σ37 eσ37 => ?_))
  replace h := h σ37 eσ37
  have hσ37 : CanS (shC b) (NC b) σ37 := by rw [eσ37]; exact uC_4_0 hσ (c32_w _)
  exact g_vret E hr h hσ37 dX6_readRule_191
set_option maxHeartbeats 4000000 in
set_option maxRecDepth 100000 in
theorem t_X6_readRule_b129 (E : Ev p s m args meth c cX6_readRule 2 RX6 A0 D cA ad (NC b) Z) (hr : meth.sig.returnType = none) (x1 : Int) (σ : St) (c1 : C32 x1) (hσ : CanS (shC b) (NC b) σ) (h : wp_X6_readRule_b129 Q x1 σ) : G p l e (rmL 7 0 0) s m args below meth c 2 A0 D cA ad (shC b) (NC b) 0 0 (MQ below (QVc D cA ad (shC b) (NC b) Q A0) args s 0 0 A0) σ 129 [some (.ref (ad 3)), some (vI x1)] [] := by
  unfold wp_X6_readRule_b129 at h
  refine g_aload_0 E dX6_readRule_129 ?_
  refine g_getR E fl_RX6_18 (kC_3 b) (sC_3 b) rfl dX6_readRule_130 ?_
  refine g_getR E fl_RX6_132 (kC_4 b) (sC_4 b) rfl dX6_readRule_133 ?_
  refine g_iload_1 E dX6_readRule_136 ?_
  refine g_aload_0 E dX6_readRule_137 ?_
  refine g_getR E fl_RX6_18 (kC_3 b) (sC_3 b) rfl dX6_readRule_138 ?_
  refine g_getI E fl_RX6_83 (kC_4 b) (sC_4 b) rfl dX6_readRule_141 ?_
  refine g_iast E (kC_9 b) (sC_9 b) (by decide) h.1 dX6_readRule_144 (g_nmS (fun σ29 eσ29 => ?_))
  replace h := h.2 σ29 eσ29
  have hσ29 : CanS (shC b) (NC b) σ29 := by rw [eσ29]; exact wC_9 hσ (fC_4_9 hσ)
  refine g_aload_0 E dX6_readRule_145 ?_
  refine g_ldcS E (i := 2) (by decide) ⟨rfl, rfl⟩ dX6_readRule_146 ?_
  refine g_callvI E my_X6_isWord mi_X6_isWord msel_X6_isWord ml_RX6_46 (rm_ok (by decide) (by decide)) ⟨Nat.zero_le _, Nat.zero_le _⟩ (kC_3 b) (sC_3 b) rfl (m_X6_isWord_s2 E.2.2.1 hσ29 h) rfl rfl (Nat.le_of_ble_eq_true rfl) dX6_readRule_148 (fun r30 σ31 cr30 hσ31 h => ?_)
  refine g_if_eq E cr30 djX6_readRule_151 (fun hc => ?_) (fun hc => ?_)
  · replace h := h.1 hc
    exact (t_X6_readRule_b181 E hr x1 σ31 c1 hσ31 h).weak (w_k (w_k w_n))
  · replace h := h.2 hc
    refine g_aload_0 E dX6_readRule_154 ?_
    refine g_callvV E my_X6_advance mi_X6_advance msel_X6_advance ml_RX6_38 (rm_ok (by decide) (by decide)) ⟨Nat.zero_le _, Nat.zero_le _⟩ (kC_3 b) (sC_3 b) rfl (m_X6_advance E.2.2.1 hσ31 h) rfl rfl (Nat.le_of_ble_eq_true rfl) dX6_readRule_155 (fun σ33 r32 hσ33 h => ?_)
    refine g_aload_0 E dX6_readRule_158 ?_
    refine g_getR E fl_RX6_18 (kC_3 b) (sC_3 b) rfl dX6_readRule_159 ?_
    refine g_getR E fl_RX6_132 (kC_4 b) (sC_4 b) rfl dX6_readRule_162 ?_
    refine g_iload_1 E dX6_readRule_165 ?_
    refine g_aload_0 E dX6_readRule_166 ?_
    refine g_iconst E dX6_readRule_167 ?_
    refine g_aload_0 E dX6_readRule_168 ?_
    refine g_getR E fl_RX6_18 (kC_3 b) (sC_3 b) rfl dX6_readRule_169 ?_
    refine g_getI E fl_RX6_70 (kC_4 b) (sC_4 b) rfl dX6_readRule_172 ?_
    refine g_iconst E dX6_readRule_175 ?_
    refine g_isub E dX6_readRule_176 ?_
    refine g_callvI E my_X6_readNumber mi_X6_readNumber msel_X6_readNumber ml_RX6_66 (rm_ok (by decide) (by decide)) ⟨Nat.zero_le _, Nat.zero_le _⟩ (kC_3 b) (sC_3 b) rfl (m_X6_readNumber E.2.2.1 cl_0 (c32_w _) hσ33 h) rfl rfl (Nat.le_of_ble_eq_true rfl) dX6_readRule_177 (fun r34 σ35 cr34 hσ35 h => ?_)
    refine g_iast E (kC_9 b) (sC_9 b) (by decide) h.1 dX6_readRule_180 (g_nmS (fun σ36 eσ36 => ?_))
    replace h := h.2 σ36 eσ36
    have hσ36 : CanS (shC b) (NC b) σ36 := by rw [eσ36]; exact wC_9 hσ35 cr34
    exact (t_X6_readRule_b181 E hr x1 σ36 c1 hσ36 h).weak (w_k (w_k w_n))
set_option maxHeartbeats 4000000 in
set_option maxRecDepth 100000 in
theorem t_X6_readRule_b89 (E : Ev p s m args meth c cX6_readRule 2 RX6 A0 D cA ad (NC b) Z) (hr : meth.sig.returnType = none) (x1 : Int) (s0 : Int) (s1 : Int) (σ : St) (c1 : C32 x1) (cs0 : C32 s0) (cs1 : C32 s1) (hσ : CanS (shC b) (NC b) σ) (h : wp_X6_readRule_b89 Q x1 s0 s1 σ) : G p l e (rmL 7 0 0) s m args below meth c 2 A0 D cA ad (shC b) (NC b) 0 0 (MQ below (QVc D cA ad (shC b) (NC b) Q A0) args s 0 0 A0) σ 89 [some (.ref (ad 3)), some (vI x1)] [vI s0, vI s1, .ref (ad 7)] := by
  unfold wp_X6_readRule_b89 at h
  refine g_iast E (kC_7 b) (sC_7 b) (by decide) h.1 dX6_readRule_89 (g_nmS (fun σ20 eσ20 => ?_))
  replace h := h.2 σ20 eσ20
  have hσ20 : CanS (shC b) (NC b) σ20 := by rw [eσ20]; exact wC_7 hσ cs0
  refine g_aload_0 E dX6_readRule_90 ?_
  refine g_getR E fl_RX6_18 (kC_3 b) (sC_3 b) rfl dX6_readRule_91 ?_
  refine g_getR E fl_RX6_127 (kC_4 b) (sC_4 b) rfl dX6_readRule_94 ?_
  refine g_iload_1 E dX6_readRule_97 ?_
  refine g_iconst E dX6_readRule_98 ?_
  refine g_iast E (kC_8 b) (sC_8 b) (by decide) h.1 dX6_readRule_99 (g_nmS (fun σ21 eσ21 => ?_))
  replace h := h.2 σ21 eσ21
  have hσ21 : CanS (shC b) (NC b) σ21 := by rw [eσ21]; exact wC_8 hσ20 cl_1
  refine g_aload_0 E dX6_readRule_100 ?_
  refine g_ldcS E (i := 1) (by decide) ⟨rfl, rfl⟩ dX6_readRule_101 ?_
  refine g_callvI E my_X6_isWord mi_X6_isWord msel_X6_isWord ml_RX6_46 (rm_ok (by decide) (by decide)) ⟨Nat.zero_le _, Nat.zero_le _⟩ (kC_3 b) (sC_3 b) rfl (m_X6_isWord_s1 E.2.2.1 hσ21 h) rfl rfl (Nat.le_of_ble_eq_true rfl) dX6_readRule_103 (fun r22 σ23 cr22 hσ23 h => ?_)
  refine g_if_eq E cr22 djX6_readRule_106 (fun hc => ?_) (fun hc => ?_)
  · replace h := h.1 hc
    exact (t_X6_readRule_b129 E hr x1 σ23 c1 hσ23 h).weak (w_k (w_k w_n))
  · replace h := h.2 hc
    refine g_aload_0 E dX6_readRule_109 ?_
    refine g_callvV E my_X6_advance mi_X6_advance msel_X6_advance ml_RX6_38 (rm_ok (by decide) (by decide)) ⟨Nat.zero_le _, Nat.zero_le _⟩ (kC_3 b) (sC_3 b) rfl (m_X6_advance E.2.2.1 hσ23 h) rfl rfl (Nat.le_of_ble_eq_true rfl) dX6_readRule_110 (fun σ25 r24 hσ25 h => ?_)
    refine g_aload_0 E dX6_readRule_113 ?_
    refine g_getR E fl_RX6_18 (kC_3 b) (sC_3 b) rfl dX6_readRule_114 ?_
    refine g_getR E fl_RX6_127 (kC_4 b) (sC_4 b) rfl dX6_readRule_117 ?_
    refine g_iload_1 E dX6_readRule_120 ?_
    refine g_aload_0 E dX6_readRule_121 ?_
    refine g_iconst E dX6_readRule_122 ?_
    refine g_bipush E (by decide) dX6_readRule_123 ?_
    refine g_callvI E my_X6_readNumber mi_X6_readNumber msel_X6_readNumber ml_RX6_66 (rm_ok (by decide) (by decide)) ⟨Nat.zero_le _, Nat.zero_le _⟩ (kC_3 b) (sC_3 b) rfl (m_X6_readNumber E.2.2.1 cl_1 cl_99 hσ25 h) rfl rfl (Nat.le_of_ble_eq_true rfl) dX6_readRule_125 (fun r26 σ27 cr26 hσ27 h => ?_)
    refine g_iast E (kC_8 b) (sC_8 b) (by decide) h.1 dX6_readRule_128 (g_nmS (fun σ28 eσ28 => ?_))
    replace h := h.2 σ28 eσ28
    have hσ28 : CanS (shC b) (NC b) σ28 := by rw [eσ28]; exact wC_8 hσ27 cr26
    exact (t_X6_readRule_b129 E hr x1 σ28 c1 hσ28 h).weak (w_k (w_k w_n))
set_option maxHeartbeats 4000000 in
set_option maxRecDepth 100000 in
theorem t_X6_readRule_b80 (E : Ev p s m args meth c cX6_readRule 2 RX6 A0 D cA ad (NC b) Z) (hr : meth.sig.returnType = none) (x1 : Int) (s0 : Int) (σ : St) (c1 : C32 x1) (cs0 : C32 s0) (hσ : CanS (shC b) (NC b) σ) (h : wp_X6_readRule_b80 Q x1 s0 σ) : G p l e (rmL 7 0 0) s m args below meth c 2 A0 D cA ad (shC b) (NC b) 0 0 (MQ below (QVc D cA ad (shC b) (NC b) Q A0) args s 0 0 A0) σ 80 [some (.ref (ad 3)), some (vI x1)] [vI s0, .ref (ad 7)] := by
  unfold wp_X6_readRule_b80 at h
  refine g_aload_0 E dX6_readRule_80 ?_
  refine g_iconst E dX6_readRule_81 ?_
  refine g_callvI E my_X6_readPart mi_X6_readPart msel_X6_readPart ml_RX6_110 (rm_ok (by decide) (by decide)) ⟨Nat.zero_le _, Nat.zero_le _⟩ (kC_3 b) (sC_3 b) rfl (m_X6_readPart E.2.2.1 cl_0 hσ h) rfl rfl (Nat.le_of_ble_eq_true rfl) dX6_readRule_82 (fun r18 σ19 cr18 hσ19 h => ?_)
  refine g_goto E djX6_readRule_85 ?_
  exact (t_X6_readRule_b89 E hr x1 r18 s0 σ19 c1 cr18 cs0 hσ19 h).weak (w_k (w_k w_n))
set_option maxHeartbeats 4000000 in
set_option maxRecDepth 100000 in
theorem t_X6_readRule (E : Ev p s m args meth c cX6_readRule 2 RX6 A0 D cA ad (NC b) Z) (hr : meth.sig.returnType = none) (σ : St) (hσ : CanS (shC b) (NC b) σ) (h : wp_X6_readRule  σ Q) : G p l e (rmL 7 0 0) s m args below meth c 2 A0 D cA ad (shC b) (NC b) 0 0 (MQ below (QVc D cA ad (shC b) (NC b) Q A0) args s 0 0 A0) σ 0 [some (.ref (ad 3)), none] [] := by
  unfold wp_X6_readRule at h
  refine g_aload_0 E dX6_readRule_0 ?_
  refine g_getR E fl_RX6_18 (kC_3 b) (sC_3 b) rfl dX6_readRule_1 ?_
  refine g_getI E fl_RX6_104 (kC_4 b) (sC_4 b) rfl dX6_readRule_4 ?_
  refine g_nmI (fun v1 ev1 => ?_)
  replace h := h v1 ev1
  have cv1 : C32 v1 := by rw [ev1]; exact (fC_4_0 hσ)
  refine g_istore_1 E rfl (by decide) dX6_readRule_7 ?_
  refine g_iload_1 E dX6_readRule_8 ?_
  refine g_bipush E (by decide) dX6_readRule_9 ?_
  refine g_icmp_lt E cv1 cl_40 djX6_readRule_11 (fun hc => ?_) (fun hc => ?_)
  · replace h := h.1 hc
    refine g_aload_0 E dX6_readRule_20 ?_
    refine g_callvV E my_X6_advance mi_X6_advance msel_X6_advance ml_RX6_38 (rm_ok (by decide) (by decide)) ⟨Nat.zero_le _, Nat.zero_le _⟩ (kC_3 b) (sC_3 b) rfl (m_X6_advance E.2.2.1 hσ h) rfl rfl (Nat.le_of_ble_eq_true rfl) dX6_readRule_21 (fun σ3 r2 hσ3 h => ?_)
    refine g_aload_0 E dX6_readRule_24 ?_
    refine g_getR E fl_RX6_18 (kC_3 b) (sC_3 b) rfl dX6_readRule_25 ?_
    refine g_getR E fl_RX6_107 (kC_4 b) (sC_4 b) rfl dX6_readRule_28 ?_
    refine g_iload_1 E dX6_readRule_31 ?_
    refine g_aload_0 E dX6_readRule_32 ?_
    refine g_iconst E dX6_readRule_33 ?_
    refine g_callvI E my_X6_readPart mi_X6_readPart msel_X6_readPart ml_RX6_110 (rm_ok (by decide) (by decide)) ⟨Nat.zero_le _, Nat.zero_le _⟩ (kC_3 b) (sC_3 b) rfl (m_X6_readPart E.2.2.1 cl_1 hσ3 h) rfl rfl (Nat.le_of_ble_eq_true rfl) dX6_readRule_34 (fun r4 σ5 cr4 hσ5 h => ?_)
    refine g_iast E (kC_5 b) (sC_5 b) (by decide) h.1 dX6_readRule_37 (g_nmS (fun σ6 eσ6 => ?_))
    replace h := h.2 σ6 eσ6
    have hσ6 : CanS (shC b) (NC b) σ6 := by rw [eσ6]; exact wC_5 hσ5 cr4
    refine g_aload_0 E dX6_readRule_38 ?_
    refine g_bipush E (by decide) dX6_readRule_39 ?_
    refine g_callvV E my_X6_passSign mi_X6_passSign msel_X6_passSign ml_RX6_62 (rm_ok (by decide) (by decide)) ⟨Nat.zero_le _, Nat.zero_le _⟩ (kC_3 b) (sC_3 b) rfl (m_X6_passSign E.2.2.1 cl_61 hσ6 h) rfl rfl (Nat.le_of_ble_eq_true rfl) dX6_readRule_41 (fun σ8 r7 hσ8 h => ?_)
    refine g_aload_0 E dX6_readRule_44 ?_
    refine g_getR E fl_RX6_18 (kC_3 b) (sC_3 b) rfl dX6_readRule_45 ?_
    refine g_getR E fl_RX6_114 (kC_4 b) (sC_4 b) rfl dX6_readRule_48 ?_
    refine g_iload_1 E dX6_readRule_51 ?_
    refine g_aload_0 E dX6_readRule_52 ?_
    refine g_iconst E dX6_readRule_53 ?_
    refine g_callvI E my_X6_readPart mi_X6_readPart msel_X6_readPart ml_RX6_110 (rm_ok (by decide) (by decide)) ⟨Nat.zero_le _, Nat.zero_le _⟩ (kC_3 b) (sC_3 b) rfl (m_X6_readPart E.2.2.1 cl_0 hσ8 h) rfl rfl (Nat.le_of_ble_eq_true rfl) dX6_readRule_54 (fun r9 σ10 cr9 hσ10 h => ?_)
    refine g_iast E (kC_6 b) (sC_6 b) (by decide) h.1 dX6_readRule_57 (g_nmS (fun σ11 eσ11 => ?_))
    replace h := h.2 σ11 eσ11
    have hσ11 : CanS (shC b) (NC b) σ11 := by rw [eσ11]; exact wC_6 hσ10 cr9
    refine g_aload_0 E dX6_readRule_58 ?_
    refine g_getR E fl_RX6_18 (kC_3 b) (sC_3 b) rfl dX6_readRule_59 ?_
    refine g_getR E fl_RX6_117 (kC_4 b) (sC_4 b) rfl dX6_readRule_62 ?_
    refine g_iload_1 E dX6_readRule_65 ?_
    refine g_aload_0 E dX6_readRule_66 ?_
    refine g_callvI E my_X6_isLabel mi_X6_isLabel msel_X6_isLabel ml_RX6_120 (rm_ok (by decide) (by decide)) ⟨Nat.zero_le _, Nat.zero_le _⟩ (kC_3 b) (sC_3 b) rfl (m_X6_isLabel E.2.2.1 hσ11 h) rfl rfl (Nat.le_of_ble_eq_true rfl) dX6_readRule_67 (fun r12 σ13 cr12 hσ13 h => ?_)
    refine g_if_ne E cr12 djX6_readRule_70 (fun hc => ?_) (fun hc => ?_)
    · replace h := h.1 hc
      exact (t_X6_readRule_b80 E hr v1 v1 σ13 cv1 cv1 hσ13 h).weak (w_k (w_k w_n))
    · replace h := h.2 hc
      refine g_aload_0 E dX6_readRule_73 ?_
      refine g_callvI E my_X6_isLetter mi_X6_isLetter msel_X6_isLetter ml_RX6_124 (rm_ok (by decide) (by decide)) ⟨Nat.zero_le _, Nat.zero_le _⟩ (kC_3 b) (sC_3 b) rfl (m_X6_isLetter E.2.2.1 hσ13 h) rfl rfl (Nat.le_of_ble_eq_true rfl) dX6_readRule_74 (fun r14 σ15 cr14 hσ15 h => ?_)
      refine g_if_eq E cr14 djX6_readRule_77 (fun hc => ?_) (fun hc => ?_)
      · replace h := h.1 hc
        refine g_iconst E dX6_readRule_88 ?_
        exact (t_X6_readRule_b89 E hr v1 ((-1)) v1 σ15 cv1 cl_m1 cv1 hσ15 h).weak (w_k (w_k w_n))
      · replace h := h.2 hc
        exact (t_X6_readRule_b80 E hr v1 v1 σ15 cv1 cv1 hσ15 h).weak (w_k (w_k w_n))
  · replace h := h.2 hc
    refine g_aload_0 E dX6_readRule_14 ?_
    refine g_iconst E dX6_readRule_15 ?_
    refine g_callvV E my_X6_fail mi_X6_fail msel_X6_fail ml_RX6_58 (rm_ok (by decide) (by decide)) ⟨Nat.zero_le _, Nat.zero_le _⟩ (kC_3 b) (sC_3 b) rfl (m_X6_fail E.2.2.1 cl_3 hσ h) rfl rfl (Nat.le_of_ble_eq_true rfl) dX6_readRule_16 (fun σ17 r16 hσ17 h => ?_)
    exact g_vret E hr h hσ17 dX6_readRule_19
end
theorem m_X6_readRule {Z : (Nat → Nat) × (Nat → Nat)} {l : Launch} {D : va_G} {cA : Nat → ClassId} {ad : Nat → Nat} {b : Bool} {σ : St} {Q : Int → St → Prop} (hA : AdOk (NC b) ad) (hσ : CanS (shC b) (NC b) σ) (h : wp_X6_readRule  σ Q) : KtV Z l D cA ad (shC b) (NC b) yX6_readRule cX6_readRule 2 none 7 [.ref (ad 3)] σ Q :=
  KtV.of my_X6_readRule hA [some (.ref (ad 3)), none] (Nat.le_of_ble_eq_true rfl) rfl (fun p e s m args below meth c A0 E hr => t_X6_readRule E hr σ hσ h)
theorem dX6_read_0 : Dc cX6_read 0 (.aload_n 0) 1 1 := ⟨by decide +kernel, rfl⟩
theorem dX6_read_1 : Dc cX6_read 1 (.iload_n 1) 1 2 := ⟨by decide +kernel, rfl⟩
theorem dX6_read_2 : Dc cX6_read 2 (.putfield 29) 3 5 := ⟨by decide +kernel, rfl⟩
theorem dX6_read_5 : Dc cX6_read 5 (.aload_n 0) 1 6 := ⟨by decide +kernel, rfl⟩
theorem dX6_read_6 : Dc cX6_read 6 (.iconst 0) 1 7 := ⟨by decide +kernel, rfl⟩
theorem dX6_read_7 : Dc cX6_read 7 (.putfield 32) 3 10 := ⟨by decide +kernel, rfl⟩
theorem dX6_read_10 : Dc cX6_read 10 (.aload_n 0) 1 11 := ⟨by decide +kernel, rfl⟩
theorem dX6_read_11 : Dc cX6_read 11 (.iconst 0) 1 12 := ⟨by decide +kernel, rfl⟩
theorem dX6_read_12 : Dc cX6_read 12 (.putfield 22) 3 15 := ⟨by decide +kernel, rfl⟩
theorem dX6_read_15 : Dc cX6_read 15 (.aload_n 0) 1 16 := ⟨by decide +kernel, rfl⟩
theorem dX6_read_16 : Dc cX6_read 16 (.iconst (-1)) 1 17 := ⟨by decide +kernel, rfl⟩
theorem dX6_read_17 : Dc cX6_read 17 (.putfield 26) 3 20 := ⟨by decide +kernel, rfl⟩
theorem dX6_read_20 : Dc cX6_read 20 (.aload_n 0) 1 21 := ⟨by decide +kernel, rfl⟩
theorem dX6_read_21 : Dc cX6_read 21 (.getfield 18) 3 24 := ⟨by decide +kernel, rfl⟩
theorem dX6_read_24 : Dc cX6_read 24 (.invokevirtual 35) 3 27 := ⟨by decide +kernel, rfl⟩
theorem dX6_read_27 : Dc cX6_read 27 (.aload_n 0) 1 28 := ⟨by decide +kernel, rfl⟩
theorem dX6_read_28 : Dc cX6_read 28 (.invokevirtual 38) 3 31 := ⟨by decide +kernel, rfl⟩
theorem dX6_read_31 : Dc cX6_read 31 (.iconst 0) 1 32 := ⟨by decide +kernel, rfl⟩
theorem dX6_read_32 : Dc cX6_read 32 (.istore_n 2) 1 33 := ⟨by decide +kernel, rfl⟩
theorem dX6_read_33 : Dc cX6_read 33 (.iload_n 2) 1 34 := ⟨by decide +kernel, rfl⟩
theorem dX6_read_34 : Dc cX6_read 34 (.aload_n 0) 1 35 := ⟨by decide +kernel, rfl⟩
theorem dX6_read_35 : Dc cX6_read 35 (.getfield 29) 3 38 := ⟨by decide +kernel, rfl⟩
theorem djX6_read_38 : Dj cX6_read 38 (.if_icmp .gt 70) 3 41 70 108 := ⟨by decide +kernel, rfl, by decide⟩
theorem dX6_read_41 : Dc cX6_read 41 (.aload_n 0) 1 42 := ⟨by decide +kernel, rfl⟩
theorem dX6_read_42 : Dc cX6_read 42 (.getfield 41) 3 45 := ⟨by decide +kernel, rfl⟩
theorem djX6_read_45 : Dj cX6_read 45 (.ifCond .eq 63) 3 48 63 108 := ⟨by decide +kernel, rfl, by decide⟩
theorem dX6_read_48 : Dc cX6_read 48 (.aload_n 0) 1 49 := ⟨by decide +kernel, rfl⟩
theorem dX6_read_49 : Dc cX6_read 49 (.getfield 22) 3 52 := ⟨by decide +kernel, rfl⟩
theorem djX6_read_52 : Dj cX6_read 52 (.ifCond .ne 56) 3 55 56 108 := ⟨by decide +kernel, rfl, by decide⟩
theorem dX6_read_55 : Dc cX6_read 55 (.aload_n 0) 1 56 := ⟨by decide +kernel, rfl⟩
theorem dX6_read_56 : Dc cX6_read 56 (.ldc 44) 2 58 := ⟨by decide +kernel, rfl⟩
theorem dX6_read_58 : Dc cX6_read 58 (.invokevirtual 46) 3 61 := ⟨by decide +kernel, rfl⟩
theorem djX6_read_61 : Dj cX6_read 61 (.ifCond .eq 10) 3 64 10 71 := ⟨by decide +kernel, rfl, by decide⟩
theorem dX6_read_64 : Dc cX6_read 64 (.aload_n 0) 1 65 := ⟨by decide +kernel, rfl⟩
theorem dX6_read_65 : Dc cX6_read 65 (.invokevirtual 50) 3 68 := ⟨by decide +kernel, rfl⟩
theorem djX6_read_68 : Dj cX6_read 68 (.goto 28) 3 71 28 96 := ⟨by decide +kernel, rfl, by decide⟩
theorem dX6_read_71 : Dc cX6_read 71 (.iload_n 2) 1 72 := ⟨by decide +kernel, rfl⟩
theorem djX6_read_72 : Dj cX6_read 72 (.ifCond .ne 19) 3 75 19 91 := ⟨by decide +kernel, rfl, by decide⟩
theorem dX6_read_75 : Dc cX6_read 75 (.aload_n 0) 1 76 := ⟨by decide +kernel, rfl⟩
theorem dX6_read_76 : Dc cX6_read 76 (.ldc 53) 2 78 := ⟨by decide +kernel, rfl⟩
theorem dX6_read_78 : Dc cX6_read 78 (.invokevirtual 46) 3 81 := ⟨by decide +kernel, rfl⟩
theorem djX6_read_81 : Dj cX6_read 81 (.ifCond .eq 10) 3 84 10 91 := ⟨by decide +kernel, rfl, by decide⟩
theorem dX6_read_84 : Dc cX6_read 84 (.aload_n 0) 1 85 := ⟨by decide +kernel, rfl⟩
theorem dX6_read_85 : Dc cX6_read 85 (.invokevirtual 55) 3 88 := ⟨by decide +kernel, rfl⟩
theorem djX6_read_88 : Dj cX6_read 88 (.goto 8) 3 91 8 96 := ⟨by decide +kernel, rfl, by decide⟩
theorem dX6_read_91 : Dc cX6_read 91 (.aload_n 0) 1 92 := ⟨by decide +kernel, rfl⟩
theorem dX6_read_92 : Dc cX6_read 92 (.iconst 1) 1 93 := ⟨by decide +kernel, rfl⟩
theorem dX6_read_93 : Dc cX6_read 93 (.invokevirtual 58) 3 96 := ⟨by decide +kernel, rfl⟩
theorem dX6_read_96 : Dc cX6_read 96 (.aload_n 0) 1 97 := ⟨by decide +kernel, rfl⟩
theorem dX6_read_97 : Dc cX6_read 97 (.bipush 59) 2 99 := ⟨by decide +kernel, rfl⟩
theorem dX6_read_99 : Dc cX6_read 99 (.invokevirtual 62) 3 102 := ⟨by decide +kernel, rfl⟩
theorem dX6_read_102 : Dc cX6_read 102 (.iinc 2 1) 3 105 := ⟨by decide +kernel, rfl⟩
theorem djX6_read_105 : Dj cX6_read 105 (.goto (-72)) 3 108 (-72) 33 := ⟨by decide +kernel, rfl, by decide⟩
theorem dX6_read_108 : Dc cX6_read 108 (.return_) 1 109 := ⟨by decide +kernel, rfl⟩
section
variable {p : Program} {l : Launch} {e : Env} {s : State} {m : MethodId} {args : Array Value} {below : List Frame} {meth : Method} {c : Code} {A0 : Nat → Prop} {D : va_G} {cA : Nat → ClassId} {ad : Nat → Nat} {Z : (Nat → Nat) × (Nat → Nat)} {Q : Int → St → Prop} {b : Bool}
set_option maxHeartbeats 4000000 in
set_option maxRecDepth 100000 in
theorem t_X6_read_b96 (E : Ev p s m args meth c cX6_read 3 RX6 A0 D cA ad (NC b) Z) (hr : meth.sig.returnType = none) {K33 : Int → St → Prop} (hK33 : ∀ (x2 : Int) (σ : St), C32 x2 → CanS (shC b) (NC b) σ → K33 x2 σ → G p l e (rmL 9 0 0) s m args below meth c 3 A0 D cA ad (shC b) (NC b) 0 0 (MQ below (QVc D cA ad (shC b) (NC b) Q A0) args s 0 0 A0) σ 33 [some (.ref (ad 3)), none, some (vI x2)] []) (x2 : Int) (σ : St) (c2 : C32 x2) (hσ : CanS (shC b) (NC b) σ) (h : wp_X6_read_b96 Q K33 x2 σ) : G p l e (rmL 9 0 0) s m args below meth c 3 A0 D cA ad (shC b) (NC b) 0 0 (MQ below (QVc D cA ad (shC b) (NC b) Q A0) args s 0 0 A0) σ 96 [some (.ref (ad 3)), none, some (vI x2)] [] := by
  unfold wp_X6_read_b96 at h
  refine g_aload_0 E dX6_read_96 ?_
  refine g_bipush E (by decide) dX6_read_97 ?_
  refine g_callvV E my_X6_passSign mi_X6_passSign msel_X6_passSign ml_RX6_62 (rm_ok (by decide) (by decide)) ⟨Nat.zero_le _, Nat.zero_le _⟩ (kC_3 b) (sC_3 b) rfl (m_X6_passSign E.2.2.1 cl_59 hσ h) rfl rfl (Nat.le_of_ble_eq_true rfl) dX6_read_99 (fun σ20 r19 hσ20 h => ?_)
  refine g_iinc_2 E rfl (by decide) dX6_read_102 (fun v21 ev21 => ?_)
  replace h := h v21 ev21
  have cv21 : C32 v21 := by rw [ev21]; exact c32_w _
  refine g_goto E djX6_read_105 ?_
  exact (hK33 v21 σ20 cv21 hσ20 h).weak (w_k (w_d (w_k w_n)))
set_option maxHeartbeats 4000000 in
set_option maxRecDepth 100000 in
theorem t_X6_read_b91 (E : Ev p s m args meth c cX6_read 3 RX6 A0 D cA ad (NC b) Z) (hr : meth.sig.returnType = none) {K33 : Int → St → Prop} (hK33 : ∀ (x2 : Int) (σ : St), C32 x2 → CanS (shC b) (NC b) σ → K33 x2 σ → G p l e (rmL 9 0 0) s m args below meth c 3 A0 D cA ad (shC b) (NC b) 0 0 (MQ below (QVc D cA ad (shC b) (NC b) Q A0) args s 0 0 A0) σ 33 [some (.ref (ad 3)), none, some (vI x2)] []) (x2 : Int) (σ : St) (c2 : C32 x2) (hσ : CanS (shC b) (NC b) σ) (h : wp_X6_read_b91 Q K33 x2 σ) : G p l e (rmL 9 0 0) s m args below meth c 3 A0 D cA ad (shC b) (NC b) 0 0 (MQ below (QVc D cA ad (shC b) (NC b) Q A0) args s 0 0 A0) σ 91 [some (.ref (ad 3)), none, some (vI x2)] [] := by
  unfold wp_X6_read_b91 at h
  refine g_aload_0 E dX6_read_91 ?_
  refine g_iconst E dX6_read_92 ?_
  refine g_callvV E my_X6_fail mi_X6_fail msel_X6_fail ml_RX6_58 (rm_ok (by decide) (by decide)) ⟨Nat.zero_le _, Nat.zero_le _⟩ (kC_3 b) (sC_3 b) rfl (m_X6_fail E.2.2.1 cl_1 hσ h) rfl rfl (Nat.le_of_ble_eq_true rfl) dX6_read_93 (fun σ18 r17 hσ18 h => ?_)
  exact (t_X6_read_b96 E hr hK33 x2 σ18 c2 hσ18 h).weak (w_k (w_d (w_k w_n)))
set_option maxHeartbeats 4000000 in
set_option maxRecDepth 100000 in
theorem t_X6_read_l33 (E : Ev p s m args meth c cX6_read 3 RX6 A0 D cA ad (NC b) Z) (hr : meth.sig.returnType = none) : ∀ (n : Nat) (x2 : Int) (σ : St), C32 x2 → CanS (shC b) (NC b) σ → wp_X6_read_l33 Q n x2 σ → G p l e (rmL 9 0 0) s m args below meth c 3 A0 D cA ad (shC b) (NC b) 0 0 (MQ below (QVc D cA ad (shC b) (NC b) Q A0) args s 0 0 A0) σ 33 [some (.ref (ad 3)), none, some (vI x2)] [] := by
  intro n
  induction n with
  | zero => intro _ _ _ _ h; exact h.elim
  | succ n ih =>
    intro x2 σ c2 hσ h
    unfold wp_X6_read_l33 at h
    refine g_iload_2 E dX6_read_33 ?_
    refine g_aload_0 E dX6_read_34 ?_
    refine g_getI E fl_RX6_29 (kC_3 b) (sC_3 b) rfl dX6_read_35 ?_
    refine g_icmp_gt E c2 (fC_3_4 hσ) djX6_read_38 (fun hc => ?_) (fun hc => ?_)
    · replace h := h.1 hc
      exact g_vret E hr h hσ dX6_read_108
    · replace h := h.2 hc
      refine g_aload_0 E dX6_read_41 ?_
      refine g_getI E fl_RX6_41 (kC_3 b) (sC_3 b) rfl dX6_read_42 ?_
      refine g_if_eq E (fC_3_5 hσ) djX6_read_45 (fun hc => ?_) (fun hc => ?_)
      · replace h := h.1 hc
        exact g_vret E hr h hσ dX6_read_108
      · replace h := h.2 hc
        refine g_aload_0 E dX6_read_48 ?_
        refine g_getI E fl_RX6_22 (kC_3 b) (sC_3 b) rfl dX6_read_49 ?_
        refine g_if_ne E (fC_3_2 hσ) djX6_read_52 (fun hc => ?_) (fun hc => ?_)
        · replace h := h.1 hc
          exact g_vret E hr h hσ dX6_read_108
        · replace h := h.2 hc
          refine g_aload_0 E dX6_read_55 ?_
          refine g_ldcS E (i := 0) (by decide) ⟨rfl, rfl⟩ dX6_read_56 ?_
          refine g_callvI E my_X6_isWord mi_X6_isWord msel_X6_isWord ml_RX6_46 (rm_ok (by decide) (by decide)) ⟨Nat.zero_le _, Nat.zero_le _⟩ (kC_3 b) (sC_3 b) rfl (m_X6_isWord_s0 E.2.2.1 hσ h) rfl rfl (Nat.le_of_ble_eq_true rfl) dX6_read_58 (fun r9 σ10 cr9 hσ10 h => ?_)
          refine g_if_eq E cr9 djX6_read_61 (fun hc => ?_) (fun hc => ?_)
          · replace h := h.1 hc
            refine g_iload_2 E dX6_read_71 ?_
            refine g_if_ne E c2 djX6_read_72 (fun hc => ?_) (fun hc => ?_)
            · replace h := h.1 hc
              exact (t_X6_read_b91 E hr ih x2 σ10 c2 hσ10 h).weak (w_k (w_d (w_k w_n)))
            · replace h := h.2 hc
              refine g_aload_0 E dX6_read_75 ?_
              refine g_ldcS E (i := 3) (by decide) ⟨rfl, rfl⟩ dX6_read_76 ?_
              refine g_callvI E my_X6_isWord mi_X6_isWord msel_X6_isWord ml_RX6_46 (rm_ok (by decide) (by decide)) ⟨Nat.zero_le _, Nat.zero_le _⟩ (kC_3 b) (sC_3 b) rfl (m_X6_isWord_s3 E.2.2.1 hσ10 h) rfl rfl (Nat.le_of_ble_eq_true rfl) dX6_read_78 (fun r11 σ12 cr11 hσ12 h => ?_)
              refine g_if_eq E cr11 djX6_read_81 (fun hc => ?_) (fun hc => ?_)
              · replace h := h.1 hc
                exact (t_X6_read_b91 E hr ih x2 σ12 c2 hσ12 h).weak (w_k (w_d (w_k w_n)))
              · replace h := h.2 hc
                refine g_aload_0 E dX6_read_84 ?_
                refine g_callvV E my_X6_readTable mi_X6_readTable msel_X6_readTable ml_RX6_55 (rm_ok (by decide) (by decide)) ⟨Nat.zero_le _, Nat.zero_le _⟩ (kC_3 b) (sC_3 b) rfl (m_X6_readTable E.2.2.1 hσ12 h) rfl rfl (Nat.le_of_ble_eq_true rfl) dX6_read_85 (fun σ14 r13 hσ14 h => ?_)
                refine g_goto E djX6_read_88 ?_
                exact (t_X6_read_b96 E hr ih x2 σ14 c2 hσ14 h).weak (w_k (w_d (w_k w_n)))
          · replace h := h.2 hc
            refine g_aload_0 E dX6_read_64 ?_
            refine g_callvV E my_X6_readRule mi_X6_readRule msel_X6_readRule ml_RX6_50 (rm_ok (by decide) (by decide)) ⟨Nat.zero_le _, Nat.zero_le _⟩ (kC_3 b) (sC_3 b) rfl (m_X6_readRule E.2.2.1 hσ10 h) rfl rfl (Nat.le_of_ble_eq_true rfl) dX6_read_65 (fun σ16 r15 hσ16 h => ?_)
            refine g_goto E djX6_read_68 ?_
            exact (t_X6_read_b96 E hr ih x2 σ16 c2 hσ16 h).weak (w_k (w_d (w_k w_n)))
set_option maxHeartbeats 4000000 in
set_option maxRecDepth 100000 in
theorem t_X6_read (E : Ev p s m args meth c cX6_read 3 RX6 A0 D cA ad (NC b) Z) (hr : meth.sig.returnType = none) (x1 : Int) (σ : St) (c1 : C32 x1) (hσ : CanS (shC b) (NC b) σ) (h : wp_X6_read x1 σ Q) : G p l e (rmL 9 0 0) s m args below meth c 3 A0 D cA ad (shC b) (NC b) 0 0 (MQ below (QVc D cA ad (shC b) (NC b) Q A0) args s 0 0 A0) σ 0 [some (.ref (ad 3)), some (vI x1), none] [] := by
  unfold wp_X6_read at h
  refine g_aload_0 E dX6_read_0 ?_
  refine g_iload_1 E dX6_read_1 ?_
  refine g_putI E fl_RX6_29 rfl rfl (kC_3 b) (sC_3 b) rfl dX6_read_2 (g_nmS (fun σ1 eσ1 => ?_))
  replace h := h σ1 eσ1
  have hσ1 : CanS (shC b) (NC b) σ1 := by rw [eσ1]; exact uC_3_4 hσ c1
  refine g_aload_0 E dX6_read_5 ?_
  refine g_iconst E dX6_read_6 ?_
  refine g_putI E fl_RX6_32 rfl rfl (kC_3 b) (sC_3 b) rfl dX6_read_7 (g_nmS (fun σ2 eσ2 => ?_))
  replace h := h σ2 eσ2
  have hσ2 : CanS (shC b) (NC b) σ2 := by rw [eσ2]; exact uC_3_7 hσ1 cl_0
  refine g_aload_0 E dX6_read_10 ?_
  refine g_iconst E dX6_read_11 ?_
  refine g_putI E fl_RX6_22 rfl rfl (kC_3 b) (sC_3 b) rfl dX6_read_12 (g_nmS (fun σ3 eσ3 => ?_))
  replace h := h σ3 eσ3
  have hσ3 : CanS (shC b) (NC b) σ3 := by rw [eσ3]; exact uC_3_2 hσ2 cl_0
  refine g_aload_0 E dX6_read_15 ?_
  refine g_iconst E dX6_read_16 ?_
  refine g_putI E fl_RX6_26 rfl rfl (kC_3 b) (sC_3 b) rfl dX6_read_17 (g_nmS (fun σ4 eσ4 => ?_))
  replace h := h σ4 eσ4
  have hσ4 : CanS (shC b) (NC b) σ4 := by rw [eσ4]; exact uC_3_3 hσ3 cl_m1
  refine g_aload_0 E dX6_read_20 ?_
  refine g_getR E fl_RX6_18 (kC_3 b) (sC_3 b) rfl dX6_read_21 ?_
  refine g_callvV E my_X4_clear mi_X4_clear msel_X4_clear ml_RX6_35 (rm_ok (by decide) (by decide)) ⟨Nat.zero_le _, Nat.zero_le _⟩ (kC_4 b) (sC_4 b) rfl (m_X4_clear_d E.2.2.1 hσ4 h) rfl rfl (Nat.le_of_ble_eq_true rfl) dX6_read_24 (fun σ6 r5 hσ6 h => ?_)
  refine g_aload_0 E dX6_read_27 ?_
  refine g_callvV E my_X6_advance mi_X6_advance msel_X6_advance ml_RX6_38 (rm_ok (by decide) (by decide)) ⟨Nat.zero_le _, Nat.zero_le _⟩ (kC_3 b) (sC_3 b) rfl (m_X6_advance E.2.2.1 hσ6 h) rfl rfl (Nat.le_of_ble_eq_true rfl) dX6_read_28 (fun σ8 r7 hσ8 h => ?_)
  refine g_iconst E dX6_read_31 ?_
  refine g_istore_2 E rfl (by decide) dX6_read_32 ?_
  exact (t_X6_read_l33 E hr bigN 0 σ8 cl_0 hσ8 h).weak (w_k (w_d (w_k w_n)))
end
theorem m_X6_read {Z : (Nat → Nat) × (Nat → Nat)} {l : Launch} {D : va_G} {cA : Nat → ClassId} {ad : Nat → Nat} {b : Bool} {x1 : Int} {σ : St} {Q : Int → St → Prop} (hA : AdOk (NC b) ad) (c1 : C32 x1) (hσ : CanS (shC b) (NC b) σ) (h : wp_X6_read x1 σ Q) : KtV Z l D cA ad (shC b) (NC b) yX6_read cX6_read 3 none 9 [.ref (ad 3), vI x1] σ Q :=
  KtV.of my_X6_read hA [some (.ref (ad 3)), some (vI x1), none] (Nat.le_of_ble_eq_true rfl) rfl (fun p e s m args below meth c A0 E hr => t_X6_read E hr x1 σ c1 hσ h)
theorem dX4_take_0 : Dc cX4_take 0 (.aload_n 0) 1 1 := ⟨by decide +kernel, rfl⟩
theorem dX4_take_1 : Dc cX4_take 1 (.aload_n 1) 1 2 := ⟨by decide +kernel, rfl⟩
theorem dX4_take_2 : Dc cX4_take 2 (.getfield 43) 3 5 := ⟨by decide +kernel, rfl⟩
theorem dX4_take_5 : Dc cX4_take 5 (.putfield 43) 3 8 := ⟨by decide +kernel, rfl⟩
theorem dX4_take_8 : Dc cX4_take 8 (.aload_n 0) 1 9 := ⟨by decide +kernel, rfl⟩
theorem dX4_take_9 : Dc cX4_take 9 (.aload_n 1) 1 10 := ⟨by decide +kernel, rfl⟩
theorem dX4_take_10 : Dc cX4_take 10 (.getfield 47) 3 13 := ⟨by decide +kernel, rfl⟩
theorem dX4_take_13 : Dc cX4_take 13 (.putfield 47) 3 16 := ⟨by decide +kernel, rfl⟩
theorem dX4_take_16 : Dc cX4_take 16 (.aload_n 0) 1 17 := ⟨by decide +kernel, rfl⟩
theorem dX4_take_17 : Dc cX4_take 17 (.aload_n 1) 1 18 := ⟨by decide +kernel, rfl⟩
theorem dX4_take_18 : Dc cX4_take 18 (.getfield 50) 3 21 := ⟨by decide +kernel, rfl⟩
theorem dX4_take_21 : Dc cX4_take 21 (.putfield 50) 3 24 := ⟨by decide +kernel, rfl⟩
theorem dX4_take_24 : Dc cX4_take 24 (.aload_n 0) 1 25 := ⟨by decide +kernel, rfl⟩
theorem dX4_take_25 : Dc cX4_take 25 (.aload_n 1) 1 26 := ⟨by decide +kernel, rfl⟩
theorem dX4_take_26 : Dc cX4_take 26 (.getfield 53) 3 29 := ⟨by decide +kernel, rfl⟩
theorem dX4_take_29 : Dc cX4_take 29 (.putfield 53) 3 32 := ⟨by decide +kernel, rfl⟩
theorem dX4_take_32 : Dc cX4_take 32 (.iconst 0) 1 33 := ⟨by decide +kernel, rfl⟩
theorem dX4_take_33 : Dc cX4_take 33 (.istore_n 2) 1 34 := ⟨by decide +kernel, rfl⟩
theorem dX4_take_34 : Dc cX4_take 34 (.iload_n 2) 1 35 := ⟨by decide +kernel, rfl⟩
theorem dX4_take_35 : Dc cX4_take 35 (.bipush 40) 2 37 := ⟨by decide +kernel, rfl⟩
theorem djX4_take_37 : Dj cX4_take 37 (.if_icmp .ge 76) 3 40 76 113 := ⟨by decide +kernel, rfl, by decide⟩
theorem dX4_take_40 : Dc cX4_take 40 (.aload_n 0) 1 41 := ⟨by decide +kernel, rfl⟩
theorem dX4_take_41 : Dc cX4_take 41 (.getfield 9) 3 44 := ⟨by decide +kernel, rfl⟩
theorem dX4_take_44 : Dc cX4_take 44 (.iload_n 2) 1 45 := ⟨by decide +kernel, rfl⟩
theorem dX4_take_45 : Dc cX4_take 45 (.aload_n 1) 1 46 := ⟨by decide +kernel, rfl⟩
theorem dX4_take_46 : Dc cX4_take 46 (.getfield 9) 3 49 := ⟨by decide +kernel, rfl⟩
theorem dX4_take_49 : Dc cX4_take 49 (.iload_n 2) 1 50 := ⟨by decide +kernel, rfl⟩
theorem dX4_take_50 : Dc cX4_take 50 (.iaload) 1 51 := ⟨by decide +kernel, rfl⟩
theorem dX4_take_51 : Dc cX4_take 51 (.iastore) 1 52 := ⟨by decide +kernel, rfl⟩
theorem dX4_take_52 : Dc cX4_take 52 (.aload_n 0) 1 53 := ⟨by decide +kernel, rfl⟩
theorem dX4_take_53 : Dc cX4_take 53 (.getfield 15) 3 56 := ⟨by decide +kernel, rfl⟩
theorem dX4_take_56 : Dc cX4_take 56 (.iload_n 2) 1 57 := ⟨by decide +kernel, rfl⟩
theorem dX4_take_57 : Dc cX4_take 57 (.aload_n 1) 1 58 := ⟨by decide +kernel, rfl⟩
theorem dX4_take_58 : Dc cX4_take 58 (.getfield 15) 3 61 := ⟨by decide +kernel, rfl⟩
theorem dX4_take_61 : Dc cX4_take 61 (.iload_n 2) 1 62 := ⟨by decide +kernel, rfl⟩
theorem dX4_take_62 : Dc cX4_take 62 (.iaload) 1 63 := ⟨by decide +kernel, rfl⟩
theorem dX4_take_63 : Dc cX4_take 63 (.iastore) 1 64 := ⟨by decide +kernel, rfl⟩
theorem dX4_take_64 : Dc cX4_take 64 (.aload_n 0) 1 65 := ⟨by decide +kernel, rfl⟩
theorem dX4_take_65 : Dc cX4_take 65 (.getfield 18) 3 68 := ⟨by decide +kernel, rfl⟩
theorem dX4_take_68 : Dc cX4_take 68 (.iload_n 2) 1 69 := ⟨by decide +kernel, rfl⟩
theorem dX4_take_69 : Dc cX4_take 69 (.aload_n 1) 1 70 := ⟨by decide +kernel, rfl⟩
theorem dX4_take_70 : Dc cX4_take 70 (.getfield 18) 3 73 := ⟨by decide +kernel, rfl⟩
theorem dX4_take_73 : Dc cX4_take 73 (.iload_n 2) 1 74 := ⟨by decide +kernel, rfl⟩
theorem dX4_take_74 : Dc cX4_take 74 (.iaload) 1 75 := ⟨by decide +kernel, rfl⟩
theorem dX4_take_75 : Dc cX4_take 75 (.iastore) 1 76 := ⟨by decide +kernel, rfl⟩
theorem dX4_take_76 : Dc cX4_take 76 (.aload_n 0) 1 77 := ⟨by decide +kernel, rfl⟩
theorem dX4_take_77 : Dc cX4_take 77 (.getfield 21) 3 80 := ⟨by decide +kernel, rfl⟩
theorem dX4_take_80 : Dc cX4_take 80 (.iload_n 2) 1 81 := ⟨by decide +kernel, rfl⟩
theorem dX4_take_81 : Dc cX4_take 81 (.aload_n 1) 1 82 := ⟨by decide +kernel, rfl⟩
theorem dX4_take_82 : Dc cX4_take 82 (.getfield 21) 3 85 := ⟨by decide +kernel, rfl⟩
theorem dX4_take_85 : Dc cX4_take 85 (.iload_n 2) 1 86 := ⟨by decide +kernel, rfl⟩
theorem dX4_take_86 : Dc cX4_take 86 (.iaload) 1 87 := ⟨by decide +kernel, rfl⟩
theorem dX4_take_87 : Dc cX4_take 87 (.iastore) 1 88 := ⟨by decide +kernel, rfl⟩
theorem dX4_take_88 : Dc cX4_take 88 (.aload_n 0) 1 89 := ⟨by decide +kernel, rfl⟩
theorem dX4_take_89 : Dc cX4_take 89 (.getfield 24) 3 92 := ⟨by decide +kernel, rfl⟩
theorem dX4_take_92 : Dc cX4_take 92 (.iload_n 2) 1 93 := ⟨by decide +kernel, rfl⟩
theorem dX4_take_93 : Dc cX4_take 93 (.aload_n 1) 1 94 := ⟨by decide +kernel, rfl⟩
theorem dX4_take_94 : Dc cX4_take 94 (.getfield 24) 3 97 := ⟨by decide +kernel, rfl⟩
theorem dX4_take_97 : Dc cX4_take 97 (.iload_n 2) 1 98 := ⟨by decide +kernel, rfl⟩
theorem dX4_take_98 : Dc cX4_take 98 (.iaload) 1 99 := ⟨by decide +kernel, rfl⟩
theorem dX4_take_99 : Dc cX4_take 99 (.iastore) 1 100 := ⟨by decide +kernel, rfl⟩
theorem dX4_take_100 : Dc cX4_take 100 (.aload_n 0) 1 101 := ⟨by decide +kernel, rfl⟩
theorem dX4_take_101 : Dc cX4_take 101 (.getfield 27) 3 104 := ⟨by decide +kernel, rfl⟩
theorem dX4_take_104 : Dc cX4_take 104 (.iload_n 2) 1 105 := ⟨by decide +kernel, rfl⟩
theorem dX4_take_105 : Dc cX4_take 105 (.iconst 0) 1 106 := ⟨by decide +kernel, rfl⟩
theorem dX4_take_106 : Dc cX4_take 106 (.bastore) 1 107 := ⟨by decide +kernel, rfl⟩
theorem dX4_take_107 : Dc cX4_take 107 (.iinc 2 1) 3 110 := ⟨by decide +kernel, rfl⟩
theorem djX4_take_110 : Dj cX4_take 110 (.goto (-76)) 3 113 (-76) 34 := ⟨by decide +kernel, rfl, by decide⟩
theorem dX4_take_113 : Dc cX4_take 113 (.iconst 0) 1 114 := ⟨by decide +kernel, rfl⟩
theorem dX4_take_114 : Dc cX4_take 114 (.istore_n 2) 1 115 := ⟨by decide +kernel, rfl⟩
theorem dX4_take_115 : Dc cX4_take 115 (.iload_n 2) 1 116 := ⟨by decide +kernel, rfl⟩
theorem dX4_take_116 : Dc cX4_take 116 (.bipush 25) 2 118 := ⟨by decide +kernel, rfl⟩
theorem djX4_take_118 : Dj cX4_take 118 (.if_icmp .ge 33) 3 121 33 151 := ⟨by decide +kernel, rfl, by decide⟩
theorem dX4_take_121 : Dc cX4_take 121 (.aload_n 0) 1 122 := ⟨by decide +kernel, rfl⟩
theorem dX4_take_122 : Dc cX4_take 122 (.getfield 31) 3 125 := ⟨by decide +kernel, rfl⟩
theorem dX4_take_125 : Dc cX4_take 125 (.iload_n 2) 1 126 := ⟨by decide +kernel, rfl⟩
theorem dX4_take_126 : Dc cX4_take 126 (.aload_n 1) 1 127 := ⟨by decide +kernel, rfl⟩
theorem dX4_take_127 : Dc cX4_take 127 (.getfield 31) 3 130 := ⟨by decide +kernel, rfl⟩
theorem dX4_take_130 : Dc cX4_take 130 (.iload_n 2) 1 131 := ⟨by decide +kernel, rfl⟩
theorem dX4_take_131 : Dc cX4_take 131 (.iaload) 1 132 := ⟨by decide +kernel, rfl⟩
theorem dX4_take_132 : Dc cX4_take 132 (.iastore) 1 133 := ⟨by decide +kernel, rfl⟩
theorem dX4_take_133 : Dc cX4_take 133 (.aload_n 0) 1 134 := ⟨by decide +kernel, rfl⟩
theorem dX4_take_134 : Dc cX4_take 134 (.getfield 34) 3 137 := ⟨by decide +kernel, rfl⟩
theorem dX4_take_137 : Dc cX4_take 137 (.iload_n 2) 1 138 := ⟨by decide +kernel, rfl⟩
theorem dX4_take_138 : Dc cX4_take 138 (.aload_n 1) 1 139 := ⟨by decide +kernel, rfl⟩
theorem dX4_take_139 : Dc cX4_take 139 (.getfield 34) 3 142 := ⟨by decide +kernel, rfl⟩
theorem dX4_take_142 : Dc cX4_take 142 (.iload_n 2) 1 143 := ⟨by decide +kernel, rfl⟩
theorem dX4_take_143 : Dc cX4_take 143 (.iaload) 1 144 := ⟨by decide +kernel, rfl⟩
theorem dX4_take_144 : Dc cX4_take 144 (.iastore) 1 145 := ⟨by decide +kernel, rfl⟩
theorem dX4_take_145 : Dc cX4_take 145 (.iinc 2 1) 3 148 := ⟨by decide +kernel, rfl⟩
theorem djX4_take_148 : Dj cX4_take 148 (.goto (-33)) 3 151 (-33) 115 := ⟨by decide +kernel, rfl, by decide⟩
theorem dX4_take_151 : Dc cX4_take 151 (.return_) 1 152 := ⟨by decide +kernel, rfl⟩
section
variable {p : Program} {l : Launch} {e : Env} {s : State} {m : MethodId} {args : Array Value} {below : List Frame} {meth : Method} {c : Code} {A0 : Nat → Prop} {D : va_G} {cA : Nat → ClassId} {ad : Nat → Nat} {Z : (Nat → Nat) × (Nat → Nat)} {Q : Int → St → Prop} {b : Bool}
set_option maxHeartbeats 4000000 in
set_option maxRecDepth 100000 in
theorem t_X4_take_c4_l115 (E : Ev p s m args meth c cX4_take 3 RX4 A0 D cA ad (NC b) Z) (hr : meth.sig.returnType = none) : ∀ (n : Nat) (x2 : Int) (σ : St), C32 x2 → CanS (shC b) (NC b) σ → wp_X4_take_c4_l115 Q n x2 σ → G p l e (rmL 1 0 0) s m args below meth c 3 A0 D cA ad (shC b) (NC b) 0 0 (MQ below (QVc D cA ad (shC b) (NC b) Q A0) args s 0 0 A0) σ 115 [some (.ref (ad 14)), some (.ref (ad 4)), some (vI x2)] [] := by
  intro n
  induction n with
  | zero => intro _ _ _ _ h; exact h.elim
  | succ n ih =>
    intro x2 σ c2 hσ h
    unfold wp_X4_take_c4_l115 at h
    refine g_iload_2 E dX4_take_115 ?_
    refine g_bipush E (by decide) dX4_take_116 ?_
    refine g_icmp_ge E c2 cl_25 djX4_take_118 (fun hc => ?_) (fun hc => ?_)
    · replace h := h.1 hc
      exact g_vret E hr h hσ dX4_take_151
    · replace h := h.2 hc
      refine g_aload_0 E dX4_take_121 ?_
      refine g_getR E fl_RX4_31 (kC_14 b) (sC_14 b) rfl dX4_take_122 ?_
      refine g_iload_2 E dX4_take_125 ?_
      refine g_aload_1 E dX4_take_126 ?_
      refine g_getR E fl_RX4_31 (kC_4 b) (sC_4 b) rfl dX4_take_127 ?_
      refine g_iload_2 E dX4_take_130 ?_
      refine g_iald E (kC_11 b) (sC_11 b) (by decide) h.1 dX4_take_131 ?_
      replace h := h.2
      refine g_iast E (kC_21 b) (sC_21 b) (by decide) h.1 dX4_take_132 (g_nmS (fun σ12 eσ12 => ?_))
      replace h := h.2 σ12 eσ12
      have hσ12 : CanS (shC b) (NC b) σ12 := by rw [eσ12]; exact wC_21 hσ (aC_11 hσ _)
      refine g_aload_0 E dX4_take_133 ?_
      refine g_getR E fl_RX4_34 (kC_14 b) (sC_14 b) rfl dX4_take_134 ?_
      refine g_iload_2 E dX4_take_137 ?_
      refine g_aload_1 E dX4_take_138 ?_
      refine g_getR E fl_RX4_34 (kC_4 b) (sC_4 b) rfl dX4_take_139 ?_
      refine g_iload_2 E dX4_take_142 ?_
      refine g_iald E (kC_12 b) (sC_12 b) (by decide) h.1 dX4_take_143 ?_
      replace h := h.2
      refine g_iast E (kC_22 b) (sC_22 b) (by decide) h.1 dX4_take_144 (g_nmS (fun σ13 eσ13 => ?_))
      replace h := h.2 σ13 eσ13
      have hσ13 : CanS (shC b) (NC b) σ13 := by rw [eσ13]; exact wC_22 hσ12 (aC_12 hσ12 _)
      refine g_iinc_2 E rfl (by decide) dX4_take_145 (fun v14 ev14 => ?_)
      replace h := h v14 ev14
      have cv14 : C32 v14 := by rw [ev14]; exact c32_w _
      refine g_goto E djX4_take_148 ?_
      exact (ih v14 σ13 cv14 hσ13 h).weak (w_k (w_k (w_k w_n)))
set_option maxHeartbeats 4000000 in
set_option maxRecDepth 100000 in
theorem t_X4_take_c4_l34 (E : Ev p s m args meth c cX4_take 3 RX4 A0 D cA ad (NC b) Z) (hr : meth.sig.returnType = none) : ∀ (n : Nat) (x2 : Int) (σ : St), C32 x2 → CanS (shC b) (NC b) σ → wp_X4_take_c4_l34 Q n x2 σ → G p l e (rmL 1 0 0) s m args below meth c 3 A0 D cA ad (shC b) (NC b) 0 0 (MQ below (QVc D cA ad (shC b) (NC b) Q A0) args s 0 0 A0) σ 34 [some (.ref (ad 14)), some (.ref (ad 4)), some (vI x2)] [] := by
  intro n
  induction n with
  | zero => intro _ _ _ _ h; exact h.elim
  | succ n ih =>
    intro x2 σ c2 hσ h
    unfold wp_X4_take_c4_l34 at h
    refine g_iload_2 E dX4_take_34 ?_
    refine g_bipush E (by decide) dX4_take_35 ?_
    refine g_icmp_ge E c2 cl_40 djX4_take_37 (fun hc => ?_) (fun hc => ?_)
    · replace h := h.1 hc
      refine g_iconst E dX4_take_113 ?_
      refine g_istore_2 E rfl (by decide) dX4_take_114 ?_
      exact (t_X4_take_c4_l115 E hr bigN 0 σ cl_0 hσ h).weak (w_k (w_k (w_k w_n)))
    · replace h := h.2 hc
      refine g_aload_0 E dX4_take_40 ?_
      refine g_getR E fl_RX4_9 (kC_14 b) (sC_14 b) rfl dX4_take_41 ?_
      refine g_iload_2 E dX4_take_44 ?_
      refine g_aload_1 E dX4_take_45 ?_
      refine g_getR E fl_RX4_9 (kC_4 b) (sC_4 b) rfl dX4_take_46 ?_
      refine g_iload_2 E dX4_take_49 ?_
      refine g_iald E (kC_5 b) (sC_5 b) (by decide) h.1 dX4_take_50 ?_
      replace h := h.2
      refine g_iast E (kC_15 b) (sC_15 b) (by decide) h.1 dX4_take_51 (g_nmS (fun σ5 eσ5 => ?_))
      replace h := h.2 σ5 eσ5
      have hσ5 : CanS (shC b) (NC b) σ5 := by rw [eσ5]; exact wC_15 hσ (aC_5 hσ _)
      refine g_aload_0 E dX4_take_52 ?_
      refine g_getR E fl_RX4_15 (kC_14 b) (sC_14 b) rfl dX4_take_53 ?_
      refine g_iload_2 E dX4_take_56 ?_
      refine g_aload_1 E dX4_take_57 ?_
      refine g_getR E fl_RX4_15 (kC_4 b) (sC_4 b) rfl dX4_take_58 ?_
      refine g_iload_2 E dX4_take_61 ?_
      refine g_iald E (kC_6 b) (sC_6 b) (by decide) h.1 dX4_take_62 ?_
      replace h := h.2
      refine g_iast E (kC_16 b) (sC_16 b) (by decide) h.1 dX4_take_63 (g_nmS (fun σ6 eσ6 => ?_))
      replace h := h.2 σ6 eσ6
      have hσ6 : CanS (shC b) (NC b) σ6 := by rw [eσ6]; exact wC_16 hσ5 (aC_6 hσ5 _)
      refine g_aload_0 E dX4_take_64 ?_
      refine g_getR E fl_RX4_18 (kC_14 b) (sC_14 b) rfl dX4_take_65 ?_
      refine g_iload_2 E dX4_take_68 ?_
      refine g_aload_1 E dX4_take_69 ?_
      refine g_getR E fl_RX4_18 (kC_4 b) (sC_4 b) rfl dX4_take_70 ?_
      refine g_iload_2 E dX4_take_73 ?_
      refine g_iald E (kC_7 b) (sC_7 b) (by decide) h.1 dX4_take_74 ?_
      replace h := h.2
      refine g_iast E (kC_17 b) (sC_17 b) (by decide) h.1 dX4_take_75 (g_nmS (fun σ7 eσ7 => ?_))
      replace h := h.2 σ7 eσ7
      have hσ7 : CanS (shC b) (NC b) σ7 := by rw [eσ7]; exact wC_17 hσ6 (aC_7 hσ6 _)
      refine g_aload_0 E dX4_take_76 ?_
      refine g_getR E fl_RX4_21 (kC_14 b) (sC_14 b) rfl dX4_take_77 ?_
      refine g_iload_2 E dX4_take_80 ?_
      refine g_aload_1 E dX4_take_81 ?_
      refine g_getR E fl_RX4_21 (kC_4 b) (sC_4 b) rfl dX4_take_82 ?_
      refine g_iload_2 E dX4_take_85 ?_
      refine g_iald E (kC_8 b) (sC_8 b) (by decide) h.1 dX4_take_86 ?_
      replace h := h.2
      refine g_iast E (kC_18 b) (sC_18 b) (by decide) h.1 dX4_take_87 (g_nmS (fun σ8 eσ8 => ?_))
      replace h := h.2 σ8 eσ8
      have hσ8 : CanS (shC b) (NC b) σ8 := by rw [eσ8]; exact wC_18 hσ7 (aC_8 hσ7 _)
      refine g_aload_0 E dX4_take_88 ?_
      refine g_getR E fl_RX4_24 (kC_14 b) (sC_14 b) rfl dX4_take_89 ?_
      refine g_iload_2 E dX4_take_92 ?_
      refine g_aload_1 E dX4_take_93 ?_
      refine g_getR E fl_RX4_24 (kC_4 b) (sC_4 b) rfl dX4_take_94 ?_
      refine g_iload_2 E dX4_take_97 ?_
      refine g_iald E (kC_9 b) (sC_9 b) (by decide) h.1 dX4_take_98 ?_
      replace h := h.2
      refine g_iast E (kC_19 b) (sC_19 b) (by decide) h.1 dX4_take_99 (g_nmS (fun σ9 eσ9 => ?_))
      replace h := h.2 σ9 eσ9
      have hσ9 : CanS (shC b) (NC b) σ9 := by rw [eσ9]; exact wC_19 hσ8 (aC_9 hσ8 _)
      refine g_aload_0 E dX4_take_100 ?_
      refine g_getR E fl_RX4_27 (kC_14 b) (sC_14 b) rfl dX4_take_101 ?_
      refine g_iload_2 E dX4_take_104 ?_
      refine g_iconst E dX4_take_105 ?_
      refine g_zast E (kC_20 b) (sC_20 b) (by decide) h.1 dX4_take_106 (g_nmS (fun σ10 eσ10 => ?_))
      replace h := h.2 σ10 eσ10
      have hσ10 : CanS (shC b) (NC b) σ10 := by rw [eσ10]; exact wC_20 hσ9 (c32_t _)
      refine g_iinc_2 E rfl (by decide) dX4_take_107 (fun v11 ev11 => ?_)
      replace h := h v11 ev11
      have cv11 : C32 v11 := by rw [ev11]; exact c32_w _
      refine g_goto E djX4_take_110 ?_
      exact (ih v11 σ10 cv11 hσ10 h).weak (w_k (w_k (w_k w_n)))
set_option maxHeartbeats 4000000 in
set_option maxRecDepth 100000 in
theorem t_X4_take_c4 (E : Ev p s m args meth c cX4_take 3 RX4 A0 D cA ad (NC b) Z) (hr : meth.sig.returnType = none) (σ : St) (hσ : CanS (shC b) (NC b) σ) (h : wp_X4_take_c4  σ Q) : G p l e (rmL 1 0 0) s m args below meth c 3 A0 D cA ad (shC b) (NC b) 0 0 (MQ below (QVc D cA ad (shC b) (NC b) Q A0) args s 0 0 A0) σ 0 [some (.ref (ad 14)), some (.ref (ad 4)), none] [] := by
  unfold wp_X4_take_c4 at h
  refine g_aload_0 E dX4_take_0 ?_
  refine g_aload_1 E dX4_take_1 ?_
  refine g_getI E fl_RX4_43 (kC_4 b) (sC_4 b) rfl dX4_take_2 ?_
  refine g_putI E fl_RX4_43 rfl rfl (kC_14 b) (sC_14 b) rfl dX4_take_5 (g_nmS (fun σ1 eσ1 => ?_))
  replace h := h σ1 eσ1
  have hσ1 : CanS (shC b) (NC b) σ1 := by rw [eσ1]; exact uC_14_0 hσ (fC_4_0 hσ)
  refine g_aload_0 E dX4_take_8 ?_
  refine g_aload_1 E dX4_take_9 ?_
  refine g_getI E fl_RX4_47 (kC_4 b) (sC_4 b) rfl dX4_take_10 ?_
  refine g_putI E fl_RX4_47 rfl rfl (kC_14 b) (sC_14 b) rfl dX4_take_13 (g_nmS (fun σ2 eσ2 => ?_))
  replace h := h σ2 eσ2
  have hσ2 : CanS (shC b) (NC b) σ2 := by rw [eσ2]; exact uC_14_7 hσ1 (fC_4_7 hσ1)
  refine g_aload_0 E dX4_take_16 ?_
  refine g_aload_1 E dX4_take_17 ?_
  refine g_getI E fl_RX4_50 (kC_4 b) (sC_4 b) rfl dX4_take_18 ?_
  refine g_putI E fl_RX4_50 rfl rfl (kC_14 b) (sC_14 b) rfl dX4_take_21 (g_nmS (fun σ3 eσ3 => ?_))
  replace h := h σ3 eσ3
  have hσ3 : CanS (shC b) (NC b) σ3 := by rw [eσ3]; exact uC_14_8 hσ2 (fC_4_8 hσ2)
  refine g_aload_0 E dX4_take_24 ?_
  refine g_aload_1 E dX4_take_25 ?_
  refine g_getI E fl_RX4_53 (kC_4 b) (sC_4 b) rfl dX4_take_26 ?_
  refine g_putI E fl_RX4_53 rfl rfl (kC_14 b) (sC_14 b) rfl dX4_take_29 (g_nmS (fun σ4 eσ4 => ?_))
  replace h := h σ4 eσ4
  have hσ4 : CanS (shC b) (NC b) σ4 := by rw [eσ4]; exact uC_14_9 hσ3 (fC_4_9 hσ3)
  refine g_iconst E dX4_take_32 ?_
  refine g_istore_2 E rfl (by decide) dX4_take_33 ?_
  exact (t_X4_take_c4_l34 E hr bigN 0 σ4 cl_0 hσ4 h).weak (w_k (w_k (w_k w_n)))
end
theorem m_X4_take_c4 {Z : (Nat → Nat) × (Nat → Nat)} {l : Launch} {D : va_G} {cA : Nat → ClassId} {ad : Nat → Nat} {b : Bool} {σ : St} {Q : Int → St → Prop} (hA : AdOk (NC b) ad) (hσ : CanS (shC b) (NC b) σ) (h : wp_X4_take_c4  σ Q) : KtV Z l D cA ad (shC b) (NC b) yX4_take cX4_take 3 none 1 [.ref (ad 14), .ref (ad 4)] σ Q :=
  KtV.of my_X4_take hA [some (.ref (ad 14)), some (.ref (ad 4)), none] (Nat.le_of_ble_eq_true rfl) rfl (fun p e s m args below meth c A0 E hr => t_X4_take_c4 E hr σ hσ h)
theorem dX0_forget_0 : Dc cX0_forget 0 (.aload_n 0) 1 1 := ⟨by decide +kernel, rfl⟩
theorem dX0_forget_1 : Dc cX0_forget 1 (.iconst 0) 1 2 := ⟨by decide +kernel, rfl⟩
theorem dX0_forget_2 : Dc cX0_forget 2 (.putfield 59) 3 5 := ⟨by decide +kernel, rfl⟩
theorem dX0_forget_5 : Dc cX0_forget 5 (.return_) 1 6 := ⟨by decide +kernel, rfl⟩
section
variable {p : Program} {l : Launch} {e : Env} {s : State} {m : MethodId} {args : Array Value} {below : List Frame} {meth : Method} {c : Code} {A0 : Nat → Prop} {D : va_G} {cA : Nat → ClassId} {ad : Nat → Nat} {Z : (Nat → Nat) × (Nat → Nat)} {Q : Int → St → Prop} {b : Bool}
set_option maxHeartbeats 4000000 in
set_option maxRecDepth 100000 in
theorem t_X0_forget (E : Ev p s m args meth c cX0_forget 1 RX0 A0 D cA ad (NC b) Z) (hr : meth.sig.returnType = none) (σ : St) (hσ : CanS (shC b) (NC b) σ) (h : wp_X0_forget  σ Q) : G p l e (rmL 1 0 0) s m args below meth c 1 A0 D cA ad (shC b) (NC b) 0 0 (MQ below (QVc D cA ad (shC b) (NC b) Q A0) args s 0 0 A0) σ 0 [some (.ref (ad 24))] [] := by
  unfold wp_X0_forget at h
  refine g_aload_0 E dX0_forget_0 ?_
  refine g_iconst E dX0_forget_1 ?_
  refine g_putZ E fl_RX0_59 rfl rfl (Or.inl rfl) (kC_24 b) (sC_24 b) rfl dX0_forget_2 (g_nmS (fun σ1 eσ1 => ?_))
  replace h := h σ1 eσ1
  have hσ1 : CanS (shC b) (NC b) σ1 := by rw [eσ1]; exact uC_24_17 hσ cl_0
  exact g_vret E hr h hσ1 dX0_forget_5
end
theorem m_X0_forget {Z : (Nat → Nat) × (Nat → Nat)} {l : Launch} {D : va_G} {cA : Nat → ClassId} {ad : Nat → Nat} {b : Bool} {σ : St} {Q : Int → St → Prop} (hA : AdOk (NC b) ad) (hσ : CanS (shC b) (NC b) σ) (h : wp_X0_forget  σ Q) : KtV Z l D cA ad (shC b) (NC b) yX0_forget cX0_forget 1 none 1 [.ref (ad 24)] σ Q :=
  KtV.of my_X0_forget hA [some (.ref (ad 24))] (Nat.le_of_ble_eq_true rfl) rfl (fun p e s m args below meth c A0 E hr => t_X0_forget E hr σ hσ h)
theorem dX2_forget_0 : Dc cX2_forget 0 (.aload_n 0) 1 1 := ⟨by decide +kernel, rfl⟩
theorem dX2_forget_1 : Dc cX2_forget 1 (.iconst 0) 1 2 := ⟨by decide +kernel, rfl⟩
theorem dX2_forget_2 : Dc cX2_forget 2 (.putfield 33) 3 5 := ⟨by decide +kernel, rfl⟩
theorem dX2_forget_5 : Dc cX2_forget 5 (.aload_n 0) 1 6 := ⟨by decide +kernel, rfl⟩
theorem dX2_forget_6 : Dc cX2_forget 6 (.iconst 0) 1 7 := ⟨by decide +kernel, rfl⟩
theorem dX2_forget_7 : Dc cX2_forget 7 (.putfield 37) 3 10 := ⟨by decide +kernel, rfl⟩
theorem dX2_forget_10 : Dc cX2_forget 10 (.aload_n 0) 1 11 := ⟨by decide +kernel, rfl⟩
theorem dX2_forget_11 : Dc cX2_forget 11 (.iconst 0) 1 12 := ⟨by decide +kernel, rfl⟩
theorem dX2_forget_12 : Dc cX2_forget 12 (.putfield 40) 3 15 := ⟨by decide +kernel, rfl⟩
theorem dX2_forget_15 : Dc cX2_forget 15 (.return_) 1 16 := ⟨by decide +kernel, rfl⟩
section
variable {p : Program} {l : Launch} {e : Env} {s : State} {m : MethodId} {args : Array Value} {below : List Frame} {meth : Method} {c : Code} {A0 : Nat → Prop} {D : va_G} {cA : Nat → ClassId} {ad : Nat → Nat} {Z : (Nat → Nat) × (Nat → Nat)} {Q : Int → St → Prop} {b : Bool}
set_option maxHeartbeats 4000000 in
set_option maxRecDepth 100000 in
theorem t_X2_forget (E : Ev p s m args meth c cX2_forget 1 RX2 A0 D cA ad (NC b) Z) (hr : meth.sig.returnType = none) (σ : St) (hσ : CanS (shC b) (NC b) σ) (h : wp_X2_forget  σ Q) : G p l e (rmL 1 0 0) s m args below meth c 1 A0 D cA ad (shC b) (NC b) 0 0 (MQ below (QVc D cA ad (shC b) (NC b) Q A0) args s 0 0 A0) σ 0 [some (.ref (ad 41))] [] := by
  unfold wp_X2_forget at h
  refine g_aload_0 E dX2_forget_0 ?_
  refine g_iconst E dX2_forget_1 ?_
  refine g_putZ E fl_RX2_33 rfl rfl (Or.inl rfl) (kC_41 b) (sC_41 b) rfl dX2_forget_2 (g_nmS (fun σ1 eσ1 => ?_))
  replace h := h σ1 eσ1
  have hσ1 : CanS (shC b) (NC b) σ1 := by rw [eσ1]; exact uC_41_6 hσ cl_0
  refine g_aload_0 E dX2_forget_5 ?_
  refine g_iconst E dX2_forget_6 ?_
  refine g_putZ E fl_RX2_37 rfl rfl (Or.inl rfl) (kC_41 b) (sC_41 b) rfl dX2_forget_7 (g_nmS (fun σ2 eσ2 => ?_))
  replace h := h σ2 eσ2
  have hσ2 : CanS (shC b) (NC b) σ2 := by rw [eσ2]; exact uC_41_7 hσ1 cl_0
  refine g_aload_0 E dX2_forget_10 ?_
  refine g_iconst E dX2_forget_11 ?_
  refine g_putZ E fl_RX2_40 rfl rfl (Or.inl rfl) (kC_41 b) (sC_41 b) rfl dX2_forget_12 (g_nmS (fun σ3 eσ3 => ?_))
  replace h := h σ3 eσ3
  have hσ3 : CanS (shC b) (NC b) σ3 := by rw [eσ3]; exact uC_41_8 hσ2 cl_0
  exact g_vret E hr h hσ3 dX2_forget_15
end
theorem m_X2_forget {Z : (Nat → Nat) × (Nat → Nat)} {l : Launch} {D : va_G} {cA : Nat → ClassId} {ad : Nat → Nat} {b : Bool} {σ : St} {Q : Int → St → Prop} (hA : AdOk (NC b) ad) (hσ : CanS (shC b) (NC b) σ) (h : wp_X2_forget  σ Q) : KtV Z l D cA ad (shC b) (NC b) yX2_forget cX2_forget 1 none 1 [.ref (ad 41)] σ Q :=
  KtV.of my_X2_forget hA [some (.ref (ad 41))] (Nat.le_of_ble_eq_true rfl) rfl (fun p e s m args below meth c A0 E hr => t_X2_forget E hr σ hσ h)
theorem dX9_forget_0 : Dc cX9_forget 0 (.aload_n 0) 1 1 := ⟨by decide +kernel, rfl⟩
theorem dX9_forget_1 : Dc cX9_forget 1 (.iconst 0) 1 2 := ⟨by decide +kernel, rfl⟩
theorem dX9_forget_2 : Dc cX9_forget 2 (.putfield 30) 3 5 := ⟨by decide +kernel, rfl⟩
theorem dX9_forget_5 : Dc cX9_forget 5 (.return_) 1 6 := ⟨by decide +kernel, rfl⟩
section
variable {p : Program} {l : Launch} {e : Env} {s : State} {m : MethodId} {args : Array Value} {below : List Frame} {meth : Method} {c : Code} {A0 : Nat → Prop} {D : va_G} {cA : Nat → ClassId} {ad : Nat → Nat} {Z : (Nat → Nat) × (Nat → Nat)} {Q : Int → St → Prop} {b : Bool}
set_option maxHeartbeats 4000000 in
set_option maxRecDepth 100000 in
theorem t_X9_forget (E : Ev p s m args meth c cX9_forget 1 RX9 A0 D cA ad (NC b) Z) (hr : meth.sig.returnType = none) (σ : St) (hσ : CanS (shC b) (NC b) σ) (h : wp_X9_forget  σ Q) : G p l e (rmL 1 0 0) s m args below meth c 1 A0 D cA ad (shC b) (NC b) 0 0 (MQ below (QVc D cA ad (shC b) (NC b) Q A0) args s 0 0 A0) σ 0 [some (.ref (ad 50))] [] := by
  unfold wp_X9_forget at h
  refine g_aload_0 E dX9_forget_0 ?_
  refine g_iconst E dX9_forget_1 ?_
  refine g_putZ E fl_RX9_30 rfl rfl (Or.inl rfl) (kC_50 b) (sC_50 b) rfl dX9_forget_2 (g_nmS (fun σ1 eσ1 => ?_))
  replace h := h σ1 eσ1
  have hσ1 : CanS (shC b) (NC b) σ1 := by rw [eσ1]; exact uC_50_6 hσ cl_0
  exact g_vret E hr h hσ1 dX9_forget_5
end
theorem m_X9_forget {Z : (Nat → Nat) × (Nat → Nat)} {l : Launch} {D : va_G} {cA : Nat → ClassId} {ad : Nat → Nat} {b : Bool} {σ : St} {Q : Int → St → Prop} (hA : AdOk (NC b) ad) (hσ : CanS (shC b) (NC b) σ) (h : wp_X9_forget  σ Q) : KtV Z l D cA ad (shC b) (NC b) yX9_forget cX9_forget 1 none 1 [.ref (ad 50)] σ Q :=
  KtV.of my_X9_forget hA [some (.ref (ad 50))] (Nat.le_of_ble_eq_true rfl) rfl (fun p e s m args below meth c A0 E hr => t_X9_forget E hr σ hσ h)
theorem dX1_forget_0 : Dc cX1_forget 0 (.aload_n 0) 1 1 := ⟨by decide +kernel, rfl⟩
theorem dX1_forget_1 : Dc cX1_forget 1 (.iconst 0) 1 2 := ⟨by decide +kernel, rfl⟩
theorem dX1_forget_2 : Dc cX1_forget 2 (.putfield 32) 3 5 := ⟨by decide +kernel, rfl⟩
theorem dX1_forget_5 : Dc cX1_forget 5 (.aload_n 0) 1 6 := ⟨by decide +kernel, rfl⟩
theorem dX1_forget_6 : Dc cX1_forget 6 (.iconst 0) 1 7 := ⟨by decide +kernel, rfl⟩
theorem dX1_forget_7 : Dc cX1_forget 7 (.putfield 36) 3 10 := ⟨by decide +kernel, rfl⟩
theorem dX1_forget_10 : Dc cX1_forget 10 (.aload_n 0) 1 11 := ⟨by decide +kernel, rfl⟩
theorem dX1_forget_11 : Dc cX1_forget 11 (.iconst 0) 1 12 := ⟨by decide +kernel, rfl⟩
theorem dX1_forget_12 : Dc cX1_forget 12 (.putfield 39) 3 15 := ⟨by decide +kernel, rfl⟩
theorem dX1_forget_15 : Dc cX1_forget 15 (.return_) 1 16 := ⟨by decide +kernel, rfl⟩
section
variable {p : Program} {l : Launch} {e : Env} {s : State} {m : MethodId} {args : Array Value} {below : List Frame} {meth : Method} {c : Code} {A0 : Nat → Prop} {D : va_G} {cA : Nat → ClassId} {ad : Nat → Nat} {Z : (Nat → Nat) × (Nat → Nat)} {Q : Int → St → Prop} {b : Bool}
set_option maxHeartbeats 4000000 in
set_option maxRecDepth 100000 in
theorem t_X1_forget (E : Ev p s m args meth c cX1_forget 1 RX1 A0 D cA ad (NC b) Z) (hr : meth.sig.returnType = none) (σ : St) (hσ : CanS (shC b) (NC b) σ) (h : wp_X1_forget  σ Q) : G p l e (rmL 1 0 0) s m args below meth c 1 A0 D cA ad (shC b) (NC b) 0 0 (MQ below (QVc D cA ad (shC b) (NC b) Q A0) args s 0 0 A0) σ 0 [some (.ref (ad 36))] [] := by
  unfold wp_X1_forget at h
  refine g_aload_0 E dX1_forget_0 ?_
  refine g_iconst E dX1_forget_1 ?_
  refine g_putZ E fl_RX1_32 rfl rfl (Or.inl rfl) (kC_36 b) (sC_36 b) rfl dX1_forget_2 (g_nmS (fun σ1 eσ1 => ?_))
  replace h := h σ1 eσ1
  have hσ1 : CanS (shC b) (NC b) σ1 := by rw [eσ1]; exact uC_36_7 hσ cl_0
  refine g_aload_0 E dX1_forget_5 ?_
  refine g_iconst E dX1_forget_6 ?_
  refine g_putZ E fl_RX1_36 rfl rfl (Or.inl rfl) (kC_36 b) (sC_36 b) rfl dX1_forget_7 (g_nmS (fun σ2 eσ2 => ?_))
  replace h := h σ2 eσ2
  have hσ2 : CanS (shC b) (NC b) σ2 := by rw [eσ2]; exact uC_36_8 hσ1 cl_0
  refine g_aload_0 E dX1_forget_10 ?_
  refine g_iconst E dX1_forget_11 ?_
  refine g_putZ E fl_RX1_39 rfl rfl (Or.inl rfl) (kC_36 b) (sC_36 b) rfl dX1_forget_12 (g_nmS (fun σ3 eσ3 => ?_))
  replace h := h σ3 eσ3
  have hσ3 : CanS (shC b) (NC b) σ3 := by rw [eσ3]; exact uC_36_9 hσ2 cl_0
  exact g_vret E hr h hσ3 dX1_forget_15
end
theorem m_X1_forget {Z : (Nat → Nat) × (Nat → Nat)} {l : Launch} {D : va_G} {cA : Nat → ClassId} {ad : Nat → Nat} {b : Bool} {σ : St} {Q : Int → St → Prop} (hA : AdOk (NC b) ad) (hσ : CanS (shC b) (NC b) σ) (h : wp_X1_forget  σ Q) : KtV Z l D cA ad (shC b) (NC b) yX1_forget cX1_forget 1 none 1 [.ref (ad 36)] σ Q :=
  KtV.of my_X1_forget hA [some (.ref (ad 36))] (Nat.le_of_ble_eq_true rfl) rfl (fun p e s m args below meth c A0 E hr => t_X1_forget E hr σ hσ h)
theorem dX7_forget_0 : Dc cX7_forget 0 (.aload_n 0) 1 1 := ⟨by decide +kernel, rfl⟩
theorem dX7_forget_1 : Dc cX7_forget 1 (.iconst 0) 1 2 := ⟨by decide +kernel, rfl⟩
theorem dX7_forget_2 : Dc cX7_forget 2 (.putfield 37) 3 5 := ⟨by decide +kernel, rfl⟩
theorem dX7_forget_5 : Dc cX7_forget 5 (.return_) 1 6 := ⟨by decide +kernel, rfl⟩
section
variable {p : Program} {l : Launch} {e : Env} {s : State} {m : MethodId} {args : Array Value} {below : List Frame} {meth : Method} {c : Code} {A0 : Nat → Prop} {D : va_G} {cA : Nat → ClassId} {ad : Nat → Nat} {Z : (Nat → Nat) × (Nat → Nat)} {Q : Int → St → Prop} {b : Bool}
set_option maxHeartbeats 4000000 in
set_option maxRecDepth 100000 in
theorem t_X7_forget (E : Ev p s m args meth c cX7_forget 1 RX7 A0 D cA ad (NC b) Z) (hr : meth.sig.returnType = none) (σ : St) (hσ : CanS (shC b) (NC b) σ) (h : wp_X7_forget  σ Q) : G p l e (rmL 1 0 0) s m args below meth c 1 A0 D cA ad (shC b) (NC b) 0 0 (MQ below (QVc D cA ad (shC b) (NC b) Q A0) args s 0 0 A0) σ 0 [some (.ref (ad 45))] [] := by
  unfold wp_X7_forget at h
  refine g_aload_0 E dX7_forget_0 ?_
  refine g_iconst E dX7_forget_1 ?_
  refine g_putZ E fl_RX7_37 rfl rfl (Or.inl rfl) (kC_45 b) (sC_45 b) rfl dX7_forget_2 (g_nmS (fun σ1 eσ1 => ?_))
  replace h := h σ1 eσ1
  have hσ1 : CanS (shC b) (NC b) σ1 := by rw [eσ1]; exact uC_45_7 hσ cl_0
  exact g_vret E hr h hσ1 dX7_forget_5
end
theorem m_X7_forget {Z : (Nat → Nat) × (Nat → Nat)} {l : Launch} {D : va_G} {cA : Nat → ClassId} {ad : Nat → Nat} {b : Bool} {σ : St} {Q : Int → St → Prop} (hA : AdOk (NC b) ad) (hσ : CanS (shC b) (NC b) σ) (h : wp_X7_forget  σ Q) : KtV Z l D cA ad (shC b) (NC b) yX7_forget cX7_forget 1 none 1 [.ref (ad 45)] σ Q :=
  KtV.of my_X7_forget hA [some (.ref (ad 45))] (Nat.le_of_ble_eq_true rfl) rfl (fun p e s m args below meth c A0 E hr => t_X7_forget E hr σ hσ h)
theorem dX3_forget_0 : Dc cX3_forget 0 (.iconst 0) 1 1 := ⟨by decide +kernel, rfl⟩
theorem dX3_forget_1 : Dc cX3_forget 1 (.istore_n 1) 1 2 := ⟨by decide +kernel, rfl⟩
theorem dX3_forget_2 : Dc cX3_forget 2 (.iload_n 1) 1 3 := ⟨by decide +kernel, rfl⟩
theorem dX3_forget_3 : Dc cX3_forget 3 (.bipush 36) 2 5 := ⟨by decide +kernel, rfl⟩
theorem djX3_forget_5 : Dj cX3_forget 5 (.if_icmp .ge 16) 3 8 16 21 := ⟨by decide +kernel, rfl, by decide⟩
theorem dX3_forget_8 : Dc cX3_forget 8 (.aload_n 0) 1 9 := ⟨by decide +kernel, rfl⟩
theorem dX3_forget_9 : Dc cX3_forget 9 (.getfield 39) 3 12 := ⟨by decide +kernel, rfl⟩
theorem dX3_forget_12 : Dc cX3_forget 12 (.iload_n 1) 1 13 := ⟨by decide +kernel, rfl⟩
theorem dX3_forget_13 : Dc cX3_forget 13 (.iconst 0) 1 14 := ⟨by decide +kernel, rfl⟩
theorem dX3_forget_14 : Dc cX3_forget 14 (.bastore) 1 15 := ⟨by decide +kernel, rfl⟩
theorem dX3_forget_15 : Dc cX3_forget 15 (.iinc 1 1) 3 18 := ⟨by decide +kernel, rfl⟩
theorem djX3_forget_18 : Dj cX3_forget 18 (.goto (-16)) 3 21 (-16) 2 := ⟨by decide +kernel, rfl, by decide⟩
theorem dX3_forget_21 : Dc cX3_forget 21 (.return_) 1 22 := ⟨by decide +kernel, rfl⟩
section
variable {p : Program} {l : Launch} {e : Env} {s : State} {m : MethodId} {args : Array Value} {below : List Frame} {meth : Method} {c : Code} {A0 : Nat → Prop} {D : va_G} {cA : Nat → ClassId} {ad : Nat → Nat} {Z : (Nat → Nat) × (Nat → Nat)} {Q : Int → St → Prop} {b : Bool}
set_option maxHeartbeats 4000000 in
set_option maxRecDepth 100000 in
theorem t_X3_forget_l2 (E : Ev p s m args meth c cX3_forget 2 RX3 A0 D cA ad (NC b) Z) (hr : meth.sig.returnType = none) : ∀ (n : Nat) (x1 : Int) (σ : St), C32 x1 → CanS (shC b) (NC b) σ → wp_X3_forget_l2 Q n x1 σ → G p l e (rmL 1 0 0) s m args below meth c 2 A0 D cA ad (shC b) (NC b) 0 0 (MQ below (QVc D cA ad (shC b) (NC b) Q A0) args s 0 0 A0) σ 2 [some (.ref (ad 54)), some (vI x1)] [] := by
  intro n
  induction n with
  | zero => intro _ _ _ _ h; exact h.elim
  | succ n ih =>
    intro x1 σ c1 hσ h
    unfold wp_X3_forget_l2 at h
    refine g_iload_1 E dX3_forget_2 ?_
    refine g_bipush E (by decide) dX3_forget_3 ?_
    refine g_icmp_ge E c1 cl_36 djX3_forget_5 (fun hc => ?_) (fun hc => ?_)
    · replace h := h.1 hc
      exact g_vret E hr h hσ dX3_forget_21
    · replace h := h.2 hc
      refine g_aload_0 E dX3_forget_8 ?_
      refine g_getR E fl_RX3_39 (kC_54 b) (sC_54 b) rfl dX3_forget_9 ?_
      refine g_iload_1 E dX3_forget_12 ?_
      refine g_iconst E dX3_forget_13 ?_
      refine g_zast E (kC_60 b) (sC_60 b) (by decide) h.1 dX3_forget_14 (g_nmS (fun σ1 eσ1 => ?_))
      replace h := h.2 σ1 eσ1
      have hσ1 : CanS (shC b) (NC b) σ1 := by rw [eσ1]; exact wC_60 hσ (c32_t _)
      refine g_iinc_1 E rfl (by decide) dX3_forget_15 (fun v2 ev2 => ?_)
      replace h := h v2 ev2
      have cv2 : C32 v2 := by rw [ev2]; exact c32_w _
      refine g_goto E djX3_forget_18 ?_
      exact (ih v2 σ1 cv2 hσ1 h).weak (w_k (w_k w_n))
set_option maxHeartbeats 4000000 in
set_option maxRecDepth 100000 in
theorem t_X3_forget (E : Ev p s m args meth c cX3_forget 2 RX3 A0 D cA ad (NC b) Z) (hr : meth.sig.returnType = none) (σ : St) (hσ : CanS (shC b) (NC b) σ) (h : wp_X3_forget  σ Q) : G p l e (rmL 1 0 0) s m args below meth c 2 A0 D cA ad (shC b) (NC b) 0 0 (MQ below (QVc D cA ad (shC b) (NC b) Q A0) args s 0 0 A0) σ 0 [some (.ref (ad 54)), none] [] := by
  unfold wp_X3_forget at h
  refine g_iconst E dX3_forget_0 ?_
  refine g_istore_1 E rfl (by decide) dX3_forget_1 ?_
  exact (t_X3_forget_l2 E hr bigN 0 σ cl_0 hσ h).weak (w_k (w_k w_n))
end
theorem m_X3_forget {Z : (Nat → Nat) × (Nat → Nat)} {l : Launch} {D : va_G} {cA : Nat → ClassId} {ad : Nat → Nat} {b : Bool} {σ : St} {Q : Int → St → Prop} (hA : AdOk (NC b) ad) (hσ : CanS (shC b) (NC b) σ) (h : wp_X3_forget  σ Q) : KtV Z l D cA ad (shC b) (NC b) yX3_forget cX3_forget 2 none 1 [.ref (ad 54)] σ Q :=
  KtV.of my_X3_forget hA [some (.ref (ad 54)), none] (Nat.le_of_ble_eq_true rfl) rfl (fun p e s m args below meth c A0 E hr => t_X3_forget E hr σ hσ h)
theorem dJ7_fill_53178_0 : Dc cJ7_fill_53178 0 (.iconst 0) 1 1 := ⟨by decide +kernel, rfl⟩
theorem dJ7_fill_53178_1 : Dc cJ7_fill_53178 1 (.istore_n 2) 1 2 := ⟨by decide +kernel, rfl⟩
theorem dJ7_fill_53178_2 : Dc cJ7_fill_53178 2 (.aload_n 0) 1 3 := ⟨by decide +kernel, rfl⟩
theorem dJ7_fill_53178_3 : Dc cJ7_fill_53178 3 (.arraylength) 1 4 := ⟨by decide +kernel, rfl⟩
theorem dJ7_fill_53178_4 : Dc cJ7_fill_53178 4 (.istore_n 3) 1 5 := ⟨by decide +kernel, rfl⟩
theorem dJ7_fill_53178_5 : Dc cJ7_fill_53178 5 (.iload_n 2) 1 6 := ⟨by decide +kernel, rfl⟩
theorem dJ7_fill_53178_6 : Dc cJ7_fill_53178 6 (.iload_n 3) 1 7 := ⟨by decide +kernel, rfl⟩
theorem djJ7_fill_53178_7 : Dj cJ7_fill_53178 7 (.if_icmp .ge 13) 3 10 13 20 := ⟨by decide +kernel, rfl, by decide⟩
theorem dJ7_fill_53178_10 : Dc cJ7_fill_53178 10 (.aload_n 0) 1 11 := ⟨by decide +kernel, rfl⟩
theorem dJ7_fill_53178_11 : Dc cJ7_fill_53178 11 (.iload_n 2) 1 12 := ⟨by decide +kernel, rfl⟩
theorem dJ7_fill_53178_12 : Dc cJ7_fill_53178 12 (.iload_n 1) 1 13 := ⟨by decide +kernel, rfl⟩
theorem dJ7_fill_53178_13 : Dc cJ7_fill_53178 13 (.iastore) 1 14 := ⟨by decide +kernel, rfl⟩
theorem dJ7_fill_53178_14 : Dc cJ7_fill_53178 14 (.iinc 2 1) 3 17 := ⟨by decide +kernel, rfl⟩
theorem djJ7_fill_53178_17 : Dj cJ7_fill_53178 17 (.goto (-12)) 3 20 (-12) 5 := ⟨by decide +kernel, rfl, by decide⟩
theorem dJ7_fill_53178_20 : Dc cJ7_fill_53178 20 (.return_) 1 21 := ⟨by decide +kernel, rfl⟩
section
variable {p : Program} {l : Launch} {e : Env} {s : State} {m : MethodId} {args : Array Value} {below : List Frame} {meth : Method} {c : Code} {A0 : Nat → Prop} {D : va_G} {cA : Nat → ClassId} {ad : Nat → Nat} {Z : (Nat → Nat) × (Nat → Nat)} {Q : Int → St → Prop} {b : Bool}
set_option maxHeartbeats 4000000 in
set_option maxRecDepth 100000 in
theorem t_J7_fill_53178_C_c77_l5 (E : Ev p s m args meth c cJ7_fill_53178 4 RJ7 A0 D cA ad (NC b) Z) (hr : meth.sig.returnType = none) : ∀ (n : Nat) (x1 : Int) (x2 : Int) (x3 : Int) (σ : St), C32 x1 → C32 x2 → C32 x3 → CanS (shC b) (NC b) σ → wp_J7_fill_53178_C_c77_l5 Q n x1 x2 x3 σ → G p l e (rmL 1 0 0) s m args below meth c 4 A0 D cA ad (shC b) (NC b) 0 0 (MQ below (QVc D cA ad (shC b) (NC b) Q A0) args s 0 0 A0) σ 5 [some (.ref (ad 77)), some (vI x1), some (vI x2), some (vI x3)] [] := by
  intro n
  induction n with
  | zero => intro _ _ _ _ _ _ _ _ h; exact h.elim
  | succ n ih =>
    intro x1 x2 x3 σ c1 c2 c3 hσ h
    unfold wp_J7_fill_53178_C_c77_l5 at h
    refine g_iload_2 E dJ7_fill_53178_5 ?_
    refine g_iload_3 E dJ7_fill_53178_6 ?_
    refine g_icmp_ge E c2 c3 djJ7_fill_53178_7 (fun hc => ?_) (fun hc => ?_)
    · replace h := h.1 hc
      exact g_vret E hr h hσ dJ7_fill_53178_20
    · replace h := h.2 hc
      refine g_aload_0 E dJ7_fill_53178_10 ?_
      refine g_iload_2 E dJ7_fill_53178_11 ?_
      refine g_iload_1 E dJ7_fill_53178_12 ?_
      refine g_iast E (kC_77 b) (sC_77 b) (by decide) h.1 dJ7_fill_53178_13 (g_nmS (fun σ1 eσ1 => ?_))
      replace h := h.2 σ1 eσ1
      have hσ1 : CanS (shC b) (NC b) σ1 := by rw [eσ1]; exact wC_77 hσ c1
      refine g_iinc_2 E rfl (by decide) dJ7_fill_53178_14 (fun v2 ev2 => ?_)
      replace h := h v2 ev2
      have cv2 : C32 v2 := by rw [ev2]; exact c32_w _
      refine g_goto E djJ7_fill_53178_17 ?_
      exact (ih x1 v2 x3 σ1 c1 cv2 c3 hσ1 h).weak (w_k (w_k (w_k (w_k w_n))))
set_option maxHeartbeats 4000000 in
set_option maxRecDepth 100000 in
theorem t_J7_fill_53178_C_c77 (E : Ev p s m args meth c cJ7_fill_53178 4 RJ7 A0 D cA ad (NC b) Z) (hr : meth.sig.returnType = none) (x1 : Int) (σ : St) (c1 : C32 x1) (hσ : CanS (shC b) (NC b) σ) (h : wp_J7_fill_53178_C_c77 x1 σ Q) : G p l e (rmL 1 0 0) s m args below meth c 4 A0 D cA ad (shC b) (NC b) 0 0 (MQ below (QVc D cA ad (shC b) (NC b) Q A0) args s 0 0 A0) σ 0 [some (.ref (ad 77)), some (vI x1), none, none] [] := by
  unfold wp_J7_fill_53178_C_c77 at h
  refine g_iconst E dJ7_fill_53178_0 ?_
  refine g_istore_2 E rfl (by decide) dJ7_fill_53178_1 ?_
  refine g_aload_0 E dJ7_fill_53178_2 ?_
  refine g_alen E (kC_77 b) (sC_77 b) (by decide) (by decide) dJ7_fill_53178_3 ?_
  refine g_istore_3 E rfl (by decide) dJ7_fill_53178_4 ?_
  exact (t_J7_fill_53178_C_c77_l5 E hr bigN x1 0 36 σ c1 cl_0 cl_36 hσ h).weak (w_k (w_k (w_k (w_k w_n))))
end
theorem m_J7_fill_53178_C_c77 {Z : (Nat → Nat) × (Nat → Nat)} {l : Launch} {D : va_G} {cA : Nat → ClassId} {ad : Nat → Nat} {b : Bool} {x1 : Int} {σ : St} {Q : Int → St → Prop} (hA : AdOk (NC b) ad) (c1 : C32 x1) (hσ : CanS (shC b) (NC b) σ) (h : wp_J7_fill_53178_C_c77 x1 σ Q) : KtV Z l D cA ad (shC b) (NC b) yJ7_fill_53178 cJ7_fill_53178 4 none 1 [.ref (ad 77), vI x1] σ Q :=
  KtV.of my_J7_fill_53178 hA [some (.ref (ad 77)), some (vI x1), none, none] (Nat.le_of_ble_eq_true rfl) rfl (fun p e s m args below meth c A0 E hr => t_J7_fill_53178_C_c77 E hr x1 σ c1 hσ h)
section
variable {p : Program} {l : Launch} {e : Env} {s : State} {m : MethodId} {args : Array Value} {below : List Frame} {meth : Method} {c : Code} {A0 : Nat → Prop} {D : va_G} {cA : Nat → ClassId} {ad : Nat → Nat} {Z : (Nat → Nat) × (Nat → Nat)} {Q : Int → St → Prop} {b : Bool}
set_option maxHeartbeats 4000000 in
set_option maxRecDepth 100000 in
theorem t_J7_fill_53178_C_c78_l5 (E : Ev p s m args meth c cJ7_fill_53178 4 RJ7 A0 D cA ad (NC b) Z) (hr : meth.sig.returnType = none) : ∀ (n : Nat) (x1 : Int) (x2 : Int) (x3 : Int) (σ : St), C32 x1 → C32 x2 → C32 x3 → CanS (shC b) (NC b) σ → wp_J7_fill_53178_C_c78_l5 Q n x1 x2 x3 σ → G p l e (rmL 1 0 0) s m args below meth c 4 A0 D cA ad (shC b) (NC b) 0 0 (MQ below (QVc D cA ad (shC b) (NC b) Q A0) args s 0 0 A0) σ 5 [some (.ref (ad 78)), some (vI x1), some (vI x2), some (vI x3)] [] := by
  intro n
  induction n with
  | zero => intro _ _ _ _ _ _ _ _ h; exact h.elim
  | succ n ih =>
    intro x1 x2 x3 σ c1 c2 c3 hσ h
    unfold wp_J7_fill_53178_C_c78_l5 at h
    refine g_iload_2 E dJ7_fill_53178_5 ?_
    refine g_iload_3 E dJ7_fill_53178_6 ?_
    refine g_icmp_ge E c2 c3 djJ7_fill_53178_7 (fun hc => ?_) (fun hc => ?_)
    · replace h := h.1 hc
      exact g_vret E hr h hσ dJ7_fill_53178_20
    · replace h := h.2 hc
      refine g_aload_0 E dJ7_fill_53178_10 ?_
      refine g_iload_2 E dJ7_fill_53178_11 ?_
      refine g_iload_1 E dJ7_fill_53178_12 ?_
      refine g_iast E (kC_78 b) (sC_78 b) (by decide) h.1 dJ7_fill_53178_13 (g_nmS (fun σ1 eσ1 => ?_))
      replace h := h.2 σ1 eσ1
      have hσ1 : CanS (shC b) (NC b) σ1 := by rw [eσ1]; exact wC_78 hσ c1
      refine g_iinc_2 E rfl (by decide) dJ7_fill_53178_14 (fun v2 ev2 => ?_)
      replace h := h v2 ev2
      have cv2 : C32 v2 := by rw [ev2]; exact c32_w _
      refine g_goto E djJ7_fill_53178_17 ?_
      exact (ih x1 v2 x3 σ1 c1 cv2 c3 hσ1 h).weak (w_k (w_k (w_k (w_k w_n))))
set_option maxHeartbeats 4000000 in
set_option maxRecDepth 100000 in
theorem t_J7_fill_53178_C_c78 (E : Ev p s m args meth c cJ7_fill_53178 4 RJ7 A0 D cA ad (NC b) Z) (hr : meth.sig.returnType = none) (x1 : Int) (σ : St) (c1 : C32 x1) (hσ : CanS (shC b) (NC b) σ) (h : wp_J7_fill_53178_C_c78 x1 σ Q) : G p l e (rmL 1 0 0) s m args below meth c 4 A0 D cA ad (shC b) (NC b) 0 0 (MQ below (QVc D cA ad (shC b) (NC b) Q A0) args s 0 0 A0) σ 0 [some (.ref (ad 78)), some (vI x1), none, none] [] := by
  unfold wp_J7_fill_53178_C_c78 at h
  refine g_iconst E dJ7_fill_53178_0 ?_
  refine g_istore_2 E rfl (by decide) dJ7_fill_53178_1 ?_
  refine g_aload_0 E dJ7_fill_53178_2 ?_
  refine g_alen E (kC_78 b) (sC_78 b) (by decide) (by decide) dJ7_fill_53178_3 ?_
  refine g_istore_3 E rfl (by decide) dJ7_fill_53178_4 ?_
  exact (t_J7_fill_53178_C_c78_l5 E hr bigN x1 0 432 σ c1 cl_0 cl_432 hσ h).weak (w_k (w_k (w_k (w_k w_n))))
end
theorem m_J7_fill_53178_C_c78 {Z : (Nat → Nat) × (Nat → Nat)} {l : Launch} {D : va_G} {cA : Nat → ClassId} {ad : Nat → Nat} {b : Bool} {x1 : Int} {σ : St} {Q : Int → St → Prop} (hA : AdOk (NC b) ad) (c1 : C32 x1) (hσ : CanS (shC b) (NC b) σ) (h : wp_J7_fill_53178_C_c78 x1 σ Q) : KtV Z l D cA ad (shC b) (NC b) yJ7_fill_53178 cJ7_fill_53178 4 none 1 [.ref (ad 78), vI x1] σ Q :=
  KtV.of my_J7_fill_53178 hA [some (.ref (ad 78)), some (vI x1), none, none] (Nat.le_of_ble_eq_true rfl) rfl (fun p e s m args below meth c A0 E hr => t_J7_fill_53178_C_c78 E hr x1 σ c1 hσ h)
theorem dJ7_fill_d0a16_0 : Dc cJ7_fill_d0a16 0 (.iconst 0) 1 1 := ⟨by decide +kernel, rfl⟩
theorem dJ7_fill_d0a16_1 : Dc cJ7_fill_d0a16 1 (.istore_n 3) 1 2 := ⟨by decide +kernel, rfl⟩
theorem dJ7_fill_d0a16_2 : Dc cJ7_fill_d0a16 2 (.aload_n 0) 1 3 := ⟨by decide +kernel, rfl⟩
theorem dJ7_fill_d0a16_3 : Dc cJ7_fill_d0a16 3 (.arraylength) 1 4 := ⟨by decide +kernel, rfl⟩
theorem dJ7_fill_d0a16_4 : Dc cJ7_fill_d0a16 4 (.istore 4) 2 6 := ⟨by decide +kernel, rfl⟩
theorem dJ7_fill_d0a16_6 : Dc cJ7_fill_d0a16 6 (.iload_n 3) 1 7 := ⟨by decide +kernel, rfl⟩
theorem dJ7_fill_d0a16_7 : Dc cJ7_fill_d0a16 7 (.iload 4) 2 9 := ⟨by decide +kernel, rfl⟩
theorem djJ7_fill_d0a16_9 : Dj cJ7_fill_d0a16 9 (.if_icmp .ge 13) 3 12 13 22 := ⟨by decide +kernel, rfl, by decide⟩
theorem dJ7_fill_d0a16_12 : Dc cJ7_fill_d0a16 12 (.aload_n 0) 1 13 := ⟨by decide +kernel, rfl⟩
theorem dJ7_fill_d0a16_13 : Dc cJ7_fill_d0a16 13 (.iload_n 3) 1 14 := ⟨by decide +kernel, rfl⟩
theorem dJ7_fill_d0a16_14 : Dc cJ7_fill_d0a16 14 (.lload_n 1) 1 15 := ⟨by decide +kernel, rfl⟩
theorem dJ7_fill_d0a16_15 : Dc cJ7_fill_d0a16 15 (.lastore) 1 16 := ⟨by decide +kernel, rfl⟩
theorem dJ7_fill_d0a16_16 : Dc cJ7_fill_d0a16 16 (.iinc 3 1) 3 19 := ⟨by decide +kernel, rfl⟩
theorem djJ7_fill_d0a16_19 : Dj cJ7_fill_d0a16 19 (.goto (-13)) 3 22 (-13) 6 := ⟨by decide +kernel, rfl, by decide⟩
theorem dJ7_fill_d0a16_22 : Dc cJ7_fill_d0a16 22 (.return_) 1 23 := ⟨by decide +kernel, rfl⟩
section
variable {p : Program} {l : Launch} {e : Env} {s : State} {m : MethodId} {args : Array Value} {below : List Frame} {meth : Method} {c : Code} {A0 : Nat → Prop} {D : va_G} {cA : Nat → ClassId} {ad : Nat → Nat} {Z : (Nat → Nat) × (Nat → Nat)} {Q : Int → St → Prop} {b : Bool}
set_option maxHeartbeats 4000000 in
set_option maxRecDepth 100000 in
theorem t_J7_fill_d0a16_C_c79_l6 (E : Ev p s m args meth c cJ7_fill_d0a16 5 RJ7 A0 D cA ad (NC b) Z) (hr : meth.sig.returnType = none) : ∀ (n : Nat) (x1 : Int) (x3 : Int) (x4 : Int) (σ : St), C64 x1 → C32 x3 → C32 x4 → CanS (shC b) (NC b) σ → wp_J7_fill_d0a16_C_c79_l6 Q n x1 x3 x4 σ → G p l e (rmL 1 0 0) s m args below meth c 5 A0 D cA ad (shC b) (NC b) 0 0 (MQ below (QVc D cA ad (shC b) (NC b) Q A0) args s 0 0 A0) σ 6 [some (.ref (ad 79)), some (vL x1), none, some (vI x3), some (vI x4)] [] := by
  intro n
  induction n with
  | zero => intro _ _ _ _ _ _ _ _ h; exact h.elim
  | succ n ih =>
    intro x1 x3 x4 σ c1 c3 c4 hσ h
    unfold wp_J7_fill_d0a16_C_c79_l6 at h
    refine g_iload_3 E dJ7_fill_d0a16_6 ?_
    refine g_iload_4 E dJ7_fill_d0a16_7 ?_
    refine g_icmp_ge E c3 c4 djJ7_fill_d0a16_9 (fun hc => ?_) (fun hc => ?_)
    · replace h := h.1 hc
      exact g_vret E hr h hσ dJ7_fill_d0a16_22
    · replace h := h.2 hc
      refine g_aload_0 E dJ7_fill_d0a16_12 ?_
      refine g_iload_3 E dJ7_fill_d0a16_13 ?_
      refine g_lload_1 E dJ7_fill_d0a16_14 ?_
      refine g_last E (kC_79 b) (sC_79 b) (by decide) h.1 dJ7_fill_d0a16_15 (g_nmS (fun σ1 eσ1 => ?_))
      replace h := h.2 σ1 eσ1
      have hσ1 : CanS (shC b) (NC b) σ1 := by rw [eσ1]; exact wC_79 hσ c1
      refine g_iinc_3 E rfl (by decide) dJ7_fill_d0a16_16 (fun v2 ev2 => ?_)
      replace h := h v2 ev2
      have cv2 : C32 v2 := by rw [ev2]; exact c32_w _
      refine g_goto E djJ7_fill_d0a16_19 ?_
      exact (ih x1 v2 x4 σ1 c1 cv2 c4 hσ1 h).weak (w_k (w_k (w_d (w_k (w_k w_n)))))
set_option maxHeartbeats 4000000 in
set_option maxRecDepth 100000 in
theorem t_J7_fill_d0a16_C_c79 (E : Ev p s m args meth c cJ7_fill_d0a16 5 RJ7 A0 D cA ad (NC b) Z) (hr : meth.sig.returnType = none) (x1 : Int) (σ : St) (c1 : C64 x1) (hσ : CanS (shC b) (NC b) σ) (h : wp_J7_fill_d0a16_C_c79 x1 σ Q) : G p l e (rmL 1 0 0) s m args below meth c 5 A0 D cA ad (shC b) (NC b) 0 0 (MQ below (QVc D cA ad (shC b) (NC b) Q A0) args s 0 0 A0) σ 0 [some (.ref (ad 79)), some (vL x1), none, none, none] [] := by
  unfold wp_J7_fill_d0a16_C_c79 at h
  refine g_iconst E dJ7_fill_d0a16_0 ?_
  refine g_istore_3 E rfl (by decide) dJ7_fill_d0a16_1 ?_
  refine g_aload_0 E dJ7_fill_d0a16_2 ?_
  refine g_alenl E (kC_79 b) (sC_79 b) dJ7_fill_d0a16_3 ?_
  refine g_istore_4 E rfl (by decide) dJ7_fill_d0a16_4 ?_
  exact (t_J7_fill_d0a16_C_c79_l6 E hr bigN x1 0 432 σ c1 cl_0 cl_432 hσ h).weak (w_k (w_k (w_d (w_k (w_k w_n)))))
end
theorem m_J7_fill_d0a16_C_c79 {Z : (Nat → Nat) × (Nat → Nat)} {l : Launch} {D : va_G} {cA : Nat → ClassId} {ad : Nat → Nat} {b : Bool} {x1 : Int} {σ : St} {Q : Int → St → Prop} (hA : AdOk (NC b) ad) (c1 : C64 x1) (hσ : CanS (shC b) (NC b) σ) (h : wp_J7_fill_d0a16_C_c79 x1 σ Q) : KtV Z l D cA ad (shC b) (NC b) yJ7_fill_d0a16 cJ7_fill_d0a16 5 none 1 [.ref (ad 79), vL x1] σ Q :=
  KtV.of my_J7_fill_d0a16 hA [some (.ref (ad 79)), some (vL x1), none, none, none] (Nat.le_of_ble_eq_true rfl) rfl (fun p e s m args below meth c A0 E hr => t_J7_fill_d0a16_C_c79 E hr x1 σ c1 hσ h)
theorem dX8_forget_0 : Dc cX8_forget 0 (.aload_n 0) 1 1 := ⟨by decide +kernel, rfl⟩
theorem dX8_forget_1 : Dc cX8_forget 1 (.getfield 23) 3 4 := ⟨by decide +kernel, rfl⟩
theorem dX8_forget_4 : Dc cX8_forget 4 (.iconst 0) 1 5 := ⟨by decide +kernel, rfl⟩
theorem dX8_forget_5 : Dc cX8_forget 5 (.invokestatic 34) 3 8 := ⟨by decide +kernel, rfl⟩
theorem dX8_forget_8 : Dc cX8_forget 8 (.aload_n 0) 1 9 := ⟨by decide +kernel, rfl⟩
theorem dX8_forget_9 : Dc cX8_forget 9 (.getfield 27) 3 12 := ⟨by decide +kernel, rfl⟩
theorem dX8_forget_12 : Dc cX8_forget 12 (.iconst 0) 1 13 := ⟨by decide +kernel, rfl⟩
theorem dX8_forget_13 : Dc cX8_forget 13 (.invokestatic 34) 3 16 := ⟨by decide +kernel, rfl⟩
theorem dX8_forget_16 : Dc cX8_forget 16 (.aload_n 0) 1 17 := ⟨by decide +kernel, rfl⟩
theorem dX8_forget_17 : Dc cX8_forget 17 (.getfield 30) 3 20 := ⟨by decide +kernel, rfl⟩
theorem dX8_forget_20 : Dc cX8_forget 20 (.lconst 0) 1 21 := ⟨by decide +kernel, rfl⟩
theorem dX8_forget_21 : Dc cX8_forget 21 (.invokestatic 40) 3 24 := ⟨by decide +kernel, rfl⟩
theorem dX8_forget_24 : Dc cX8_forget 24 (.return_) 1 25 := ⟨by decide +kernel, rfl⟩
section
variable {p : Program} {l : Launch} {e : Env} {s : State} {m : MethodId} {args : Array Value} {below : List Frame} {meth : Method} {c : Code} {A0 : Nat → Prop} {D : va_G} {cA : Nat → ClassId} {ad : Nat → Nat} {Z : (Nat → Nat) × (Nat → Nat)} {Q : Int → St → Prop} {b : Bool}
set_option maxHeartbeats 4000000 in
set_option maxRecDepth 100000 in
theorem t_X8_forget (E : Ev p s m args meth c cX8_forget 1 RX8 A0 D cA ad (NC b) Z) (hr : meth.sig.returnType = none) (σ : St) (hσ : CanS (shC b) (NC b) σ) (h : wp_X8_forget  σ Q) : G p l e (rmL 2 0 0) s m args below meth c 1 A0 D cA ad (shC b) (NC b) 0 0 (MQ below (QVc D cA ad (shC b) (NC b) Q A0) args s 0 0 A0) σ 0 [some (.ref (ad 76))] [] := by
  unfold wp_X8_forget at h
  refine g_aload_0 E dX8_forget_0 ?_
  refine g_getR (z := 77) E fl_RX8_23 (kC_76 b) (sC_76 b) (by cases b <;> rfl) dX8_forget_1 ?_
  refine g_iconst E dX8_forget_4 ?_
  refine g_callsV E my_J7_fill_53178 ms_J7_fill_53178 ml_RX8_34 (rm_ok (by decide) (by decide)) ⟨Nat.zero_le _, Nat.zero_le _⟩ (m_J7_fill_53178_C_c77 E.2.2.1 cl_0 hσ h) rfl rfl (Nat.le_of_ble_eq_true rfl) dX8_forget_5 (fun σ2 r1 hσ2 h => ?_)
  refine g_aload_0 E dX8_forget_8 ?_
  refine g_getR (z := 78) E fl_RX8_27 (kC_76 b) (sC_76 b) (by cases b <;> rfl) dX8_forget_9 ?_
  refine g_iconst E dX8_forget_12 ?_
  refine g_callsV E my_J7_fill_53178 ms_J7_fill_53178 ml_RX8_34 (rm_ok (by decide) (by decide)) ⟨Nat.zero_le _, Nat.zero_le _⟩ (m_J7_fill_53178_C_c78 E.2.2.1 cl_0 hσ2 h) rfl rfl (Nat.le_of_ble_eq_true rfl) dX8_forget_13 (fun σ4 r3 hσ4 h => ?_)
  refine g_aload_0 E dX8_forget_16 ?_
  refine g_getR (z := 79) E fl_RX8_30 (kC_76 b) (sC_76 b) (by cases b <;> rfl) dX8_forget_17 ?_
  refine g_lconst (n := 0) E (by decide) dX8_forget_20 ?_
  refine g_callsV E my_J7_fill_d0a16 ms_J7_fill_d0a16 ml_RX8_40 (rm_ok (by decide) (by decide)) ⟨Nat.zero_le _, Nat.zero_le _⟩ (m_J7_fill_d0a16_C_c79 E.2.2.1 cL_0 hσ4 h) rfl rfl (Nat.le_of_ble_eq_true rfl) dX8_forget_21 (fun σ6 r5 hσ6 h => ?_)
  exact g_vret E hr h hσ6 dX8_forget_24
end
theorem m_X8_forget {Z : (Nat → Nat) × (Nat → Nat)} {l : Launch} {D : va_G} {cA : Nat → ClassId} {ad : Nat → Nat} {b : Bool} {σ : St} {Q : Int → St → Prop} (hA : AdOk (NC b) ad) (hσ : CanS (shC b) (NC b) σ) (h : wp_X8_forget  σ Q) : KtV Z l D cA ad (shC b) (NC b) yX8_forget cX8_forget 1 none 2 [.ref (ad 76)] σ Q :=
  KtV.of my_X8_forget hA [some (.ref (ad 76))] (Nat.le_of_ble_eq_true rfl) rfl (fun p e s m args below meth c A0 E hr => t_X8_forget E hr σ hσ h)
theorem dX5_forget_0 : Dc cX5_forget 0 (.aload_n 0) 1 1 := ⟨by decide +kernel, rfl⟩
theorem dX5_forget_1 : Dc cX5_forget 1 (.iconst 0) 1 2 := ⟨by decide +kernel, rfl⟩
theorem dX5_forget_2 : Dc cX5_forget 2 (.putfield 30) 3 5 := ⟨by decide +kernel, rfl⟩
theorem dX5_forget_5 : Dc cX5_forget 5 (.return_) 1 6 := ⟨by decide +kernel, rfl⟩
section
variable {p : Program} {l : Launch} {e : Env} {s : State} {m : MethodId} {args : Array Value} {below : List Frame} {meth : Method} {c : Code} {A0 : Nat → Prop} {D : va_G} {cA : Nat → ClassId} {ad : Nat → Nat} {Z : (Nat → Nat) × (Nat → Nat)} {Q : Int → St → Prop} {b : Bool}
set_option maxHeartbeats 4000000 in
set_option maxRecDepth 100000 in
theorem t_X5_forget (E : Ev p s m args meth c cX5_forget 1 RX5 A0 D cA ad (NC b) Z) (hr : meth.sig.returnType = none) (σ : St) (hσ : CanS (shC b) (NC b) σ) (h : wp_X5_forget  σ Q) : G p l e (rmL 1 0 0) s m args below meth c 1 A0 D cA ad (shC b) (NC b) 0 0 (MQ below (QVc D cA ad (shC b) (NC b) Q A0) args s 0 0 A0) σ 0 [some (.ref (ad 80))] [] := by
  unfold wp_X5_forget at h
  refine g_aload_0 E dX5_forget_0 ?_
  refine g_iconst E dX5_forget_1 ?_
  refine g_putZ E fl_RX5_30 rfl rfl (Or.inl rfl) (kC_80 b) (sC_80 b) rfl dX5_forget_2 (g_nmS (fun σ1 eσ1 => ?_))
  replace h := h σ1 eσ1
  have hσ1 : CanS (shC b) (NC b) σ1 := by rw [eσ1]; exact uC_80_9 hσ cl_0
  exact g_vret E hr h hσ1 dX5_forget_5
end
theorem m_X5_forget {Z : (Nat → Nat) × (Nat → Nat)} {l : Launch} {D : va_G} {cA : Nat → ClassId} {ad : Nat → Nat} {b : Bool} {σ : St} {Q : Int → St → Prop} (hA : AdOk (NC b) ad) (hσ : CanS (shC b) (NC b) σ) (h : wp_X5_forget  σ Q) : KtV Z l D cA ad (shC b) (NC b) yX5_forget cX5_forget 1 none 1 [.ref (ad 80)] σ Q :=
  KtV.of my_X5_forget hA [some (.ref (ad 80))] (Nat.le_of_ble_eq_true rfl) rfl (fun p e s m args below meth c A0 E hr => t_X5_forget E hr σ hσ h)
theorem dX11_forgetCosts_0 : Dc cX11_forgetCosts 0 (.aload_n 0) 1 1 := ⟨by decide +kernel, rfl⟩
theorem dX11_forgetCosts_1 : Dc cX11_forgetCosts 1 (.getfield 46) 3 4 := ⟨by decide +kernel, rfl⟩
theorem dX11_forgetCosts_4 : Dc cX11_forgetCosts 4 (.invokevirtual 211) 3 7 := ⟨by decide +kernel, rfl⟩
theorem dX11_forgetCosts_7 : Dc cX11_forgetCosts 7 (.aload_n 0) 1 8 := ⟨by decide +kernel, rfl⟩
theorem dX11_forgetCosts_8 : Dc cX11_forgetCosts 8 (.getfield 62) 3 11 := ⟨by decide +kernel, rfl⟩
theorem dX11_forgetCosts_11 : Dc cX11_forgetCosts 11 (.invokevirtual 212) 3 14 := ⟨by decide +kernel, rfl⟩
theorem dX11_forgetCosts_14 : Dc cX11_forgetCosts 14 (.aload_n 0) 1 15 := ⟨by decide +kernel, rfl⟩
theorem dX11_forgetCosts_15 : Dc cX11_forgetCosts 15 (.getfield 76) 3 18 := ⟨by decide +kernel, rfl⟩
theorem dX11_forgetCosts_18 : Dc cX11_forgetCosts 18 (.invokevirtual 213) 3 21 := ⟨by decide +kernel, rfl⟩
theorem dX11_forgetCosts_21 : Dc cX11_forgetCosts 21 (.aload_n 0) 1 22 := ⟨by decide +kernel, rfl⟩
theorem dX11_forgetCosts_22 : Dc cX11_forgetCosts 22 (.getfield 95) 3 25 := ⟨by decide +kernel, rfl⟩
theorem dX11_forgetCosts_25 : Dc cX11_forgetCosts 25 (.invokevirtual 214) 3 28 := ⟨by decide +kernel, rfl⟩
theorem dX11_forgetCosts_28 : Dc cX11_forgetCosts 28 (.aload_n 0) 1 29 := ⟨by decide +kernel, rfl⟩
theorem dX11_forgetCosts_29 : Dc cX11_forgetCosts 29 (.getfield 102) 3 32 := ⟨by decide +kernel, rfl⟩
theorem dX11_forgetCosts_32 : Dc cX11_forgetCosts 32 (.invokevirtual 215) 3 35 := ⟨by decide +kernel, rfl⟩
theorem dX11_forgetCosts_35 : Dc cX11_forgetCosts 35 (.return_) 1 36 := ⟨by decide +kernel, rfl⟩
section
variable {p : Program} {l : Launch} {e : Env} {s : State} {m : MethodId} {args : Array Value} {below : List Frame} {meth : Method} {c : Code} {A0 : Nat → Prop} {D : va_G} {cA : Nat → ClassId} {ad : Nat → Nat} {Z : (Nat → Nat) × (Nat → Nat)} {Q : Int → St → Prop} {b : Bool}
set_option maxHeartbeats 4000000 in
set_option maxRecDepth 100000 in
theorem t_X11_forgetCosts (E : Ev p s m args meth c cX11_forgetCosts 1 RX11 A0 D cA ad (NC b) Z) (hr : meth.sig.returnType = none) (σ : St) (hσ : CanS (shC b) (NC b) σ) (h : wp_X11_forgetCosts  σ Q) : G p l e (rmL 3 0 0) s m args below meth c 1 A0 D cA ad (shC b) (NC b) 0 0 (MQ below (QVc D cA ad (shC b) (NC b) Q A0) args s 0 0 A0) σ 0 [some (.ref (ad 0))] [] := by
  unfold wp_X11_forgetCosts at h
  refine g_aload_0 E dX11_forgetCosts_0 ?_
  refine g_getR E fl_RX11_46 (kC_0 b) (sC_0 b) rfl dX11_forgetCosts_1 ?_
  refine g_callvV E my_X1_forget mi_X1_forget msel_X1_forget ml_RX11_211 (rm_ok (by decide) (by decide)) ⟨Nat.zero_le _, Nat.zero_le _⟩ (kC_36 b) (sC_36 b) rfl (m_X1_forget E.2.2.1 hσ h) rfl rfl (Nat.le_of_ble_eq_true rfl) dX11_forgetCosts_4 (fun σ2 r1 hσ2 h => ?_)
  refine g_aload_0 E dX11_forgetCosts_7 ?_
  refine g_getR E fl_RX11_62 (kC_0 b) (sC_0 b) rfl dX11_forgetCosts_8 ?_
  refine g_callvV E my_X7_forget mi_X7_forget msel_X7_forget ml_RX11_212 (rm_ok (by decide) (by decide)) ⟨Nat.zero_le _, Nat.zero_le _⟩ (kC_45 b) (sC_45 b) rfl (m_X7_forget E.2.2.1 hσ2 h) rfl rfl (Nat.le_of_ble_eq_true rfl) dX11_forgetCosts_11 (fun σ4 r3 hσ4 h => ?_)
  refine g_aload_0 E dX11_forgetCosts_14 ?_
  refine g_getR E fl_RX11_76 (kC_0 b) (sC_0 b) rfl dX11_forgetCosts_15 ?_
  refine g_callvV E my_X3_forget mi_X3_forget msel_X3_forget ml_RX11_213 (rm_ok (by decide) (by decide)) ⟨Nat.zero_le _, Nat.zero_le _⟩ (kC_54 b) (sC_54 b) rfl (m_X3_forget E.2.2.1 hσ4 h) rfl rfl (Nat.le_of_ble_eq_true rfl) dX11_forgetCosts_18 (fun σ6 r5 hσ6 h => ?_)
  refine g_aload_0 E dX11_forgetCosts_21 ?_
  refine g_getR E fl_RX11_95 (kC_0 b) (sC_0 b) rfl dX11_forgetCosts_22 ?_
  refine g_callvV E my_X8_forget mi_X8_forget msel_X8_forget ml_RX11_214 (rm_ok (by decide) (by decide)) ⟨Nat.zero_le _, Nat.zero_le _⟩ (kC_76 b) (sC_76 b) rfl (m_X8_forget E.2.2.1 hσ6 h) rfl rfl (Nat.le_of_ble_eq_true rfl) dX11_forgetCosts_25 (fun σ8 r7 hσ8 h => ?_)
  refine g_aload_0 E dX11_forgetCosts_28 ?_
  refine g_getR E fl_RX11_102 (kC_0 b) (sC_0 b) rfl dX11_forgetCosts_29 ?_
  refine g_callvV E my_X5_forget mi_X5_forget msel_X5_forget ml_RX11_215 (rm_ok (by decide) (by decide)) ⟨Nat.zero_le _, Nat.zero_le _⟩ (kC_80 b) (sC_80 b) rfl (m_X5_forget E.2.2.1 hσ8 h) rfl rfl (Nat.le_of_ble_eq_true rfl) dX11_forgetCosts_32 (fun σ10 r9 hσ10 h => ?_)
  exact g_vret E hr h hσ10 dX11_forgetCosts_35
end
theorem m_X11_forgetCosts {Z : (Nat → Nat) × (Nat → Nat)} {l : Launch} {D : va_G} {cA : Nat → ClassId} {ad : Nat → Nat} {b : Bool} {σ : St} {Q : Int → St → Prop} (hA : AdOk (NC b) ad) (hσ : CanS (shC b) (NC b) σ) (h : wp_X11_forgetCosts  σ Q) : KtV Z l D cA ad (shC b) (NC b) yX11_forgetCosts cX11_forgetCosts 1 none 3 [.ref (ad 0)] σ Q :=
  KtV.of my_X11_forgetCosts hA [some (.ref (ad 0))] (Nat.le_of_ble_eq_true rfl) rfl (fun p e s m args below meth c A0 E hr => t_X11_forgetCosts E hr σ hσ h)
theorem dX11_forgetCases_0 : Dc cX11_forgetCases 0 (.aload_n 0) 1 1 := ⟨by decide +kernel, rfl⟩
theorem dX11_forgetCases_1 : Dc cX11_forgetCases 1 (.getfield 37) 3 4 := ⟨by decide +kernel, rfl⟩
theorem dX11_forgetCases_4 : Dc cX11_forgetCases 4 (.invokevirtual 209) 3 7 := ⟨by decide +kernel, rfl⟩
theorem dX11_forgetCases_7 : Dc cX11_forgetCases 7 (.aload_n 0) 1 8 := ⟨by decide +kernel, rfl⟩
theorem dX11_forgetCases_8 : Dc cX11_forgetCases 8 (.getfield 55) 3 11 := ⟨by decide +kernel, rfl⟩
theorem dX11_forgetCases_11 : Dc cX11_forgetCases 11 (.invokevirtual 210) 3 14 := ⟨by decide +kernel, rfl⟩
theorem dX11_forgetCases_14 : Dc cX11_forgetCases 14 (.aload_n 0) 1 15 := ⟨by decide +kernel, rfl⟩
theorem dX11_forgetCases_15 : Dc cX11_forgetCases 15 (.getfield 69) 3 18 := ⟨by decide +kernel, rfl⟩
theorem dX11_forgetCases_18 : Dc cX11_forgetCases 18 (.invokevirtual 206) 3 21 := ⟨by decide +kernel, rfl⟩
theorem dX11_forgetCases_21 : Dc cX11_forgetCases 21 (.aload_n 0) 1 22 := ⟨by decide +kernel, rfl⟩
theorem dX11_forgetCases_22 : Dc cX11_forgetCases 22 (.invokevirtual 203) 3 25 := ⟨by decide +kernel, rfl⟩
theorem dX11_forgetCases_25 : Dc cX11_forgetCases 25 (.return_) 1 26 := ⟨by decide +kernel, rfl⟩
section
variable {p : Program} {l : Launch} {e : Env} {s : State} {m : MethodId} {args : Array Value} {below : List Frame} {meth : Method} {c : Code} {A0 : Nat → Prop} {D : va_G} {cA : Nat → ClassId} {ad : Nat → Nat} {Z : (Nat → Nat) × (Nat → Nat)} {Q : Int → St → Prop} {b : Bool}
set_option maxHeartbeats 4000000 in
set_option maxRecDepth 100000 in
theorem t_X11_forgetCases (E : Ev p s m args meth c cX11_forgetCases 1 RX11 A0 D cA ad (NC b) Z) (hr : meth.sig.returnType = none) (σ : St) (hσ : CanS (shC b) (NC b) σ) (h : wp_X11_forgetCases  σ Q) : G p l e (rmL 4 0 0) s m args below meth c 1 A0 D cA ad (shC b) (NC b) 0 0 (MQ below (QVc D cA ad (shC b) (NC b) Q A0) args s 0 0 A0) σ 0 [some (.ref (ad 0))] [] := by
  unfold wp_X11_forgetCases at h
  refine g_aload_0 E dX11_forgetCases_0 ?_
  refine g_getR E fl_RX11_37 (kC_0 b) (sC_0 b) rfl dX11_forgetCases_1 ?_
  refine g_callvV E my_X0_forget mi_X0_forget msel_X0_forget ml_RX11_209 (rm_ok (by decide) (by decide)) ⟨Nat.zero_le _, Nat.zero_le _⟩ (kC_24 b) (sC_24 b) rfl (m_X0_forget E.2.2.1 hσ h) rfl rfl (Nat.le_of_ble_eq_true rfl) dX11_forgetCases_4 (fun σ2 r1 hσ2 h => ?_)
  refine g_aload_0 E dX11_forgetCases_7 ?_
  refine g_getR E fl_RX11_55 (kC_0 b) (sC_0 b) rfl dX11_forgetCases_8 ?_
  refine g_callvV E my_X2_forget mi_X2_forget msel_X2_forget ml_RX11_210 (rm_ok (by decide) (by decide)) ⟨Nat.zero_le _, Nat.zero_le _⟩ (kC_41 b) (sC_41 b) rfl (m_X2_forget E.2.2.1 hσ2 h) rfl rfl (Nat.le_of_ble_eq_true rfl) dX11_forgetCases_11 (fun σ4 r3 hσ4 h => ?_)
  refine g_aload_0 E dX11_forgetCases_14 ?_
  refine g_getR E fl_RX11_69 (kC_0 b) (sC_0 b) rfl dX11_forgetCases_15 ?_
  refine g_callvV E my_X9_forget mi_X9_forget msel_X9_forget ml_RX11_206 (rm_ok (by decide) (by decide)) ⟨Nat.zero_le _, Nat.zero_le _⟩ (kC_50 b) (sC_50 b) rfl (m_X9_forget E.2.2.1 hσ4 h) rfl rfl (Nat.le_of_ble_eq_true rfl) dX11_forgetCases_18 (fun σ6 r5 hσ6 h => ?_)
  refine g_aload_0 E dX11_forgetCases_21 ?_
  refine g_callvV E my_X11_forgetCosts mi_X11_forgetCosts msel_X11_forgetCosts ml_RX11_203 (rm_ok (by decide) (by decide)) ⟨Nat.zero_le _, Nat.zero_le _⟩ (kC_0 b) (sC_0 b) rfl (m_X11_forgetCosts E.2.2.1 hσ6 h) rfl rfl (Nat.le_of_ble_eq_true rfl) dX11_forgetCases_22 (fun σ8 r7 hσ8 h => ?_)
  exact g_vret E hr h hσ8 dX11_forgetCases_25
end
theorem m_X11_forgetCases {Z : (Nat → Nat) × (Nat → Nat)} {l : Launch} {D : va_G} {cA : Nat → ClassId} {ad : Nat → Nat} {b : Bool} {σ : St} {Q : Int → St → Prop} (hA : AdOk (NC b) ad) (hσ : CanS (shC b) (NC b) σ) (h : wp_X11_forgetCases  σ Q) : KtV Z l D cA ad (shC b) (NC b) yX11_forgetCases cX11_forgetCases 1 none 4 [.ref (ad 0)] σ Q :=
  KtV.of my_X11_forgetCases hA [some (.ref (ad 0))] (Nat.le_of_ble_eq_true rfl) rfl (fun p e s m args below meth c A0 E hr => t_X11_forgetCases E hr σ hσ h)
theorem dX11_grammar_0 : Dc cX11_grammar 0 (.aload_n 0) 1 1 := ⟨by decide +kernel, rfl⟩
theorem dX11_grammar_1 : Dc cX11_grammar 1 (.getfield 21) 3 4 := ⟨by decide +kernel, rfl⟩
theorem dX11_grammar_4 : Dc cX11_grammar 4 (.aload_n 0) 1 5 := ⟨by decide +kernel, rfl⟩
theorem dX11_grammar_5 : Dc cX11_grammar 5 (.getfield 106) 3 8 := ⟨by decide +kernel, rfl⟩
theorem dX11_grammar_8 : Dc cX11_grammar 8 (.invokevirtual 114) 3 11 := ⟨by decide +kernel, rfl⟩
theorem dX11_grammar_11 : Dc cX11_grammar 11 (.aload_n 0) 1 12 := ⟨by decide +kernel, rfl⟩
theorem dX11_grammar_12 : Dc cX11_grammar 12 (.iconst 0) 1 13 := ⟨by decide +kernel, rfl⟩
theorem dX11_grammar_13 : Dc cX11_grammar 13 (.putfield 106) 3 16 := ⟨by decide +kernel, rfl⟩
theorem dX11_grammar_16 : Dc cX11_grammar 16 (.aload_n 0) 1 17 := ⟨by decide +kernel, rfl⟩
theorem dX11_grammar_17 : Dc cX11_grammar 17 (.getfield 21) 3 20 := ⟨by decide +kernel, rfl⟩
theorem dX11_grammar_20 : Dc cX11_grammar 20 (.getfield 117) 3 23 := ⟨by decide +kernel, rfl⟩
theorem djX11_grammar_23 : Dj cX11_grammar 23 (.ifCond .eq 6) 3 26 6 29 := ⟨by decide +kernel, rfl, by decide⟩
theorem dX11_grammar_26 : Dc cX11_grammar 26 (.bipush (-4)) 2 28 := ⟨by decide +kernel, rfl⟩
theorem dX11_grammar_28 : Dc cX11_grammar 28 (.ireturn) 1 29 := ⟨by decide +kernel, rfl⟩
theorem dX11_grammar_29 : Dc cX11_grammar 29 (.aload_n 0) 1 30 := ⟨by decide +kernel, rfl⟩
theorem dX11_grammar_30 : Dc cX11_grammar 30 (.getfield 28) 3 33 := ⟨by decide +kernel, rfl⟩
theorem dX11_grammar_33 : Dc cX11_grammar 33 (.aload_n 0) 1 34 := ⟨by decide +kernel, rfl⟩
theorem dX11_grammar_34 : Dc cX11_grammar 34 (.getfield 21) 3 37 := ⟨by decide +kernel, rfl⟩
theorem dX11_grammar_37 : Dc cX11_grammar 37 (.getfield 120) 3 40 := ⟨by decide +kernel, rfl⟩
theorem dX11_grammar_40 : Dc cX11_grammar 40 (.invokevirtual 123) 3 43 := ⟨by decide +kernel, rfl⟩
theorem dX11_grammar_43 : Dc cX11_grammar 43 (.aload_n 0) 1 44 := ⟨by decide +kernel, rfl⟩
theorem dX11_grammar_44 : Dc cX11_grammar 44 (.invokevirtual 126) 3 47 := ⟨by decide +kernel, rfl⟩
theorem dX11_grammar_47 : Dc cX11_grammar 47 (.aload_n 0) 1 48 := ⟨by decide +kernel, rfl⟩
theorem dX11_grammar_48 : Dc cX11_grammar 48 (.getfield 28) 3 51 := ⟨by decide +kernel, rfl⟩
theorem dX11_grammar_51 : Dc cX11_grammar 51 (.getfield 129) 3 54 := ⟨by decide +kernel, rfl⟩
theorem dX11_grammar_54 : Dc cX11_grammar 54 (.ireturn) 1 55 := ⟨by decide +kernel, rfl⟩
section
variable {p : Program} {l : Launch} {e : Env} {s : State} {m : MethodId} {args : Array Value} {below : List Frame} {meth : Method} {c : Code} {A0 : Nat → Prop} {D : va_G} {cA : Nat → ClassId} {ad : Nat → Nat} {Z : (Nat → Nat) × (Nat → Nat)} {Q : Int → St → Prop} {b : Bool}
set_option maxHeartbeats 4000000 in
set_option maxRecDepth 100000 in
theorem t_X11_grammar (E : Ev p s m args meth c cX11_grammar 1 RX11 A0 D cA ad (NC b) Z) (hr : meth.sig.returnType = (some .int)) (σ : St) (hσ : CanS (shC b) (NC b) σ) (h : wp_X11_grammar  σ Q) : G p l e (rmL 10 0 0) s m args below meth c 1 A0 D cA ad (shC b) (NC b) 0 0 (MQ below (QIc D cA ad (shC b) (NC b) Q A0) args s 0 0 A0) σ 0 [some (.ref (ad 0))] [] := by
  unfold wp_X11_grammar at h
  refine g_aload_0 E dX11_grammar_0 ?_
  refine g_getR E fl_RX11_21 (kC_0 b) (sC_0 b) rfl dX11_grammar_1 ?_
  refine g_aload_0 E dX11_grammar_4 ?_
  refine g_getI E fl_RX11_106 (kC_0 b) (sC_0 b) rfl dX11_grammar_5 ?_
  refine g_callvV E my_X6_read mi_X6_read msel_X6_read ml_RX11_114 (rm_ok (by decide) (by decide)) ⟨Nat.zero_le _, Nat.zero_le _⟩ (kC_3 b) (sC_3 b) rfl (m_X6_read E.2.2.1 (fC_0_1 hσ) hσ h) rfl rfl (Nat.le_of_ble_eq_true rfl) dX11_grammar_8 (fun σ2 r1 hσ2 h => ?_)
  refine g_aload_0 E dX11_grammar_11 ?_
  refine g_iconst E dX11_grammar_12 ?_
  refine g_putI E fl_RX11_106 rfl rfl (kC_0 b) (sC_0 b) rfl dX11_grammar_13 (g_nmS (fun σ3 eσ3 => ?_))
  replace h := h σ3 eσ3
  have hσ3 : CanS (shC b) (NC b) σ3 := by rw [eσ3]; exact uC_0_1 hσ2 cl_0
  refine g_aload_0 E dX11_grammar_16 ?_
  refine g_getR E fl_RX11_21 (kC_0 b) (sC_0 b) rfl dX11_grammar_17 ?_
  refine g_getI E fl_RX11_117 (kC_3 b) (sC_3 b) rfl dX11_grammar_20 ?_
  refine g_if_eq E (fC_3_2 hσ3) djX11_grammar_23 (fun hc => ?_) (fun hc => ?_)
  · replace h := h.1 hc
    refine g_aload_0 E dX11_grammar_29 ?_
    refine g_getR E fl_RX11_28 (kC_0 b) (sC_0 b) rfl dX11_grammar_30 ?_
    refine g_aload_0 E dX11_grammar_33 ?_
    refine g_getR E fl_RX11_21 (kC_0 b) (sC_0 b) rfl dX11_grammar_34 ?_
    refine g_getR E fl_RX11_120 (kC_3 b) (sC_3 b) rfl dX11_grammar_37 ?_
    refine g_callvV E my_X4_take mi_X4_take msel_X4_take ml_RX11_123 (rm_ok (by decide) (by decide)) ⟨Nat.zero_le _, Nat.zero_le _⟩ (kC_14 b) (sC_14 b) rfl (m_X4_take_c4 E.2.2.1 hσ3 h) rfl rfl (Nat.le_of_ble_eq_true rfl) dX11_grammar_40 (fun σ5 r4 hσ5 h => ?_)
    refine g_aload_0 E dX11_grammar_43 ?_
    refine g_callvV E my_X11_forgetCases mi_X11_forgetCases msel_X11_forgetCases ml_RX11_126 (rm_ok (by decide) (by decide)) ⟨Nat.zero_le _, Nat.zero_le _⟩ (kC_0 b) (sC_0 b) rfl (m_X11_forgetCases E.2.2.1 hσ5 h) rfl rfl (Nat.le_of_ble_eq_true rfl) dX11_grammar_44 (fun σ7 r6 hσ7 h => ?_)
    refine g_aload_0 E dX11_grammar_47 ?_
    refine g_getR E fl_RX11_28 (kC_0 b) (sC_0 b) rfl dX11_grammar_48 ?_
    refine g_getI E fl_RX11_129 (kC_14 b) (sC_14 b) rfl dX11_grammar_51 ?_
    exact g_iret E hr (fC_14_0 hσ7) h hσ7 dX11_grammar_54
  · replace h := h.2 hc
    refine g_bipush E (by decide) dX11_grammar_26 ?_
    exact g_iret E hr cl_m4 h hσ3 dX11_grammar_28
end
theorem m_X11_grammar {Z : (Nat → Nat) × (Nat → Nat)} {l : Launch} {D : va_G} {cA : Nat → ClassId} {ad : Nat → Nat} {b : Bool} {σ : St} {Q : Int → St → Prop} (hA : AdOk (NC b) ad) (hσ : CanS (shC b) (NC b) σ) (h : wp_X11_grammar  σ Q) : KtI Z l D cA ad (shC b) (NC b) yX11_grammar cX11_grammar 1 (some .int) 10 [.ref (ad 0)] σ Q :=
  KtI.of my_X11_grammar hA [some (.ref (ad 0))] (Nat.le_of_ble_eq_true rfl) rfl (fun p e s m args below meth c A0 E hr => t_X11_grammar E hr σ hσ h)
theorem dX11_fault_0 : Dc cX11_fault 0 (.iload_n 1) 1 1 := ⟨by decide +kernel, rfl⟩
theorem dX11_fault_1 : Dc cX11_fault 1 (.lookupswitch 43 #[(0, 27), (1, 35)]) 27 28 := ⟨by decide +kernel, rfl⟩
theorem dX11_fault_28 : Dc cX11_fault 28 (.aload_n 0) 1 29 := ⟨by decide +kernel, rfl⟩
theorem dX11_fault_29 : Dc cX11_fault 29 (.getfield 21) 3 32 := ⟨by decide +kernel, rfl⟩
theorem dX11_fault_32 : Dc cX11_fault 32 (.getfield 117) 3 35 := ⟨by decide +kernel, rfl⟩
theorem dX11_fault_35 : Dc cX11_fault 35 (.ireturn) 1 36 := ⟨by decide +kernel, rfl⟩
theorem dX11_fault_36 : Dc cX11_fault 36 (.aload_n 0) 1 37 := ⟨by decide +kernel, rfl⟩
theorem dX11_fault_37 : Dc cX11_fault 37 (.getfield 21) 3 40 := ⟨by decide +kernel, rfl⟩
theorem dX11_fault_40 : Dc cX11_fault 40 (.getfield 132) 3 43 := ⟨by decide +kernel, rfl⟩
theorem dX11_fault_43 : Dc cX11_fault 43 (.ireturn) 1 44 := ⟨by decide +kernel, rfl⟩
theorem dX11_fault_44 : Dc cX11_fault 44 (.iconst (-1)) 1 45 := ⟨by decide +kernel, rfl⟩
theorem dX11_fault_45 : Dc cX11_fault 45 (.ireturn) 1 46 := ⟨by decide +kernel, rfl⟩
section
variable {p : Program} {l : Launch} {e : Env} {s : State} {m : MethodId} {args : Array Value} {below : List Frame} {meth : Method} {c : Code} {A0 : Nat → Prop} {D : va_G} {cA : Nat → ClassId} {ad : Nat → Nat} {Z : (Nat → Nat) × (Nat → Nat)} {Q : Int → St → Prop} {b : Bool}
set_option maxHeartbeats 4000000 in
set_option maxRecDepth 100000 in
theorem t_X11_fault (E : Ev p s m args meth c cX11_fault 2 RX11 A0 D cA ad (NC b) Z) (hr : meth.sig.returnType = (some .int)) (x1 : Int) (σ : St) (c1 : C32 x1) (hσ : CanS (shC b) (NC b) σ) (h : wp_X11_fault x1 σ Q) : G p l e (rmL 1 0 0) s m args below meth c 2 A0 D cA ad (shC b) (NC b) 0 0 (MQ below (QIc D cA ad (shC b) (NC b) Q A0) args s 0 0 A0) σ 0 [some (.ref (ad 0)), some (vI x1)] [] := by
  unfold wp_X11_fault at h
  refine g_iload_1 E dX11_fault_0 ?_
  by_cases hs0 : x1 = 0
  · refine g_lookup (v := 0) E c1 hs0 dX11_fault_1 rfl rfl (tgt := 28) (by decide) ?_
    replace h := h.1 hs0
    refine g_aload_0 E dX11_fault_28 ?_
    refine g_getR E fl_RX11_21 (kC_0 b) (sC_0 b) rfl dX11_fault_29 ?_
    refine g_getI E fl_RX11_117 (kC_3 b) (sC_3 b) rfl dX11_fault_32 ?_
    exact g_iret E hr (fC_3_2 hσ) h hσ dX11_fault_35
  by_cases hs1 : x1 = 1
  · refine g_lookup (v := 1) E c1 hs1 dX11_fault_1 rfl rfl (tgt := 36) (by decide) ?_
    replace h := h.2.1 hs1
    refine g_aload_0 E dX11_fault_36 ?_
    refine g_getR E fl_RX11_21 (kC_0 b) (sC_0 b) rfl dX11_fault_37 ?_
    refine g_getI E fl_RX11_132 (kC_3 b) (sC_3 b) rfl dX11_fault_40 ?_
    exact g_iret E hr (fC_3_3 hσ) h hσ dX11_fault_43
  replace h := h.2.2 ⟨hs0, hs1⟩
  refine g_lookupD E c1 dX11_fault_1 rfl (by intro q hq; simp only [List.mem_cons, List.not_mem_nil, or_false] at hq; rcases hq with rfl | rfl <;> omega) (tgt := 44) (by decide) ?_
  refine g_iconst E dX11_fault_44 ?_
  exact g_iret E hr cl_m1 h hσ dX11_fault_45
end
theorem m_X11_fault {Z : (Nat → Nat) × (Nat → Nat)} {l : Launch} {D : va_G} {cA : Nat → ClassId} {ad : Nat → Nat} {b : Bool} {x1 : Int} {σ : St} {Q : Int → St → Prop} (hA : AdOk (NC b) ad) (c1 : C32 x1) (hσ : CanS (shC b) (NC b) σ) (h : wp_X11_fault x1 σ Q) : KtI Z l D cA ad (shC b) (NC b) yX11_fault cX11_fault 2 (some .int) 1 [.ref (ad 0), vI x1] σ Q :=
  KtI.of my_X11_fault hA [some (.ref (ad 0)), some (vI x1)] (Nat.le_of_ble_eq_true rfl) rfl (fun p e s m args below meth c A0 E hr => t_X11_fault E hr x1 σ c1 hσ h)
theorem dX11_lettersAlone_0 : Dc cX11_lettersAlone 0 (.iconst 0) 1 1 := ⟨by decide +kernel, rfl⟩
theorem dX11_lettersAlone_1 : Dc cX11_lettersAlone 1 (.istore_n 2) 1 2 := ⟨by decide +kernel, rfl⟩
theorem dX11_lettersAlone_2 : Dc cX11_lettersAlone 2 (.iload_n 2) 1 3 := ⟨by decide +kernel, rfl⟩
theorem dX11_lettersAlone_3 : Dc cX11_lettersAlone 3 (.iload_n 1) 1 4 := ⟨by decide +kernel, rfl⟩
theorem djX11_lettersAlone_4 : Dj cX11_lettersAlone 4 (.if_icmp .ge 23) 3 7 23 27 := ⟨by decide +kernel, rfl, by decide⟩
theorem dX11_lettersAlone_7 : Dc cX11_lettersAlone 7 (.aload_n 0) 1 8 := ⟨by decide +kernel, rfl⟩
theorem dX11_lettersAlone_8 : Dc cX11_lettersAlone 8 (.getfield 9) 3 11 := ⟨by decide +kernel, rfl⟩
theorem dX11_lettersAlone_11 : Dc cX11_lettersAlone 11 (.iload_n 2) 1 12 := ⟨by decide +kernel, rfl⟩
theorem dX11_lettersAlone_12 : Dc cX11_lettersAlone 12 (.iaload) 1 13 := ⟨by decide +kernel, rfl⟩
theorem dX11_lettersAlone_13 : Dc cX11_lettersAlone 13 (.invokestatic 143) 3 16 := ⟨by decide +kernel, rfl⟩
theorem djX11_lettersAlone_16 : Dj cX11_lettersAlone 16 (.ifCond .ne 5) 3 19 5 21 := ⟨by decide +kernel, rfl, by decide⟩
theorem dX11_lettersAlone_19 : Dc cX11_lettersAlone 19 (.iconst 0) 1 20 := ⟨by decide +kernel, rfl⟩
theorem dX11_lettersAlone_20 : Dc cX11_lettersAlone 20 (.ireturn) 1 21 := ⟨by decide +kernel, rfl⟩
theorem dX11_lettersAlone_21 : Dc cX11_lettersAlone 21 (.iinc 2 1) 3 24 := ⟨by decide +kernel, rfl⟩
theorem djX11_lettersAlone_24 : Dj cX11_lettersAlone 24 (.goto (-22)) 3 27 (-22) 2 := ⟨by decide +kernel, rfl, by decide⟩
theorem dX11_lettersAlone_27 : Dc cX11_lettersAlone 27 (.iconst 1) 1 28 := ⟨by decide +kernel, rfl⟩
theorem dX11_lettersAlone_28 : Dc cX11_lettersAlone 28 (.ireturn) 1 29 := ⟨by decide +kernel, rfl⟩
section
variable {p : Program} {l : Launch} {e : Env} {s : State} {m : MethodId} {args : Array Value} {below : List Frame} {meth : Method} {c : Code} {A0 : Nat → Prop} {D : va_G} {cA : Nat → ClassId} {ad : Nat → Nat} {Z : (Nat → Nat) × (Nat → Nat)} {Q : Int → St → Prop} {b : Bool}
set_option maxHeartbeats 4000000 in
set_option maxRecDepth 100000 in
theorem t_X11_lettersAlone_l2 (E : Ev p s m args meth c cX11_lettersAlone 3 RX11 A0 D cA ad (NC b) Z) (hr : meth.sig.returnType = (some .boolean)) : ∀ (n : Nat) (x1 : Int) (x2 : Int) (σ : St), C32 x1 → C32 x2 → CanS (shC b) (NC b) σ → wp_X11_lettersAlone_l2 Q n x1 x2 σ → G p l e (rmL 2 0 0) s m args below meth c 3 A0 D cA ad (shC b) (NC b) 0 0 (MQ below (QIc D cA ad (shC b) (NC b) Q A0) args s 0 0 A0) σ 2 [some (.ref (ad 0)), some (vI x1), some (vI x2)] [] := by
  intro n
  induction n with
  | zero => intro _ _ _ _ _ _ h; exact h.elim
  | succ n ih =>
    intro x1 x2 σ c1 c2 hσ h
    unfold wp_X11_lettersAlone_l2 at h
    refine g_iload_2 E dX11_lettersAlone_2 ?_
    refine g_iload_1 E dX11_lettersAlone_3 ?_
    refine g_icmp_ge E c2 c1 djX11_lettersAlone_4 (fun hc => ?_) (fun hc => ?_)
    · replace h := h.1 hc
      refine g_iconst E dX11_lettersAlone_27 ?_
      exact g_zret E hr (Or.inr rfl) h hσ dX11_lettersAlone_28
    · replace h := h.2 hc
      refine g_aload_0 E dX11_lettersAlone_7 ?_
      refine g_getR E fl_RX11_9 (kC_0 b) (sC_0 b) rfl dX11_lettersAlone_8 ?_
      refine g_iload_2 E dX11_lettersAlone_11 ?_
      refine g_iald E (kC_1 b) (sC_1 b) (by decide) h.1 dX11_lettersAlone_12 ?_
      replace h := h.2
      refine g_callsI E my_X6_isSmall ms_X6_isSmall ml_RX11_143 (rm_ok (by decide) (by decide)) ⟨Nat.zero_le _, Nat.zero_le _⟩ (m_X6_isSmall E.2.2.1 (aC_1 hσ _) hσ h) rfl rfl (Nat.le_of_ble_eq_true rfl) dX11_lettersAlone_13 (fun r1 σ2 cr1 hσ2 h => ?_)
      refine g_if_ne E cr1 djX11_lettersAlone_16 (fun hc => ?_) (fun hc => ?_)
      · replace h := h.1 hc
        refine g_iinc_2 E rfl (by decide) dX11_lettersAlone_21 (fun v3 ev3 => ?_)
        replace h := h v3 ev3
        have cv3 : C32 v3 := by rw [ev3]; exact c32_w _
        refine g_goto E djX11_lettersAlone_24 ?_
        exact (ih x1 v3 σ2 c1 cv3 hσ2 h).weak (w_k (w_k (w_k w_n)))
      · replace h := h.2 hc
        refine g_iconst E dX11_lettersAlone_19 ?_
        exact g_zret E hr (Or.inl rfl) h hσ2 dX11_lettersAlone_20
set_option maxHeartbeats 4000000 in
set_option maxRecDepth 100000 in
theorem t_X11_lettersAlone (E : Ev p s m args meth c cX11_lettersAlone 3 RX11 A0 D cA ad (NC b) Z) (hr : meth.sig.returnType = (some .boolean)) (x1 : Int) (σ : St) (c1 : C32 x1) (hσ : CanS (shC b) (NC b) σ) (h : wp_X11_lettersAlone x1 σ Q) : G p l e (rmL 2 0 0) s m args below meth c 3 A0 D cA ad (shC b) (NC b) 0 0 (MQ below (QIc D cA ad (shC b) (NC b) Q A0) args s 0 0 A0) σ 0 [some (.ref (ad 0)), some (vI x1), none] [] := by
  unfold wp_X11_lettersAlone at h
  refine g_iconst E dX11_lettersAlone_0 ?_
  refine g_istore_2 E rfl (by decide) dX11_lettersAlone_1 ?_
  exact (t_X11_lettersAlone_l2 E hr bigN x1 0 σ c1 cl_0 hσ h).weak (w_k (w_k (w_k w_n)))
end
theorem m_X11_lettersAlone {Z : (Nat → Nat) × (Nat → Nat)} {l : Launch} {D : va_G} {cA : Nat → ClassId} {ad : Nat → Nat} {b : Bool} {x1 : Int} {σ : St} {Q : Int → St → Prop} (hA : AdOk (NC b) ad) (c1 : C32 x1) (hσ : CanS (shC b) (NC b) σ) (h : wp_X11_lettersAlone x1 σ Q) : KtI Z l D cA ad (shC b) (NC b) yX11_lettersAlone cX11_lettersAlone 3 (some .boolean) 2 [.ref (ad 0), vI x1] σ Q :=
  KtI.of my_X11_lettersAlone hA [some (.ref (ad 0)), some (vI x1), none] (Nat.le_of_ble_eq_true rfl) rfl (fun p e s m args below meth c A0 E hr => t_X11_lettersAlone E hr x1 σ c1 hσ h)
theorem dX0_hear_0 : Dc cX0_hear 0 (.aload_n 0) 1 1 := ⟨by decide +kernel, rfl⟩
theorem dX0_hear_1 : Dc cX0_hear 1 (.iload_n 2) 1 2 := ⟨by decide +kernel, rfl⟩
theorem dX0_hear_2 : Dc cX0_hear 2 (.bipush 8) 2 4 := ⟨by decide +kernel, rfl⟩
theorem dX0_hear_4 : Dc cX0_hear 4 (.invokestatic 49) 3 7 := ⟨by decide +kernel, rfl⟩
theorem dX0_hear_7 : Dc cX0_hear 7 (.aload_n 1) 1 8 := ⟨by decide +kernel, rfl⟩
theorem dX0_hear_8 : Dc cX0_hear 8 (.arraylength) 1 9 := ⟨by decide +kernel, rfl⟩
theorem dX0_hear_9 : Dc cX0_hear 9 (.invokestatic 49) 3 12 := ⟨by decide +kernel, rfl⟩
theorem dX0_hear_12 : Dc cX0_hear 12 (.putfield 55) 3 15 := ⟨by decide +kernel, rfl⟩
theorem dX0_hear_15 : Dc cX0_hear 15 (.iconst 0) 1 16 := ⟨by decide +kernel, rfl⟩
theorem dX0_hear_16 : Dc cX0_hear 16 (.istore_n 3) 1 17 := ⟨by decide +kernel, rfl⟩
theorem dX0_hear_17 : Dc cX0_hear 17 (.iload_n 3) 1 18 := ⟨by decide +kernel, rfl⟩
theorem dX0_hear_18 : Dc cX0_hear 18 (.aload_n 0) 1 19 := ⟨by decide +kernel, rfl⟩
theorem dX0_hear_19 : Dc cX0_hear 19 (.getfield 55) 3 22 := ⟨by decide +kernel, rfl⟩
theorem djX0_hear_22 : Dj cX0_hear 22 (.if_icmp .ge 21) 3 25 21 43 := ⟨by decide +kernel, rfl, by decide⟩
theorem dX0_hear_25 : Dc cX0_hear 25 (.aload_n 0) 1 26 := ⟨by decide +kernel, rfl⟩
theorem dX0_hear_26 : Dc cX0_hear 26 (.getfield 15) 3 29 := ⟨by decide +kernel, rfl⟩
theorem dX0_hear_29 : Dc cX0_hear 29 (.iload_n 3) 1 30 := ⟨by decide +kernel, rfl⟩
theorem dX0_hear_30 : Dc cX0_hear 30 (.aload_n 1) 1 31 := ⟨by decide +kernel, rfl⟩
theorem dX0_hear_31 : Dc cX0_hear 31 (.iload_n 3) 1 32 := ⟨by decide +kernel, rfl⟩
theorem dX0_hear_32 : Dc cX0_hear 32 (.iaload) 1 33 := ⟨by decide +kernel, rfl⟩
theorem dX0_hear_33 : Dc cX0_hear 33 (.bipush 97) 2 35 := ⟨by decide +kernel, rfl⟩
theorem dX0_hear_35 : Dc cX0_hear 35 (.isub) 1 36 := ⟨by decide +kernel, rfl⟩
theorem dX0_hear_36 : Dc cX0_hear 36 (.iastore) 1 37 := ⟨by decide +kernel, rfl⟩
theorem dX0_hear_37 : Dc cX0_hear 37 (.iinc 3 1) 3 40 := ⟨by decide +kernel, rfl⟩
theorem djX0_hear_40 : Dj cX0_hear 40 (.goto (-23)) 3 43 (-23) 17 := ⟨by decide +kernel, rfl, by decide⟩
theorem dX0_hear_43 : Dc cX0_hear 43 (.return_) 1 44 := ⟨by decide +kernel, rfl⟩
section
variable {p : Program} {l : Launch} {e : Env} {s : State} {m : MethodId} {args : Array Value} {below : List Frame} {meth : Method} {c : Code} {A0 : Nat → Prop} {D : va_G} {cA : Nat → ClassId} {ad : Nat → Nat} {Z : (Nat → Nat) × (Nat → Nat)} {Q : Int → St → Prop} {b : Bool}
set_option maxHeartbeats 4000000 in
set_option maxRecDepth 100000 in
theorem t_X0_hear_c1_l17 (E : Ev p s m args meth c cX0_hear 4 RX0 A0 D cA ad (NC b) Z) (hr : meth.sig.returnType = none) : ∀ (n : Nat) (x3 : Int) (σ : St), C32 x3 → CanS (shC b) (NC b) σ → wp_X0_hear_c1_l17 Q n x3 σ → G p l e (rmL 1 0 0) s m args below meth c 4 A0 D cA ad (shC b) (NC b) 0 0 (MQ below (QVc D cA ad (shC b) (NC b) Q A0) args s 0 0 A0) σ 17 [some (.ref (ad 24)), some (.ref (ad 1)), none, some (vI x3)] [] := by
  intro n
  induction n with
  | zero => intro _ _ _ _ h; exact h.elim
  | succ n ih =>
    intro x3 σ c3 hσ h
    unfold wp_X0_hear_c1_l17 at h
    refine g_iload_3 E dX0_hear_17 ?_
    refine g_aload_0 E dX0_hear_18 ?_
    refine g_getI E fl_RX0_55 (kC_24 b) (sC_24 b) rfl dX0_hear_19 ?_
    refine g_icmp_ge E c3 (fC_24_2 hσ) djX0_hear_22 (fun hc => ?_) (fun hc => ?_)
    · replace h := h.1 hc
      exact g_vret E hr h hσ dX0_hear_43
    · replace h := h.2 hc
      refine g_aload_0 E dX0_hear_25 ?_
      refine g_getR E fl_RX0_15 (kC_24 b) (sC_24 b) rfl dX0_hear_26 ?_
      refine g_iload_3 E dX0_hear_29 ?_
      refine g_aload_1 E dX0_hear_30 ?_
      refine g_iload_3 E dX0_hear_31 ?_
      refine g_iald E (kC_1 b) (sC_1 b) (by decide) h.1 dX0_hear_32 ?_
      replace h := h.2
      refine g_bipush E (by decide) dX0_hear_33 ?_
      refine g_isub E dX0_hear_35 ?_
      refine g_iast E (kC_25 b) (sC_25 b) (by decide) h.1 dX0_hear_36 (g_nmS (fun σ2 eσ2 => ?_))
      replace h := h.2 σ2 eσ2
      have hσ2 : CanS (shC b) (NC b) σ2 := by rw [eσ2]; exact wC_25 hσ (c32_w _)
      refine g_iinc_3 E rfl (by decide) dX0_hear_37 (fun v3 ev3 => ?_)
      replace h := h v3 ev3
      have cv3 : C32 v3 := by rw [ev3]; exact c32_w _
      refine g_goto E djX0_hear_40 ?_
      exact (ih v3 σ2 cv3 hσ2 h).weak (w_k (w_k (w_d (w_k w_n))))
set_option maxHeartbeats 4000000 in
set_option maxRecDepth 100000 in
theorem t_X0_hear_c1 (E : Ev p s m args meth c cX0_hear 4 RX0 A0 D cA ad (NC b) Z) (hr : meth.sig.returnType = none) (x2 : Int) (σ : St) (c2 : C32 x2) (hσ : CanS (shC b) (NC b) σ) (h : wp_X0_hear_c1 x2 σ Q) : G p l e (rmL 1 0 0) s m args below meth c 4 A0 D cA ad (shC b) (NC b) 0 0 (MQ below (QVc D cA ad (shC b) (NC b) Q A0) args s 0 0 A0) σ 0 [some (.ref (ad 24)), some (.ref (ad 1)), some (vI x2), none] [] := by
  unfold wp_X0_hear_c1 at h
  refine g_aload_0 E dX0_hear_0 ?_
  refine g_iload_2 E dX0_hear_1 ?_
  refine g_bipush E (by decide) dX0_hear_2 ?_
  refine g_mmin E ml_RX0_49 c2 cl_8 (Nat.le_of_ble_eq_true rfl) (rm_1 1) ⟨Nat.zero_le _, Nat.zero_le _⟩ dX0_hear_4 ?_
  refine g_aload_1 E dX0_hear_7 ?_
  refine g_alen E (kC_1 b) (sC_1 b) (by decide) (by decide) dX0_hear_8 ?_
  refine g_mmin E ml_RX0_49 (c32_min c2 cl_8) cl_1000 (Nat.le_of_ble_eq_true rfl) (rm_1 1) ⟨Nat.zero_le _, Nat.zero_le _⟩ dX0_hear_9 ?_
  refine g_putI E fl_RX0_55 rfl rfl (kC_24 b) (sC_24 b) rfl dX0_hear_12 (g_nmS (fun σ1 eσ1 => ?_))
  replace h := h σ1 eσ1
  have hσ1 : CanS (shC b) (NC b) σ1 := by rw [eσ1]; exact uC_24_2 hσ (c32_min (c32_min c2 cl_8) cl_1000)
  refine g_iconst E dX0_hear_15 ?_
  refine g_istore_3 E rfl (by decide) dX0_hear_16 ?_
  exact (t_X0_hear_c1_l17 E hr bigN 0 σ1 cl_0 hσ1 h).weak (w_k (w_k (w_d (w_k w_n))))
end
theorem m_X0_hear_c1 {Z : (Nat → Nat) × (Nat → Nat)} {l : Launch} {D : va_G} {cA : Nat → ClassId} {ad : Nat → Nat} {b : Bool} {x2 : Int} {σ : St} {Q : Int → St → Prop} (hA : AdOk (NC b) ad) (c2 : C32 x2) (hσ : CanS (shC b) (NC b) σ) (h : wp_X0_hear_c1 x2 σ Q) : KtV Z l D cA ad (shC b) (NC b) yX0_hear cX0_hear 4 none 1 [.ref (ad 24), .ref (ad 1), vI x2] σ Q :=
  KtV.of my_X0_hear hA [some (.ref (ad 24)), some (.ref (ad 1)), some (vI x2), none] (Nat.le_of_ble_eq_true rfl) rfl (fun p e s m args below meth c A0 E hr => t_X0_hear_c1 E hr x2 σ c2 hσ h)
theorem dX11_say_0 : Dc cX11_say 0 (.aload_n 0) 1 1 := ⟨by decide +kernel, rfl⟩
theorem dX11_say_1 : Dc cX11_say 1 (.getfield 106) 3 4 := ⟨by decide +kernel, rfl⟩
theorem dX11_say_4 : Dc cX11_say 4 (.istore_n 1) 1 5 := ⟨by decide +kernel, rfl⟩
theorem dX11_say_5 : Dc cX11_say 5 (.aload_n 0) 1 6 := ⟨by decide +kernel, rfl⟩
theorem dX11_say_6 : Dc cX11_say 6 (.iconst 0) 1 7 := ⟨by decide +kernel, rfl⟩
theorem dX11_say_7 : Dc cX11_say 7 (.putfield 106) 3 10 := ⟨by decide +kernel, rfl⟩
theorem dX11_say_10 : Dc cX11_say 10 (.iload_n 1) 1 11 := ⟨by decide +kernel, rfl⟩
theorem dX11_say_11 : Dc cX11_say 11 (.bipush 8) 2 13 := ⟨by decide +kernel, rfl⟩
theorem djX11_say_13 : Dj cX11_say 13 (.if_icmp .gt 11) 3 16 11 24 := ⟨by decide +kernel, rfl, by decide⟩
theorem dX11_say_16 : Dc cX11_say 16 (.aload_n 0) 1 17 := ⟨by decide +kernel, rfl⟩
theorem dX11_say_17 : Dc cX11_say 17 (.iload_n 1) 1 18 := ⟨by decide +kernel, rfl⟩
theorem dX11_say_18 : Dc cX11_say 18 (.invokevirtual 135) 3 21 := ⟨by decide +kernel, rfl⟩
theorem djX11_say_21 : Dj cX11_say 21 (.ifCond .ne 6) 3 24 6 27 := ⟨by decide +kernel, rfl, by decide⟩
theorem dX11_say_24 : Dc cX11_say 24 (.bipush (-4)) 2 26 := ⟨by decide +kernel, rfl⟩
theorem dX11_say_26 : Dc cX11_say 26 (.ireturn) 1 27 := ⟨by decide +kernel, rfl⟩
theorem dX11_say_27 : Dc cX11_say 27 (.aload_n 0) 1 28 := ⟨by decide +kernel, rfl⟩
theorem dX11_say_28 : Dc cX11_say 28 (.getfield 37) 3 31 := ⟨by decide +kernel, rfl⟩
theorem dX11_say_31 : Dc cX11_say 31 (.aload_n 0) 1 32 := ⟨by decide +kernel, rfl⟩
theorem dX11_say_32 : Dc cX11_say 32 (.getfield 9) 3 35 := ⟨by decide +kernel, rfl⟩
theorem dX11_say_35 : Dc cX11_say 35 (.iload_n 1) 1 36 := ⟨by decide +kernel, rfl⟩
theorem dX11_say_36 : Dc cX11_say 36 (.invokevirtual 139) 3 39 := ⟨by decide +kernel, rfl⟩
theorem dX11_say_39 : Dc cX11_say 39 (.aload_n 0) 1 40 := ⟨by decide +kernel, rfl⟩
theorem dX11_say_40 : Dc cX11_say 40 (.invokevirtual 126) 3 43 := ⟨by decide +kernel, rfl⟩
theorem dX11_say_43 : Dc cX11_say 43 (.iload_n 1) 1 44 := ⟨by decide +kernel, rfl⟩
theorem dX11_say_44 : Dc cX11_say 44 (.ireturn) 1 45 := ⟨by decide +kernel, rfl⟩
section
variable {p : Program} {l : Launch} {e : Env} {s : State} {m : MethodId} {args : Array Value} {below : List Frame} {meth : Method} {c : Code} {A0 : Nat → Prop} {D : va_G} {cA : Nat → ClassId} {ad : Nat → Nat} {Z : (Nat → Nat) × (Nat → Nat)} {Q : Int → St → Prop} {b : Bool}
set_option maxHeartbeats 4000000 in
set_option maxRecDepth 100000 in
theorem t_X11_say (E : Ev p s m args meth c cX11_say 2 RX11 A0 D cA ad (NC b) Z) (hr : meth.sig.returnType = (some .int)) (σ : St) (hσ : CanS (shC b) (NC b) σ) (h : wp_X11_say  σ Q) : G p l e (rmL 5 0 0) s m args below meth c 2 A0 D cA ad (shC b) (NC b) 0 0 (MQ below (QIc D cA ad (shC b) (NC b) Q A0) args s 0 0 A0) σ 0 [some (.ref (ad 0)), none] [] := by
  unfold wp_X11_say at h
  refine g_aload_0 E dX11_say_0 ?_
  refine g_getI E fl_RX11_106 (kC_0 b) (sC_0 b) rfl dX11_say_1 ?_
  refine g_nmI (fun v1 ev1 => ?_)
  replace h := h v1 ev1
  have cv1 : C32 v1 := by rw [ev1]; exact (fC_0_1 hσ)
  refine g_istore_1 E rfl (by decide) dX11_say_4 ?_
  refine g_aload_0 E dX11_say_5 ?_
  refine g_iconst E dX11_say_6 ?_
  refine g_putI E fl_RX11_106 rfl rfl (kC_0 b) (sC_0 b) rfl dX11_say_7 (g_nmS (fun σ2 eσ2 => ?_))
  replace h := h σ2 eσ2
  have hσ2 : CanS (shC b) (NC b) σ2 := by rw [eσ2]; exact uC_0_1 hσ cl_0
  refine g_iload_1 E dX11_say_10 ?_
  refine g_bipush E (by decide) dX11_say_11 ?_
  refine g_icmp_gt E cv1 cl_8 djX11_say_13 (fun hc => ?_) (fun hc => ?_)
  · replace h := h.1 hc
    refine g_bipush E (by decide) dX11_say_24 ?_
    exact g_iret E hr cl_m4 h hσ2 dX11_say_26
  · replace h := h.2 hc
    refine g_aload_0 E dX11_say_16 ?_
    refine g_iload_1 E dX11_say_17 ?_
    refine g_callvI E my_X11_lettersAlone mi_X11_lettersAlone msel_X11_lettersAlone ml_RX11_135 (rm_ok (by decide) (by decide)) ⟨Nat.zero_le _, Nat.zero_le _⟩ (kC_0 b) (sC_0 b) rfl (m_X11_lettersAlone E.2.2.1 cv1 hσ2 h) rfl rfl (Nat.le_of_ble_eq_true rfl) dX11_say_18 (fun r3 σ4 cr3 hσ4 h => ?_)
    refine g_if_ne E cr3 djX11_say_21 (fun hc => ?_) (fun hc => ?_)
    · replace h := h.1 hc
      refine g_aload_0 E dX11_say_27 ?_
      refine g_getR E fl_RX11_37 (kC_0 b) (sC_0 b) rfl dX11_say_28 ?_
      refine g_aload_0 E dX11_say_31 ?_
      refine g_getR E fl_RX11_9 (kC_0 b) (sC_0 b) rfl dX11_say_32 ?_
      refine g_iload_1 E dX11_say_35 ?_
      refine g_callvV E my_X0_hear mi_X0_hear msel_X0_hear ml_RX11_139 (rm_ok (by decide) (by decide)) ⟨Nat.zero_le _, Nat.zero_le _⟩ (kC_24 b) (sC_24 b) rfl (m_X0_hear_c1 E.2.2.1 cv1 hσ4 h) rfl rfl (Nat.le_of_ble_eq_true rfl) dX11_say_36 (fun σ6 r5 hσ6 h => ?_)
      refine g_aload_0 E dX11_say_39 ?_
      refine g_callvV E my_X11_forgetCases mi_X11_forgetCases msel_X11_forgetCases ml_RX11_126 (rm_ok (by decide) (by decide)) ⟨Nat.zero_le _, Nat.zero_le _⟩ (kC_0 b) (sC_0 b) rfl (m_X11_forgetCases E.2.2.1 hσ6 h) rfl rfl (Nat.le_of_ble_eq_true rfl) dX11_say_40 (fun σ8 r7 hσ8 h => ?_)
      refine g_iload_1 E dX11_say_43 ?_
      exact g_iret E hr cv1 h hσ8 dX11_say_44
    · replace h := h.2 hc
      refine g_bipush E (by decide) dX11_say_24 ?_
      exact g_iret E hr cl_m4 h hσ4 dX11_say_26
end
theorem m_X11_say {Z : (Nat → Nat) × (Nat → Nat)} {l : Launch} {D : va_G} {cA : Nat → ClassId} {ad : Nat → Nat} {b : Bool} {σ : St} {Q : Int → St → Prop} (hA : AdOk (NC b) ad) (hσ : CanS (shC b) (NC b) σ) (h : wp_X11_say  σ Q) : KtI Z l D cA ad (shC b) (NC b) yX11_say cX11_say 2 (some .int) 5 [.ref (ad 0)] σ Q :=
  KtI.of my_X11_say hA [some (.ref (ad 0)), none] (Nat.le_of_ble_eq_true rfl) rfl (fun p e s m args below meth c A0 E hr => t_X11_say E hr σ hσ h)
theorem dX4_start_0 : Dc cX4_start 0 (.aload_n 0) 1 1 := ⟨by decide +kernel, rfl⟩
theorem dX4_start_1 : Dc cX4_start 1 (.getfield 43) 3 4 := ⟨by decide +kernel, rfl⟩
theorem djX4_start_4 : Dj cX4_start 4 (.ifCond .ne 7) 3 7 7 11 := ⟨by decide +kernel, rfl, by decide⟩
theorem dX4_start_7 : Dc cX4_start 7 (.iconst (-1)) 1 8 := ⟨by decide +kernel, rfl⟩
theorem djX4_start_8 : Dj cX4_start 8 (.goto 9) 3 11 9 17 := ⟨by decide +kernel, rfl, by decide⟩
theorem dX4_start_11 : Dc cX4_start 11 (.aload_n 0) 1 12 := ⟨by decide +kernel, rfl⟩
theorem dX4_start_12 : Dc cX4_start 12 (.getfield 9) 3 15 := ⟨by decide +kernel, rfl⟩
theorem dX4_start_15 : Dc cX4_start 15 (.iconst 0) 1 16 := ⟨by decide +kernel, rfl⟩
theorem dX4_start_16 : Dc cX4_start 16 (.iaload) 1 17 := ⟨by decide +kernel, rfl⟩
theorem dX4_start_17 : Dc cX4_start 17 (.ireturn) 1 18 := ⟨by decide +kernel, rfl⟩
section
variable {p : Program} {l : Launch} {e : Env} {s : State} {m : MethodId} {args : Array Value} {below : List Frame} {meth : Method} {c : Code} {A0 : Nat → Prop} {D : va_G} {cA : Nat → ClassId} {ad : Nat → Nat} {Z : (Nat → Nat) × (Nat → Nat)} {Q : Int → St → Prop} {b : Bool}
set_option maxHeartbeats 4000000 in
set_option maxRecDepth 100000 in
theorem t_X4_start (E : Ev p s m args meth c cX4_start 1 RX4 A0 D cA ad (NC b) Z) (hr : meth.sig.returnType = (some .int)) (σ : St) (hσ : CanS (shC b) (NC b) σ) (h : wp_X4_start  σ Q) : G p l e (rmL 1 0 0) s m args below meth c 1 A0 D cA ad (shC b) (NC b) 0 0 (MQ below (QIc D cA ad (shC b) (NC b) Q A0) args s 0 0 A0) σ 0 [some (.ref (ad 14))] [] := by
  unfold wp_X4_start at h
  refine g_aload_0 E dX4_start_0 ?_
  refine g_getI E fl_RX4_43 (kC_14 b) (sC_14 b) rfl dX4_start_1 ?_
  refine g_if_ne E (fC_14_0 hσ) djX4_start_4 (fun hc => ?_) (fun hc => ?_)
  · replace h := h.1 hc
    refine g_aload_0 E dX4_start_11 ?_
    refine g_getR E fl_RX4_9 (kC_14 b) (sC_14 b) rfl dX4_start_12 ?_
    refine g_iconst E dX4_start_15 ?_
    refine g_iald E (kC_15 b) (sC_15 b) (by decide) (by decide) dX4_start_16 ?_
    exact g_iret E hr (aC_15 hσ _) h hσ dX4_start_17
  · replace h := h.2 hc
    refine g_iconst E dX4_start_7 ?_
    refine g_goto E djX4_start_8 ?_
    exact g_iret E hr cl_m1 h hσ dX4_start_17
end
theorem m_X4_start {Z : (Nat → Nat) × (Nat → Nat)} {l : Launch} {D : va_G} {cA : Nat → ClassId} {ad : Nat → Nat} {b : Bool} {σ : St} {Q : Int → St → Prop} (hA : AdOk (NC b) ad) (hσ : CanS (shC b) (NC b) σ) (h : wp_X4_start  σ Q) : KtI Z l D cA ad (shC b) (NC b) yX4_start cX4_start 1 (some .int) 1 [.ref (ad 14)] σ Q :=
  KtI.of my_X4_start hA [some (.ref (ad 14))] (Nat.le_of_ble_eq_true rfl) rfl (fun p e s m args below meth c A0 E hr => t_X4_start E hr σ hσ h)
theorem dX0_layOutSpans_0 : Dc cX0_layOutSpans 0 (.aload_n 0) 1 1 := ⟨by decide +kernel, rfl⟩
theorem dX0_layOutSpans_1 : Dc cX0_layOutSpans 1 (.iconst 0) 1 2 := ⟨by decide +kernel, rfl⟩
theorem dX0_layOutSpans_2 : Dc cX0_layOutSpans 2 (.putfield 72) 3 5 := ⟨by decide +kernel, rfl⟩
theorem dX0_layOutSpans_5 : Dc cX0_layOutSpans 5 (.iconst 1) 1 6 := ⟨by decide +kernel, rfl⟩
theorem dX0_layOutSpans_6 : Dc cX0_layOutSpans 6 (.istore_n 1) 1 7 := ⟨by decide +kernel, rfl⟩
theorem dX0_layOutSpans_7 : Dc cX0_layOutSpans 7 (.iload_n 1) 1 8 := ⟨by decide +kernel, rfl⟩
theorem dX0_layOutSpans_8 : Dc cX0_layOutSpans 8 (.aload_n 0) 1 9 := ⟨by decide +kernel, rfl⟩
theorem dX0_layOutSpans_9 : Dc cX0_layOutSpans 9 (.getfield 55) 3 12 := ⟨by decide +kernel, rfl⟩
theorem djX0_layOutSpans_12 : Dj cX0_layOutSpans 12 (.if_icmp .gt 76) 3 15 76 88 := ⟨by decide +kernel, rfl, by decide⟩
theorem dX0_layOutSpans_15 : Dc cX0_layOutSpans 15 (.iconst 0) 1 16 := ⟨by decide +kernel, rfl⟩
theorem dX0_layOutSpans_16 : Dc cX0_layOutSpans 16 (.istore_n 2) 1 17 := ⟨by decide +kernel, rfl⟩
theorem dX0_layOutSpans_17 : Dc cX0_layOutSpans 17 (.iload_n 2) 1 18 := ⟨by decide +kernel, rfl⟩
theorem dX0_layOutSpans_18 : Dc cX0_layOutSpans 18 (.iload_n 1) 1 19 := ⟨by decide +kernel, rfl⟩
theorem dX0_layOutSpans_19 : Dc cX0_layOutSpans 19 (.iadd) 1 20 := ⟨by decide +kernel, rfl⟩
theorem dX0_layOutSpans_20 : Dc cX0_layOutSpans 20 (.aload_n 0) 1 21 := ⟨by decide +kernel, rfl⟩
theorem dX0_layOutSpans_21 : Dc cX0_layOutSpans 21 (.getfield 55) 3 24 := ⟨by decide +kernel, rfl⟩
theorem djX0_layOutSpans_24 : Dj cX0_layOutSpans 24 (.if_icmp .gt 58) 3 27 58 82 := ⟨by decide +kernel, rfl, by decide⟩
theorem dX0_layOutSpans_27 : Dc cX0_layOutSpans 27 (.aload_n 0) 1 28 := ⟨by decide +kernel, rfl⟩
theorem dX0_layOutSpans_28 : Dc cX0_layOutSpans 28 (.getfield 19) 3 31 := ⟨by decide +kernel, rfl⟩
theorem dX0_layOutSpans_31 : Dc cX0_layOutSpans 31 (.aload_n 0) 1 32 := ⟨by decide +kernel, rfl⟩
theorem dX0_layOutSpans_32 : Dc cX0_layOutSpans 32 (.getfield 72) 3 35 := ⟨by decide +kernel, rfl⟩
theorem dX0_layOutSpans_35 : Dc cX0_layOutSpans 35 (.iload_n 2) 1 36 := ⟨by decide +kernel, rfl⟩
theorem dX0_layOutSpans_36 : Dc cX0_layOutSpans 36 (.iastore) 1 37 := ⟨by decide +kernel, rfl⟩
theorem dX0_layOutSpans_37 : Dc cX0_layOutSpans 37 (.aload_n 0) 1 38 := ⟨by decide +kernel, rfl⟩
theorem dX0_layOutSpans_38 : Dc cX0_layOutSpans 38 (.getfield 22) 3 41 := ⟨by decide +kernel, rfl⟩
theorem dX0_layOutSpans_41 : Dc cX0_layOutSpans 41 (.aload_n 0) 1 42 := ⟨by decide +kernel, rfl⟩
theorem dX0_layOutSpans_42 : Dc cX0_layOutSpans 42 (.getfield 72) 3 45 := ⟨by decide +kernel, rfl⟩
theorem dX0_layOutSpans_45 : Dc cX0_layOutSpans 45 (.iload_n 2) 1 46 := ⟨by decide +kernel, rfl⟩
theorem dX0_layOutSpans_46 : Dc cX0_layOutSpans 46 (.iload_n 1) 1 47 := ⟨by decide +kernel, rfl⟩
theorem dX0_layOutSpans_47 : Dc cX0_layOutSpans 47 (.iadd) 1 48 := ⟨by decide +kernel, rfl⟩
theorem dX0_layOutSpans_48 : Dc cX0_layOutSpans 48 (.iastore) 1 49 := ⟨by decide +kernel, rfl⟩
theorem dX0_layOutSpans_49 : Dc cX0_layOutSpans 49 (.aload_n 0) 1 50 := ⟨by decide +kernel, rfl⟩
theorem dX0_layOutSpans_50 : Dc cX0_layOutSpans 50 (.getfield 25) 3 53 := ⟨by decide +kernel, rfl⟩
theorem dX0_layOutSpans_53 : Dc cX0_layOutSpans 53 (.iload_n 2) 1 54 := ⟨by decide +kernel, rfl⟩
theorem dX0_layOutSpans_54 : Dc cX0_layOutSpans 54 (.bipush 9) 2 56 := ⟨by decide +kernel, rfl⟩
theorem dX0_layOutSpans_56 : Dc cX0_layOutSpans 56 (.imul) 1 57 := ⟨by decide +kernel, rfl⟩
theorem dX0_layOutSpans_57 : Dc cX0_layOutSpans 57 (.iload_n 2) 1 58 := ⟨by decide +kernel, rfl⟩
theorem dX0_layOutSpans_58 : Dc cX0_layOutSpans 58 (.iadd) 1 59 := ⟨by decide +kernel, rfl⟩
theorem dX0_layOutSpans_59 : Dc cX0_layOutSpans 59 (.iload_n 1) 1 60 := ⟨by decide +kernel, rfl⟩
theorem dX0_layOutSpans_60 : Dc cX0_layOutSpans 60 (.iadd) 1 61 := ⟨by decide +kernel, rfl⟩
theorem dX0_layOutSpans_61 : Dc cX0_layOutSpans 61 (.aload_n 0) 1 62 := ⟨by decide +kernel, rfl⟩
theorem dX0_layOutSpans_62 : Dc cX0_layOutSpans 62 (.getfield 72) 3 65 := ⟨by decide +kernel, rfl⟩
theorem dX0_layOutSpans_65 : Dc cX0_layOutSpans 65 (.iastore) 1 66 := ⟨by decide +kernel, rfl⟩
theorem dX0_layOutSpans_66 : Dc cX0_layOutSpans 66 (.aload_n 0) 1 67 := ⟨by decide +kernel, rfl⟩
theorem dX0_layOutSpans_67 : Dc cX0_layOutSpans 67 (.dup) 1 68 := ⟨by decide +kernel, rfl⟩
theorem dX0_layOutSpans_68 : Dc cX0_layOutSpans 68 (.getfield 72) 3 71 := ⟨by decide +kernel, rfl⟩
theorem dX0_layOutSpans_71 : Dc cX0_layOutSpans 71 (.iconst 1) 1 72 := ⟨by decide +kernel, rfl⟩
theorem dX0_layOutSpans_72 : Dc cX0_layOutSpans 72 (.iadd) 1 73 := ⟨by decide +kernel, rfl⟩
theorem dX0_layOutSpans_73 : Dc cX0_layOutSpans 73 (.putfield 72) 3 76 := ⟨by decide +kernel, rfl⟩
theorem dX0_layOutSpans_76 : Dc cX0_layOutSpans 76 (.iinc 2 1) 3 79 := ⟨by decide +kernel, rfl⟩
theorem djX0_layOutSpans_79 : Dj cX0_layOutSpans 79 (.goto (-62)) 3 82 (-62) 17 := ⟨by decide +kernel, rfl, by decide⟩
theorem dX0_layOutSpans_82 : Dc cX0_layOutSpans 82 (.iinc 1 1) 3 85 := ⟨by decide +kernel, rfl⟩
theorem djX0_layOutSpans_85 : Dj cX0_layOutSpans 85 (.goto (-78)) 3 88 (-78) 7 := ⟨by decide +kernel, rfl, by decide⟩
theorem dX0_layOutSpans_88 : Dc cX0_layOutSpans 88 (.return_) 1 89 := ⟨by decide +kernel, rfl⟩
section
variable {p : Program} {l : Launch} {e : Env} {s : State} {m : MethodId} {args : Array Value} {below : List Frame} {meth : Method} {c : Code} {A0 : Nat → Prop} {D : va_G} {cA : Nat → ClassId} {ad : Nat → Nat} {Z : (Nat → Nat) × (Nat → Nat)} {Q : Int → St → Prop} {b : Bool}
set_option maxHeartbeats 4000000 in
set_option maxRecDepth 100000 in
theorem t_X0_layOutSpans_l17 (E : Ev p s m args meth c cX0_layOutSpans 3 RX0 A0 D cA ad (NC b) Z) (hr : meth.sig.returnType = none) {K7 : Int → St → Prop} (hK7 : ∀ (x1 : Int) (σ : St), C32 x1 → CanS (shC b) (NC b) σ → K7 x1 σ → G p l e (rmL 1 0 0) s m args below meth c 3 A0 D cA ad (shC b) (NC b) 0 0 (MQ below (QVc D cA ad (shC b) (NC b) Q A0) args s 0 0 A0) σ 7 [some (.ref (ad 24)), some (vI x1), none] []) : ∀ (n : Nat) (x1 : Int) (x2 : Int) (σ : St), C32 x1 → C32 x2 → CanS (shC b) (NC b) σ → wp_X0_layOutSpans_l17 Q K7 n x1 x2 σ → G p l e (rmL 1 0 0) s m args below meth c 3 A0 D cA ad (shC b) (NC b) 0 0 (MQ below (QVc D cA ad (shC b) (NC b) Q A0) args s 0 0 A0) σ 17 [some (.ref (ad 24)), some (vI x1), some (vI x2)] [] := by
  intro n
  induction n with
  | zero => intro _ _ _ _ _ _ h; exact h.elim
  | succ n ih =>
    intro x1 x2 σ c1 c2 hσ h
    unfold wp_X0_layOutSpans_l17 at h
    refine g_iload_2 E dX0_layOutSpans_17 ?_
    refine g_iload_1 E dX0_layOutSpans_18 ?_
    refine g_iadd E dX0_layOutSpans_19 ?_
    refine g_aload_0 E dX0_layOutSpans_20 ?_
    refine g_getI E fl_RX0_55 (kC_24 b) (sC_24 b) rfl dX0_layOutSpans_21 ?_
    refine g_icmp_gt E (c32_w _) (fC_24_2 hσ) djX0_layOutSpans_24 (fun hc => ?_) (fun hc => ?_)
    · replace h := h.1 hc
      refine g_iinc_1 E rfl (by decide) dX0_layOutSpans_82 (fun v2 ev2 => ?_)
      replace h := h v2 ev2
      have cv2 : C32 v2 := by rw [ev2]; exact c32_w _
      refine g_goto E djX0_layOutSpans_85 ?_
      exact (hK7 v2 σ cv2 hσ h).weak (w_k (w_k (w_d w_n)))
    · replace h := h.2 hc
      refine g_aload_0 E dX0_layOutSpans_27 ?_
      refine g_getR E fl_RX0_19 (kC_24 b) (sC_24 b) rfl dX0_layOutSpans_28 ?_
      refine g_aload_0 E dX0_layOutSpans_31 ?_
      refine g_getI E fl_RX0_72 (kC_24 b) (sC_24 b) rfl dX0_layOutSpans_32 ?_
      refine g_iload_2 E dX0_layOutSpans_35 ?_
      refine g_iast E (kC_26 b) (sC_26 b) (by decide) h.1 dX0_layOutSpans_36 (g_nmS (fun σ3 eσ3 => ?_))
      replace h := h.2 σ3 eσ3
      have hσ3 : CanS (shC b) (NC b) σ3 := by rw [eσ3]; exact wC_26 hσ c2
      refine g_aload_0 E dX0_layOutSpans_37 ?_
      refine g_getR E fl_RX0_22 (kC_24 b) (sC_24 b) rfl dX0_layOutSpans_38 ?_
      refine g_aload_0 E dX0_layOutSpans_41 ?_
      refine g_getI E fl_RX0_72 (kC_24 b) (sC_24 b) rfl dX0_layOutSpans_42 ?_
      refine g_iload_2 E dX0_layOutSpans_45 ?_
      refine g_iload_1 E dX0_layOutSpans_46 ?_
      refine g_iadd E dX0_layOutSpans_47 ?_
      refine g_iast E (kC_27 b) (sC_27 b) (by decide) h.1 dX0_layOutSpans_48 (g_nmS (fun σ4 eσ4 => ?_))
      replace h := h.2 σ4 eσ4
      have hσ4 : CanS (shC b) (NC b) σ4 := by rw [eσ4]; exact wC_27 hσ3 (c32_w _)
      refine g_aload_0 E dX0_layOutSpans_49 ?_
      refine g_getR E fl_RX0_25 (kC_24 b) (sC_24 b) rfl dX0_layOutSpans_50 ?_
      refine g_iload_2 E dX0_layOutSpans_53 ?_
      refine g_bipush E (by decide) dX0_layOutSpans_54 ?_
      refine g_imul E dX0_layOutSpans_56 ?_
      refine g_iload_2 E dX0_layOutSpans_57 ?_
      refine g_iadd E dX0_layOutSpans_58 ?_
      refine g_iload_1 E dX0_layOutSpans_59 ?_
      refine g_iadd E dX0_layOutSpans_60 ?_
      refine g_aload_0 E dX0_layOutSpans_61 ?_
      refine g_getI E fl_RX0_72 (kC_24 b) (sC_24 b) rfl dX0_layOutSpans_62 ?_
      refine g_iast E (kC_28 b) (sC_28 b) (by decide) h.1 dX0_layOutSpans_65 (g_nmS (fun σ5 eσ5 => ?_))
      replace h := h.2 σ5 eσ5
      have hσ5 : CanS (shC b) (NC b) σ5 := by rw [eσ5]; exact wC_28 hσ4 (fC_24_3 hσ4)
      refine g_aload_0 E dX0_layOutSpans_66 ?_
      refine g_dup E rfl dX0_layOutSpans_67 ?_
      refine g_getI E fl_RX0_72 (kC_24 b) (sC_24 b) rfl dX0_layOutSpans_68 ?_
      refine g_iconst E dX0_layOutSpans_71 ?_
      refine g_iadd E dX0_layOutSpans_72 ?_
      refine g_putI E fl_RX0_72 rfl rfl (kC_24 b) (sC_24 b) rfl dX0_layOutSpans_73 (g_nmS (fun σ6 eσ6 => ?_))
      replace h := h σ6 eσ6
      have hσ6 : CanS (shC b) (NC b) σ6 := by rw [eσ6]; exact uC_24_3 hσ5 (c32_w _)
      refine g_iinc_2 E rfl (by decide) dX0_layOutSpans_76 (fun v7 ev7 => ?_)
      replace h := h v7 ev7
      have cv7 : C32 v7 := by rw [ev7]; exact c32_w _
      refine g_goto E djX0_layOutSpans_79 ?_
      exact (ih x1 v7 σ6 c1 cv7 hσ6 h).weak (w_k (w_k (w_k w_n)))
set_option maxHeartbeats 4000000 in
set_option maxRecDepth 100000 in
theorem t_X0_layOutSpans_l7 (E : Ev p s m args meth c cX0_layOutSpans 3 RX0 A0 D cA ad (NC b) Z) (hr : meth.sig.returnType = none) : ∀ (n : Nat) (x1 : Int) (σ : St), C32 x1 → CanS (shC b) (NC b) σ → wp_X0_layOutSpans_l7 Q n x1 σ → G p l e (rmL 1 0 0) s m args below meth c 3 A0 D cA ad (shC b) (NC b) 0 0 (MQ below (QVc D cA ad (shC b) (NC b) Q A0) args s 0 0 A0) σ 7 [some (.ref (ad 24)), some (vI x1), none] [] := by
  intro n
  induction n with
  | zero => intro _ _ _ _ h; exact h.elim
  | succ n ih =>
    intro x1 σ c1 hσ h
    unfold wp_X0_layOutSpans_l7 at h
    refine g_iload_1 E dX0_layOutSpans_7 ?_
    refine g_aload_0 E dX0_layOutSpans_8 ?_
    refine g_getI E fl_RX0_55 (kC_24 b) (sC_24 b) rfl dX0_layOutSpans_9 ?_
    refine g_icmp_gt E c1 (fC_24_2 hσ) djX0_layOutSpans_12 (fun hc => ?_) (fun hc => ?_)
    · replace h := h.1 hc
      exact g_vret E hr h hσ dX0_layOutSpans_88
    · replace h := h.2 hc
      refine g_iconst E dX0_layOutSpans_15 ?_
      refine g_istore_2 E rfl (by decide) dX0_layOutSpans_16 ?_
      exact (t_X0_layOutSpans_l17 E hr ih bigN x1 0 σ c1 cl_0 hσ h).weak (w_k (w_k (w_k w_n)))
set_option maxHeartbeats 4000000 in
set_option maxRecDepth 100000 in
theorem t_X0_layOutSpans (E : Ev p s m args meth c cX0_layOutSpans 3 RX0 A0 D cA ad (NC b) Z) (hr : meth.sig.returnType = none) (σ : St) (hσ : CanS (shC b) (NC b) σ) (h : wp_X0_layOutSpans  σ Q) : G p l e (rmL 1 0 0) s m args below meth c 3 A0 D cA ad (shC b) (NC b) 0 0 (MQ below (QVc D cA ad (shC b) (NC b) Q A0) args s 0 0 A0) σ 0 [some (.ref (ad 24)), none, none] [] := by
  unfold wp_X0_layOutSpans at h
  refine g_aload_0 E dX0_layOutSpans_0 ?_
  refine g_iconst E dX0_layOutSpans_1 ?_
  refine g_putI E fl_RX0_72 rfl rfl (kC_24 b) (sC_24 b) rfl dX0_layOutSpans_2 (g_nmS (fun σ1 eσ1 => ?_))
  replace h := h σ1 eσ1
  have hσ1 : CanS (shC b) (NC b) σ1 := by rw [eσ1]; exact uC_24_3 hσ cl_0
  refine g_iconst E dX0_layOutSpans_5 ?_
  refine g_istore_1 E rfl (by decide) dX0_layOutSpans_6 ?_
  exact (t_X0_layOutSpans_l7 E hr bigN 1 σ1 cl_1 hσ1 h).weak (w_k (w_k (w_d w_n)))
end
theorem m_X0_layOutSpans {Z : (Nat → Nat) × (Nat → Nat)} {l : Launch} {D : va_G} {cA : Nat → ClassId} {ad : Nat → Nat} {b : Bool} {σ : St} {Q : Int → St → Prop} (hA : AdOk (NC b) ad) (hσ : CanS (shC b) (NC b) σ) (h : wp_X0_layOutSpans  σ Q) : KtV Z l D cA ad (shC b) (NC b) yX0_layOutSpans cX0_layOutSpans 3 none 1 [.ref (ad 24)] σ Q :=
  KtV.of my_X0_layOutSpans hA [some (.ref (ad 24)), none, none] (Nat.le_of_ble_eq_true rfl) rfl (fun p e s m args below meth c A0 E hr => t_X0_layOutSpans E hr σ hσ h)
theorem dX4_isUnary_0 : Dc cX4_isUnary 0 (.aload_n 0) 1 1 := ⟨by decide +kernel, rfl⟩
theorem dX4_isUnary_1 : Dc cX4_isUnary 1 (.getfield 18) 3 4 := ⟨by decide +kernel, rfl⟩
theorem dX4_isUnary_4 : Dc cX4_isUnary 4 (.iload_n 1) 1 5 := ⟨by decide +kernel, rfl⟩
theorem dX4_isUnary_5 : Dc cX4_isUnary 5 (.iaload) 1 6 := ⟨by decide +kernel, rfl⟩
theorem dX4_isUnary_6 : Dc cX4_isUnary 6 (.iconst (-1)) 1 7 := ⟨by decide +kernel, rfl⟩
theorem djX4_isUnary_7 : Dj cX4_isUnary 7 (.if_icmp .ne 18) 3 10 18 25 := ⟨by decide +kernel, rfl, by decide⟩
theorem dX4_isUnary_10 : Dc cX4_isUnary 10 (.aload_n 0) 1 11 := ⟨by decide +kernel, rfl⟩
theorem dX4_isUnary_11 : Dc cX4_isUnary 11 (.getfield 15) 3 14 := ⟨by decide +kernel, rfl⟩
theorem dX4_isUnary_14 : Dc cX4_isUnary 14 (.iload_n 1) 1 15 := ⟨by decide +kernel, rfl⟩
theorem dX4_isUnary_15 : Dc cX4_isUnary 15 (.iaload) 1 16 := ⟨by decide +kernel, rfl⟩
theorem dX4_isUnary_16 : Dc cX4_isUnary 16 (.bipush 100) 2 18 := ⟨by decide +kernel, rfl⟩
theorem djX4_isUnary_18 : Dj cX4_isUnary 18 (.if_icmp .ge 7) 3 21 7 25 := ⟨by decide +kernel, rfl, by decide⟩
theorem dX4_isUnary_21 : Dc cX4_isUnary 21 (.iconst 1) 1 22 := ⟨by decide +kernel, rfl⟩
theorem djX4_isUnary_22 : Dj cX4_isUnary 22 (.goto 4) 3 25 4 26 := ⟨by decide +kernel, rfl, by decide⟩
theorem dX4_isUnary_25 : Dc cX4_isUnary 25 (.iconst 0) 1 26 := ⟨by decide +kernel, rfl⟩
theorem dX4_isUnary_26 : Dc cX4_isUnary 26 (.ireturn) 1 27 := ⟨by decide +kernel, rfl⟩
section
variable {p : Program} {l : Launch} {e : Env} {s : State} {m : MethodId} {args : Array Value} {below : List Frame} {meth : Method} {c : Code} {A0 : Nat → Prop} {D : va_G} {cA : Nat → ClassId} {ad : Nat → Nat} {Z : (Nat → Nat) × (Nat → Nat)} {Q : Int → St → Prop} {b : Bool}
set_option maxHeartbeats 4000000 in
set_option maxRecDepth 100000 in
theorem t_X4_isUnary_b25 (E : Ev p s m args meth c cX4_isUnary 2 RX4 A0 D cA ad (NC b) Z) (hr : meth.sig.returnType = (some .boolean)) (σ : St) (hσ : CanS (shC b) (NC b) σ) (h : wp_X4_isUnary_b25 Q  σ) : G p l e (rmL 1 0 0) s m args below meth c 2 A0 D cA ad (shC b) (NC b) 0 0 (MQ below (QIc D cA ad (shC b) (NC b) Q A0) args s 0 0 A0) σ 25 [none, none] [] := by
  unfold wp_X4_isUnary_b25 at h
  refine g_iconst E dX4_isUnary_25 ?_
  exact g_zret E hr (Or.inl rfl) h hσ dX4_isUnary_26
set_option maxHeartbeats 4000000 in
set_option maxRecDepth 100000 in
theorem t_X4_isUnary (E : Ev p s m args meth c cX4_isUnary 2 RX4 A0 D cA ad (NC b) Z) (hr : meth.sig.returnType = (some .boolean)) (x1 : Int) (σ : St) (c1 : C32 x1) (hσ : CanS (shC b) (NC b) σ) (h : wp_X4_isUnary x1 σ Q) : G p l e (rmL 1 0 0) s m args below meth c 2 A0 D cA ad (shC b) (NC b) 0 0 (MQ below (QIc D cA ad (shC b) (NC b) Q A0) args s 0 0 A0) σ 0 [some (.ref (ad 14)), some (vI x1)] [] := by
  unfold wp_X4_isUnary at h
  refine g_aload_0 E dX4_isUnary_0 ?_
  refine g_getR E fl_RX4_18 (kC_14 b) (sC_14 b) rfl dX4_isUnary_1 ?_
  refine g_iload_1 E dX4_isUnary_4 ?_
  refine g_iald E (kC_17 b) (sC_17 b) (by decide) h.1 dX4_isUnary_5 ?_
  replace h := h.2
  refine g_iconst E dX4_isUnary_6 ?_
  refine g_icmp_ne E (aC_17 hσ _) cl_m1 djX4_isUnary_7 (fun hc => ?_) (fun hc => ?_)
  · replace h := h.1 hc
    exact (t_X4_isUnary_b25 E hr σ hσ h).weak (w_d (w_d w_n))
  · replace h := h.2 hc
    refine g_aload_0 E dX4_isUnary_10 ?_
    refine g_getR E fl_RX4_15 (kC_14 b) (sC_14 b) rfl dX4_isUnary_11 ?_
    refine g_iload_1 E dX4_isUnary_14 ?_
    refine g_iald E (kC_16 b) (sC_16 b) (by decide) h.1 dX4_isUnary_15 ?_
    replace h := h.2
    refine g_bipush E (by decide) dX4_isUnary_16 ?_
    refine g_icmp_ge E (aC_16 hσ _) cl_100 djX4_isUnary_18 (fun hc => ?_) (fun hc => ?_)
    · replace h := h.1 hc
      exact (t_X4_isUnary_b25 E hr σ hσ h).weak (w_d (w_d w_n))
    · replace h := h.2 hc
      refine g_iconst E dX4_isUnary_21 ?_
      refine g_goto E djX4_isUnary_22 ?_
      exact g_zret E hr (Or.inr rfl) h hσ dX4_isUnary_26
end
theorem m_X4_isUnary {Z : (Nat → Nat) × (Nat → Nat)} {l : Launch} {D : va_G} {cA : Nat → ClassId} {ad : Nat → Nat} {b : Bool} {x1 : Int} {σ : St} {Q : Int → St → Prop} (hA : AdOk (NC b) ad) (c1 : C32 x1) (hσ : CanS (shC b) (NC b) σ) (h : wp_X4_isUnary x1 σ Q) : KtI Z l D cA ad (shC b) (NC b) yX4_isUnary cX4_isUnary 2 (some .boolean) 1 [.ref (ad 14), vI x1] σ Q :=
  KtI.of my_X4_isUnary hA [some (.ref (ad 14)), some (vI x1)] (Nat.le_of_ble_eq_true rfl) rfl (fun p e s m args below meth c A0 E hr => t_X4_isUnary E hr x1 σ c1 hσ h)
theorem dX0_gatherLive_0 : Dc cX0_gatherLive 0 (.aload_n 0) 1 1 := ⟨by decide +kernel, rfl⟩
theorem dX0_gatherLive_1 : Dc cX0_gatherLive 1 (.iconst 0) 1 2 := ⟨by decide +kernel, rfl⟩
theorem dX0_gatherLive_2 : Dc cX0_gatherLive 2 (.putfield 79) 3 5 := ⟨by decide +kernel, rfl⟩
theorem dX0_gatherLive_5 : Dc cX0_gatherLive 5 (.aload_n 0) 1 6 := ⟨by decide +kernel, rfl⟩
theorem dX0_gatherLive_6 : Dc cX0_gatherLive 6 (.iconst 0) 1 7 := ⟨by decide +kernel, rfl⟩
theorem dX0_gatherLive_7 : Dc cX0_gatherLive 7 (.putfield 82) 3 10 := ⟨by decide +kernel, rfl⟩
theorem dX0_gatherLive_10 : Dc cX0_gatherLive 10 (.iconst 0) 1 11 := ⟨by decide +kernel, rfl⟩
theorem dX0_gatherLive_11 : Dc cX0_gatherLive 11 (.istore_n 1) 1 12 := ⟨by decide +kernel, rfl⟩
theorem dX0_gatherLive_12 : Dc cX0_gatherLive 12 (.iload_n 1) 1 13 := ⟨by decide +kernel, rfl⟩
theorem dX0_gatherLive_13 : Dc cX0_gatherLive 13 (.bipush 12) 2 15 := ⟨by decide +kernel, rfl⟩
theorem djX0_gatherLive_15 : Dj cX0_gatherLive 15 (.if_icmp .ge 104) 3 18 104 119 := ⟨by decide +kernel, rfl, by decide⟩
theorem dX0_gatherLive_18 : Dc cX0_gatherLive 18 (.iconst 0) 1 19 := ⟨by decide +kernel, rfl⟩
theorem dX0_gatherLive_19 : Dc cX0_gatherLive 19 (.istore_n 2) 1 20 := ⟨by decide +kernel, rfl⟩
theorem dX0_gatherLive_20 : Dc cX0_gatherLive 20 (.iload_n 2) 1 21 := ⟨by decide +kernel, rfl⟩
theorem dX0_gatherLive_21 : Dc cX0_gatherLive 21 (.aload_n 0) 1 22 := ⟨by decide +kernel, rfl⟩
theorem dX0_gatherLive_22 : Dc cX0_gatherLive 22 (.getfield 9) 3 25 := ⟨by decide +kernel, rfl⟩
theorem dX0_gatherLive_25 : Dc cX0_gatherLive 25 (.getfield 85) 3 28 := ⟨by decide +kernel, rfl⟩
theorem djX0_gatherLive_28 : Dj cX0_gatherLive 28 (.if_icmp .ge 85) 3 31 85 113 := ⟨by decide +kernel, rfl, by decide⟩
theorem dX0_gatherLive_31 : Dc cX0_gatherLive 31 (.aload_n 0) 1 32 := ⟨by decide +kernel, rfl⟩
theorem dX0_gatherLive_32 : Dc cX0_gatherLive 32 (.getfield 9) 3 35 := ⟨by decide +kernel, rfl⟩
theorem dX0_gatherLive_35 : Dc cX0_gatherLive 35 (.getfield 90) 3 38 := ⟨by decide +kernel, rfl⟩
theorem dX0_gatherLive_38 : Dc cX0_gatherLive 38 (.iload_n 2) 1 39 := ⟨by decide +kernel, rfl⟩
theorem dX0_gatherLive_39 : Dc cX0_gatherLive 39 (.iaload) 1 40 := ⟨by decide +kernel, rfl⟩
theorem dX0_gatherLive_40 : Dc cX0_gatherLive 40 (.iload_n 1) 1 41 := ⟨by decide +kernel, rfl⟩
theorem djX0_gatherLive_41 : Dj cX0_gatherLive 41 (.if_icmp .ne 66) 3 44 66 107 := ⟨by decide +kernel, rfl, by decide⟩
theorem dX0_gatherLive_44 : Dc cX0_gatherLive 44 (.aload_n 0) 1 45 := ⟨by decide +kernel, rfl⟩
theorem dX0_gatherLive_45 : Dc cX0_gatherLive 45 (.getfield 9) 3 48 := ⟨by decide +kernel, rfl⟩
theorem dX0_gatherLive_48 : Dc cX0_gatherLive 48 (.getfield 93) 3 51 := ⟨by decide +kernel, rfl⟩
theorem dX0_gatherLive_51 : Dc cX0_gatherLive 51 (.iload_n 2) 1 52 := ⟨by decide +kernel, rfl⟩
theorem dX0_gatherLive_52 : Dc cX0_gatherLive 52 (.baload) 1 53 := ⟨by decide +kernel, rfl⟩
theorem djX0_gatherLive_53 : Dj cX0_gatherLive 53 (.ifCond .ne 54) 3 56 54 107 := ⟨by decide +kernel, rfl, by decide⟩
theorem dX0_gatherLive_56 : Dc cX0_gatherLive 56 (.aload_n 0) 1 57 := ⟨by decide +kernel, rfl⟩
theorem dX0_gatherLive_57 : Dc cX0_gatherLive 57 (.getfield 43) 3 60 := ⟨by decide +kernel, rfl⟩
theorem dX0_gatherLive_60 : Dc cX0_gatherLive 60 (.aload_n 0) 1 61 := ⟨by decide +kernel, rfl⟩
theorem dX0_gatherLive_61 : Dc cX0_gatherLive 61 (.getfield 79) 3 64 := ⟨by decide +kernel, rfl⟩
theorem dX0_gatherLive_64 : Dc cX0_gatherLive 64 (.iload_n 2) 1 65 := ⟨by decide +kernel, rfl⟩
theorem dX0_gatherLive_65 : Dc cX0_gatherLive 65 (.iastore) 1 66 := ⟨by decide +kernel, rfl⟩
theorem dX0_gatherLive_66 : Dc cX0_gatherLive 66 (.aload_n 0) 1 67 := ⟨by decide +kernel, rfl⟩
theorem dX0_gatherLive_67 : Dc cX0_gatherLive 67 (.dup) 1 68 := ⟨by decide +kernel, rfl⟩
theorem dX0_gatherLive_68 : Dc cX0_gatherLive 68 (.getfield 79) 3 71 := ⟨by decide +kernel, rfl⟩
theorem dX0_gatherLive_71 : Dc cX0_gatherLive 71 (.iconst 1) 1 72 := ⟨by decide +kernel, rfl⟩
theorem dX0_gatherLive_72 : Dc cX0_gatherLive 72 (.iadd) 1 73 := ⟨by decide +kernel, rfl⟩
theorem dX0_gatherLive_73 : Dc cX0_gatherLive 73 (.putfield 79) 3 76 := ⟨by decide +kernel, rfl⟩
theorem dX0_gatherLive_76 : Dc cX0_gatherLive 76 (.aload_n 0) 1 77 := ⟨by decide +kernel, rfl⟩
theorem dX0_gatherLive_77 : Dc cX0_gatherLive 77 (.getfield 9) 3 80 := ⟨by decide +kernel, rfl⟩
theorem dX0_gatherLive_80 : Dc cX0_gatherLive 80 (.iload_n 2) 1 81 := ⟨by decide +kernel, rfl⟩
theorem dX0_gatherLive_81 : Dc cX0_gatherLive 81 (.invokevirtual 97) 3 84 := ⟨by decide +kernel, rfl⟩
theorem djX0_gatherLive_84 : Dj cX0_gatherLive 84 (.ifCond .eq 23) 3 87 23 107 := ⟨by decide +kernel, rfl, by decide⟩
theorem dX0_gatherLive_87 : Dc cX0_gatherLive 87 (.aload_n 0) 1 88 := ⟨by decide +kernel, rfl⟩
theorem dX0_gatherLive_88 : Dc cX0_gatherLive 88 (.getfield 40) 3 91 := ⟨by decide +kernel, rfl⟩
theorem dX0_gatherLive_91 : Dc cX0_gatherLive 91 (.aload_n 0) 1 92 := ⟨by decide +kernel, rfl⟩
theorem dX0_gatherLive_92 : Dc cX0_gatherLive 92 (.getfield 82) 3 95 := ⟨by decide +kernel, rfl⟩
theorem dX0_gatherLive_95 : Dc cX0_gatherLive 95 (.iload_n 2) 1 96 := ⟨by decide +kernel, rfl⟩
theorem dX0_gatherLive_96 : Dc cX0_gatherLive 96 (.iastore) 1 97 := ⟨by decide +kernel, rfl⟩
theorem dX0_gatherLive_97 : Dc cX0_gatherLive 97 (.aload_n 0) 1 98 := ⟨by decide +kernel, rfl⟩
theorem dX0_gatherLive_98 : Dc cX0_gatherLive 98 (.dup) 1 99 := ⟨by decide +kernel, rfl⟩
theorem dX0_gatherLive_99 : Dc cX0_gatherLive 99 (.getfield 82) 3 102 := ⟨by decide +kernel, rfl⟩
theorem dX0_gatherLive_102 : Dc cX0_gatherLive 102 (.iconst 1) 1 103 := ⟨by decide +kernel, rfl⟩
theorem dX0_gatherLive_103 : Dc cX0_gatherLive 103 (.iadd) 1 104 := ⟨by decide +kernel, rfl⟩
theorem dX0_gatherLive_104 : Dc cX0_gatherLive 104 (.putfield 82) 3 107 := ⟨by decide +kernel, rfl⟩
theorem dX0_gatherLive_107 : Dc cX0_gatherLive 107 (.iinc 2 1) 3 110 := ⟨by decide +kernel, rfl⟩
theorem djX0_gatherLive_110 : Dj cX0_gatherLive 110 (.goto (-90)) 3 113 (-90) 20 := ⟨by decide +kernel, rfl, by decide⟩
theorem dX0_gatherLive_113 : Dc cX0_gatherLive 113 (.iinc 1 1) 3 116 := ⟨by decide +kernel, rfl⟩
theorem djX0_gatherLive_116 : Dj cX0_gatherLive 116 (.goto (-104)) 3 119 (-104) 12 := ⟨by decide +kernel, rfl, by decide⟩
theorem dX0_gatherLive_119 : Dc cX0_gatherLive 119 (.return_) 1 120 := ⟨by decide +kernel, rfl⟩
section
variable {p : Program} {l : Launch} {e : Env} {s : State} {m : MethodId} {args : Array Value} {below : List Frame} {meth : Method} {c : Code} {A0 : Nat → Prop} {D : va_G} {cA : Nat → ClassId} {ad : Nat → Nat} {Z : (Nat → Nat) × (Nat → Nat)} {Q : Int → St → Prop} {b : Bool}
set_option maxHeartbeats 4000000 in
set_option maxRecDepth 100000 in
theorem t_X0_gatherLive_b107 (E : Ev p s m args meth c cX0_gatherLive 3 RX0 A0 D cA ad (NC b) Z) (hr : meth.sig.returnType = none) {K12 : Int → St → Prop} (hK12 : ∀ (x1 : Int) (σ : St), C32 x1 → CanS (shC b) (NC b) σ → K12 x1 σ → G p l e (rmL 2 0 0) s m args below meth c 3 A0 D cA ad (shC b) (NC b) 0 0 (MQ below (QVc D cA ad (shC b) (NC b) Q A0) args s 0 0 A0) σ 12 [some (.ref (ad 24)), some (vI x1), none] []) {K20 : Int → Int → St → Prop} (hK20 : ∀ (x1 : Int) (x2 : Int) (σ : St), C32 x1 → C32 x2 → CanS (shC b) (NC b) σ → K20 x1 x2 σ → G p l e (rmL 2 0 0) s m args below meth c 3 A0 D cA ad (shC b) (NC b) 0 0 (MQ below (QVc D cA ad (shC b) (NC b) Q A0) args s 0 0 A0) σ 20 [some (.ref (ad 24)), some (vI x1), some (vI x2)] []) (x1 : Int) (x2 : Int) (σ : St) (c1 : C32 x1) (c2 : C32 x2) (hσ : CanS (shC b) (NC b) σ) (h : wp_X0_gatherLive_b107 Q K12 K20 x1 x2 σ) : G p l e (rmL 2 0 0) s m args below meth c 3 A0 D cA ad (shC b) (NC b) 0 0 (MQ below (QVc D cA ad (shC b) (NC b) Q A0) args s 0 0 A0) σ 107 [some (.ref (ad 24)), some (vI x1), some (vI x2)] [] := by
  unfold wp_X0_gatherLive_b107 at h
  refine g_iinc_2 E rfl (by decide) dX0_gatherLive_107 (fun v10 ev10 => ?_)
  replace h := h v10 ev10
  have cv10 : C32 v10 := by rw [ev10]; exact c32_w _
  refine g_goto E djX0_gatherLive_110 ?_
  exact (hK20 x1 v10 σ c1 cv10 hσ h).weak (w_k (w_k (w_k w_n)))
set_option maxHeartbeats 4000000 in
set_option maxRecDepth 100000 in
theorem t_X0_gatherLive_l20 (E : Ev p s m args meth c cX0_gatherLive 3 RX0 A0 D cA ad (NC b) Z) (hr : meth.sig.returnType = none) {K12 : Int → St → Prop} (hK12 : ∀ (x1 : Int) (σ : St), C32 x1 → CanS (shC b) (NC b) σ → K12 x1 σ → G p l e (rmL 2 0 0) s m args below meth c 3 A0 D cA ad (shC b) (NC b) 0 0 (MQ below (QVc D cA ad (shC b) (NC b) Q A0) args s 0 0 A0) σ 12 [some (.ref (ad 24)), some (vI x1), none] []) : ∀ (n : Nat) (x1 : Int) (x2 : Int) (σ : St), C32 x1 → C32 x2 → CanS (shC b) (NC b) σ → wp_X0_gatherLive_l20 Q K12 n x1 x2 σ → G p l e (rmL 2 0 0) s m args below meth c 3 A0 D cA ad (shC b) (NC b) 0 0 (MQ below (QVc D cA ad (shC b) (NC b) Q A0) args s 0 0 A0) σ 20 [some (.ref (ad 24)), some (vI x1), some (vI x2)] [] := by
  intro n
  induction n with
  | zero => intro _ _ _ _ _ _ h; exact h.elim
  | succ n ih =>
    intro x1 x2 σ c1 c2 hσ h
    unfold wp_X0_gatherLive_l20 at h
    refine g_iload_2 E dX0_gatherLive_20 ?_
    refine g_aload_0 E dX0_gatherLive_21 ?_
    refine g_getR E fl_RX0_9 (kC_24 b) (sC_24 b) rfl dX0_gatherLive_22 ?_
    refine g_getI E fl_RX0_85 (kC_14 b) (sC_14 b) rfl dX0_gatherLive_25 ?_
    refine g_icmp_ge E c2 (fC_14_0 hσ) djX0_gatherLive_28 (fun hc => ?_) (fun hc => ?_)
    · replace h := h.1 hc
      refine g_iinc_1 E rfl (by decide) dX0_gatherLive_113 (fun v3 ev3 => ?_)
      replace h := h v3 ev3
      have cv3 : C32 v3 := by rw [ev3]; exact c32_w _
      refine g_goto E djX0_gatherLive_116 ?_
      exact (hK12 v3 σ cv3 hσ h).weak (w_k (w_k (w_d w_n)))
    · replace h := h.2 hc
      refine g_aload_0 E dX0_gatherLive_31 ?_
      refine g_getR E fl_RX0_9 (kC_24 b) (sC_24 b) rfl dX0_gatherLive_32 ?_
      refine g_getR E fl_RX0_90 (kC_14 b) (sC_14 b) rfl dX0_gatherLive_35 ?_
      refine g_iload_2 E dX0_gatherLive_38 ?_
      refine g_iald E (kC_15 b) (sC_15 b) (by decide) h.1 dX0_gatherLive_39 ?_
      replace h := h.2
      refine g_iload_1 E dX0_gatherLive_40 ?_
      refine g_icmp_ne E (aC_15 hσ _) c1 djX0_gatherLive_41 (fun hc => ?_) (fun hc => ?_)
      · replace h := h.1 hc
        exact (t_X0_gatherLive_b107 E hr hK12 ih x1 x2 σ c1 c2 hσ h).weak (w_k (w_k (w_k w_n)))
      · replace h := h.2 hc
        refine g_aload_0 E dX0_gatherLive_44 ?_
        refine g_getR E fl_RX0_9 (kC_24 b) (sC_24 b) rfl dX0_gatherLive_45 ?_
        refine g_getR E fl_RX0_93 (kC_14 b) (sC_14 b) rfl dX0_gatherLive_48 ?_
        refine g_iload_2 E dX0_gatherLive_51 ?_
        refine g_zald E (kC_20 b) (sC_20 b) (by decide) h.1 dX0_gatherLive_52 ?_
        replace h := h.2
        refine g_if_ne E (aC_20 hσ _) djX0_gatherLive_53 (fun hc => ?_) (fun hc => ?_)
        · replace h := h.1 hc
          exact (t_X0_gatherLive_b107 E hr hK12 ih x1 x2 σ c1 c2 hσ h).weak (w_k (w_k (w_k w_n)))
        · replace h := h.2 hc
          refine g_aload_0 E dX0_gatherLive_56 ?_
          refine g_getR E fl_RX0_43 (kC_24 b) (sC_24 b) rfl dX0_gatherLive_57 ?_
          refine g_aload_0 E dX0_gatherLive_60 ?_
          refine g_getI E fl_RX0_79 (kC_24 b) (sC_24 b) rfl dX0_gatherLive_61 ?_
          refine g_iload_2 E dX0_gatherLive_64 ?_
          refine g_iast E (kC_34 b) (sC_34 b) (by decide) h.1 dX0_gatherLive_65 (g_nmS (fun σ4 eσ4 => ?_))
          replace h := h.2 σ4 eσ4
          have hσ4 : CanS (shC b) (NC b) σ4 := by rw [eσ4]; exact wC_34 hσ c2
          refine g_aload_0 E dX0_gatherLive_66 ?_
          refine g_dup E rfl dX0_gatherLive_67 ?_
          refine g_getI E fl_RX0_79 (kC_24 b) (sC_24 b) rfl dX0_gatherLive_68 ?_
          refine g_iconst E dX0_gatherLive_71 ?_
          refine g_iadd E dX0_gatherLive_72 ?_
          refine g_putI E fl_RX0_79 rfl rfl (kC_24 b) (sC_24 b) rfl dX0_gatherLive_73 (g_nmS (fun σ5 eσ5 => ?_))
          replace h := h σ5 eσ5
          have hσ5 : CanS (shC b) (NC b) σ5 := by rw [eσ5]; exact uC_24_14 hσ4 (c32_w _)
          refine g_aload_0 E dX0_gatherLive_76 ?_
          refine g_getR E fl_RX0_9 (kC_24 b) (sC_24 b) rfl dX0_gatherLive_77 ?_
          refine g_iload_2 E dX0_gatherLive_80 ?_
          refine g_callvI E my_X4_isUnary mi_X4_isUnary msel_X4_isUnary ml_RX0_97 (rm_ok (by decide) (by decide)) ⟨Nat.zero_le _, Nat.zero_le _⟩ (kC_14 b) (sC_14 b) rfl (m_X4_isUnary E.2.2.1 c2 hσ5 h) rfl rfl (Nat.le_of_ble_eq_true rfl) dX0_gatherLive_81 (fun r6 σ7 cr6 hσ7 h => ?_)
          refine g_if_eq E cr6 djX0_gatherLive_84 (fun hc => ?_) (fun hc => ?_)
          · replace h := h.1 hc
            exact (t_X0_gatherLive_b107 E hr hK12 ih x1 x2 σ7 c1 c2 hσ7 h).weak (w_k (w_k (w_k w_n)))
          · replace h := h.2 hc
            refine g_aload_0 E dX0_gatherLive_87 ?_
            refine g_getR E fl_RX0_40 (kC_24 b) (sC_24 b) rfl dX0_gatherLive_88 ?_
            refine g_aload_0 E dX0_gatherLive_91 ?_
            refine g_getI E fl_RX0_82 (kC_24 b) (sC_24 b) rfl dX0_gatherLive_92 ?_
            refine g_iload_2 E dX0_gatherLive_95 ?_
            refine g_iast E (kC_33 b) (sC_33 b) (by decide) h.1 dX0_gatherLive_96 (g_nmS (fun σ8 eσ8 => ?_))
            replace h := h.2 σ8 eσ8
            have hσ8 : CanS (shC b) (NC b) σ8 := by rw [eσ8]; exact wC_33 hσ7 c2
            refine g_aload_0 E dX0_gatherLive_97 ?_
            refine g_dup E rfl dX0_gatherLive_98 ?_
            refine g_getI E fl_RX0_82 (kC_24 b) (sC_24 b) rfl dX0_gatherLive_99 ?_
            refine g_iconst E dX0_gatherLive_102 ?_
            refine g_iadd E dX0_gatherLive_103 ?_
            refine g_putI E fl_RX0_82 rfl rfl (kC_24 b) (sC_24 b) rfl dX0_gatherLive_104 (g_nmS (fun σ9 eσ9 => ?_))
            replace h := h σ9 eσ9
            have hσ9 : CanS (shC b) (NC b) σ9 := by rw [eσ9]; exact uC_24_12 hσ8 (c32_w _)
            exact (t_X0_gatherLive_b107 E hr hK12 ih x1 x2 σ9 c1 c2 hσ9 h).weak (w_k (w_k (w_k w_n)))
set_option maxHeartbeats 4000000 in
set_option maxRecDepth 100000 in
theorem t_X0_gatherLive_l12 (E : Ev p s m args meth c cX0_gatherLive 3 RX0 A0 D cA ad (NC b) Z) (hr : meth.sig.returnType = none) : ∀ (n : Nat) (x1 : Int) (σ : St), C32 x1 → CanS (shC b) (NC b) σ → wp_X0_gatherLive_l12 Q n x1 σ → G p l e (rmL 2 0 0) s m args below meth c 3 A0 D cA ad (shC b) (NC b) 0 0 (MQ below (QVc D cA ad (shC b) (NC b) Q A0) args s 0 0 A0) σ 12 [some (.ref (ad 24)), some (vI x1), none] [] := by
  intro n
  induction n with
  | zero => intro _ _ _ _ h; exact h.elim
  | succ n ih =>
    intro x1 σ c1 hσ h
    unfold wp_X0_gatherLive_l12 at h
    refine g_iload_1 E dX0_gatherLive_12 ?_
    refine g_bipush E (by decide) dX0_gatherLive_13 ?_
    refine g_icmp_ge E c1 cl_12 djX0_gatherLive_15 (fun hc => ?_) (fun hc => ?_)
    · replace h := h.1 hc
      exact g_vret E hr h hσ dX0_gatherLive_119
    · replace h := h.2 hc
      refine g_iconst E dX0_gatherLive_18 ?_
      refine g_istore_2 E rfl (by decide) dX0_gatherLive_19 ?_
      exact (t_X0_gatherLive_l20 E hr ih bigN x1 0 σ c1 cl_0 hσ h).weak (w_k (w_k (w_k w_n)))
set_option maxHeartbeats 4000000 in
set_option maxRecDepth 100000 in
theorem t_X0_gatherLive (E : Ev p s m args meth c cX0_gatherLive 3 RX0 A0 D cA ad (NC b) Z) (hr : meth.sig.returnType = none) (σ : St) (hσ : CanS (shC b) (NC b) σ) (h : wp_X0_gatherLive  σ Q) : G p l e (rmL 2 0 0) s m args below meth c 3 A0 D cA ad (shC b) (NC b) 0 0 (MQ below (QVc D cA ad (shC b) (NC b) Q A0) args s 0 0 A0) σ 0 [some (.ref (ad 24)), none, none] [] := by
  unfold wp_X0_gatherLive at h
  refine g_aload_0 E dX0_gatherLive_0 ?_
  refine g_iconst E dX0_gatherLive_1 ?_
  refine g_putI E fl_RX0_79 rfl rfl (kC_24 b) (sC_24 b) rfl dX0_gatherLive_2 (g_nmS (fun σ1 eσ1 => ?_))
  replace h := h σ1 eσ1
  have hσ1 : CanS (shC b) (NC b) σ1 := by rw [eσ1]; exact uC_24_14 hσ cl_0
  refine g_aload_0 E dX0_gatherLive_5 ?_
  refine g_iconst E dX0_gatherLive_6 ?_
  refine g_putI E fl_RX0_82 rfl rfl (kC_24 b) (sC_24 b) rfl dX0_gatherLive_7 (g_nmS (fun σ2 eσ2 => ?_))
  replace h := h σ2 eσ2
  have hσ2 : CanS (shC b) (NC b) σ2 := by rw [eσ2]; exact uC_24_12 hσ1 cl_0
  refine g_iconst E dX0_gatherLive_10 ?_
  refine g_istore_1 E rfl (by decide) dX0_gatherLive_11 ?_
  exact (t_X0_gatherLive_l12 E hr bigN 0 σ2 cl_0 hσ2 h).weak (w_k (w_k (w_d w_n)))
end
theorem m_X0_gatherLive {Z : (Nat → Nat) × (Nat → Nat)} {l : Launch} {D : va_G} {cA : Nat → ClassId} {ad : Nat → Nat} {b : Bool} {σ : St} {Q : Int → St → Prop} (hA : AdOk (NC b) ad) (hσ : CanS (shC b) (NC b) σ) (h : wp_X0_gatherLive  σ Q) : KtV Z l D cA ad (shC b) (NC b) yX0_gatherLive cX0_gatherLive 3 none 2 [.ref (ad 24)] σ Q :=
  KtV.of my_X0_gatherLive hA [some (.ref (ad 24)), none, none] (Nat.le_of_ble_eq_true rfl) rfl (fun p e s m args below meth c A0 E hr => t_X0_gatherLive E hr σ hσ h)
