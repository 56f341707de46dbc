theorem dX11_putFour_0 : Dc cX11_putFour 0 (.bipush 24) 2 2 := ⟨by decide +kernel, rfl⟩
theorem dX11_putFour_2 : Dc cX11_putFour 2 (.istore_n 2) 1 3 := ⟨by decide +kernel, rfl⟩
theorem dX11_putFour_3 : Dc cX11_putFour 3 (.iload_n 2) 1 4 := ⟨by decide +kernel, rfl⟩
theorem djX11_putFour_4 : Dj cX11_putFour 4 (.ifCond .lt 45) 3 7 45 49 := ⟨by decide +kernel, rfl, by decide⟩
theorem dX11_putFour_7 : Dc cX11_putFour 7 (.aload_n 0) 1 8 := ⟨by decide +kernel, rfl⟩
theorem dX11_putFour_8 : Dc cX11_putFour 8 (.getfield 106) 3 11 := ⟨by decide +kernel, rfl⟩
theorem dX11_putFour_11 : Dc cX11_putFour 11 (.sipush 1000) 3 14 := ⟨by decide +kernel, rfl⟩
theorem djX11_putFour_14 : Dj cX11_putFour 14 (.if_icmp .ge 35) 3 17 35 49 := ⟨by decide +kernel, rfl, by decide⟩
theorem dX11_putFour_17 : Dc cX11_putFour 17 (.aload_n 0) 1 18 := ⟨by decide +kernel, rfl⟩
theorem dX11_putFour_18 : Dc cX11_putFour 18 (.getfield 9) 3 21 := ⟨by decide +kernel, rfl⟩
theorem dX11_putFour_21 : Dc cX11_putFour 21 (.aload_n 0) 1 22 := ⟨by decide +kernel, rfl⟩
theorem dX11_putFour_22 : Dc cX11_putFour 22 (.getfield 106) 3 25 := ⟨by decide +kernel, rfl⟩
theorem dX11_putFour_25 : Dc cX11_putFour 25 (.iload_n 1) 1 26 := ⟨by decide +kernel, rfl⟩
theorem dX11_putFour_26 : Dc cX11_putFour 26 (.iload_n 2) 1 27 := ⟨by decide +kernel, rfl⟩
theorem dX11_putFour_27 : Dc cX11_putFour 27 (.iushr) 1 28 := ⟨by decide +kernel, rfl⟩
theorem dX11_putFour_28 : Dc cX11_putFour 28 (.sipush 255) 3 31 := ⟨by decide +kernel, rfl⟩
theorem dX11_putFour_31 : Dc cX11_putFour 31 (.iand) 1 32 := ⟨by decide +kernel, rfl⟩
theorem dX11_putFour_32 : Dc cX11_putFour 32 (.iastore) 1 33 := ⟨by decide +kernel, rfl⟩
theorem dX11_putFour_33 : Dc cX11_putFour 33 (.aload_n 0) 1 34 := ⟨by decide +kernel, rfl⟩
theorem dX11_putFour_34 : Dc cX11_putFour 34 (.dup) 1 35 := ⟨by decide +kernel, rfl⟩
theorem dX11_putFour_35 : Dc cX11_putFour 35 (.getfield 106) 3 38 := ⟨by decide +kernel, rfl⟩
theorem dX11_putFour_38 : Dc cX11_putFour 38 (.iconst 1) 1 39 := ⟨by decide +kernel, rfl⟩
theorem dX11_putFour_39 : Dc cX11_putFour 39 (.iadd) 1 40 := ⟨by decide +kernel, rfl⟩
theorem dX11_putFour_40 : Dc cX11_putFour 40 (.putfield 106) 3 43 := ⟨by decide +kernel, rfl⟩
theorem dX11_putFour_43 : Dc cX11_putFour 43 (.iinc 2 (-8)) 3 46 := ⟨by decide +kernel, rfl⟩
theorem djX11_putFour_46 : Dj cX11_putFour 46 (.goto (-43)) 3 49 (-43) 3 := ⟨by decide +kernel, rfl, by decide⟩
theorem dX11_putFour_49 : Dc cX11_putFour 49 (.return_) 1 50 := ⟨by decide +kernel, rfl⟩
section
variable {p : Program} {l : Launch} {e : Env} {s : State} {m : MethodId} {args : Array Value} {below : List Frame} {meth : Method} {c : Code} {A0 : Nat → Prop} {D : va_G} {cA : Nat → ClassId} {ad : Nat → Nat} {Z : (Nat → Nat) × (Nat → Nat)} {Q : Int → St → Prop} {b : Bool}
set_option maxHeartbeats 4000000 in
set_option maxRecDepth 100000 in
theorem t_X11_putFour_l3 (E : Ev p s m args meth c cX11_putFour 3 RX11 A0 D cA ad (NC b) Z) (hr : meth.sig.returnType = none) : ∀ (n : Nat) (x1 : Int) (x2 : Int) (σ : St), C32 x1 → C32 x2 → CanS (shC b) (NC b) σ → wp_X11_putFour_l3 Q n x1 x2 σ → G p l e (rmL 1 0 0) s m args below meth c 3 A0 D cA ad (shC b) (NC b) 0 0 (MQ below (QVc D cA ad (shC b) (NC b) Q A0) args s 0 0 A0) σ 3 [some (.ref (ad 0)), some (vI x1), some (vI x2)] [] := by
  intro n
  induction n with
  | zero => intro _ _ _ _ _ _ h; exact h.elim
  | succ n ih =>
    intro x1 x2 σ c1 c2 hσ h
    unfold wp_X11_putFour_l3 at h
    refine g_iload_2 E dX11_putFour_3 ?_
    refine g_if_lt E c2 djX11_putFour_4 (fun hc => ?_) (fun hc => ?_)
    · replace h := h.1 hc
      exact g_vret E hr h hσ dX11_putFour_49
    · replace h := h.2 hc
      refine g_aload_0 E dX11_putFour_7 ?_
      refine g_getI E fl_RX11_106 (kC_0 b) (sC_0 b) rfl dX11_putFour_8 ?_
      refine g_sipush E (by decide) dX11_putFour_11 ?_
      refine g_icmp_ge E (fC_0_1 hσ) cl_1000 djX11_putFour_14 (fun hc => ?_) (fun hc => ?_)
      · replace h := h.1 hc
        exact g_vret E hr h hσ dX11_putFour_49
      · replace h := h.2 hc
        refine g_aload_0 E dX11_putFour_17 ?_
        refine g_getR E fl_RX11_9 (kC_0 b) (sC_0 b) rfl dX11_putFour_18 ?_
        refine g_aload_0 E dX11_putFour_21 ?_
        refine g_getI E fl_RX11_106 (kC_0 b) (sC_0 b) rfl dX11_putFour_22 ?_
        refine g_iload_1 E dX11_putFour_25 ?_
        refine g_iload_2 E dX11_putFour_26 ?_
        refine g_iushr E dX11_putFour_27 ?_
        refine g_sipush E (by decide) dX11_putFour_28 ?_
        refine g_iand E dX11_putFour_31 ?_
        refine g_iast E (kC_1 b) (sC_1 b) (by decide) h.1 dX11_putFour_32 (g_nmS (fun σ1 eσ1 => ?_))
        replace h := h.2 σ1 eσ1
        have hσ1 : CanS (shC b) (NC b) σ1 := by rw [eσ1]; exact wC_1 hσ (c32_t _)
        refine g_aload_0 E dX11_putFour_33 ?_
        refine g_dup E rfl dX11_putFour_34 ?_
        refine g_getI E fl_RX11_106 (kC_0 b) (sC_0 b) rfl dX11_putFour_35 ?_
        refine g_iconst E dX11_putFour_38 ?_
        refine g_iadd E dX11_putFour_39 ?_
        refine g_putI E fl_RX11_106 rfl rfl (kC_0 b) (sC_0 b) rfl dX11_putFour_40 (g_nmS (fun σ2 eσ2 => ?_))
        replace h := h σ2 eσ2
        have hσ2 : CanS (shC b) (NC b) σ2 := by rw [eσ2]; exact uC_0_1 hσ1 (c32_w _)
        refine g_iinc_2 E rfl (by decide) dX11_putFour_43 (fun v3 ev3 => ?_)
        replace h := h v3 ev3
        have cv3 : C32 v3 := by rw [ev3]; exact c32_w _
        refine g_goto E djX11_putFour_46 ?_
        exact (ih x1 v3 σ2 c1 cv3 hσ2 h).weak (w_k (w_k (w_k w_n)))
set_option maxHeartbeats 4000000 in
set_option maxRecDepth 100000 in
theorem t_X11_putFour (E : Ev p s m args meth c cX11_putFour 3 RX11 A0 D cA ad (NC b) Z) (hr : meth.sig.returnType = none) (x1 : Int) (σ : St) (c1 : C32 x1) (hσ : CanS (shC b) (NC b) σ) (h : wp_X11_putFour x1 σ Q) : G p l e (rmL 1 0 0) s m args below meth c 3 A0 D cA ad (shC b) (NC b) 0 0 (MQ below (QVc D cA ad (shC b) (NC b) Q A0) args s 0 0 A0) σ 0 [some (.ref (ad 0)), some (vI x1), none] [] := by
  unfold wp_X11_putFour at h
  refine g_bipush E (by decide) dX11_putFour_0 ?_
  refine g_istore_2 E rfl (by decide) dX11_putFour_2 ?_
  exact (t_X11_putFour_l3 E hr bigN x1 24 σ c1 cl_24 hσ h).weak (w_k (w_k (w_k w_n)))
end
theorem m_X11_putFour {Z : (Nat → Nat) × (Nat → Nat)} {l : Launch} {D : va_G} {cA : Nat → ClassId} {ad : Nat → Nat} {b : Bool} {x1 : Int} {σ : St} {Q : Int → St → Prop} (hA : AdOk (NC b) ad) (c1 : C32 x1) (hσ : CanS (shC b) (NC b) σ) (h : wp_X11_putFour x1 σ Q) : KtV Z l D cA ad (shC b) (NC b) yX11_putFour cX11_putFour 3 none 1 [.ref (ad 0), vI x1] σ Q :=
  KtV.of my_X11_putFour hA [some (.ref (ad 0)), some (vI x1), none] (Nat.le_of_ble_eq_true rfl) rfl (fun p e s m args below meth c A0 E hr => t_X11_putFour E hr x1 σ c1 hσ h)
theorem dX11_feed_0 : Dc cX11_feed 0 (.aload_n 0) 1 1 := ⟨by decide +kernel, rfl⟩
theorem dX11_feed_1 : Dc cX11_feed 1 (.getfield 106) 3 4 := ⟨by decide +kernel, rfl⟩
theorem dX11_feed_4 : Dc cX11_feed 4 (.bipush 20) 2 6 := ⟨by decide +kernel, rfl⟩
theorem dX11_feed_6 : Dc cX11_feed 6 (.iadd) 1 7 := ⟨by decide +kernel, rfl⟩
theorem dX11_feed_7 : Dc cX11_feed 7 (.sipush 1000) 3 10 := ⟨by decide +kernel, rfl⟩
theorem djX11_feed_10 : Dj cX11_feed 10 (.if_icmp .le 5) 3 13 5 15 := ⟨by decide +kernel, rfl, by decide⟩
theorem dX11_feed_13 : Dc cX11_feed 13 (.iconst (-1)) 1 14 := ⟨by decide +kernel, rfl⟩
theorem dX11_feed_14 : Dc cX11_feed 14 (.ireturn) 1 15 := ⟨by decide +kernel, rfl⟩
theorem dX11_feed_15 : Dc cX11_feed 15 (.aload_n 0) 1 16 := ⟨by decide +kernel, rfl⟩
theorem dX11_feed_16 : Dc cX11_feed 16 (.iload_n 1) 1 17 := ⟨by decide +kernel, rfl⟩
theorem dX11_feed_17 : Dc cX11_feed 17 (.invokevirtual 110) 3 20 := ⟨by decide +kernel, rfl⟩
theorem dX11_feed_20 : Dc cX11_feed 20 (.aload_n 0) 1 21 := ⟨by decide +kernel, rfl⟩
theorem dX11_feed_21 : Dc cX11_feed 21 (.iload_n 2) 1 22 := ⟨by decide +kernel, rfl⟩
theorem dX11_feed_22 : Dc cX11_feed 22 (.invokevirtual 110) 3 25 := ⟨by decide +kernel, rfl⟩
theorem dX11_feed_25 : Dc cX11_feed 25 (.aload_n 0) 1 26 := ⟨by decide +kernel, rfl⟩
theorem dX11_feed_26 : Dc cX11_feed 26 (.iload_n 3) 1 27 := ⟨by decide +kernel, rfl⟩
theorem dX11_feed_27 : Dc cX11_feed 27 (.invokevirtual 110) 3 30 := ⟨by decide +kernel, rfl⟩
theorem dX11_feed_30 : Dc cX11_feed 30 (.aload_n 0) 1 31 := ⟨by decide +kernel, rfl⟩
theorem dX11_feed_31 : Dc cX11_feed 31 (.iload 4) 2 33 := ⟨by decide +kernel, rfl⟩
theorem dX11_feed_33 : Dc cX11_feed 33 (.invokevirtual 110) 3 36 := ⟨by decide +kernel, rfl⟩
theorem dX11_feed_36 : Dc cX11_feed 36 (.aload_n 0) 1 37 := ⟨by decide +kernel, rfl⟩
theorem dX11_feed_37 : Dc cX11_feed 37 (.iload 5) 2 39 := ⟨by decide +kernel, rfl⟩
theorem dX11_feed_39 : Dc cX11_feed 39 (.invokevirtual 110) 3 42 := ⟨by decide +kernel, rfl⟩
theorem dX11_feed_42 : Dc cX11_feed 42 (.aload_n 0) 1 43 := ⟨by decide +kernel, rfl⟩
theorem dX11_feed_43 : Dc cX11_feed 43 (.getfield 106) 3 46 := ⟨by decide +kernel, rfl⟩
theorem dX11_feed_46 : Dc cX11_feed 46 (.ireturn) 1 47 := ⟨by decide +kernel, rfl⟩
section
variable {p : Program} {l : Launch} {e : Env} {s : State} {m : MethodId} {args : Array Value} {below : List Frame} {meth : Method} {c : Code} {A0 : Nat → Prop} {D : va_G} {cA : Nat → ClassId} {ad : Nat → Nat} {Z : (Nat → Nat) × (Nat → Nat)} {Q : Int → St → Prop} {b : Bool}
set_option maxHeartbeats 4000000 in
set_option maxRecDepth 100000 in
theorem t_X11_feed (E : Ev p s m args meth c cX11_feed 6 RX11 A0 D cA ad (NC b) Z) (hr : meth.sig.returnType = (some .int)) (x1 : Int) (x2 : Int) (x3 : Int) (x4 : Int) (x5 : Int) (σ : St) (c1 : C32 x1) (c2 : C32 x2) (c3 : C32 x3) (c4 : C32 x4) (c5 : C32 x5) (hσ : CanS (shC b) (NC b) σ) (h : wp_X11_feed x1 x2 x3 x4 x5 σ Q) : G p l e (rmL 2 0 0) s m args below meth c 6 A0 D cA ad (shC b) (NC b) 0 0 (MQ below (QIc D cA ad (shC b) (NC b) Q A0) args s 0 0 A0) σ 0 [some (.ref (ad 0)), some (vI x1), some (vI x2), some (vI x3), some (vI x4), some (vI x5)] [] := by
  unfold wp_X11_feed at h
  refine g_aload_0 E dX11_feed_0 ?_
  refine g_getI E fl_RX11_106 (kC_0 b) (sC_0 b) rfl dX11_feed_1 ?_
  refine g_bipush E (by decide) dX11_feed_4 ?_
  refine g_iadd E dX11_feed_6 ?_
  refine g_sipush E (by decide) dX11_feed_7 ?_
  refine g_icmp_le E (c32_w _) cl_1000 djX11_feed_10 (fun hc => ?_) (fun hc => ?_)
  · replace h := h.1 hc
    refine g_aload_0 E dX11_feed_15 ?_
    refine g_iload_1 E dX11_feed_16 ?_
    refine g_callvV E my_X11_putFour mi_X11_putFour msel_X11_putFour ml_RX11_110 (rm_ok (by decide) (by decide)) ⟨Nat.zero_le _, Nat.zero_le _⟩ (kC_0 b) (sC_0 b) rfl (m_X11_putFour E.2.2.1 c1 hσ h) rfl rfl (Nat.le_of_ble_eq_true rfl) dX11_feed_17 (fun σ2 r1 hσ2 h => ?_)
    refine g_aload_0 E dX11_feed_20 ?_
    refine g_iload_2 E dX11_feed_21 ?_
    refine g_callvV E my_X11_putFour mi_X11_putFour msel_X11_putFour ml_RX11_110 (rm_ok (by decide) (by decide)) ⟨Nat.zero_le _, Nat.zero_le _⟩ (kC_0 b) (sC_0 b) rfl (m_X11_putFour E.2.2.1 c2 hσ2 h) rfl rfl (Nat.le_of_ble_eq_true rfl) dX11_feed_22 (fun σ4 r3 hσ4 h => ?_)
    refine g_aload_0 E dX11_feed_25 ?_
    refine g_iload_3 E dX11_feed_26 ?_
    refine g_callvV E my_X11_putFour mi_X11_putFour msel_X11_putFour ml_RX11_110 (rm_ok (by decide) (by decide)) ⟨Nat.zero_le _, Nat.zero_le _⟩ (kC_0 b) (sC_0 b) rfl (m_X11_putFour E.2.2.1 c3 hσ4 h) rfl rfl (Nat.le_of_ble_eq_true rfl) dX11_feed_27 (fun σ6 r5 hσ6 h => ?_)
    refine g_aload_0 E dX11_feed_30 ?_
    refine g_iload_4 E dX11_feed_31 ?_
    refine g_callvV E my_X11_putFour mi_X11_putFour msel_X11_putFour ml_RX11_110 (rm_ok (by decide) (by decide)) ⟨Nat.zero_le _, Nat.zero_le _⟩ (kC_0 b) (sC_0 b) rfl (m_X11_putFour E.2.2.1 c4 hσ6 h) rfl rfl (Nat.le_of_ble_eq_true rfl) dX11_feed_33 (fun σ8 r7 hσ8 h => ?_)
    refine g_aload_0 E dX11_feed_36 ?_
    refine g_iload_5 E dX11_feed_37 ?_
    refine g_callvV E my_X11_putFour mi_X11_putFour msel_X11_putFour ml_RX11_110 (rm_ok (by decide) (by decide)) ⟨Nat.zero_le _, Nat.zero_le _⟩ (kC_0 b) (sC_0 b) rfl (m_X11_putFour E.2.2.1 c5 hσ8 h) rfl rfl (Nat.le_of_ble_eq_true rfl) dX11_feed_39 (fun σ10 r9 hσ10 h => ?_)
    refine g_aload_0 E dX11_feed_42 ?_
    refine g_getI E fl_RX11_106 (kC_0 b) (sC_0 b) rfl dX11_feed_43 ?_
    exact g_iret E hr (fC_0_1 hσ10) h hσ10 dX11_feed_46
  · replace h := h.2 hc
    refine g_iconst E dX11_feed_13 ?_
    exact g_iret E hr cl_m1 h hσ dX11_feed_14
end
theorem m_X11_feed {Z : (Nat → Nat) × (Nat → Nat)} {l : Launch} {D : va_G} {cA : Nat → ClassId} {ad : Nat → Nat} {b : Bool} {x1 x2 x3 x4 x5 : Int} {σ : St} {Q : Int → St → Prop} (hA : AdOk (NC b) ad) (c1 : C32 x1) (c2 : C32 x2) (c3 : C32 x3) (c4 : C32 x4) (c5 : C32 x5) (hσ : CanS (shC b) (NC b) σ) (h : wp_X11_feed x1 x2 x3 x4 x5 σ Q) : KtI Z l D cA ad (shC b) (NC b) yX11_feed cX11_feed 6 (some .int) 2 [.ref (ad 0), vI x1, vI x2, vI x3, vI x4, vI x5] σ Q :=
  KtI.of my_X11_feed hA [some (.ref (ad 0)), some (vI x1), some (vI x2), some (vI x3), some (vI x4), some (vI x5)] (Nat.le_of_ble_eq_true rfl) rfl (fun p e s m args below meth c A0 E hr => t_X11_feed E hr x1 x2 x3 x4 x5 σ c1 c2 c3 c4 c5 hσ h)
theorem dX11_end_0 : Dc cX11_end 0 (.iload_n 1) 1 1 := ⟨by decide +kernel, rfl⟩
theorem djX11_end_1 : Dj cX11_end 1 (.ifCond .lt 11) 3 4 11 12 := ⟨by decide +kernel, rfl, by decide⟩
theorem dX11_end_4 : Dc cX11_end 4 (.iload_n 1) 1 5 := ⟨by decide +kernel, rfl⟩
theorem dX11_end_5 : Dc cX11_end 5 (.aload_n 0) 1 6 := ⟨by decide +kernel, rfl⟩
theorem dX11_end_6 : Dc cX11_end 6 (.getfield 106) 3 9 := ⟨by decide +kernel, rfl⟩
theorem djX11_end_9 : Dj cX11_end 9 (.if_icmp .le 5) 3 12 5 14 := ⟨by decide +kernel, rfl, by decide⟩
theorem dX11_end_12 : Dc cX11_end 12 (.iconst (-1)) 1 13 := ⟨by decide +kernel, rfl⟩
theorem dX11_end_13 : Dc cX11_end 13 (.ireturn) 1 14 := ⟨by decide +kernel, rfl⟩
theorem dX11_end_14 : Dc cX11_end 14 (.aload_n 0) 1 15 := ⟨by decide +kernel, rfl⟩
theorem dX11_end_15 : Dc cX11_end 15 (.iload_n 1) 1 16 := ⟨by decide +kernel, rfl⟩
theorem dX11_end_16 : Dc cX11_end 16 (.putfield 106) 3 19 := ⟨by decide +kernel, rfl⟩
theorem dX11_end_19 : Dc cX11_end 19 (.iload_n 1) 1 20 := ⟨by decide +kernel, rfl⟩
theorem dX11_end_20 : Dc cX11_end 20 (.ireturn) 1 21 := ⟨by decide +kernel, rfl⟩
section
variable {p : Program} {l : Launch} {e : Env} {s : State} {m : MethodId} {args : Array Value} {below : List Frame} {meth : Method} {c : Code} {A0 : Nat → Prop} {D : va_G} {cA : Nat → ClassId} {ad : Nat → Nat} {Z : (Nat → Nat) × (Nat → Nat)} {Q : Int → St → Prop} {b : Bool}
set_option maxHeartbeats 4000000 in
set_option maxRecDepth 100000 in
theorem t_X11_end (E : Ev p s m args meth c cX11_end 2 RX11 A0 D cA ad (NC b) Z) (hr : meth.sig.returnType = (some .int)) (x1 : Int) (σ : St) (c1 : C32 x1) (hσ : CanS (shC b) (NC b) σ) (h : wp_X11_end x1 σ Q) : G p l e (rmL 1 0 0) s m args below meth c 2 A0 D cA ad (shC b) (NC b) 0 0 (MQ below (QIc D cA ad (shC b) (NC b) Q A0) args s 0 0 A0) σ 0 [some (.ref (ad 0)), some (vI x1)] [] := by
  unfold wp_X11_end at h
  refine g_iload_1 E dX11_end_0 ?_
  refine g_if_lt E c1 djX11_end_1 (fun hc => ?_) (fun hc => ?_)
  · replace h := h.1 hc
    refine g_iconst E dX11_end_12 ?_
    exact g_iret E hr cl_m1 h hσ dX11_end_13
  · replace h := h.2 hc
    refine g_iload_1 E dX11_end_4 ?_
    refine g_aload_0 E dX11_end_5 ?_
    refine g_getI E fl_RX11_106 (kC_0 b) (sC_0 b) rfl dX11_end_6 ?_
    refine g_icmp_le E c1 (fC_0_1 hσ) djX11_end_9 (fun hc => ?_) (fun hc => ?_)
    · replace h := h.1 hc
      refine g_aload_0 E dX11_end_14 ?_
      refine g_iload_1 E dX11_end_15 ?_
      refine g_putI E fl_RX11_106 rfl rfl (kC_0 b) (sC_0 b) rfl dX11_end_16 (g_nmS (fun σ1 eσ1 => ?_))
      replace h := h σ1 eσ1
      have hσ1 : CanS (shC b) (NC b) σ1 := by rw [eσ1]; exact uC_0_1 hσ c1
      refine g_iload_1 E dX11_end_19 ?_
      exact g_iret E hr c1 h hσ1 dX11_end_20
    · replace h := h.2 hc
      refine g_iconst E dX11_end_12 ?_
      exact g_iret E hr cl_m1 h hσ dX11_end_13
end
theorem m_X11_end {Z : (Nat → Nat) × (Nat → Nat)} {l : Launch} {D : va_G} {cA : Nat → ClassId} {ad : Nat → Nat} {b : Bool} {x1 : Int} {σ : St} {Q : Int → St → Prop} (hA : AdOk (NC b) ad) (c1 : C32 x1) (hσ : CanS (shC b) (NC b) σ) (h : wp_X11_end x1 σ Q) : KtI Z l D cA ad (shC b) (NC b) yX11_end cX11_end 2 (some .int) 1 [.ref (ad 0), vI x1] σ Q :=
  KtI.of my_X11_end hA [some (.ref (ad 0)), some (vI x1)] (Nat.le_of_ble_eq_true rfl) rfl (fun p e s m args below meth c A0 E hr => t_X11_end E hr x1 σ c1 hσ h)
theorem dX4_clear_0 : Dc cX4_clear 0 (.aload_n 0) 1 1 := ⟨by decide +kernel, rfl⟩
theorem dX4_clear_1 : Dc cX4_clear 1 (.iconst 0) 1 2 := ⟨by decide +kernel, rfl⟩
theorem dX4_clear_2 : Dc cX4_clear 2 (.putfield 43) 3 5 := ⟨by decide +kernel, rfl⟩
theorem dX4_clear_5 : Dc cX4_clear 5 (.aload_n 0) 1 6 := ⟨by decide +kernel, rfl⟩
theorem dX4_clear_6 : Dc cX4_clear 6 (.iconst 2) 1 7 := ⟨by decide +kernel, rfl⟩
theorem dX4_clear_7 : Dc cX4_clear 7 (.putfield 47) 3 10 := ⟨by decide +kernel, rfl⟩
theorem dX4_clear_10 : Dc cX4_clear 10 (.aload_n 0) 1 11 := ⟨by decide +kernel, rfl⟩
theorem dX4_clear_11 : Dc cX4_clear 11 (.iconst 0) 1 12 := ⟨by decide +kernel, rfl⟩
theorem dX4_clear_12 : Dc cX4_clear 12 (.putfield 50) 3 15 := ⟨by decide +kernel, rfl⟩
theorem dX4_clear_15 : Dc cX4_clear 15 (.aload_n 0) 1 16 := ⟨by decide +kernel, rfl⟩
theorem dX4_clear_16 : Dc cX4_clear 16 (.iconst 1) 1 17 := ⟨by decide +kernel, rfl⟩
theorem dX4_clear_17 : Dc cX4_clear 17 (.putfield 53) 3 20 := ⟨by decide +kernel, rfl⟩
theorem dX4_clear_20 : Dc cX4_clear 20 (.iconst 0) 1 21 := ⟨by decide +kernel, rfl⟩
theorem dX4_clear_21 : Dc cX4_clear 21 (.istore_n 1) 1 22 := ⟨by decide +kernel, rfl⟩
theorem dX4_clear_22 : Dc cX4_clear 22 (.iload_n 1) 1 23 := ⟨by decide +kernel, rfl⟩
theorem dX4_clear_23 : Dc cX4_clear 23 (.iconst 4) 1 24 := ⟨by decide +kernel, rfl⟩
theorem djX4_clear_24 : Dj cX4_clear 24 (.if_icmp .ge 40) 3 27 40 64 := ⟨by decide +kernel, rfl, by decide⟩
theorem dX4_clear_27 : Dc cX4_clear 27 (.aload_n 0) 1 28 := ⟨by decide +kernel, rfl⟩
theorem dX4_clear_28 : Dc cX4_clear 28 (.getfield 31) 3 31 := ⟨by decide +kernel, rfl⟩
theorem dX4_clear_31 : Dc cX4_clear 31 (.iload_n 1) 1 32 := ⟨by decide +kernel, rfl⟩
theorem dX4_clear_32 : Dc cX4_clear 32 (.iload_n 1) 1 33 := ⟨by decide +kernel, rfl⟩
theorem djX4_clear_33 : Dj cX4_clear 33 (.ifCond .ne 7) 3 36 7 40 := ⟨by decide +kernel, rfl, by decide⟩
theorem dX4_clear_36 : Dc cX4_clear 36 (.iconst 0) 1 37 := ⟨by decide +kernel, rfl⟩
theorem djX4_clear_37 : Dj cX4_clear 37 (.goto 4) 3 40 4 41 := ⟨by decide +kernel, rfl, by decide⟩
theorem dX4_clear_40 : Dc cX4_clear 40 (.iconst 1) 1 41 := ⟨by decide +kernel, rfl⟩
theorem dX4_clear_41 : Dc cX4_clear 41 (.iastore) 1 42 := ⟨by decide +kernel, rfl⟩
theorem dX4_clear_42 : Dc cX4_clear 42 (.aload_n 0) 1 43 := ⟨by decide +kernel, rfl⟩
theorem dX4_clear_43 : Dc cX4_clear 43 (.getfield 34) 3 46 := ⟨by decide +kernel, rfl⟩
theorem dX4_clear_46 : Dc cX4_clear 46 (.iload_n 1) 1 47 := ⟨by decide +kernel, rfl⟩
theorem dX4_clear_47 : Dc cX4_clear 47 (.iload_n 1) 1 48 := ⟨by decide +kernel, rfl⟩
theorem dX4_clear_48 : Dc cX4_clear 48 (.iconst 3) 1 49 := ⟨by decide +kernel, rfl⟩
theorem djX4_clear_49 : Dj cX4_clear 49 (.if_icmp .ne 7) 3 52 7 56 := ⟨by decide +kernel, rfl, by decide⟩
theorem dX4_clear_52 : Dc cX4_clear 52 (.iconst 1) 1 53 := ⟨by decide +kernel, rfl⟩
theorem djX4_clear_53 : Dj cX4_clear 53 (.goto 4) 3 56 4 57 := ⟨by decide +kernel, rfl, by decide⟩
theorem dX4_clear_56 : Dc cX4_clear 56 (.iconst 0) 1 57 := ⟨by decide +kernel, rfl⟩
theorem dX4_clear_57 : Dc cX4_clear 57 (.iastore) 1 58 := ⟨by decide +kernel, rfl⟩
theorem dX4_clear_58 : Dc cX4_clear 58 (.iinc 1 1) 3 61 := ⟨by decide +kernel, rfl⟩
theorem djX4_clear_61 : Dj cX4_clear 61 (.goto (-39)) 3 64 (-39) 22 := ⟨by decide +kernel, rfl, by decide⟩
theorem dX4_clear_64 : Dc cX4_clear 64 (.return_) 1 65 := ⟨by decide +kernel, rfl⟩
section
variable {p : Program} {l : Launch} {e : Env} {s : State} {m : MethodId} {args : Array Value} {below : List Frame} {meth : Method} {c : Code} {A0 : Nat → Prop} {D : va_G} {cA : Nat → ClassId} {ad : Nat → Nat} {Z : (Nat → Nat) × (Nat → Nat)} {Q : Int → St → Prop} {b : Bool}
set_option maxHeartbeats 4000000 in
set_option maxRecDepth 100000 in
theorem t_X4_clear_d_b57 (E : Ev p s m args meth c cX4_clear 2 RX4 A0 D cA ad (NC b) Z) (hr : meth.sig.returnType = none) {K22 : Int → St → Prop} (hK22 : ∀ (x1 : Int) (σ : St), C32 x1 → CanS (shC b) (NC b) σ → K22 x1 σ → G p l e (rmL 1 0 0) s m args below meth c 2 A0 D cA ad (shC b) (NC b) 0 0 (MQ below (QVc D cA ad (shC b) (NC b) Q A0) args s 0 0 A0) σ 22 [some (.ref (ad 4)), some (vI x1)] []) (x1 : Int) (s0 : Int) (s1 : Int) (σ : St) (c1 : C32 x1) (cs0 : C32 s0) (cs1 : C32 s1) (hσ : CanS (shC b) (NC b) σ) (h : wp_X4_clear_d_b57 Q K22 x1 s0 s1 σ) : G p l e (rmL 1 0 0) s m args below meth c 2 A0 D cA ad (shC b) (NC b) 0 0 (MQ below (QVc D cA ad (shC b) (NC b) Q A0) args s 0 0 A0) σ 57 [some (.ref (ad 4)), some (vI x1)] [vI s0, vI s1, .ref (ad 12)] := by
  unfold wp_X4_clear_d_b57 at h
  refine g_iast E (kC_12 b) (sC_12 b) (by decide) h.1 dX4_clear_57 (g_nmS (fun σ6 eσ6 => ?_))
  replace h := h.2 σ6 eσ6
  have hσ6 : CanS (shC b) (NC b) σ6 := by rw [eσ6]; exact wC_12 hσ cs0
  refine g_iinc_1 E rfl (by decide) dX4_clear_58 (fun v7 ev7 => ?_)
  replace h := h v7 ev7
  have cv7 : C32 v7 := by rw [ev7]; exact c32_w _
  refine g_goto E djX4_clear_61 ?_
  exact (hK22 v7 σ6 cv7 hσ6 h).weak (w_k (w_k w_n))
set_option maxHeartbeats 4000000 in
set_option maxRecDepth 100000 in
theorem t_X4_clear_d_b41 (E : Ev p s m args meth c cX4_clear 2 RX4 A0 D cA ad (NC b) Z) (hr : meth.sig.returnType = none) {K22 : Int → St → Prop} (hK22 : ∀ (x1 : Int) (σ : St), C32 x1 → CanS (shC b) (NC b) σ → K22 x1 σ → G p l e (rmL 1 0 0) s m args below meth c 2 A0 D cA ad (shC b) (NC b) 0 0 (MQ below (QVc D cA ad (shC b) (NC b) Q A0) args s 0 0 A0) σ 22 [some (.ref (ad 4)), some (vI x1)] []) (x1 : Int) (s0 : Int) (s1 : Int) (σ : St) (c1 : C32 x1) (cs0 : C32 s0) (cs1 : C32 s1) (hσ : CanS (shC b) (NC b) σ) (h : wp_X4_clear_d_b41 Q K22 x1 s0 s1 σ) : G p l e (rmL 1 0 0) s m args below meth c 2 A0 D cA ad (shC b) (NC b) 0 0 (MQ below (QVc D cA ad (shC b) (NC b) Q A0) args s 0 0 A0) σ 41 [some (.ref (ad 4)), some (vI x1)] [vI s0, vI s1, .ref (ad 11)] := by
  unfold wp_X4_clear_d_b41 at h
  refine g_iast E (kC_11 b) (sC_11 b) (by decide) h.1 dX4_clear_41 (g_nmS (fun σ5 eσ5 => ?_))
  replace h := h.2 σ5 eσ5
  have hσ5 : CanS (shC b) (NC b) σ5 := by rw [eσ5]; exact wC_11 hσ cs0
  refine g_aload_0 E dX4_clear_42 ?_
  refine g_getR E fl_RX4_34 (kC_4 b) (sC_4 b) rfl dX4_clear_43 ?_
  refine g_iload_1 E dX4_clear_46 ?_
  refine g_iload_1 E dX4_clear_47 ?_
  refine g_iconst E dX4_clear_48 ?_
  refine g_icmp_ne E c1 cl_3 djX4_clear_49 (fun hc => ?_) (fun hc => ?_)
  · replace h := h.1 hc
    refine g_iconst E dX4_clear_56 ?_
    exact (t_X4_clear_d_b57 E hr hK22 x1 0 x1 σ5 c1 cl_0 c1 hσ5 h).weak (w_k (w_k w_n))
  · replace h := h.2 hc
    refine g_iconst E dX4_clear_52 ?_
    refine g_goto E djX4_clear_53 ?_
    exact (t_X4_clear_d_b57 E hr hK22 x1 1 x1 σ5 c1 cl_1 c1 hσ5 h).weak (w_k (w_k w_n))
set_option maxHeartbeats 4000000 in
set_option maxRecDepth 100000 in
theorem t_X4_clear_d_l22 (E : Ev p s m args meth c cX4_clear 2 RX4 A0 D cA ad (NC b) Z) (hr : meth.sig.returnType = none) : ∀ (n : Nat) (x1 : Int) (σ : St), C32 x1 → CanS (shC b) (NC b) σ → wp_X4_clear_d_l22 Q n x1 σ → G p l e (rmL 1 0 0) s m args below meth c 2 A0 D cA ad (shC b) (NC b) 0 0 (MQ below (QVc D cA ad (shC b) (NC b) Q A0) args s 0 0 A0) σ 22 [some (.ref (ad 4)), some (vI x1)] [] := by
  intro n
  induction n with
  | zero => intro _ _ _ _ h; exact h.elim
  | succ n ih =>
    intro x1 σ c1 hσ h
    unfold wp_X4_clear_d_l22 at h
    refine g_iload_1 E dX4_clear_22 ?_
    refine g_iconst E dX4_clear_23 ?_
    refine g_icmp_ge E c1 cl_4 djX4_clear_24 (fun hc => ?_) (fun hc => ?_)
    · replace h := h.1 hc
      exact g_vret E hr h hσ dX4_clear_64
    · replace h := h.2 hc
      refine g_aload_0 E dX4_clear_27 ?_
      refine g_getR E fl_RX4_31 (kC_4 b) (sC_4 b) rfl dX4_clear_28 ?_
      refine g_iload_1 E dX4_clear_31 ?_
      refine g_iload_1 E dX4_clear_32 ?_
      refine g_if_ne E c1 djX4_clear_33 (fun hc => ?_) (fun hc => ?_)
      · replace h := h.1 hc
        refine g_iconst E dX4_clear_40 ?_
        exact (t_X4_clear_d_b41 E hr ih x1 1 x1 σ c1 cl_1 c1 hσ h).weak (w_k (w_k w_n))
      · replace h := h.2 hc
        refine g_iconst E dX4_clear_36 ?_
        refine g_goto E djX4_clear_37 ?_
        exact (t_X4_clear_d_b41 E hr ih x1 0 x1 σ c1 cl_0 c1 hσ h).weak (w_k (w_k w_n))
set_option maxHeartbeats 4000000 in
set_option maxRecDepth 100000 in
theorem t_X4_clear_d (E : Ev p s m args meth c cX4_clear 2 RX4 A0 D cA ad (NC b) Z) (hr : meth.sig.returnType = none) (σ : St) (hσ : CanS (shC b) (NC b) σ) (h : wp_X4_clear_d  σ Q) : G p l e (rmL 1 0 0) s m args below meth c 2 A0 D cA ad (shC b) (NC b) 0 0 (MQ below (QVc D cA ad (shC b) (NC b) Q A0) args s 0 0 A0) σ 0 [some (.ref (ad 4)), none] [] := by
  unfold wp_X4_clear_d at h
  refine g_aload_0 E dX4_clear_0 ?_
  refine g_iconst E dX4_clear_1 ?_
  refine g_putI E fl_RX4_43 rfl rfl (kC_4 b) (sC_4 b) rfl dX4_clear_2 (g_nmS (fun σ1 eσ1 => ?_))
  replace h := h σ1 eσ1
  have hσ1 : CanS (shC b) (NC b) σ1 := by rw [eσ1]; exact uC_4_0 hσ cl_0
  refine g_aload_0 E dX4_clear_5 ?_
  refine g_iconst E dX4_clear_6 ?_
  refine g_putI E fl_RX4_47 rfl rfl (kC_4 b) (sC_4 b) rfl dX4_clear_7 (g_nmS (fun σ2 eσ2 => ?_))
  replace h := h σ2 eσ2
  have hσ2 : CanS (shC b) (NC b) σ2 := by rw [eσ2]; exact uC_4_7 hσ1 cl_2
  refine g_aload_0 E dX4_clear_10 ?_
  refine g_iconst E dX4_clear_11 ?_
  refine g_putI E fl_RX4_50 rfl rfl (kC_4 b) (sC_4 b) rfl dX4_clear_12 (g_nmS (fun σ3 eσ3 => ?_))
  replace h := h σ3 eσ3
  have hσ3 : CanS (shC b) (NC b) σ3 := by rw [eσ3]; exact uC_4_8 hσ2 cl_0
  refine g_aload_0 E dX4_clear_15 ?_
  refine g_iconst E dX4_clear_16 ?_
  refine g_putI E fl_RX4_53 rfl rfl (kC_4 b) (sC_4 b) rfl dX4_clear_17 (g_nmS (fun σ4 eσ4 => ?_))
  replace h := h σ4 eσ4
  have hσ4 : CanS (shC b) (NC b) σ4 := by rw [eσ4]; exact uC_4_9 hσ3 cl_1
  refine g_iconst E dX4_clear_20 ?_
  refine g_istore_1 E rfl (by decide) dX4_clear_21 ?_
  exact (t_X4_clear_d_l22 E hr bigN 0 σ4 cl_0 hσ4 h).weak (w_k (w_k w_n))
end
theorem m_X4_clear_d {Z : (Nat → Nat) × (Nat → Nat)} {l : Launch} {D : va_G} {cA : Nat → ClassId} {ad : Nat → Nat} {b : Bool} {σ : St} {Q : Int → St → Prop} (hA : AdOk (NC b) ad) (hσ : CanS (shC b) (NC b) σ) (h : wp_X4_clear_d  σ Q) : KtV Z l D cA ad (shC b) (NC b) yX4_clear cX4_clear 2 none 1 [.ref (ad 4)] σ Q :=
  KtV.of my_X4_clear hA [some (.ref (ad 4)), none] (Nat.le_of_ble_eq_true rfl) rfl (fun p e s m args below meth c A0 E hr => t_X4_clear_d E hr σ hσ h)
theorem dX6_isBlank_0 : Dc cX6_isBlank 0 (.iload_n 0) 1 1 := ⟨by decide +kernel, rfl⟩
theorem dX6_isBlank_1 : Dc cX6_isBlank 1 (.bipush 32) 2 3 := ⟨by decide +kernel, rfl⟩
theorem djX6_isBlank_3 : Dj cX6_isBlank 3 (.if_icmp .eq 9) 3 6 9 12 := ⟨by decide +kernel, rfl, by decide⟩
theorem dX6_isBlank_6 : Dc cX6_isBlank 6 (.iload_n 0) 1 7 := ⟨by decide +kernel, rfl⟩
theorem dX6_isBlank_7 : Dc cX6_isBlank 7 (.bipush 10) 2 9 := ⟨by decide +kernel, rfl⟩
theorem djX6_isBlank_9 : Dj cX6_isBlank 9 (.if_icmp .ne 7) 3 12 7 16 := ⟨by decide +kernel, rfl, by decide⟩
theorem dX6_isBlank_12 : Dc cX6_isBlank 12 (.iconst 1) 1 13 := ⟨by decide +kernel, rfl⟩
theorem djX6_isBlank_13 : Dj cX6_isBlank 13 (.goto 4) 3 16 4 17 := ⟨by decide +kernel, rfl, by decide⟩
theorem dX6_isBlank_16 : Dc cX6_isBlank 16 (.iconst 0) 1 17 := ⟨by decide +kernel, rfl⟩
theorem dX6_isBlank_17 : Dc cX6_isBlank 17 (.ireturn) 1 18 := ⟨by decide +kernel, rfl⟩
section
variable {p : Program} {l : Launch} {e : Env} {s : State} {m : MethodId} {args : Array Value} {below : List Frame} {meth : Method} {c : Code} {A0 : Nat → Prop} {D : va_G} {cA : Nat → ClassId} {ad : Nat → Nat} {Z : (Nat → Nat) × (Nat → Nat)} {Q : Int → St → Prop} {b : Bool}
set_option maxHeartbeats 4000000 in
set_option maxRecDepth 100000 in
theorem t_X6_isBlank_b12 (E : Ev p s m args meth c cX6_isBlank 1 RX6 A0 D cA ad (NC b) Z) (hr : meth.sig.returnType = (some .boolean)) (σ : St) (hσ : CanS (shC b) (NC b) σ) (h : wp_X6_isBlank_b12 Q  σ) : G p l e (rmL 1 0 0) s m args below meth c 1 A0 D cA ad (shC b) (NC b) 0 0 (MQ below (QIc D cA ad (shC b) (NC b) Q A0) args s 0 0 A0) σ 12 [none] [] := by
  unfold wp_X6_isBlank_b12 at h
  refine g_iconst E dX6_isBlank_12 ?_
  refine g_goto E djX6_isBlank_13 ?_
  exact g_zret E hr (Or.inr rfl) h hσ dX6_isBlank_17
set_option maxHeartbeats 4000000 in
set_option maxRecDepth 100000 in
theorem t_X6_isBlank (E : Ev p s m args meth c cX6_isBlank 1 RX6 A0 D cA ad (NC b) Z) (hr : meth.sig.returnType = (some .boolean)) (x0 : Int) (σ : St) (c0 : C32 x0) (hσ : CanS (shC b) (NC b) σ) (h : wp_X6_isBlank x0 σ Q) : G p l e (rmL 1 0 0) s m args below meth c 1 A0 D cA ad (shC b) (NC b) 0 0 (MQ below (QIc D cA ad (shC b) (NC b) Q A0) args s 0 0 A0) σ 0 [some (vI x0)] [] := by
  unfold wp_X6_isBlank at h
  refine g_iload_0 E dX6_isBlank_0 ?_
  refine g_bipush E (by decide) dX6_isBlank_1 ?_
  refine g_icmp_eq E c0 cl_32 djX6_isBlank_3 (fun hc => ?_) (fun hc => ?_)
  · replace h := h.1 hc
    exact (t_X6_isBlank_b12 E hr σ hσ h).weak (w_d w_n)
  · replace h := h.2 hc
    refine g_iload_0 E dX6_isBlank_6 ?_
    refine g_bipush E (by decide) dX6_isBlank_7 ?_
    refine g_icmp_ne E c0 cl_10 djX6_isBlank_9 (fun hc => ?_) (fun hc => ?_)
    · replace h := h.1 hc
      refine g_iconst E dX6_isBlank_16 ?_
      exact g_zret E hr (Or.inl rfl) h hσ dX6_isBlank_17
    · replace h := h.2 hc
      exact (t_X6_isBlank_b12 E hr σ hσ h).weak (w_d w_n)
end
theorem m_X6_isBlank {Z : (Nat → Nat) × (Nat → Nat)} {l : Launch} {D : va_G} {cA : Nat → ClassId} {ad : Nat → Nat} {b : Bool} {x0 : Int} {σ : St} {Q : Int → St → Prop} (hA : AdOk (NC b) ad) (c0 : C32 x0) (hσ : CanS (shC b) (NC b) σ) (h : wp_X6_isBlank x0 σ Q) : KtI Z l D cA ad (shC b) (NC b) yX6_isBlank cX6_isBlank 1 (some .boolean) 1 [vI x0] σ Q :=
  KtI.of my_X6_isBlank hA [some (vI x0)] (Nat.le_of_ble_eq_true rfl) rfl (fun p e s m args below meth c A0 E hr => t_X6_isBlank E hr x0 σ c0 hσ h)
theorem dX6_isSmall_0 : Dc cX6_isSmall 0 (.iload_n 0) 1 1 := ⟨by decide +kernel, rfl⟩
theorem dX6_isSmall_1 : Dc cX6_isSmall 1 (.bipush 97) 2 3 := ⟨by decide +kernel, rfl⟩
theorem djX6_isSmall_3 : Dj cX6_isSmall 3 (.if_icmp .lt 13) 3 6 13 16 := ⟨by decide +kernel, rfl, by decide⟩
theorem dX6_isSmall_6 : Dc cX6_isSmall 6 (.iload_n 0) 1 7 := ⟨by decide +kernel, rfl⟩
theorem dX6_isSmall_7 : Dc cX6_isSmall 7 (.bipush 122) 2 9 := ⟨by decide +kernel, rfl⟩
theorem djX6_isSmall_9 : Dj cX6_isSmall 9 (.if_icmp .gt 7) 3 12 7 16 := ⟨by decide +kernel, rfl, by decide⟩
theorem dX6_isSmall_12 : Dc cX6_isSmall 12 (.iconst 1) 1 13 := ⟨by decide +kernel, rfl⟩
theorem djX6_isSmall_13 : Dj cX6_isSmall 13 (.goto 4) 3 16 4 17 := ⟨by decide +kernel, rfl, by decide⟩
theorem dX6_isSmall_16 : Dc cX6_isSmall 16 (.iconst 0) 1 17 := ⟨by decide +kernel, rfl⟩
theorem dX6_isSmall_17 : Dc cX6_isSmall 17 (.ireturn) 1 18 := ⟨by decide +kernel, rfl⟩
section
variable {p : Program} {l : Launch} {e : Env} {s : State} {m : MethodId} {args : Array Value} {below : List Frame} {meth : Method} {c : Code} {A0 : Nat → Prop} {D : va_G} {cA : Nat → ClassId} {ad : Nat → Nat} {Z : (Nat → Nat) × (Nat → Nat)} {Q : Int → St → Prop} {b : Bool}
set_option maxHeartbeats 4000000 in
set_option maxRecDepth 100000 in
theorem t_X6_isSmall_b16 (E : Ev p s m args meth c cX6_isSmall 1 RX6 A0 D cA ad (NC b) Z) (hr : meth.sig.returnType = (some .boolean)) (σ : St) (hσ : CanS (shC b) (NC b) σ) (h : wp_X6_isSmall_b16 Q  σ) : G p l e (rmL 1 0 0) s m args below meth c 1 A0 D cA ad (shC b) (NC b) 0 0 (MQ below (QIc D cA ad (shC b) (NC b) Q A0) args s 0 0 A0) σ 16 [none] [] := by
  unfold wp_X6_isSmall_b16 at h
  refine g_iconst E dX6_isSmall_16 ?_
  exact g_zret E hr (Or.inl rfl) h hσ dX6_isSmall_17
set_option maxHeartbeats 4000000 in
set_option maxRecDepth 100000 in
theorem t_X6_isSmall (E : Ev p s m args meth c cX6_isSmall 1 RX6 A0 D cA ad (NC b) Z) (hr : meth.sig.returnType = (some .boolean)) (x0 : Int) (σ : St) (c0 : C32 x0) (hσ : CanS (shC b) (NC b) σ) (h : wp_X6_isSmall x0 σ Q) : G p l e (rmL 1 0 0) s m args below meth c 1 A0 D cA ad (shC b) (NC b) 0 0 (MQ below (QIc D cA ad (shC b) (NC b) Q A0) args s 0 0 A0) σ 0 [some (vI x0)] [] := by
  unfold wp_X6_isSmall at h
  refine g_iload_0 E dX6_isSmall_0 ?_
  refine g_bipush E (by decide) dX6_isSmall_1 ?_
  refine g_icmp_lt E c0 cl_97 djX6_isSmall_3 (fun hc => ?_) (fun hc => ?_)
  · replace h := h.1 hc
    exact (t_X6_isSmall_b16 E hr σ hσ h).weak (w_d w_n)
  · replace h := h.2 hc
    refine g_iload_0 E dX6_isSmall_6 ?_
    refine g_bipush E (by decide) dX6_isSmall_7 ?_
    refine g_icmp_gt E c0 cl_122 djX6_isSmall_9 (fun hc => ?_) (fun hc => ?_)
    · replace h := h.1 hc
      exact (t_X6_isSmall_b16 E hr σ hσ h).weak (w_d w_n)
    · replace h := h.2 hc
      refine g_iconst E dX6_isSmall_12 ?_
      refine g_goto E djX6_isSmall_13 ?_
      exact g_zret E hr (Or.inr rfl) h hσ dX6_isSmall_17
end
theorem m_X6_isSmall {Z : (Nat → Nat) × (Nat → Nat)} {l : Launch} {D : va_G} {cA : Nat → ClassId} {ad : Nat → Nat} {b : Bool} {x0 : Int} {σ : St} {Q : Int → St → Prop} (hA : AdOk (NC b) ad) (c0 : C32 x0) (hσ : CanS (shC b) (NC b) σ) (h : wp_X6_isSmall x0 σ Q) : KtI Z l D cA ad (shC b) (NC b) yX6_isSmall cX6_isSmall 1 (some .boolean) 1 [vI x0] σ Q :=
  KtI.of my_X6_isSmall hA [some (vI x0)] (Nat.le_of_ble_eq_true rfl) rfl (fun p e s m args below meth c A0 E hr => t_X6_isSmall E hr x0 σ c0 hσ h)
theorem dX6_isDigit_0 : Dc cX6_isDigit 0 (.iload_n 0) 1 1 := ⟨by decide +kernel, rfl⟩
theorem dX6_isDigit_1 : Dc cX6_isDigit 1 (.bipush 48) 2 3 := ⟨by decide +kernel, rfl⟩
theorem djX6_isDigit_3 : Dj cX6_isDigit 3 (.if_icmp .lt 13) 3 6 13 16 := ⟨by decide +kernel, rfl, by decide⟩
theorem dX6_isDigit_6 : Dc cX6_isDigit 6 (.iload_n 0) 1 7 := ⟨by decide +kernel, rfl⟩
theorem dX6_isDigit_7 : Dc cX6_isDigit 7 (.bipush 57) 2 9 := ⟨by decide +kernel, rfl⟩
theorem djX6_isDigit_9 : Dj cX6_isDigit 9 (.if_icmp .gt 7) 3 12 7 16 := ⟨by decide +kernel, rfl, by decide⟩
theorem dX6_isDigit_12 : Dc cX6_isDigit 12 (.iconst 1) 1 13 := ⟨by decide +kernel, rfl⟩
theorem djX6_isDigit_13 : Dj cX6_isDigit 13 (.goto 4) 3 16 4 17 := ⟨by decide +kernel, rfl, by decide⟩
theorem dX6_isDigit_16 : Dc cX6_isDigit 16 (.iconst 0) 1 17 := ⟨by decide +kernel, rfl⟩
theorem dX6_isDigit_17 : Dc cX6_isDigit 17 (.ireturn) 1 18 := ⟨by decide +kernel, rfl⟩
section
variable {p : Program} {l : Launch} {e : Env} {s : State} {m : MethodId} {args : Array Value} {below : List Frame} {meth : Method} {c : Code} {A0 : Nat → Prop} {D : va_G} {cA : Nat → ClassId} {ad : Nat → Nat} {Z : (Nat → Nat) × (Nat → Nat)} {Q : Int → St → Prop} {b : Bool}
set_option maxHeartbeats 4000000 in
set_option maxRecDepth 100000 in
theorem t_X6_isDigit_b16 (E : Ev p s m args meth c cX6_isDigit 1 RX6 A0 D cA ad (NC b) Z) (hr : meth.sig.returnType = (some .boolean)) (σ : St) (hσ : CanS (shC b) (NC b) σ) (h : wp_X6_isDigit_b16 Q  σ) : G p l e (rmL 1 0 0) s m args below meth c 1 A0 D cA ad (shC b) (NC b) 0 0 (MQ below (QIc D cA ad (shC b) (NC b) Q A0) args s 0 0 A0) σ 16 [none] [] := by
  unfold wp_X6_isDigit_b16 at h
  refine g_iconst E dX6_isDigit_16 ?_
  exact g_zret E hr (Or.inl rfl) h hσ dX6_isDigit_17
set_option maxHeartbeats 4000000 in
set_option maxRecDepth 100000 in
theorem t_X6_isDigit (E : Ev p s m args meth c cX6_isDigit 1 RX6 A0 D cA ad (NC b) Z) (hr : meth.sig.returnType = (some .boolean)) (x0 : Int) (σ : St) (c0 : C32 x0) (hσ : CanS (shC b) (NC b) σ) (h : wp_X6_isDigit x0 σ Q) : G p l e (rmL 1 0 0) s m args below meth c 1 A0 D cA ad (shC b) (NC b) 0 0 (MQ below (QIc D cA ad (shC b) (NC b) Q A0) args s 0 0 A0) σ 0 [some (vI x0)] [] := by
  unfold wp_X6_isDigit at h
  refine g_iload_0 E dX6_isDigit_0 ?_
  refine g_bipush E (by decide) dX6_isDigit_1 ?_
  refine g_icmp_lt E c0 cl_48 djX6_isDigit_3 (fun hc => ?_) (fun hc => ?_)
  · replace h := h.1 hc
    exact (t_X6_isDigit_b16 E hr σ hσ h).weak (w_d w_n)
  · replace h := h.2 hc
    refine g_iload_0 E dX6_isDigit_6 ?_
    refine g_bipush E (by decide) dX6_isDigit_7 ?_
    refine g_icmp_gt E c0 cl_57 djX6_isDigit_9 (fun hc => ?_) (fun hc => ?_)
    · replace h := h.1 hc
      exact (t_X6_isDigit_b16 E hr σ hσ h).weak (w_d w_n)
    · replace h := h.2 hc
      refine g_iconst E dX6_isDigit_12 ?_
      refine g_goto E djX6_isDigit_13 ?_
      exact g_zret E hr (Or.inr rfl) h hσ dX6_isDigit_17
end
theorem m_X6_isDigit {Z : (Nat → Nat) × (Nat → Nat)} {l : Launch} {D : va_G} {cA : Nat → ClassId} {ad : Nat → Nat} {b : Bool} {x0 : Int} {σ : St} {Q : Int → St → Prop} (hA : AdOk (NC b) ad) (c0 : C32 x0) (hσ : CanS (shC b) (NC b) σ) (h : wp_X6_isDigit x0 σ Q) : KtI Z l D cA ad (shC b) (NC b) yX6_isDigit cX6_isDigit 1 (some .boolean) 1 [vI x0] σ Q :=
  KtI.of my_X6_isDigit hA [some (vI x0)] (Nat.le_of_ble_eq_true rfl) rfl (fun p e s m args below meth c A0 E hr => t_X6_isDigit E hr x0 σ c0 hσ h)
theorem dX6_advance_0 : Dc cX6_advance 0 (.aload_n 0) 1 1 := ⟨by decide +kernel, rfl⟩
theorem dX6_advance_1 : Dc cX6_advance 1 (.getfield 32) 3 4 := ⟨by decide +kernel, rfl⟩
theorem dX6_advance_4 : Dc cX6_advance 4 (.aload_n 0) 1 5 := ⟨by decide +kernel, rfl⟩
theorem dX6_advance_5 : Dc cX6_advance 5 (.getfield 29) 3 8 := ⟨by decide +kernel, rfl⟩
theorem djX6_advance_8 : Dj cX6_advance 8 (.if_icmp .ge 31) 3 11 31 39 := ⟨by decide +kernel, rfl, by decide⟩
theorem dX6_advance_11 : Dc cX6_advance 11 (.aload_n 0) 1 12 := ⟨by decide +kernel, rfl⟩
theorem dX6_advance_12 : Dc cX6_advance 12 (.getfield 9) 3 15 := ⟨by decide +kernel, rfl⟩
theorem dX6_advance_15 : Dc cX6_advance 15 (.aload_n 0) 1 16 := ⟨by decide +kernel, rfl⟩
theorem dX6_advance_16 : Dc cX6_advance 16 (.getfield 32) 3 19 := ⟨by decide +kernel, rfl⟩
theorem dX6_advance_19 : Dc cX6_advance 19 (.iaload) 1 20 := ⟨by decide +kernel, rfl⟩
theorem dX6_advance_20 : Dc cX6_advance 20 (.invokestatic 152) 3 23 := ⟨by decide +kernel, rfl⟩
theorem djX6_advance_23 : Dj cX6_advance 23 (.ifCond .eq 16) 3 26 16 39 := ⟨by decide +kernel, rfl, by decide⟩
theorem dX6_advance_26 : Dc cX6_advance 26 (.aload_n 0) 1 27 := ⟨by decide +kernel, rfl⟩
theorem dX6_advance_27 : Dc cX6_advance 27 (.dup) 1 28 := ⟨by decide +kernel, rfl⟩
theorem dX6_advance_28 : Dc cX6_advance 28 (.getfield 32) 3 31 := ⟨by decide +kernel, rfl⟩
theorem dX6_advance_31 : Dc cX6_advance 31 (.iconst 1) 1 32 := ⟨by decide +kernel, rfl⟩
theorem dX6_advance_32 : Dc cX6_advance 32 (.iadd) 1 33 := ⟨by decide +kernel, rfl⟩
theorem dX6_advance_33 : Dc cX6_advance 33 (.putfield 32) 3 36 := ⟨by decide +kernel, rfl⟩
theorem djX6_advance_36 : Dj cX6_advance 36 (.goto (-36)) 3 39 (-36) 0 := ⟨by decide +kernel, rfl, by decide⟩
theorem dX6_advance_39 : Dc cX6_advance 39 (.aload_n 0) 1 40 := ⟨by decide +kernel, rfl⟩
theorem dX6_advance_40 : Dc cX6_advance 40 (.aload_n 0) 1 41 := ⟨by decide +kernel, rfl⟩
theorem dX6_advance_41 : Dc cX6_advance 41 (.getfield 32) 3 44 := ⟨by decide +kernel, rfl⟩
theorem dX6_advance_44 : Dc cX6_advance 44 (.putfield 137) 3 47 := ⟨by decide +kernel, rfl⟩
theorem dX6_advance_47 : Dc cX6_advance 47 (.aload_n 0) 1 48 := ⟨by decide +kernel, rfl⟩
theorem dX6_advance_48 : Dc cX6_advance 48 (.iconst 0) 1 49 := ⟨by decide +kernel, rfl⟩
theorem dX6_advance_49 : Dc cX6_advance 49 (.putfield 140) 3 52 := ⟨by decide +kernel, rfl⟩
theorem dX6_advance_52 : Dc cX6_advance 52 (.aload_n 0) 1 53 := ⟨by decide +kernel, rfl⟩
theorem dX6_advance_53 : Dc cX6_advance 53 (.getfield 32) 3 56 := ⟨by decide +kernel, rfl⟩
theorem dX6_advance_56 : Dc cX6_advance 56 (.aload_n 0) 1 57 := ⟨by decide +kernel, rfl⟩
theorem dX6_advance_57 : Dc cX6_advance 57 (.getfield 29) 3 60 := ⟨by decide +kernel, rfl⟩
theorem djX6_advance_60 : Dj cX6_advance 60 (.if_icmp .lt 11) 3 63 11 71 := ⟨by decide +kernel, rfl, by decide⟩
theorem dX6_advance_63 : Dc cX6_advance 63 (.aload_n 0) 1 64 := ⟨by decide +kernel, rfl⟩
theorem dX6_advance_64 : Dc cX6_advance 64 (.iconst 0) 1 65 := ⟨by decide +kernel, rfl⟩
theorem dX6_advance_65 : Dc cX6_advance 65 (.putfield 41) 3 68 := ⟨by decide +kernel, rfl⟩
theorem djX6_advance_68 : Dj cX6_advance 68 (.goto 166) 3 71 166 234 := ⟨by decide +kernel, rfl, by decide⟩
theorem dX6_advance_71 : Dc cX6_advance 71 (.aload_n 0) 1 72 := ⟨by decide +kernel, rfl⟩
theorem dX6_advance_72 : Dc cX6_advance 72 (.getfield 9) 3 75 := ⟨by decide +kernel, rfl⟩
theorem dX6_advance_75 : Dc cX6_advance 75 (.aload_n 0) 1 76 := ⟨by decide +kernel, rfl⟩
theorem dX6_advance_76 : Dc cX6_advance 76 (.getfield 32) 3 79 := ⟨by decide +kernel, rfl⟩
theorem dX6_advance_79 : Dc cX6_advance 79 (.iaload) 1 80 := ⟨by decide +kernel, rfl⟩
theorem dX6_advance_80 : Dc cX6_advance 80 (.invokestatic 156) 3 83 := ⟨by decide +kernel, rfl⟩
theorem djX6_advance_83 : Dj cX6_advance 83 (.ifCond .eq 47) 3 86 47 130 := ⟨by decide +kernel, rfl, by decide⟩
theorem dX6_advance_86 : Dc cX6_advance 86 (.aload_n 0) 1 87 := ⟨by decide +kernel, rfl⟩
theorem dX6_advance_87 : Dc cX6_advance 87 (.iconst 1) 1 88 := ⟨by decide +kernel, rfl⟩
theorem dX6_advance_88 : Dc cX6_advance 88 (.putfield 41) 3 91 := ⟨by decide +kernel, rfl⟩
theorem dX6_advance_91 : Dc cX6_advance 91 (.aload_n 0) 1 92 := ⟨by decide +kernel, rfl⟩
theorem dX6_advance_92 : Dc cX6_advance 92 (.getfield 32) 3 95 := ⟨by decide +kernel, rfl⟩
theorem dX6_advance_95 : Dc cX6_advance 95 (.aload_n 0) 1 96 := ⟨by decide +kernel, rfl⟩
theorem dX6_advance_96 : Dc cX6_advance 96 (.getfield 29) 3 99 := ⟨by decide +kernel, rfl⟩
theorem djX6_advance_99 : Dj cX6_advance 99 (.if_icmp .ge 135) 3 102 135 234 := ⟨by decide +kernel, rfl, by decide⟩
theorem dX6_advance_102 : Dc cX6_advance 102 (.aload_n 0) 1 103 := ⟨by decide +kernel, rfl⟩
theorem dX6_advance_103 : Dc cX6_advance 103 (.getfield 9) 3 106 := ⟨by decide +kernel, rfl⟩
theorem dX6_advance_106 : Dc cX6_advance 106 (.aload_n 0) 1 107 := ⟨by decide +kernel, rfl⟩
theorem dX6_advance_107 : Dc cX6_advance 107 (.getfield 32) 3 110 := ⟨by decide +kernel, rfl⟩
theorem dX6_advance_110 : Dc cX6_advance 110 (.iaload) 1 111 := ⟨by decide +kernel, rfl⟩
theorem dX6_advance_111 : Dc cX6_advance 111 (.invokestatic 156) 3 114 := ⟨by decide +kernel, rfl⟩
theorem djX6_advance_114 : Dj cX6_advance 114 (.ifCond .eq 120) 3 117 120 234 := ⟨by decide +kernel, rfl, by decide⟩
theorem dX6_advance_117 : Dc cX6_advance 117 (.aload_n 0) 1 118 := ⟨by decide +kernel, rfl⟩
theorem dX6_advance_118 : Dc cX6_advance 118 (.dup) 1 119 := ⟨by decide +kernel, rfl⟩
theorem dX6_advance_119 : Dc cX6_advance 119 (.getfield 32) 3 122 := ⟨by decide +kernel, rfl⟩
theorem dX6_advance_122 : Dc cX6_advance 122 (.iconst 1) 1 123 := ⟨by decide +kernel, rfl⟩
theorem dX6_advance_123 : Dc cX6_advance 123 (.iadd) 1 124 := ⟨by decide +kernel, rfl⟩
theorem dX6_advance_124 : Dc cX6_advance 124 (.putfield 32) 3 127 := ⟨by decide +kernel, rfl⟩
theorem djX6_advance_127 : Dj cX6_advance 127 (.goto (-36)) 3 130 (-36) 91 := ⟨by decide +kernel, rfl, by decide⟩
theorem dX6_advance_130 : Dc cX6_advance 130 (.aload_n 0) 1 131 := ⟨by decide +kernel, rfl⟩
theorem dX6_advance_131 : Dc cX6_advance 131 (.getfield 9) 3 134 := ⟨by decide +kernel, rfl⟩
theorem dX6_advance_134 : Dc cX6_advance 134 (.aload_n 0) 1 135 := ⟨by decide +kernel, rfl⟩
theorem dX6_advance_135 : Dc cX6_advance 135 (.getfield 32) 3 138 := ⟨by decide +kernel, rfl⟩
theorem dX6_advance_138 : Dc cX6_advance 138 (.iaload) 1 139 := ⟨by decide +kernel, rfl⟩
theorem dX6_advance_139 : Dc cX6_advance 139 (.invokestatic 159) 3 142 := ⟨by decide +kernel, rfl⟩
theorem djX6_advance_142 : Dj cX6_advance 142 (.ifCond .eq 77) 3 145 77 219 := ⟨by decide +kernel, rfl, by decide⟩
theorem dX6_advance_145 : Dc cX6_advance 145 (.aload_n 0) 1 146 := ⟨by decide +kernel, rfl⟩
theorem dX6_advance_146 : Dc cX6_advance 146 (.iconst 2) 1 147 := ⟨by decide +kernel, rfl⟩
theorem dX6_advance_147 : Dc cX6_advance 147 (.putfield 41) 3 150 := ⟨by decide +kernel, rfl⟩
theorem dX6_advance_150 : Dc cX6_advance 150 (.aload_n 0) 1 151 := ⟨by decide +kernel, rfl⟩
theorem dX6_advance_151 : Dc cX6_advance 151 (.getfield 32) 3 154 := ⟨by decide +kernel, rfl⟩
theorem dX6_advance_154 : Dc cX6_advance 154 (.aload_n 0) 1 155 := ⟨by decide +kernel, rfl⟩
theorem dX6_advance_155 : Dc cX6_advance 155 (.getfield 29) 3 158 := ⟨by decide +kernel, rfl⟩
theorem djX6_advance_158 : Dj cX6_advance 158 (.if_icmp .ge 76) 3 161 76 234 := ⟨by decide +kernel, rfl, by decide⟩
theorem dX6_advance_161 : Dc cX6_advance 161 (.aload_n 0) 1 162 := ⟨by decide +kernel, rfl⟩
theorem dX6_advance_162 : Dc cX6_advance 162 (.getfield 9) 3 165 := ⟨by decide +kernel, rfl⟩
theorem dX6_advance_165 : Dc cX6_advance 165 (.aload_n 0) 1 166 := ⟨by decide +kernel, rfl⟩
theorem dX6_advance_166 : Dc cX6_advance 166 (.getfield 32) 3 169 := ⟨by decide +kernel, rfl⟩
theorem dX6_advance_169 : Dc cX6_advance 169 (.iaload) 1 170 := ⟨by decide +kernel, rfl⟩
theorem dX6_advance_170 : Dc cX6_advance 170 (.invokestatic 159) 3 173 := ⟨by decide +kernel, rfl⟩
theorem djX6_advance_173 : Dj cX6_advance 173 (.ifCond .eq 61) 3 176 61 234 := ⟨by decide +kernel, rfl, by decide⟩
theorem dX6_advance_176 : Dc cX6_advance 176 (.aload_n 0) 1 177 := ⟨by decide +kernel, rfl⟩
theorem dX6_advance_177 : Dc cX6_advance 177 (.aload_n 0) 1 178 := ⟨by decide +kernel, rfl⟩
theorem dX6_advance_178 : Dc cX6_advance 178 (.getfield 140) 3 181 := ⟨by decide +kernel, rfl⟩
theorem dX6_advance_181 : Dc cX6_advance 181 (.bipush 10) 2 183 := ⟨by decide +kernel, rfl⟩
theorem dX6_advance_183 : Dc cX6_advance 183 (.imul) 1 184 := ⟨by decide +kernel, rfl⟩
theorem dX6_advance_184 : Dc cX6_advance 184 (.aload_n 0) 1 185 := ⟨by decide +kernel, rfl⟩
theorem dX6_advance_185 : Dc cX6_advance 185 (.getfield 9) 3 188 := ⟨by decide +kernel, rfl⟩
theorem dX6_advance_188 : Dc cX6_advance 188 (.aload_n 0) 1 189 := ⟨by decide +kernel, rfl⟩
theorem dX6_advance_189 : Dc cX6_advance 189 (.getfield 32) 3 192 := ⟨by decide +kernel, rfl⟩
theorem dX6_advance_192 : Dc cX6_advance 192 (.iaload) 1 193 := ⟨by decide +kernel, rfl⟩
theorem dX6_advance_193 : Dc cX6_advance 193 (.iadd) 1 194 := ⟨by decide +kernel, rfl⟩
theorem dX6_advance_194 : Dc cX6_advance 194 (.bipush 48) 2 196 := ⟨by decide +kernel, rfl⟩
theorem dX6_advance_196 : Dc cX6_advance 196 (.isub) 1 197 := ⟨by decide +kernel, rfl⟩
theorem dX6_advance_197 : Dc cX6_advance 197 (.sipush 10000) 3 200 := ⟨by decide +kernel, rfl⟩
theorem dX6_advance_200 : Dc cX6_advance 200 (.invokestatic 99) 3 203 := ⟨by decide +kernel, rfl⟩
theorem dX6_advance_203 : Dc cX6_advance 203 (.putfield 140) 3 206 := ⟨by decide +kernel, rfl⟩
theorem dX6_advance_206 : Dc cX6_advance 206 (.aload_n 0) 1 207 := ⟨by decide +kernel, rfl⟩
theorem dX6_advance_207 : Dc cX6_advance 207 (.dup) 1 208 := ⟨by decide +kernel, rfl⟩
theorem dX6_advance_208 : Dc cX6_advance 208 (.getfield 32) 3 211 := ⟨by decide +kernel, rfl⟩
theorem dX6_advance_211 : Dc cX6_advance 211 (.iconst 1) 1 212 := ⟨by decide +kernel, rfl⟩
theorem dX6_advance_212 : Dc cX6_advance 212 (.iadd) 1 213 := ⟨by decide +kernel, rfl⟩
theorem dX6_advance_213 : Dc cX6_advance 213 (.putfield 32) 3 216 := ⟨by decide +kernel, rfl⟩
theorem djX6_advance_216 : Dj cX6_advance 216 (.goto (-66)) 3 219 (-66) 150 := ⟨by decide +kernel, rfl, by decide⟩
theorem dX6_advance_219 : Dc cX6_advance 219 (.aload_n 0) 1 220 := ⟨by decide +kernel, rfl⟩
theorem dX6_advance_220 : Dc cX6_advance 220 (.iconst 3) 1 221 := ⟨by decide +kernel, rfl⟩
theorem dX6_advance_221 : Dc cX6_advance 221 (.putfield 41) 3 224 := ⟨by decide +kernel, rfl⟩
theorem dX6_advance_224 : Dc cX6_advance 224 (.aload_n 0) 1 225 := ⟨by decide +kernel, rfl⟩
theorem dX6_advance_225 : Dc cX6_advance 225 (.dup) 1 226 := ⟨by decide +kernel, rfl⟩
theorem dX6_advance_226 : Dc cX6_advance 226 (.getfield 32) 3 229 := ⟨by decide +kernel, rfl⟩
theorem dX6_advance_229 : Dc cX6_advance 229 (.iconst 1) 1 230 := ⟨by decide +kernel, rfl⟩
theorem dX6_advance_230 : Dc cX6_advance 230 (.iadd) 1 231 := ⟨by decide +kernel, rfl⟩
theorem dX6_advance_231 : Dc cX6_advance 231 (.putfield 32) 3 234 := ⟨by decide +kernel, rfl⟩
theorem dX6_advance_234 : Dc cX6_advance 234 (.return_) 1 235 := ⟨by decide +kernel, rfl⟩
section
variable {p : Program} {l : Launch} {e : Env} {s : State} {m : MethodId} {args : Array Value} {below : List Frame} {meth : Method} {c : Code} {A0 : Nat → Prop} {D : va_G} {cA : Nat → ClassId} {ad : Nat → Nat} {Z : (Nat → Nat) × (Nat → Nat)} {Q : Int → St → Prop} {b : Bool}
set_option maxHeartbeats 4000000 in
set_option maxRecDepth 100000 in
theorem t_X6_advance_l91 (E : Ev p s m args meth c cX6_advance 1 RX6 A0 D cA ad (NC b) Z) (hr : meth.sig.returnType = none) : ∀ (n : Nat) (σ : St), CanS (shC b) (NC b) σ → wp_X6_advance_l91 Q n  σ → G p l e (rmL 2 0 0) s m args below meth c 1 A0 D cA ad (shC b) (NC b) 0 0 (MQ below (QVc D cA ad (shC b) (NC b) Q A0) args s 0 0 A0) σ 91 [some (.ref (ad 3))] [] := by
  intro n
  induction n with
  | zero => intro _ _ h; exact h.elim
  | succ n ih =>
    intro σ hσ h
    unfold wp_X6_advance_l91 at h
    refine g_aload_0 E dX6_advance_91 ?_
    refine g_getI E fl_RX6_32 (kC_3 b) (sC_3 b) rfl dX6_advance_92 ?_
    refine g_aload_0 E dX6_advance_95 ?_
    refine g_getI E fl_RX6_29 (kC_3 b) (sC_3 b) rfl dX6_advance_96 ?_
    refine g_icmp_ge E (fC_3_7 hσ) (fC_3_4 hσ) djX6_advance_99 (fun hc => ?_) (fun hc => ?_)
    · replace h := h.1 hc
      exact g_vret E hr h hσ dX6_advance_234
    · replace h := h.2 hc
      refine g_aload_0 E dX6_advance_102 ?_
      refine g_getR E fl_RX6_9 (kC_3 b) (sC_3 b) rfl dX6_advance_103 ?_
      refine g_aload_0 E dX6_advance_106 ?_
      refine g_getI E fl_RX6_32 (kC_3 b) (sC_3 b) rfl dX6_advance_107 ?_
      refine g_iald E (kC_1 b) (sC_1 b) (by decide) h.1 dX6_advance_110 ?_
      replace h := h.2
      refine g_callsI E my_X6_isSmall ms_X6_isSmall ml_RX6_156 (rm_ok (by decide) (by decide)) ⟨Nat.zero_le _, Nat.zero_le _⟩ (m_X6_isSmall E.2.2.1 (aC_1 hσ _) hσ h) rfl rfl (Nat.le_of_ble_eq_true rfl) dX6_advance_111 (fun r19 σ20 cr19 hσ20 h => ?_)
      refine g_if_eq E cr19 djX6_advance_114 (fun hc => ?_) (fun hc => ?_)
      · replace h := h.1 hc
        exact g_vret E hr h hσ20 dX6_advance_234
      · replace h := h.2 hc
        refine g_aload_0 E dX6_advance_117 ?_
        refine g_dup E rfl dX6_advance_118 ?_
        refine g_getI E fl_RX6_32 (kC_3 b) (sC_3 b) rfl dX6_advance_119 ?_
        refine g_iconst E dX6_advance_122 ?_
        refine g_iadd E dX6_advance_123 ?_
        refine g_putI E fl_RX6_32 rfl rfl (kC_3 b) (sC_3 b) rfl dX6_advance_124 (g_nmS (fun σ21 eσ21 => ?_))
        replace h := h σ21 eσ21
        have hσ21 : CanS (shC b) (NC b) σ21 := by rw [eσ21]; exact uC_3_7 hσ20 (c32_w _)
        refine g_goto E djX6_advance_127 ?_
        exact (ih σ21 hσ21 h).weak (w_k w_n)
set_option maxHeartbeats 4000000 in
set_option maxRecDepth 100000 in
theorem t_X6_advance_l150 (E : Ev p s m args meth c cX6_advance 1 RX6 A0 D cA ad (NC b) Z) (hr : meth.sig.returnType = none) : ∀ (n : Nat) (σ : St), CanS (shC b) (NC b) σ → wp_X6_advance_l150 Q n  σ → G p l e (rmL 2 0 0) s m args below meth c 1 A0 D cA ad (shC b) (NC b) 0 0 (MQ below (QVc D cA ad (shC b) (NC b) Q A0) args s 0 0 A0) σ 150 [some (.ref (ad 3))] [] := by
  intro n
  induction n with
  | zero => intro _ _ h; exact h.elim
  | succ n ih =>
    intro σ hσ h
    unfold wp_X6_advance_l150 at h
    refine g_aload_0 E dX6_advance_150 ?_
    refine g_getI E fl_RX6_32 (kC_3 b) (sC_3 b) rfl dX6_advance_151 ?_
    refine g_aload_0 E dX6_advance_154 ?_
    refine g_getI E fl_RX6_29 (kC_3 b) (sC_3 b) rfl dX6_advance_155 ?_
    refine g_icmp_ge E (fC_3_7 hσ) (fC_3_4 hσ) djX6_advance_158 (fun hc => ?_) (fun hc => ?_)
    · replace h := h.1 hc
      exact g_vret E hr h hσ dX6_advance_234
    · replace h := h.2 hc
      refine g_aload_0 E dX6_advance_161 ?_
      refine g_getR E fl_RX6_9 (kC_3 b) (sC_3 b) rfl dX6_advance_162 ?_
      refine g_aload_0 E dX6_advance_165 ?_
      refine g_getI E fl_RX6_32 (kC_3 b) (sC_3 b) rfl dX6_advance_166 ?_
      refine g_iald E (kC_1 b) (sC_1 b) (by decide) h.1 dX6_advance_169 ?_
      replace h := h.2
      refine g_callsI E my_X6_isDigit ms_X6_isDigit ml_RX6_159 (rm_ok (by decide) (by decide)) ⟨Nat.zero_le _, Nat.zero_le _⟩ (m_X6_isDigit E.2.2.1 (aC_1 hσ _) hσ h) rfl rfl (Nat.le_of_ble_eq_true rfl) dX6_advance_170 (fun r15 σ16 cr15 hσ16 h => ?_)
      refine g_if_eq E cr15 djX6_advance_173 (fun hc => ?_) (fun hc => ?_)
      · replace h := h.1 hc
        exact g_vret E hr h hσ16 dX6_advance_234
      · replace h := h.2 hc
        refine g_aload_0 E dX6_advance_176 ?_
        refine g_aload_0 E dX6_advance_177 ?_
        refine g_getI E fl_RX6_140 (kC_3 b) (sC_3 b) rfl dX6_advance_178 ?_
        refine g_bipush E (by decide) dX6_advance_181 ?_
        refine g_imul E dX6_advance_183 ?_
        refine g_aload_0 E dX6_advance_184 ?_
        refine g_getR E fl_RX6_9 (kC_3 b) (sC_3 b) rfl dX6_advance_185 ?_
        refine g_aload_0 E dX6_advance_188 ?_
        refine g_getI E fl_RX6_32 (kC_3 b) (sC_3 b) rfl dX6_advance_189 ?_
        refine g_iald E (kC_1 b) (sC_1 b) (by decide) h.1 dX6_advance_192 ?_
        replace h := h.2
        refine g_iadd E dX6_advance_193 ?_
        refine g_bipush E (by decide) dX6_advance_194 ?_
        refine g_isub E dX6_advance_196 ?_
        refine g_sipush E (by decide) dX6_advance_197 ?_
        refine g_mmin E ml_RX6_99 (c32_w _) cl_10000 (Nat.le_of_ble_eq_true rfl) (rm_1 2) ⟨Nat.zero_le _, Nat.zero_le _⟩ dX6_advance_200 ?_
        refine g_putI E fl_RX6_140 rfl rfl (kC_3 b) (sC_3 b) rfl dX6_advance_203 (g_nmS (fun σ17 eσ17 => ?_))
        replace h := h σ17 eσ17
        have hσ17 : CanS (shC b) (NC b) σ17 := by rw [eσ17]; exact uC_3_8 hσ16 (c32_min (c32_w _) cl_10000)
        refine g_aload_0 E dX6_advance_206 ?_
        refine g_dup E rfl dX6_advance_207 ?_
        refine g_getI E fl_RX6_32 (kC_3 b) (sC_3 b) rfl dX6_advance_208 ?_
        refine g_iconst E dX6_advance_211 ?_
        refine g_iadd E dX6_advance_212 ?_
        refine g_putI E fl_RX6_32 rfl rfl (kC_3 b) (sC_3 b) rfl dX6_advance_213 (g_nmS (fun σ18 eσ18 => ?_))
        replace h := h σ18 eσ18
        have hσ18 : CanS (shC b) (NC b) σ18 := by rw [eσ18]; exact uC_3_7 hσ17 (c32_w _)
        refine g_goto E djX6_advance_216 ?_
        exact (ih σ18 hσ18 h).weak (w_k w_n)
set_option maxHeartbeats 4000000 in
set_option maxRecDepth 100000 in
theorem t_X6_advance_b39 (E : Ev p s m args meth c cX6_advance 1 RX6 A0 D cA ad (NC b) Z) (hr : meth.sig.returnType = none) (σ : St) (hσ : CanS (shC b) (NC b) σ) (h : wp_X6_advance_b39 Q  σ) : G p l e (rmL 2 0 0) s m args below meth c 1 A0 D cA ad (shC b) (NC b) 0 0 (MQ below (QVc D cA ad (shC b) (NC b) Q A0) args s 0 0 A0) σ 39 [some (.ref (ad 3))] [] := by
  unfold wp_X6_advance_b39 at h
  refine g_aload_0 E dX6_advance_39 ?_
  refine g_aload_0 E dX6_advance_40 ?_
  refine g_getI E fl_RX6_32 (kC_3 b) (sC_3 b) rfl dX6_advance_41 ?_
  refine g_putI E fl_RX6_137 rfl rfl (kC_3 b) (sC_3 b) rfl dX6_advance_44 (g_nmS (fun σ4 eσ4 => ?_))
  replace h := h σ4 eσ4
  have hσ4 : CanS (shC b) (NC b) σ4 := by rw [eσ4]; exact uC_3_6 hσ (fC_3_7 hσ)
  refine g_aload_0 E dX6_advance_47 ?_
  refine g_iconst E dX6_advance_48 ?_
  refine g_putI E fl_RX6_140 rfl rfl (kC_3 b) (sC_3 b) rfl dX6_advance_49 (g_nmS (fun σ5 eσ5 => ?_))
  replace h := h σ5 eσ5
  have hσ5 : CanS (shC b) (NC b) σ5 := by rw [eσ5]; exact uC_3_8 hσ4 cl_0
  refine g_aload_0 E dX6_advance_52 ?_
  refine g_getI E fl_RX6_32 (kC_3 b) (sC_3 b) rfl dX6_advance_53 ?_
  refine g_aload_0 E dX6_advance_56 ?_
  refine g_getI E fl_RX6_29 (kC_3 b) (sC_3 b) rfl dX6_advance_57 ?_
  refine g_icmp_lt E (fC_3_7 hσ5) (fC_3_4 hσ5) djX6_advance_60 (fun hc => ?_) (fun hc => ?_)
  · replace h := h.1 hc
    refine g_aload_0 E dX6_advance_71 ?_
    refine g_getR E fl_RX6_9 (kC_3 b) (sC_3 b) rfl dX6_advance_72 ?_
    refine g_aload_0 E dX6_advance_75 ?_
    refine g_getI E fl_RX6_32 (kC_3 b) (sC_3 b) rfl dX6_advance_76 ?_
    refine g_iald E (kC_1 b) (sC_1 b) (by decide) h.1 dX6_advance_79 ?_
    replace h := h.2
    refine g_callsI E my_X6_isSmall ms_X6_isSmall ml_RX6_156 (rm_ok (by decide) (by decide)) ⟨Nat.zero_le _, Nat.zero_le _⟩ (m_X6_isSmall E.2.2.1 (aC_1 hσ5 _) hσ5 h) rfl rfl (Nat.le_of_ble_eq_true rfl) dX6_advance_80 (fun r6 σ7 cr6 hσ7 h => ?_)
    refine g_if_eq E cr6 djX6_advance_83 (fun hc => ?_) (fun hc => ?_)
    · replace h := h.1 hc
      refine g_aload_0 E dX6_advance_130 ?_
      refine g_getR E fl_RX6_9 (kC_3 b) (sC_3 b) rfl dX6_advance_131 ?_
      refine g_aload_0 E dX6_advance_134 ?_
      refine g_getI E fl_RX6_32 (kC_3 b) (sC_3 b) rfl dX6_advance_135 ?_
      refine g_iald E (kC_1 b) (sC_1 b) (by decide) h.1 dX6_advance_138 ?_
      replace h := h.2
      refine g_callsI E my_X6_isDigit ms_X6_isDigit ml_RX6_159 (rm_ok (by decide) (by decide)) ⟨Nat.zero_le _, Nat.zero_le _⟩ (m_X6_isDigit E.2.2.1 (aC_1 hσ7 _) hσ7 h) rfl rfl (Nat.le_of_ble_eq_true rfl) dX6_advance_139 (fun r8 σ9 cr8 hσ9 h => ?_)
      refine g_if_eq E cr8 djX6_advance_142 (fun hc => ?_) (fun hc => ?_)
      · replace h := h.1 hc
        refine g_aload_0 E dX6_advance_219 ?_
        refine g_iconst E dX6_advance_220 ?_
        refine g_putI E fl_RX6_41 rfl rfl (kC_3 b) (sC_3 b) rfl dX6_advance_221 (g_nmS (fun σ10 eσ10 => ?_))
        replace h := h σ10 eσ10
        have hσ10 : CanS (shC b) (NC b) σ10 := by rw [eσ10]; exact uC_3_5 hσ9 cl_3
        refine g_aload_0 E dX6_advance_224 ?_
        refine g_dup E rfl dX6_advance_225 ?_
        refine g_getI E fl_RX6_32 (kC_3 b) (sC_3 b) rfl dX6_advance_226 ?_
        refine g_iconst E dX6_advance_229 ?_
        refine g_iadd E dX6_advance_230 ?_
        refine g_putI E fl_RX6_32 rfl rfl (kC_3 b) (sC_3 b) rfl dX6_advance_231 (g_nmS (fun σ11 eσ11 => ?_))
        replace h := h σ11 eσ11
        have hσ11 : CanS (shC b) (NC b) σ11 := by rw [eσ11]; exact uC_3_7 hσ10 (c32_w _)
        exact g_vret E hr h hσ11 dX6_advance_234
      · replace h := h.2 hc
        refine g_aload_0 E dX6_advance_145 ?_
        refine g_iconst E dX6_advance_146 ?_
        refine g_putI E fl_RX6_41 rfl rfl (kC_3 b) (sC_3 b) rfl dX6_advance_147 (g_nmS (fun σ12 eσ12 => ?_))
        replace h := h σ12 eσ12
        have hσ12 : CanS (shC b) (NC b) σ12 := by rw [eσ12]; exact uC_3_5 hσ9 cl_2
        exact (t_X6_advance_l150 E hr bigN σ12 hσ12 h).weak (w_k w_n)
    · replace h := h.2 hc
      refine g_aload_0 E dX6_advance_86 ?_
      refine g_iconst E dX6_advance_87 ?_
      refine g_putI E fl_RX6_41 rfl rfl (kC_3 b) (sC_3 b) rfl dX6_advance_88 (g_nmS (fun σ13 eσ13 => ?_))
      replace h := h σ13 eσ13
      have hσ13 : CanS (shC b) (NC b) σ13 := by rw [eσ13]; exact uC_3_5 hσ7 cl_1
      exact (t_X6_advance_l91 E hr bigN σ13 hσ13 h).weak (w_k w_n)
  · replace h := h.2 hc
    refine g_aload_0 E dX6_advance_63 ?_
    refine g_iconst E dX6_advance_64 ?_
    refine g_putI E fl_RX6_41 rfl rfl (kC_3 b) (sC_3 b) rfl dX6_advance_65 (g_nmS (fun σ14 eσ14 => ?_))
    replace h := h σ14 eσ14
    have hσ14 : CanS (shC b) (NC b) σ14 := by rw [eσ14]; exact uC_3_5 hσ5 cl_0
    refine g_goto E djX6_advance_68 ?_
    exact g_vret E hr h hσ14 dX6_advance_234
set_option maxHeartbeats 4000000 in
set_option maxRecDepth 100000 in
theorem t_X6_advance_l0 (E : Ev p s m args meth c cX6_advance 1 RX6 A0 D cA ad (NC b) Z) (hr : meth.sig.returnType = none) : ∀ (n : Nat) (σ : St), CanS (shC b) (NC b) σ → wp_X6_advance_l0 Q n  σ → G p l e (rmL 2 0 0) s m args below meth c 1 A0 D cA ad (shC b) (NC b) 0 0 (MQ below (QVc D cA ad (shC b) (NC b) Q A0) args s 0 0 A0) σ 0 [some (.ref (ad 3))] [] := by
  intro n
  induction n with
  | zero => intro _ _ h; exact h.elim
  | succ n ih =>
    intro σ hσ h
    unfold wp_X6_advance_l0 at h
    refine g_aload_0 E dX6_advance_0 ?_
    refine g_getI E fl_RX6_32 (kC_3 b) (sC_3 b) rfl dX6_advance_1 ?_
    refine g_aload_0 E dX6_advance_4 ?_
    refine g_getI E fl_RX6_29 (kC_3 b) (sC_3 b) rfl dX6_advance_5 ?_
    refine g_icmp_ge E (fC_3_7 hσ) (fC_3_4 hσ) djX6_advance_8 (fun hc => ?_) (fun hc => ?_)
    · replace h := h.1 hc
      exact (t_X6_advance_b39 E hr σ hσ h).weak (w_k w_n)
    · replace h := h.2 hc
      refine g_aload_0 E dX6_advance_11 ?_
      refine g_getR E fl_RX6_9 (kC_3 b) (sC_3 b) rfl dX6_advance_12 ?_
      refine g_aload_0 E dX6_advance_15 ?_
      refine g_getI E fl_RX6_32 (kC_3 b) (sC_3 b) rfl dX6_advance_16 ?_
      refine g_iald E (kC_1 b) (sC_1 b) (by decide) h.1 dX6_advance_19 ?_
      replace h := h.2
      refine g_callsI E my_X6_isBlank ms_X6_isBlank ml_RX6_152 (rm_ok (by decide) (by decide)) ⟨Nat.zero_le _, Nat.zero_le _⟩ (m_X6_isBlank E.2.2.1 (aC_1 hσ _) hσ h) rfl rfl (Nat.le_of_ble_eq_true rfl) dX6_advance_20 (fun r1 σ2 cr1 hσ2 h => ?_)
      refine g_if_eq E cr1 djX6_advance_23 (fun hc => ?_) (fun hc => ?_)
      · replace h := h.1 hc
        exact (t_X6_advance_b39 E hr σ2 hσ2 h).weak (w_k w_n)
      · replace h := h.2 hc
        refine g_aload_0 E dX6_advance_26 ?_
        refine g_dup E rfl dX6_advance_27 ?_
        refine g_getI E fl_RX6_32 (kC_3 b) (sC_3 b) rfl dX6_advance_28 ?_
        refine g_iconst E dX6_advance_31 ?_
        refine g_iadd E dX6_advance_32 ?_
        refine g_putI E fl_RX6_32 rfl rfl (kC_3 b) (sC_3 b) rfl dX6_advance_33 (g_nmS (fun σ3 eσ3 => ?_))
        replace h := h σ3 eσ3
        have hσ3 : CanS (shC b) (NC b) σ3 := by rw [eσ3]; exact uC_3_7 hσ2 (c32_w _)
        refine g_goto E djX6_advance_36 ?_
        exact (ih σ3 hσ3 h).weak (w_k w_n)
set_option maxHeartbeats 4000000 in
set_option maxRecDepth 100000 in
theorem t_X6_advance (E : Ev p s m args meth c cX6_advance 1 RX6 A0 D cA ad (NC b) Z) (hr : meth.sig.returnType = none) (σ : St) (hσ : CanS (shC b) (NC b) σ) (h : wp_X6_advance  σ Q) : G p l e (rmL 2 0 0) s m args below meth c 1 A0 D cA ad (shC b) (NC b) 0 0 (MQ below (QVc D cA ad (shC b) (NC b) Q A0) args s 0 0 A0) σ 0 [some (.ref (ad 3))] [] := by
  unfold wp_X6_advance at h
  exact (t_X6_advance_l0 E hr bigN σ hσ h).weak (w_k w_n)
end
theorem m_X6_advance {Z : (Nat → Nat) × (Nat → Nat)} {l : Launch} {D : va_G} {cA : Nat → ClassId} {ad : Nat → Nat} {b : Bool} {σ : St} {Q : Int → St → Prop} (hA : AdOk (NC b) ad) (hσ : CanS (shC b) (NC b) σ) (h : wp_X6_advance  σ Q) : KtV Z l D cA ad (shC b) (NC b) yX6_advance cX6_advance 1 none 2 [.ref (ad 3)] σ Q :=
  KtV.of my_X6_advance hA [some (.ref (ad 3))] (Nat.le_of_ble_eq_true rfl) rfl (fun p e s m args below meth c A0 E hr => t_X6_advance E hr σ hσ h)
theorem dX6_isWord_0 : Dc cX6_isWord 0 (.aload_n 0) 1 1 := ⟨by decide +kernel, rfl⟩
theorem dX6_isWord_1 : Dc cX6_isWord 1 (.getfield 41) 3 4 := ⟨by decide +kernel, rfl⟩
theorem dX6_isWord_4 : Dc cX6_isWord 4 (.iconst 1) 1 5 := ⟨by decide +kernel, rfl⟩
theorem djX6_isWord_5 : Dj cX6_isWord 5 (.if_icmp .ne 19) 3 8 19 24 := ⟨by decide +kernel, rfl, by decide⟩
theorem dX6_isWord_8 : Dc cX6_isWord 8 (.aload_n 0) 1 9 := ⟨by decide +kernel, rfl⟩
theorem dX6_isWord_9 : Dc cX6_isWord 9 (.getfield 32) 3 12 := ⟨by decide +kernel, rfl⟩
theorem dX6_isWord_12 : Dc cX6_isWord 12 (.aload_n 0) 1 13 := ⟨by decide +kernel, rfl⟩
theorem dX6_isWord_13 : Dc cX6_isWord 13 (.getfield 137) 3 16 := ⟨by decide +kernel, rfl⟩
theorem dX6_isWord_16 : Dc cX6_isWord 16 (.isub) 1 17 := ⟨by decide +kernel, rfl⟩
theorem dX6_isWord_17 : Dc cX6_isWord 17 (.aload_n 1) 1 18 := ⟨by decide +kernel, rfl⟩
theorem dX6_isWord_18 : Dc cX6_isWord 18 (.invokevirtual 143) 3 21 := ⟨by decide +kernel, rfl⟩
theorem djX6_isWord_21 : Dj cX6_isWord 21 (.if_icmp .eq 5) 3 24 5 26 := ⟨by decide +kernel, rfl, by decide⟩
theorem dX6_isWord_24 : Dc cX6_isWord 24 (.iconst 0) 1 25 := ⟨by decide +kernel, rfl⟩
theorem dX6_isWord_25 : Dc cX6_isWord 25 (.ireturn) 1 26 := ⟨by decide +kernel, rfl⟩
theorem dX6_isWord_26 : Dc cX6_isWord 26 (.iconst 0) 1 27 := ⟨by decide +kernel, rfl⟩
theorem dX6_isWord_27 : Dc cX6_isWord 27 (.istore_n 2) 1 28 := ⟨by decide +kernel, rfl⟩
theorem dX6_isWord_28 : Dc cX6_isWord 28 (.iload_n 2) 1 29 := ⟨by decide +kernel, rfl⟩
theorem dX6_isWord_29 : Dc cX6_isWord 29 (.aload_n 1) 1 30 := ⟨by decide +kernel, rfl⟩
theorem dX6_isWord_30 : Dc cX6_isWord 30 (.invokevirtual 143) 3 33 := ⟨by decide +kernel, rfl⟩
theorem djX6_isWord_33 : Dj cX6_isWord 33 (.if_icmp .ge 30) 3 36 30 63 := ⟨by decide +kernel, rfl, by decide⟩
theorem dX6_isWord_36 : Dc cX6_isWord 36 (.aload_n 0) 1 37 := ⟨by decide +kernel, rfl⟩
theorem dX6_isWord_37 : Dc cX6_isWord 37 (.getfield 9) 3 40 := ⟨by decide +kernel, rfl⟩
theorem dX6_isWord_40 : Dc cX6_isWord 40 (.aload_n 0) 1 41 := ⟨by decide +kernel, rfl⟩
theorem dX6_isWord_41 : Dc cX6_isWord 41 (.getfield 137) 3 44 := ⟨by decide +kernel, rfl⟩
theorem dX6_isWord_44 : Dc cX6_isWord 44 (.iload_n 2) 1 45 := ⟨by decide +kernel, rfl⟩
theorem dX6_isWord_45 : Dc cX6_isWord 45 (.iadd) 1 46 := ⟨by decide +kernel, rfl⟩
theorem dX6_isWord_46 : Dc cX6_isWord 46 (.iaload) 1 47 := ⟨by decide +kernel, rfl⟩
theorem dX6_isWord_47 : Dc cX6_isWord 47 (.aload_n 1) 1 48 := ⟨by decide +kernel, rfl⟩
theorem dX6_isWord_48 : Dc cX6_isWord 48 (.iload_n 2) 1 49 := ⟨by decide +kernel, rfl⟩
theorem dX6_isWord_49 : Dc cX6_isWord 49 (.invokevirtual 148) 3 52 := ⟨by decide +kernel, rfl⟩
theorem djX6_isWord_52 : Dj cX6_isWord 52 (.if_icmp .eq 5) 3 55 5 57 := ⟨by decide +kernel, rfl, by decide⟩
theorem dX6_isWord_55 : Dc cX6_isWord 55 (.iconst 0) 1 56 := ⟨by decide +kernel, rfl⟩
theorem dX6_isWord_56 : Dc cX6_isWord 56 (.ireturn) 1 57 := ⟨by decide +kernel, rfl⟩
theorem dX6_isWord_57 : Dc cX6_isWord 57 (.iinc 2 1) 3 60 := ⟨by decide +kernel, rfl⟩
theorem djX6_isWord_60 : Dj cX6_isWord 60 (.goto (-32)) 3 63 (-32) 28 := ⟨by decide +kernel, rfl, by decide⟩
theorem dX6_isWord_63 : Dc cX6_isWord 63 (.iconst 1) 1 64 := ⟨by decide +kernel, rfl⟩
theorem dX6_isWord_64 : Dc cX6_isWord 64 (.ireturn) 1 65 := ⟨by decide +kernel, rfl⟩
section
variable {p : Program} {l : Launch} {e : Env} {s : State} {m : MethodId} {args : Array Value} {below : List Frame} {meth : Method} {c : Code} {A0 : Nat → Prop} {D : va_G} {cA : Nat → ClassId} {ad : Nat → Nat} {Z : (Nat → Nat) × (Nat → Nat)} {Q : Int → St → Prop} {b : Bool}
set_option maxHeartbeats 4000000 in
set_option maxRecDepth 100000 in
theorem t_X6_isWord_s0_l28 (E : Ev p s m args meth c cX6_isWord 3 RX6 A0 D cA ad (NC b) Z) (hr : meth.sig.returnType = (some .boolean)) : ∀ (n : Nat) (x2 : Int) (σ : St), C32 x2 → CanS (shC b) (NC b) σ → wp_X6_isWord_s0_l28 Q n x2 σ → G p l e (rmL 6 0 0) s m args below meth c 3 A0 D cA ad (shC b) (NC b) 0 0 (MQ below (QIc D cA ad (shC b) (NC b) Q A0) args s 0 0 A0) σ 28 [some (.ref (ad 3)), some (.ref (Z.1 0)), some (vI x2)] [] := by
  intro n
  induction n with
  | zero => intro _ _ _ _ h; exact h.elim
  | succ n ih =>
    intro x2 σ c2 hσ h
    unfold wp_X6_isWord_s0_l28 at h
    refine g_iload_2 E dX6_isWord_28 ?_
    refine g_aload_1 E dX6_isWord_29 ?_
    refine g_slen E ml_RX6_143 (i := 0) (by decide) hσ (n := 4) rfl (Nat.le_of_ble_eq_true rfl) (rm_s 6 (by decide)) ⟨Nat.zero_le _, Nat.zero_le _⟩ dX6_isWord_30 ?_
    refine g_icmp_ge E c2 cl_4 djX6_isWord_33 (fun hc => ?_) (fun hc => ?_)
    · replace h := h.1 hc
      refine g_iconst E dX6_isWord_63 ?_
      exact g_zret E hr (Or.inr rfl) h hσ dX6_isWord_64
    · replace h := h.2 hc
      refine g_aload_0 E dX6_isWord_36 ?_
      refine g_getR E fl_RX6_9 (kC_3 b) (sC_3 b) rfl dX6_isWord_37 ?_
      refine g_aload_0 E dX6_isWord_40 ?_
      refine g_getI E fl_RX6_137 (kC_3 b) (sC_3 b) rfl dX6_isWord_41 ?_
      refine g_iload_2 E dX6_isWord_44 ?_
      refine g_iadd E dX6_isWord_45 ?_
      refine g_iald E (kC_1 b) (sC_1 b) (by decide) h.1 dX6_isWord_46 ?_
      replace h := h.2
      refine g_aload_1 E dX6_isWord_47 ?_
      refine g_iload_2 E dX6_isWord_48 ?_
      refine g_schar E ml_RX6_148 (i := 0) (by decide) hσ (n := 4) rfl h.1 (Nat.le_of_ble_eq_true rfl) (rm_s 6 (by decide)) ⟨Nat.zero_le _, Nat.zero_le _⟩ dX6_isWord_49 ?_
      replace h := h.2
      refine g_icmp_eq E (aC_1 hσ _) (c32_str 0 (by decide) _) djX6_isWord_52 (fun hc => ?_) (fun hc => ?_)
      · replace h := h.1 hc
        refine g_iinc_2 E rfl (by decide) dX6_isWord_57 (fun v1 ev1 => ?_)
        replace h := h v1 ev1
        have cv1 : C32 v1 := by rw [ev1]; exact c32_w _
        refine g_goto E djX6_isWord_60 ?_
        exact (ih v1 σ cv1 hσ h).weak (w_k (w_k (w_k w_n)))
      · replace h := h.2 hc
        refine g_iconst E dX6_isWord_55 ?_
        exact g_zret E hr (Or.inl rfl) h hσ dX6_isWord_56
set_option maxHeartbeats 4000000 in
set_option maxRecDepth 100000 in
theorem t_X6_isWord_s0 (E : Ev p s m args meth c cX6_isWord 3 RX6 A0 D cA ad (NC b) Z) (hr : meth.sig.returnType = (some .boolean)) (σ : St) (hσ : CanS (shC b) (NC b) σ) (h : wp_X6_isWord_s0  σ Q) : G p l e (rmL 6 0 0) s m args below meth c 3 A0 D cA ad (shC b) (NC b) 0 0 (MQ below (QIc D cA ad (shC b) (NC b) Q A0) args s 0 0 A0) σ 0 [some (.ref (ad 3)), some (.ref (Z.1 0)), none] [] := by
  unfold wp_X6_isWord_s0 at h
  refine g_aload_0 E dX6_isWord_0 ?_
  refine g_getI E fl_RX6_41 (kC_3 b) (sC_3 b) rfl dX6_isWord_1 ?_
  refine g_iconst E dX6_isWord_4 ?_
  refine g_icmp_ne E (fC_3_5 hσ) cl_1 djX6_isWord_5 (fun hc => ?_) (fun hc => ?_)
  · replace h := h.1 hc
    refine g_iconst E dX6_isWord_24 ?_
    exact g_zret E hr (Or.inl rfl) h hσ dX6_isWord_25
  · replace h := h.2 hc
    refine g_aload_0 E dX6_isWord_8 ?_
    refine g_getI E fl_RX6_32 (kC_3 b) (sC_3 b) rfl dX6_isWord_9 ?_
    refine g_aload_0 E dX6_isWord_12 ?_
    refine g_getI E fl_RX6_137 (kC_3 b) (sC_3 b) rfl dX6_isWord_13 ?_
    refine g_isub E dX6_isWord_16 ?_
    refine g_aload_1 E dX6_isWord_17 ?_
    refine g_slen E ml_RX6_143 (i := 0) (by decide) hσ (n := 4) rfl (Nat.le_of_ble_eq_true rfl) (rm_s 6 (by decide)) ⟨Nat.zero_le _, Nat.zero_le _⟩ dX6_isWord_18 ?_
    refine g_icmp_eq E (c32_w _) cl_4 djX6_isWord_21 (fun hc => ?_) (fun hc => ?_)
    · replace h := h.1 hc
      refine g_iconst E dX6_isWord_26 ?_
      refine g_istore_2 E rfl (by decide) dX6_isWord_27 ?_
      exact (t_X6_isWord_s0_l28 E hr bigN 0 σ cl_0 hσ h).weak (w_k (w_k (w_k w_n)))
    · replace h := h.2 hc
      refine g_iconst E dX6_isWord_24 ?_
      exact g_zret E hr (Or.inl rfl) h hσ dX6_isWord_25
end
theorem m_X6_isWord_s0 {Z : (Nat → Nat) × (Nat → Nat)} {l : Launch} {D : va_G} {cA : Nat → ClassId} {ad : Nat → Nat} {b : Bool} {σ : St} {Q : Int → St → Prop} (hA : AdOk (NC b) ad) (hσ : CanS (shC b) (NC b) σ) (h : wp_X6_isWord_s0  σ Q) : KtI Z l D cA ad (shC b) (NC b) yX6_isWord cX6_isWord 3 (some .boolean) 6 [.ref (ad 3), .ref (Z.1 0)] σ Q :=
  KtI.of my_X6_isWord hA [some (.ref (ad 3)), some (.ref (Z.1 0)), none] (Nat.le_of_ble_eq_true rfl) rfl (fun p e s m args below meth c A0 E hr => t_X6_isWord_s0 E hr σ hσ h)
section
variable {p : Program} {l : Launch} {e : Env} {s : State} {m : MethodId} {args : Array Value} {below : List Frame} {meth : Method} {c : Code} {A0 : Nat → Prop} {D : va_G} {cA : Nat → ClassId} {ad : Nat → Nat} {Z : (Nat → Nat) × (Nat → Nat)} {Q : Int → St → Prop} {b : Bool}
set_option maxHeartbeats 4000000 in
set_option maxRecDepth 100000 in
theorem t_X6_isWord_s3_l28 (E : Ev p s m args meth c cX6_isWord 3 RX6 A0 D cA ad (NC b) Z) (hr : meth.sig.returnType = (some .boolean)) : ∀ (n : Nat) (x2 : Int) (σ : St), C32 x2 → CanS (shC b) (NC b) σ → wp_X6_isWord_s3_l28 Q n x2 σ → G p l e (rmL 6 0 0) s m args below meth c 3 A0 D cA ad (shC b) (NC b) 0 0 (MQ below (QIc D cA ad (shC b) (NC b) Q A0) args s 0 0 A0) σ 28 [some (.ref (ad 3)), some (.ref (Z.1 3)), some (vI x2)] [] := by
  intro n
  induction n with
  | zero => intro _ _ _ _ h; exact h.elim
  | succ n ih =>
    intro x2 σ c2 hσ h
    unfold wp_X6_isWord_s3_l28 at h
    refine g_iload_2 E dX6_isWord_28 ?_
    refine g_aload_1 E dX6_isWord_29 ?_
    refine g_slen E ml_RX6_143 (i := 3) (by decide) hσ (n := 5) rfl (Nat.le_of_ble_eq_true rfl) (rm_s 6 (by decide)) ⟨Nat.zero_le _, Nat.zero_le _⟩ dX6_isWord_30 ?_
    refine g_icmp_ge E c2 cl_5 djX6_isWord_33 (fun hc => ?_) (fun hc => ?_)
    · replace h := h.1 hc
      refine g_iconst E dX6_isWord_63 ?_
      exact g_zret E hr (Or.inr rfl) h hσ dX6_isWord_64
    · replace h := h.2 hc
      refine g_aload_0 E dX6_isWord_36 ?_
      refine g_getR E fl_RX6_9 (kC_3 b) (sC_3 b) rfl dX6_isWord_37 ?_
      refine g_aload_0 E dX6_isWord_40 ?_
      refine g_getI E fl_RX6_137 (kC_3 b) (sC_3 b) rfl dX6_isWord_41 ?_
      refine g_iload_2 E dX6_isWord_44 ?_
      refine g_iadd E dX6_isWord_45 ?_
      refine g_iald E (kC_1 b) (sC_1 b) (by decide) h.1 dX6_isWord_46 ?_
      replace h := h.2
      refine g_aload_1 E dX6_isWord_47 ?_
      refine g_iload_2 E dX6_isWord_48 ?_
      refine g_schar E ml_RX6_148 (i := 3) (by decide) hσ (n := 5) rfl h.1 (Nat.le_of_ble_eq_true rfl) (rm_s 6 (by decide)) ⟨Nat.zero_le _, Nat.zero_le _⟩ dX6_isWord_49 ?_
      replace h := h.2
      refine g_icmp_eq E (aC_1 hσ _) (c32_str 3 (by decide) _) djX6_isWord_52 (fun hc => ?_) (fun hc => ?_)
      · replace h := h.1 hc
        refine g_iinc_2 E rfl (by decide) dX6_isWord_57 (fun v1 ev1 => ?_)
        replace h := h v1 ev1
        have cv1 : C32 v1 := by rw [ev1]; exact c32_w _
        refine g_goto E djX6_isWord_60 ?_
        exact (ih v1 σ cv1 hσ h).weak (w_k (w_k (w_k w_n)))
      · replace h := h.2 hc
        refine g_iconst E dX6_isWord_55 ?_
        exact g_zret E hr (Or.inl rfl) h hσ dX6_isWord_56
set_option maxHeartbeats 4000000 in
set_option maxRecDepth 100000 in
theorem t_X6_isWord_s3 (E : Ev p s m args meth c cX6_isWord 3 RX6 A0 D cA ad (NC b) Z) (hr : meth.sig.returnType = (some .boolean)) (σ : St) (hσ : CanS (shC b) (NC b) σ) (h : wp_X6_isWord_s3  σ Q) : G p l e (rmL 6 0 0) s m args below meth c 3 A0 D cA ad (shC b) (NC b) 0 0 (MQ below (QIc D cA ad (shC b) (NC b) Q A0) args s 0 0 A0) σ 0 [some (.ref (ad 3)), some (.ref (Z.1 3)), none] [] := by
  unfold wp_X6_isWord_s3 at h
  refine g_aload_0 E dX6_isWord_0 ?_
  refine g_getI E fl_RX6_41 (kC_3 b) (sC_3 b) rfl dX6_isWord_1 ?_
  refine g_iconst E dX6_isWord_4 ?_
  refine g_icmp_ne E (fC_3_5 hσ) cl_1 djX6_isWord_5 (fun hc => ?_) (fun hc => ?_)
  · replace h := h.1 hc
    refine g_iconst E dX6_isWord_24 ?_
    exact g_zret E hr (Or.inl rfl) h hσ dX6_isWord_25
  · replace h := h.2 hc
    refine g_aload_0 E dX6_isWord_8 ?_
    refine g_getI E fl_RX6_32 (kC_3 b) (sC_3 b) rfl dX6_isWord_9 ?_
    refine g_aload_0 E dX6_isWord_12 ?_
    refine g_getI E fl_RX6_137 (kC_3 b) (sC_3 b) rfl dX6_isWord_13 ?_
    refine g_isub E dX6_isWord_16 ?_
    refine g_aload_1 E dX6_isWord_17 ?_
    refine g_slen E ml_RX6_143 (i := 3) (by decide) hσ (n := 5) rfl (Nat.le_of_ble_eq_true rfl) (rm_s 6 (by decide)) ⟨Nat.zero_le _, Nat.zero_le _⟩ dX6_isWord_18 ?_
    refine g_icmp_eq E (c32_w _) cl_5 djX6_isWord_21 (fun hc => ?_) (fun hc => ?_)
    · replace h := h.1 hc
      refine g_iconst E dX6_isWord_26 ?_
      refine g_istore_2 E rfl (by decide) dX6_isWord_27 ?_
      exact (t_X6_isWord_s3_l28 E hr bigN 0 σ cl_0 hσ h).weak (w_k (w_k (w_k w_n)))
    · replace h := h.2 hc
      refine g_iconst E dX6_isWord_24 ?_
      exact g_zret E hr (Or.inl rfl) h hσ dX6_isWord_25
end
theorem m_X6_isWord_s3 {Z : (Nat → Nat) × (Nat → Nat)} {l : Launch} {D : va_G} {cA : Nat → ClassId} {ad : Nat → Nat} {b : Bool} {σ : St} {Q : Int → St → Prop} (hA : AdOk (NC b) ad) (hσ : CanS (shC b) (NC b) σ) (h : wp_X6_isWord_s3  σ Q) : KtI Z l D cA ad (shC b) (NC b) yX6_isWord cX6_isWord 3 (some .boolean) 6 [.ref (ad 3), .ref (Z.1 3)] σ Q :=
  KtI.of my_X6_isWord hA [some (.ref (ad 3)), some (.ref (Z.1 3)), none] (Nat.le_of_ble_eq_true rfl) rfl (fun p e s m args below meth c A0 E hr => t_X6_isWord_s3 E hr σ hσ h)
theorem dX6_fail_0 : Dc cX6_fail 0 (.aload_n 0) 1 1 := ⟨by decide +kernel, rfl⟩
theorem dX6_fail_1 : Dc cX6_fail 1 (.getfield 22) 3 4 := ⟨by decide +kernel, rfl⟩
theorem djX6_fail_4 : Dj cX6_fail 4 (.ifCond .ne 16) 3 7 16 20 := ⟨by decide +kernel, rfl, by decide⟩
theorem dX6_fail_7 : Dc cX6_fail 7 (.aload_n 0) 1 8 := ⟨by decide +kernel, rfl⟩
theorem dX6_fail_8 : Dc cX6_fail 8 (.iload_n 1) 1 9 := ⟨by decide +kernel, rfl⟩
theorem dX6_fail_9 : Dc cX6_fail 9 (.putfield 22) 3 12 := ⟨by decide +kernel, rfl⟩
theorem dX6_fail_12 : Dc cX6_fail 12 (.aload_n 0) 1 13 := ⟨by decide +kernel, rfl⟩
theorem dX6_fail_13 : Dc cX6_fail 13 (.aload_n 0) 1 14 := ⟨by decide +kernel, rfl⟩
theorem dX6_fail_14 : Dc cX6_fail 14 (.getfield 137) 3 17 := ⟨by decide +kernel, rfl⟩
theorem dX6_fail_17 : Dc cX6_fail 17 (.putfield 26) 3 20 := ⟨by decide +kernel, rfl⟩
theorem dX6_fail_20 : Dc cX6_fail 20 (.return_) 1 21 := ⟨by decide +kernel, rfl⟩
section
variable {p : Program} {l : Launch} {e : Env} {s : State} {m : MethodId} {args : Array Value} {below : List Frame} {meth : Method} {c : Code} {A0 : Nat → Prop} {D : va_G} {cA : Nat → ClassId} {ad : Nat → Nat} {Z : (Nat → Nat) × (Nat → Nat)} {Q : Int → St → Prop} {b : Bool}
set_option maxHeartbeats 4000000 in
set_option maxRecDepth 100000 in
theorem t_X6_fail (E : Ev p s m args meth c cX6_fail 2 RX6 A0 D cA ad (NC b) Z) (hr : meth.sig.returnType = none) (x1 : Int) (σ : St) (c1 : C32 x1) (hσ : CanS (shC b) (NC b) σ) (h : wp_X6_fail x1 σ Q) : G p l e (rmL 1 0 0) s m args below meth c 2 A0 D cA ad (shC b) (NC b) 0 0 (MQ below (QVc D cA ad (shC b) (NC b) Q A0) args s 0 0 A0) σ 0 [some (.ref (ad 3)), some (vI x1)] [] := by
  unfold wp_X6_fail at h
  refine g_aload_0 E dX6_fail_0 ?_
  refine g_getI E fl_RX6_22 (kC_3 b) (sC_3 b) rfl dX6_fail_1 ?_
  refine g_if_ne E (fC_3_2 hσ) djX6_fail_4 (fun hc => ?_) (fun hc => ?_)
  · replace h := h.1 hc
    exact g_vret E hr h hσ dX6_fail_20
  · replace h := h.2 hc
    refine g_aload_0 E dX6_fail_7 ?_
    refine g_iload_1 E dX6_fail_8 ?_
    refine g_putI E fl_RX6_22 rfl rfl (kC_3 b) (sC_3 b) rfl dX6_fail_9 (g_nmS (fun σ1 eσ1 => ?_))
    replace h := h σ1 eσ1
    have hσ1 : CanS (shC b) (NC b) σ1 := by rw [eσ1]; exact uC_3_2 hσ c1
    refine g_aload_0 E dX6_fail_12 ?_
    refine g_aload_0 E dX6_fail_13 ?_
    refine g_getI E fl_RX6_137 (kC_3 b) (sC_3 b) rfl dX6_fail_14 ?_
    refine g_putI E fl_RX6_26 rfl rfl (kC_3 b) (sC_3 b) rfl dX6_fail_17 (g_nmS (fun σ2 eσ2 => ?_))
    replace h := h σ2 eσ2
    have hσ2 : CanS (shC b) (NC b) σ2 := by rw [eσ2]; exact uC_3_3 hσ1 (fC_3_6 hσ1)
    exact g_vret E hr h hσ2 dX6_fail_20
end
theorem m_X6_fail {Z : (Nat → Nat) × (Nat → Nat)} {l : Launch} {D : va_G} {cA : Nat → ClassId} {ad : Nat → Nat} {b : Bool} {x1 : Int} {σ : St} {Q : Int → St → Prop} (hA : AdOk (NC b) ad) (c1 : C32 x1) (hσ : CanS (shC b) (NC b) σ) (h : wp_X6_fail x1 σ Q) : KtV Z l D cA ad (shC b) (NC b) yX6_fail cX6_fail 2 none 1 [.ref (ad 3), vI x1] σ Q :=
  KtV.of my_X6_fail hA [some (.ref (ad 3)), some (vI x1)] (Nat.le_of_ble_eq_true rfl) rfl (fun p e s m args below meth c A0 E hr => t_X6_fail E hr x1 σ c1 hσ h)
theorem dX6_readNumber_0 : Dc cX6_readNumber 0 (.aload_n 0) 1 1 := ⟨by decide +kernel, rfl⟩
theorem dX6_readNumber_1 : Dc cX6_readNumber 1 (.getfield 41) 3 4 := ⟨by decide +kernel, rfl⟩
theorem dX6_readNumber_4 : Dc cX6_readNumber 4 (.iconst 2) 1 5 := ⟨by decide +kernel, rfl⟩
theorem djX6_readNumber_5 : Dj cX6_readNumber 5 (.if_icmp .eq 11) 3 8 11 16 := ⟨by decide +kernel, rfl, by decide⟩
theorem dX6_readNumber_8 : Dc cX6_readNumber 8 (.aload_n 0) 1 9 := ⟨by decide +kernel, rfl⟩
theorem dX6_readNumber_9 : Dc cX6_readNumber 9 (.iconst 1) 1 10 := ⟨by decide +kernel, rfl⟩
theorem dX6_readNumber_10 : Dc cX6_readNumber 10 (.invokevirtual 58) 3 13 := ⟨by decide +kernel, rfl⟩
theorem djX6_readNumber_13 : Dj cX6_readNumber 13 (.goto 24) 3 16 24 37 := ⟨by decide +kernel, rfl, by decide⟩
theorem dX6_readNumber_16 : Dc cX6_readNumber 16 (.aload_n 0) 1 17 := ⟨by decide +kernel, rfl⟩
theorem dX6_readNumber_17 : Dc cX6_readNumber 17 (.getfield 140) 3 20 := ⟨by decide +kernel, rfl⟩
theorem dX6_readNumber_20 : Dc cX6_readNumber 20 (.iload_n 1) 1 21 := ⟨by decide +kernel, rfl⟩
theorem djX6_readNumber_21 : Dj cX6_readNumber 21 (.if_icmp .lt 11) 3 24 11 32 := ⟨by decide +kernel, rfl, by decide⟩
theorem dX6_readNumber_24 : Dc cX6_readNumber 24 (.aload_n 0) 1 25 := ⟨by decide +kernel, rfl⟩
theorem dX6_readNumber_25 : Dc cX6_readNumber 25 (.getfield 140) 3 28 := ⟨by decide +kernel, rfl⟩
theorem dX6_readNumber_28 : Dc cX6_readNumber 28 (.iload_n 2) 1 29 := ⟨by decide +kernel, rfl⟩
theorem djX6_readNumber_29 : Dj cX6_readNumber 29 (.if_icmp .le 8) 3 32 8 37 := ⟨by decide +kernel, rfl, by decide⟩
theorem dX6_readNumber_32 : Dc cX6_readNumber 32 (.aload_n 0) 1 33 := ⟨by decide +kernel, rfl⟩
theorem dX6_readNumber_33 : Dc cX6_readNumber 33 (.iconst 2) 1 34 := ⟨by decide +kernel, rfl⟩
theorem dX6_readNumber_34 : Dc cX6_readNumber 34 (.invokevirtual 58) 3 37 := ⟨by decide +kernel, rfl⟩
theorem dX6_readNumber_37 : Dc cX6_readNumber 37 (.aload_n 0) 1 38 := ⟨by decide +kernel, rfl⟩
theorem dX6_readNumber_38 : Dc cX6_readNumber 38 (.getfield 22) 3 41 := ⟨by decide +kernel, rfl⟩
theorem djX6_readNumber_41 : Dj cX6_readNumber 41 (.ifCond .ne 10) 3 44 10 51 := ⟨by decide +kernel, rfl, by decide⟩
theorem dX6_readNumber_44 : Dc cX6_readNumber 44 (.aload_n 0) 1 45 := ⟨by decide +kernel, rfl⟩
theorem dX6_readNumber_45 : Dc cX6_readNumber 45 (.getfield 140) 3 48 := ⟨by decide +kernel, rfl⟩
theorem djX6_readNumber_48 : Dj cX6_readNumber 48 (.goto 4) 3 51 4 52 := ⟨by decide +kernel, rfl, by decide⟩
theorem dX6_readNumber_51 : Dc cX6_readNumber 51 (.iconst 0) 1 52 := ⟨by decide +kernel, rfl⟩
theorem dX6_readNumber_52 : Dc cX6_readNumber 52 (.istore_n 3) 1 53 := ⟨by decide +kernel, rfl⟩
theorem dX6_readNumber_53 : Dc cX6_readNumber 53 (.aload_n 0) 1 54 := ⟨by decide +kernel, rfl⟩
theorem dX6_readNumber_54 : Dc cX6_readNumber 54 (.invokevirtual 38) 3 57 := ⟨by decide +kernel, rfl⟩
theorem dX6_readNumber_57 : Dc cX6_readNumber 57 (.iload_n 3) 1 58 := ⟨by decide +kernel, rfl⟩
theorem dX6_readNumber_58 : Dc cX6_readNumber 58 (.ireturn) 1 59 := ⟨by decide +kernel, rfl⟩
section
variable {p : Program} {l : Launch} {e : Env} {s : State} {m : MethodId} {args : Array Value} {below : List Frame} {meth : Method} {c : Code} {A0 : Nat → Prop} {D : va_G} {cA : Nat → ClassId} {ad : Nat → Nat} {Z : (Nat → Nat) × (Nat → Nat)} {Q : Int → St → Prop} {b : Bool}
set_option maxHeartbeats 4000000 in
set_option maxRecDepth 100000 in
theorem t_X6_readNumber_b52 (E : Ev p s m args meth c cX6_readNumber 4 RX6 A0 D cA ad (NC b) Z) (hr : meth.sig.returnType = (some .int)) (s0 : Int) (σ : St) (cs0 : C32 s0) (hσ : CanS (shC b) (NC b) σ) (h : wp_X6_readNumber_b52 Q s0 σ) : G p l e (rmL 3 0 0) s m args below meth c 4 A0 D cA ad (shC b) (NC b) 0 0 (MQ below (QIc D cA ad (shC b) (NC b) Q A0) args s 0 0 A0) σ 52 [some (.ref (ad 3)), none, none, none] [vI s0] := by
  unfold wp_X6_readNumber_b52 at h
  refine g_istore_3 E rfl (by decide) dX6_readNumber_52 ?_
  refine g_aload_0 E dX6_readNumber_53 ?_
  refine g_callvV E my_X6_advance mi_X6_advance msel_X6_advance ml_RX6_38 (rm_ok (by decide) (by decide)) ⟨Nat.zero_le _, Nat.zero_le _⟩ (kC_3 b) (sC_3 b) rfl (m_X6_advance E.2.2.1 hσ h) rfl rfl (Nat.le_of_ble_eq_true rfl) dX6_readNumber_54 (fun σ6 r5 hσ6 h => ?_)
  refine g_iload_3 E dX6_readNumber_57 ?_
  exact g_iret E hr cs0 h hσ6 dX6_readNumber_58
set_option maxHeartbeats 4000000 in
set_option maxRecDepth 100000 in
theorem t_X6_readNumber_b37 (E : Ev p s m args meth c cX6_readNumber 4 RX6 A0 D cA ad (NC b) Z) (hr : meth.sig.returnType = (some .int)) (σ : St) (hσ : CanS (shC b) (NC b) σ) (h : wp_X6_readNumber_b37 Q  σ) : G p l e (rmL 3 0 0) s m args below meth c 4 A0 D cA ad (shC b) (NC b) 0 0 (MQ below (QIc D cA ad (shC b) (NC b) Q A0) args s 0 0 A0) σ 37 [some (.ref (ad 3)), none, none, none] [] := by
  unfold wp_X6_readNumber_b37 at h
  refine g_aload_0 E dX6_readNumber_37 ?_
  refine g_getI E fl_RX6_22 (kC_3 b) (sC_3 b) rfl dX6_readNumber_38 ?_
  refine g_if_ne E (fC_3_2 hσ) djX6_readNumber_41 (fun hc => ?_) (fun hc => ?_)
  · replace h := h.1 hc
    refine g_iconst E dX6_readNumber_51 ?_
    exact (t_X6_readNumber_b52 E hr 0 σ cl_0 hσ h).weak (w_k (w_d (w_d (w_d w_n))))
  · replace h := h.2 hc
    refine g_aload_0 E dX6_readNumber_44 ?_
    refine g_getI E fl_RX6_140 (kC_3 b) (sC_3 b) rfl dX6_readNumber_45 ?_
    refine g_goto E djX6_readNumber_48 ?_
    exact (t_X6_readNumber_b52 E hr (σ 3 8) σ (fC_3_8 hσ) hσ h).weak (w_k (w_d (w_d (w_d w_n))))
set_option maxHeartbeats 4000000 in
set_option maxRecDepth 100000 in
theorem t_X6_readNumber_b32 (E : Ev p s m args meth c cX6_readNumber 4 RX6 A0 D cA ad (NC b) Z) (hr : meth.sig.returnType = (some .int)) (σ : St) (hσ : CanS (shC b) (NC b) σ) (h : wp_X6_readNumber_b32 Q  σ) : G p l e (rmL 3 0 0) s m args below meth c 4 A0 D cA ad (shC b) (NC b) 0 0 (MQ below (QIc D cA ad (shC b) (NC b) Q A0) args s 0 0 A0) σ 32 [some (.ref (ad 3)), none, none, none] [] := by
  unfold wp_X6_readNumber_b32 at h
  refine g_aload_0 E dX6_readNumber_32 ?_
  refine g_iconst E dX6_readNumber_33 ?_
  refine g_callvV E my_X6_fail mi_X6_fail msel_X6_fail ml_RX6_58 (rm_ok (by decide) (by decide)) ⟨Nat.zero_le _, Nat.zero_le _⟩ (kC_3 b) (sC_3 b) rfl (m_X6_fail E.2.2.1 cl_2 hσ h) rfl rfl (Nat.le_of_ble_eq_true rfl) dX6_readNumber_34 (fun σ4 r3 hσ4 h => ?_)
  exact (t_X6_readNumber_b37 E hr σ4 hσ4 h).weak (w_k (w_d (w_d (w_d w_n))))
set_option maxHeartbeats 4000000 in
set_option maxRecDepth 100000 in
theorem t_X6_readNumber (E : Ev p s m args meth c cX6_readNumber 4 RX6 A0 D cA ad (NC b) Z) (hr : meth.sig.returnType = (some .int)) (x1 : Int) (x2 : Int) (σ : St) (c1 : C32 x1) (c2 : C32 x2) (hσ : CanS (shC b) (NC b) σ) (h : wp_X6_readNumber x1 x2 σ Q) : G p l e (rmL 3 0 0) s m args below meth c 4 A0 D cA ad (shC b) (NC b) 0 0 (MQ below (QIc D cA ad (shC b) (NC b) Q A0) args s 0 0 A0) σ 0 [some (.ref (ad 3)), some (vI x1), some (vI x2), none] [] := by
  unfold wp_X6_readNumber at h
  refine g_aload_0 E dX6_readNumber_0 ?_
  refine g_getI E fl_RX6_41 (kC_3 b) (sC_3 b) rfl dX6_readNumber_1 ?_
  refine g_iconst E dX6_readNumber_4 ?_
  refine g_icmp_eq E (fC_3_5 hσ) cl_2 djX6_readNumber_5 (fun hc => ?_) (fun hc => ?_)
  · replace h := h.1 hc
    refine g_aload_0 E dX6_readNumber_16 ?_
    refine g_getI E fl_RX6_140 (kC_3 b) (sC_3 b) rfl dX6_readNumber_17 ?_
    refine g_iload_1 E dX6_readNumber_20 ?_
    refine g_icmp_lt E (fC_3_8 hσ) c1 djX6_readNumber_21 (fun hc => ?_) (fun hc => ?_)
    · replace h := h.1 hc
      exact (t_X6_readNumber_b32 E hr σ hσ h).weak (w_k (w_d (w_d (w_d w_n))))
    · replace h := h.2 hc
      refine g_aload_0 E dX6_readNumber_24 ?_
      refine g_getI E fl_RX6_140 (kC_3 b) (sC_3 b) rfl dX6_readNumber_25 ?_
      refine g_iload_2 E dX6_readNumber_28 ?_
      refine g_icmp_le E (fC_3_8 hσ) c2 djX6_readNumber_29 (fun hc => ?_) (fun hc => ?_)
      · replace h := h.1 hc
        exact (t_X6_readNumber_b37 E hr σ hσ h).weak (w_k (w_d (w_d (w_d w_n))))
      · replace h := h.2 hc
        exact (t_X6_readNumber_b32 E hr σ hσ h).weak (w_k (w_d (w_d (w_d w_n))))
  · replace h := h.2 hc
    refine g_aload_0 E dX6_readNumber_8 ?_
    refine g_iconst E dX6_readNumber_9 ?_
    refine g_callvV E my_X6_fail mi_X6_fail msel_X6_fail ml_RX6_58 (rm_ok (by decide) (by decide)) ⟨Nat.zero_le _, Nat.zero_le _⟩ (kC_3 b) (sC_3 b) rfl (m_X6_fail E.2.2.1 cl_1 hσ h) rfl rfl (Nat.le_of_ble_eq_true rfl) dX6_readNumber_10 (fun σ2 r1 hσ2 h => ?_)
    refine g_goto E djX6_readNumber_13 ?_
    exact (t_X6_readNumber_b37 E hr σ2 hσ2 h).weak (w_k (w_d (w_d (w_d w_n))))
end
theorem m_X6_readNumber {Z : (Nat → Nat) × (Nat → Nat)} {l : Launch} {D : va_G} {cA : Nat → ClassId} {ad : Nat → Nat} {b : Bool} {x1 x2 : Int} {σ : St} {Q : Int → St → Prop} (hA : AdOk (NC b) ad) (c1 : C32 x1) (c2 : C32 x2) (hσ : CanS (shC b) (NC b) σ) (h : wp_X6_readNumber x1 x2 σ Q) : KtI Z l D cA ad (shC b) (NC b) yX6_readNumber cX6_readNumber 4 (some .int) 3 [.ref (ad 3), vI x1, vI x2] σ Q :=
  KtI.of my_X6_readNumber hA [some (.ref (ad 3)), some (vI x1), some (vI x2), none] (Nat.le_of_ble_eq_true rfl) rfl (fun p e s m args below meth c A0 E hr => t_X6_readNumber E hr x1 x2 σ c1 c2 hσ h)
section
variable {p : Program} {l : Launch} {e : Env} {s : State} {m : MethodId} {args : Array Value} {below : List Frame} {meth : Method} {c : Code} {A0 : Nat → Prop} {D : va_G} {cA : Nat → ClassId} {ad : Nat → Nat} {Z : (Nat → Nat) × (Nat → Nat)} {Q : Int → St → Prop} {b : Bool}
set_option maxHeartbeats 4000000 in
set_option maxRecDepth 100000 in
theorem t_X6_isWord_s4_l28 (E : Ev p s m args meth c cX6_isWord 3 RX6 A0 D cA ad (NC b) Z) (hr : meth.sig.returnType = (some .boolean)) : ∀ (n : Nat) (x2 : Int) (σ : St), C32 x2 → CanS (shC b) (NC b) σ → wp_X6_isWord_s4_l28 Q n x2 σ → G p l e (rmL 6 0 0) s m args below meth c 3 A0 D cA ad (shC b) (NC b) 0 0 (MQ below (QIc D cA ad (shC b) (NC b) Q A0) args s 0 0 A0) σ 28 [some (.ref (ad 3)), some (.ref (Z.1 4)), some (vI x2)] [] := by
  intro n
  induction n with
  | zero => intro _ _ _ _ h; exact h.elim
  | succ n ih =>
    intro x2 σ c2 hσ h
    unfold wp_X6_isWord_s4_l28 at h
    refine g_iload_2 E dX6_isWord_28 ?_
    refine g_aload_1 E dX6_isWord_29 ?_
    refine g_slen E ml_RX6_143 (i := 4) (by decide) hσ (n := 4) rfl (Nat.le_of_ble_eq_true rfl) (rm_s 6 (by decide)) ⟨Nat.zero_le _, Nat.zero_le _⟩ dX6_isWord_30 ?_
    refine g_icmp_ge E c2 cl_4 djX6_isWord_33 (fun hc => ?_) (fun hc => ?_)
    · replace h := h.1 hc
      refine g_iconst E dX6_isWord_63 ?_
      exact g_zret E hr (Or.inr rfl) h hσ dX6_isWord_64
    · replace h := h.2 hc
      refine g_aload_0 E dX6_isWord_36 ?_
      refine g_getR E fl_RX6_9 (kC_3 b) (sC_3 b) rfl dX6_isWord_37 ?_
      refine g_aload_0 E dX6_isWord_40 ?_
      refine g_getI E fl_RX6_137 (kC_3 b) (sC_3 b) rfl dX6_isWord_41 ?_
      refine g_iload_2 E dX6_isWord_44 ?_
      refine g_iadd E dX6_isWord_45 ?_
      refine g_iald E (kC_1 b) (sC_1 b) (by decide) h.1 dX6_isWord_46 ?_
      replace h := h.2
      refine g_aload_1 E dX6_isWord_47 ?_
      refine g_iload_2 E dX6_isWord_48 ?_
      refine g_schar E ml_RX6_148 (i := 4) (by decide) hσ (n := 4) rfl h.1 (Nat.le_of_ble_eq_true rfl) (rm_s 6 (by decide)) ⟨Nat.zero_le _, Nat.zero_le _⟩ dX6_isWord_49 ?_
      replace h := h.2
      refine g_icmp_eq E (aC_1 hσ _) (c32_str 4 (by decide) _) djX6_isWord_52 (fun hc => ?_) (fun hc => ?_)
      · replace h := h.1 hc
        refine g_iinc_2 E rfl (by decide) dX6_isWord_57 (fun v1 ev1 => ?_)
        replace h := h v1 ev1
        have cv1 : C32 v1 := by rw [ev1]; exact c32_w _
        refine g_goto E djX6_isWord_60 ?_
        exact (ih v1 σ cv1 hσ h).weak (w_k (w_k (w_k w_n)))
      · replace h := h.2 hc
        refine g_iconst E dX6_isWord_55 ?_
        exact g_zret E hr (Or.inl rfl) h hσ dX6_isWord_56
set_option maxHeartbeats 4000000 in
set_option maxRecDepth 100000 in
theorem t_X6_isWord_s4 (E : Ev p s m args meth c cX6_isWord 3 RX6 A0 D cA ad (NC b) Z) (hr : meth.sig.returnType = (some .boolean)) (σ : St) (hσ : CanS (shC b) (NC b) σ) (h : wp_X6_isWord_s4  σ Q) : G p l e (rmL 6 0 0) s m args below meth c 3 A0 D cA ad (shC b) (NC b) 0 0 (MQ below (QIc D cA ad (shC b) (NC b) Q A0) args s 0 0 A0) σ 0 [some (.ref (ad 3)), some (.ref (Z.1 4)), none] [] := by
  unfold wp_X6_isWord_s4 at h
  refine g_aload_0 E dX6_isWord_0 ?_
  refine g_getI E fl_RX6_41 (kC_3 b) (sC_3 b) rfl dX6_isWord_1 ?_
  refine g_iconst E dX6_isWord_4 ?_
  refine g_icmp_ne E (fC_3_5 hσ) cl_1 djX6_isWord_5 (fun hc => ?_) (fun hc => ?_)
  · replace h := h.1 hc
    refine g_iconst E dX6_isWord_24 ?_
    exact g_zret E hr (Or.inl rfl) h hσ dX6_isWord_25
  · replace h := h.2 hc
    refine g_aload_0 E dX6_isWord_8 ?_
    refine g_getI E fl_RX6_32 (kC_3 b) (sC_3 b) rfl dX6_isWord_9 ?_
    refine g_aload_0 E dX6_isWord_12 ?_
    refine g_getI E fl_RX6_137 (kC_3 b) (sC_3 b) rfl dX6_isWord_13 ?_
    refine g_isub E dX6_isWord_16 ?_
    refine g_aload_1 E dX6_isWord_17 ?_
    refine g_slen E ml_RX6_143 (i := 4) (by decide) hσ (n := 4) rfl (Nat.le_of_ble_eq_true rfl) (rm_s 6 (by decide)) ⟨Nat.zero_le _, Nat.zero_le _⟩ dX6_isWord_18 ?_
    refine g_icmp_eq E (c32_w _) cl_4 djX6_isWord_21 (fun hc => ?_) (fun hc => ?_)
    · replace h := h.1 hc
      refine g_iconst E dX6_isWord_26 ?_
      refine g_istore_2 E rfl (by decide) dX6_isWord_27 ?_
      exact (t_X6_isWord_s4_l28 E hr bigN 0 σ cl_0 hσ h).weak (w_k (w_k (w_k w_n)))
    · replace h := h.2 hc
      refine g_iconst E dX6_isWord_24 ?_
      exact g_zret E hr (Or.inl rfl) h hσ dX6_isWord_25
end
theorem m_X6_isWord_s4 {Z : (Nat → Nat) × (Nat → Nat)} {l : Launch} {D : va_G} {cA : Nat → ClassId} {ad : Nat → Nat} {b : Bool} {σ : St} {Q : Int → St → Prop} (hA : AdOk (NC b) ad) (hσ : CanS (shC b) (NC b) σ) (h : wp_X6_isWord_s4  σ Q) : KtI Z l D cA ad (shC b) (NC b) yX6_isWord cX6_isWord 3 (some .boolean) 6 [.ref (ad 3), .ref (Z.1 4)] σ Q :=
  KtI.of my_X6_isWord hA [some (.ref (ad 3)), some (.ref (Z.1 4)), none] (Nat.le_of_ble_eq_true rfl) rfl (fun p e s m args below meth c A0 E hr => t_X6_isWord_s4 E hr σ hσ h)
theorem dX6_passWord_0 : Dc cX6_passWord 0 (.aload_n 0) 1 1 := ⟨by decide +kernel, rfl⟩
theorem dX6_passWord_1 : Dc cX6_passWord 1 (.aload_n 1) 1 2 := ⟨by decide +kernel, rfl⟩
theorem dX6_passWord_2 : Dc cX6_passWord 2 (.invokevirtual 46) 3 5 := ⟨by decide +kernel, rfl⟩
theorem djX6_passWord_5 : Dj cX6_passWord 5 (.ifCond .ne 8) 3 8 8 13 := ⟨by decide +kernel, rfl, by decide⟩
theorem dX6_passWord_8 : Dc cX6_passWord 8 (.aload_n 0) 1 9 := ⟨by decide +kernel, rfl⟩
theorem dX6_passWord_9 : Dc cX6_passWord 9 (.iconst 1) 1 10 := ⟨by decide +kernel, rfl⟩
theorem dX6_passWord_10 : Dc cX6_passWord 10 (.invokevirtual 58) 3 13 := ⟨by decide +kernel, rfl⟩
theorem dX6_passWord_13 : Dc cX6_passWord 13 (.aload_n 0) 1 14 := ⟨by decide +kernel, rfl⟩
theorem dX6_passWord_14 : Dc cX6_passWord 14 (.invokevirtual 38) 3 17 := ⟨by decide +kernel, rfl⟩
theorem dX6_passWord_17 : Dc cX6_passWord 17 (.return_) 1 18 := ⟨by decide +kernel, rfl⟩
section
variable {p : Program} {l : Launch} {e : Env} {s : State} {m : MethodId} {args : Array Value} {below : List Frame} {meth : Method} {c : Code} {A0 : Nat → Prop} {D : va_G} {cA : Nat → ClassId} {ad : Nat → Nat} {Z : (Nat → Nat) × (Nat → Nat)} {Q : Int → St → Prop} {b : Bool}
set_option maxHeartbeats 4000000 in
set_option maxRecDepth 100000 in
theorem t_X6_passWord_s4 (E : Ev p s m args meth c cX6_passWord 2 RX6 A0 D cA ad (NC b) Z) (hr : meth.sig.returnType = none) (σ : St) (hσ : CanS (shC b) (NC b) σ) (h : wp_X6_passWord_s4  σ Q) : G p l e (rmL 7 0 0) s m args below meth c 2 A0 D cA ad (shC b) (NC b) 0 0 (MQ below (QVc D cA ad (shC b) (NC b) Q A0) args s 0 0 A0) σ 0 [some (.ref (ad 3)), some (.ref (Z.1 4))] [] := by
  unfold wp_X6_passWord_s4 at h
  refine g_aload_0 E dX6_passWord_0 ?_
  refine g_aload_1 E dX6_passWord_1 ?_
  refine g_callvI E my_X6_isWord mi_X6_isWord msel_X6_isWord ml_RX6_46 (rm_ok (by decide) (by decide)) ⟨Nat.zero_le _, Nat.zero_le _⟩ (kC_3 b) (sC_3 b) rfl (m_X6_isWord_s4 E.2.2.1 hσ h) rfl rfl (Nat.le_of_ble_eq_true rfl) dX6_passWord_2 (fun r1 σ2 cr1 hσ2 h => ?_)
  refine g_if_ne E cr1 djX6_passWord_5 (fun hc => ?_) (fun hc => ?_)
  · replace h := h.1 hc
    refine g_aload_0 E dX6_passWord_13 ?_
    refine g_callvV E my_X6_advance mi_X6_advance msel_X6_advance ml_RX6_38 (rm_ok (by decide) (by decide)) ⟨Nat.zero_le _, Nat.zero_le _⟩ (kC_3 b) (sC_3 b) rfl (m_X6_advance E.2.2.1 hσ2 h) rfl rfl (Nat.le_of_ble_eq_true rfl) dX6_passWord_14 (fun σ4 r3 hσ4 h => ?_)
    exact g_vret E hr h hσ4 dX6_passWord_17
  · replace h := h.2 hc
    refine g_aload_0 E dX6_passWord_8 ?_
    refine g_iconst E dX6_passWord_9 ?_
    refine g_callvV E my_X6_fail mi_X6_fail msel_X6_fail ml_RX6_58 (rm_ok (by decide) (by decide)) ⟨Nat.zero_le _, Nat.zero_le _⟩ (kC_3 b) (sC_3 b) rfl (m_X6_fail E.2.2.1 cl_1 hσ2 h) rfl rfl (Nat.le_of_ble_eq_true rfl) dX6_passWord_10 (fun σ6 r5 hσ6 h => ?_)
    refine g_aload_0 E dX6_passWord_13 ?_
    refine g_callvV E my_X6_advance mi_X6_advance msel_X6_advance ml_RX6_38 (rm_ok (by decide) (by decide)) ⟨Nat.zero_le _, Nat.zero_le _⟩ (kC_3 b) (sC_3 b) rfl (m_X6_advance E.2.2.1 hσ6 h) rfl rfl (Nat.le_of_ble_eq_true rfl) dX6_passWord_14 (fun σ8 r7 hσ8 h => ?_)
    exact g_vret E hr h hσ8 dX6_passWord_17
end
theorem m_X6_passWord_s4 {Z : (Nat → Nat) × (Nat → Nat)} {l : Launch} {D : va_G} {cA : Nat → ClassId} {ad : Nat → Nat} {b : Bool} {σ : St} {Q : Int → St → Prop} (hA : AdOk (NC b) ad) (hσ : CanS (shC b) (NC b) σ) (h : wp_X6_passWord_s4  σ Q) : KtV Z l D cA ad (shC b) (NC b) yX6_passWord cX6_passWord 2 none 7 [.ref (ad 3), .ref (Z.1 4)] σ Q :=
  KtV.of my_X6_passWord hA [some (.ref (ad 3)), some (.ref (Z.1 4))] (Nat.le_of_ble_eq_true rfl) rfl (fun p e s m args below meth c A0 E hr => t_X6_passWord_s4 E hr σ hσ h)
section
variable {p : Program} {l : Launch} {e : Env} {s : State} {m : MethodId} {args : Array Value} {below : List Frame} {meth : Method} {c : Code} {A0 : Nat → Prop} {D : va_G} {cA : Nat → ClassId} {ad : Nat → Nat} {Z : (Nat → Nat) × (Nat → Nat)} {Q : Int → St → Prop} {b : Bool}
set_option maxHeartbeats 4000000 in
set_option maxRecDepth 100000 in
theorem t_X6_isWord_s5_l28 (E : Ev p s m args meth c cX6_isWord 3 RX6 A0 D cA ad (NC b) Z) (hr : meth.sig.returnType = (some .boolean)) : ∀ (n : Nat) (x2 : Int) (σ : St), C32 x2 → CanS (shC b) (NC b) σ → wp_X6_isWord_s5_l28 Q n x2 σ → G p l e (rmL 6 0 0) s m args below meth c 3 A0 D cA ad (shC b) (NC b) 0 0 (MQ below (QIc D cA ad (shC b) (NC b) Q A0) args s 0 0 A0) σ 28 [some (.ref (ad 3)), some (.ref (Z.1 5)), some (vI x2)] [] := by
  intro n
  induction n with
  | zero => intro _ _ _ _ h; exact h.elim
  | succ n ih =>
    intro x2 σ c2 hσ h
    unfold wp_X6_isWord_s5_l28 at h
    refine g_iload_2 E dX6_isWord_28 ?_
    refine g_aload_1 E dX6_isWord_29 ?_
    refine g_slen E ml_RX6_143 (i := 5) (by decide) hσ (n := 3) rfl (Nat.le_of_ble_eq_true rfl) (rm_s 6 (by decide)) ⟨Nat.zero_le _, Nat.zero_le _⟩ dX6_isWord_30 ?_
    refine g_icmp_ge E c2 cl_3 djX6_isWord_33 (fun hc => ?_) (fun hc => ?_)
    · replace h := h.1 hc
      refine g_iconst E dX6_isWord_63 ?_
      exact g_zret E hr (Or.inr rfl) h hσ dX6_isWord_64
    · replace h := h.2 hc
      refine g_aload_0 E dX6_isWord_36 ?_
      refine g_getR E fl_RX6_9 (kC_3 b) (sC_3 b) rfl dX6_isWord_37 ?_
      refine g_aload_0 E dX6_isWord_40 ?_
      refine g_getI E fl_RX6_137 (kC_3 b) (sC_3 b) rfl dX6_isWord_41 ?_
      refine g_iload_2 E dX6_isWord_44 ?_
      refine g_iadd E dX6_isWord_45 ?_
      refine g_iald E (kC_1 b) (sC_1 b) (by decide) h.1 dX6_isWord_46 ?_
      replace h := h.2
      refine g_aload_1 E dX6_isWord_47 ?_
      refine g_iload_2 E dX6_isWord_48 ?_
      refine g_schar E ml_RX6_148 (i := 5) (by decide) hσ (n := 3) rfl h.1 (Nat.le_of_ble_eq_true rfl) (rm_s 6 (by decide)) ⟨Nat.zero_le _, Nat.zero_le _⟩ dX6_isWord_49 ?_
      replace h := h.2
      refine g_icmp_eq E (aC_1 hσ _) (c32_str 5 (by decide) _) djX6_isWord_52 (fun hc => ?_) (fun hc => ?_)
      · replace h := h.1 hc
        refine g_iinc_2 E rfl (by decide) dX6_isWord_57 (fun v1 ev1 => ?_)
        replace h := h v1 ev1
        have cv1 : C32 v1 := by rw [ev1]; exact c32_w _
        refine g_goto E djX6_isWord_60 ?_
        exact (ih v1 σ cv1 hσ h).weak (w_k (w_k (w_k w_n)))
      · replace h := h.2 hc
        refine g_iconst E dX6_isWord_55 ?_
        exact g_zret E hr (Or.inl rfl) h hσ dX6_isWord_56
set_option maxHeartbeats 4000000 in
set_option maxRecDepth 100000 in
theorem t_X6_isWord_s5 (E : Ev p s m args meth c cX6_isWord 3 RX6 A0 D cA ad (NC b) Z) (hr : meth.sig.returnType = (some .boolean)) (σ : St) (hσ : CanS (shC b) (NC b) σ) (h : wp_X6_isWord_s5  σ Q) : G p l e (rmL 6 0 0) s m args below meth c 3 A0 D cA ad (shC b) (NC b) 0 0 (MQ below (QIc D cA ad (shC b) (NC b) Q A0) args s 0 0 A0) σ 0 [some (.ref (ad 3)), some (.ref (Z.1 5)), none] [] := by
  unfold wp_X6_isWord_s5 at h
  refine g_aload_0 E dX6_isWord_0 ?_
  refine g_getI E fl_RX6_41 (kC_3 b) (sC_3 b) rfl dX6_isWord_1 ?_
  refine g_iconst E dX6_isWord_4 ?_
  refine g_icmp_ne E (fC_3_5 hσ) cl_1 djX6_isWord_5 (fun hc => ?_) (fun hc => ?_)
  · replace h := h.1 hc
    refine g_iconst E dX6_isWord_24 ?_
    exact g_zret E hr (Or.inl rfl) h hσ dX6_isWord_25
  · replace h := h.2 hc
    refine g_aload_0 E dX6_isWord_8 ?_
    refine g_getI E fl_RX6_32 (kC_3 b) (sC_3 b) rfl dX6_isWord_9 ?_
    refine g_aload_0 E dX6_isWord_12 ?_
    refine g_getI E fl_RX6_137 (kC_3 b) (sC_3 b) rfl dX6_isWord_13 ?_
    refine g_isub E dX6_isWord_16 ?_
    refine g_aload_1 E dX6_isWord_17 ?_
    refine g_slen E ml_RX6_143 (i := 5) (by decide) hσ (n := 3) rfl (Nat.le_of_ble_eq_true rfl) (rm_s 6 (by decide)) ⟨Nat.zero_le _, Nat.zero_le _⟩ dX6_isWord_18 ?_
    refine g_icmp_eq E (c32_w _) cl_3 djX6_isWord_21 (fun hc => ?_) (fun hc => ?_)
    · replace h := h.1 hc
      refine g_iconst E dX6_isWord_26 ?_
      refine g_istore_2 E rfl (by decide) dX6_isWord_27 ?_
      exact (t_X6_isWord_s5_l28 E hr bigN 0 σ cl_0 hσ h).weak (w_k (w_k (w_k w_n)))
    · replace h := h.2 hc
      refine g_iconst E dX6_isWord_24 ?_
      exact g_zret E hr (Or.inl rfl) h hσ dX6_isWord_25
end
theorem m_X6_isWord_s5 {Z : (Nat → Nat) × (Nat → Nat)} {l : Launch} {D : va_G} {cA : Nat → ClassId} {ad : Nat → Nat} {b : Bool} {σ : St} {Q : Int → St → Prop} (hA : AdOk (NC b) ad) (hσ : CanS (shC b) (NC b) σ) (h : wp_X6_isWord_s5  σ Q) : KtI Z l D cA ad (shC b) (NC b) yX6_isWord cX6_isWord 3 (some .boolean) 6 [.ref (ad 3), .ref (Z.1 5)] σ Q :=
  KtI.of my_X6_isWord hA [some (.ref (ad 3)), some (.ref (Z.1 5)), none] (Nat.le_of_ble_eq_true rfl) rfl (fun p e s m args below meth c A0 E hr => t_X6_isWord_s5 E hr σ hσ h)
section
variable {p : Program} {l : Launch} {e : Env} {s : State} {m : MethodId} {args : Array Value} {below : List Frame} {meth : Method} {c : Code} {A0 : Nat → Prop} {D : va_G} {cA : Nat → ClassId} {ad : Nat → Nat} {Z : (Nat → Nat) × (Nat → Nat)} {Q : Int → St → Prop} {b : Bool}
set_option maxHeartbeats 4000000 in
set_option maxRecDepth 100000 in
theorem t_X6_passWord_s5 (E : Ev p s m args meth c cX6_passWord 2 RX6 A0 D cA ad (NC b) Z) (hr : meth.sig.returnType = none) (σ : St) (hσ : CanS (shC b) (NC b) σ) (h : wp_X6_passWord_s5  σ Q) : G p l e (rmL 7 0 0) s m args below meth c 2 A0 D cA ad (shC b) (NC b) 0 0 (MQ below (QVc D cA ad (shC b) (NC b) Q A0) args s 0 0 A0) σ 0 [some (.ref (ad 3)), some (.ref (Z.1 5))] [] := by
  unfold wp_X6_passWord_s5 at h
  refine g_aload_0 E dX6_passWord_0 ?_
  refine g_aload_1 E dX6_passWord_1 ?_
  refine g_callvI E my_X6_isWord mi_X6_isWord msel_X6_isWord ml_RX6_46 (rm_ok (by decide) (by decide)) ⟨Nat.zero_le _, Nat.zero_le _⟩ (kC_3 b) (sC_3 b) rfl (m_X6_isWord_s5 E.2.2.1 hσ h) rfl rfl (Nat.le_of_ble_eq_true rfl) dX6_passWord_2 (fun r1 σ2 cr1 hσ2 h => ?_)
  refine g_if_ne E cr1 djX6_passWord_5 (fun hc => ?_) (fun hc => ?_)
  · replace h := h.1 hc
    refine g_aload_0 E dX6_passWord_13 ?_
    refine g_callvV E my_X6_advance mi_X6_advance msel_X6_advance ml_RX6_38 (rm_ok (by decide) (by decide)) ⟨Nat.zero_le _, Nat.zero_le _⟩ (kC_3 b) (sC_3 b) rfl (m_X6_advance E.2.2.1 hσ2 h) rfl rfl (Nat.le_of_ble_eq_true rfl) dX6_passWord_14 (fun σ4 r3 hσ4 h => ?_)
    exact g_vret E hr h hσ4 dX6_passWord_17
  · replace h := h.2 hc
    refine g_aload_0 E dX6_passWord_8 ?_
    refine g_iconst E dX6_passWord_9 ?_
    refine g_callvV E my_X6_fail mi_X6_fail msel_X6_fail ml_RX6_58 (rm_ok (by decide) (by decide)) ⟨Nat.zero_le _, Nat.zero_le _⟩ (kC_3 b) (sC_3 b) rfl (m_X6_fail E.2.2.1 cl_1 hσ2 h) rfl rfl (Nat.le_of_ble_eq_true rfl) dX6_passWord_10 (fun σ6 r5 hσ6 h => ?_)
    refine g_aload_0 E dX6_passWord_13 ?_
    refine g_callvV E my_X6_advance mi_X6_advance msel_X6_advance ml_RX6_38 (rm_ok (by decide) (by decide)) ⟨Nat.zero_le _, Nat.zero_le _⟩ (kC_3 b) (sC_3 b) rfl (m_X6_advance E.2.2.1 hσ6 h) rfl rfl (Nat.le_of_ble_eq_true rfl) dX6_passWord_14 (fun σ8 r7 hσ8 h => ?_)
    exact g_vret E hr h hσ8 dX6_passWord_17
end
theorem m_X6_passWord_s5 {Z : (Nat → Nat) × (Nat → Nat)} {l : Launch} {D : va_G} {cA : Nat → ClassId} {ad : Nat → Nat} {b : Bool} {σ : St} {Q : Int → St → Prop} (hA : AdOk (NC b) ad) (hσ : CanS (shC b) (NC b) σ) (h : wp_X6_passWord_s5  σ Q) : KtV Z l D cA ad (shC b) (NC b) yX6_passWord cX6_passWord 2 none 7 [.ref (ad 3), .ref (Z.1 5)] σ Q :=
  KtV.of my_X6_passWord hA [some (.ref (ad 3)), some (.ref (Z.1 5))] (Nat.le_of_ble_eq_true rfl) rfl (fun p e s m args below meth c A0 E hr => t_X6_passWord_s5 E hr σ hσ h)
section
variable {p : Program} {l : Launch} {e : Env} {s : State} {m : MethodId} {args : Array Value} {below : List Frame} {meth : Method} {c : Code} {A0 : Nat → Prop} {D : va_G} {cA : Nat → ClassId} {ad : Nat → Nat} {Z : (Nat → Nat) × (Nat → Nat)} {Q : Int → St → Prop} {b : Bool}
set_option maxHeartbeats 4000000 in
set_option maxRecDepth 100000 in
theorem t_X6_isWord_s6_l28 (E : Ev p s m args meth c cX6_isWord 3 RX6 A0 D cA ad (NC b) Z) (hr : meth.sig.returnType = (some .boolean)) : ∀ (n : Nat) (x2 : Int) (σ : St), C32 x2 → CanS (shC b) (NC b) σ → wp_X6_isWord_s6_l28 Q n x2 σ → G p l e (rmL 6 0 0) s m args below meth c 3 A0 D cA ad (shC b) (NC b) 0 0 (MQ below (QIc D cA ad (shC b) (NC b) Q A0) args s 0 0 A0) σ 28 [some (.ref (ad 3)), some (.ref (Z.1 6)), some (vI x2)] [] := by
  intro n
  induction n with
  | zero => intro _ _ _ _ h; exact h.elim
  | succ n ih =>
    intro x2 σ c2 hσ h
    unfold wp_X6_isWord_s6_l28 at h
    refine g_iload_2 E dX6_isWord_28 ?_
    refine g_aload_1 E dX6_isWord_29 ?_
    refine g_slen E ml_RX6_143 (i := 6) (by decide) hσ (n := 4) rfl (Nat.le_of_ble_eq_true rfl) (rm_s 6 (by decide)) ⟨Nat.zero_le _, Nat.zero_le _⟩ dX6_isWord_30 ?_
    refine g_icmp_ge E c2 cl_4 djX6_isWord_33 (fun hc => ?_) (fun hc => ?_)
    · replace h := h.1 hc
      refine g_iconst E dX6_isWord_63 ?_
      exact g_zret E hr (Or.inr rfl) h hσ dX6_isWord_64
    · replace h := h.2 hc
      refine g_aload_0 E dX6_isWord_36 ?_
      refine g_getR E fl_RX6_9 (kC_3 b) (sC_3 b) rfl dX6_isWord_37 ?_
      refine g_aload_0 E dX6_isWord_40 ?_
      refine g_getI E fl_RX6_137 (kC_3 b) (sC_3 b) rfl dX6_isWord_41 ?_
      refine g_iload_2 E dX6_isWord_44 ?_
      refine g_iadd E dX6_isWord_45 ?_
      refine g_iald E (kC_1 b) (sC_1 b) (by decide) h.1 dX6_isWord_46 ?_
      replace h := h.2
      refine g_aload_1 E dX6_isWord_47 ?_
      refine g_iload_2 E dX6_isWord_48 ?_
      refine g_schar E ml_RX6_148 (i := 6) (by decide) hσ (n := 4) rfl h.1 (Nat.le_of_ble_eq_true rfl) (rm_s 6 (by decide)) ⟨Nat.zero_le _, Nat.zero_le _⟩ dX6_isWord_49 ?_
      replace h := h.2
      refine g_icmp_eq E (aC_1 hσ _) (c32_str 6 (by decide) _) djX6_isWord_52 (fun hc => ?_) (fun hc => ?_)
      · replace h := h.1 hc
        refine g_iinc_2 E rfl (by decide) dX6_isWord_57 (fun v1 ev1 => ?_)
        replace h := h v1 ev1
        have cv1 : C32 v1 := by rw [ev1]; exact c32_w _
        refine g_goto E djX6_isWord_60 ?_
        exact (ih v1 σ cv1 hσ h).weak (w_k (w_k (w_k w_n)))
      · replace h := h.2 hc
        refine g_iconst E dX6_isWord_55 ?_
        exact g_zret E hr (Or.inl rfl) h hσ dX6_isWord_56
set_option maxHeartbeats 4000000 in
set_option maxRecDepth 100000 in
theorem t_X6_isWord_s6 (E : Ev p s m args meth c cX6_isWord 3 RX6 A0 D cA ad (NC b) Z) (hr : meth.sig.returnType = (some .boolean)) (σ : St) (hσ : CanS (shC b) (NC b) σ) (h : wp_X6_isWord_s6  σ Q) : G p l e (rmL 6 0 0) s m args below meth c 3 A0 D cA ad (shC b) (NC b) 0 0 (MQ below (QIc D cA ad (shC b) (NC b) Q A0) args s 0 0 A0) σ 0 [some (.ref (ad 3)), some (.ref (Z.1 6)), none] [] := by
  unfold wp_X6_isWord_s6 at h
  refine g_aload_0 E dX6_isWord_0 ?_
  refine g_getI E fl_RX6_41 (kC_3 b) (sC_3 b) rfl dX6_isWord_1 ?_
  refine g_iconst E dX6_isWord_4 ?_
  refine g_icmp_ne E (fC_3_5 hσ) cl_1 djX6_isWord_5 (fun hc => ?_) (fun hc => ?_)
  · replace h := h.1 hc
    refine g_iconst E dX6_isWord_24 ?_
    exact g_zret E hr (Or.inl rfl) h hσ dX6_isWord_25
  · replace h := h.2 hc
    refine g_aload_0 E dX6_isWord_8 ?_
    refine g_getI E fl_RX6_32 (kC_3 b) (sC_3 b) rfl dX6_isWord_9 ?_
    refine g_aload_0 E dX6_isWord_12 ?_
    refine g_getI E fl_RX6_137 (kC_3 b) (sC_3 b) rfl dX6_isWord_13 ?_
    refine g_isub E dX6_isWord_16 ?_
    refine g_aload_1 E dX6_isWord_17 ?_
    refine g_slen E ml_RX6_143 (i := 6) (by decide) hσ (n := 4) rfl (Nat.le_of_ble_eq_true rfl) (rm_s 6 (by decide)) ⟨Nat.zero_le _, Nat.zero_le _⟩ dX6_isWord_18 ?_
    refine g_icmp_eq E (c32_w _) cl_4 djX6_isWord_21 (fun hc => ?_) (fun hc => ?_)
    · replace h := h.1 hc
      refine g_iconst E dX6_isWord_26 ?_
      refine g_istore_2 E rfl (by decide) dX6_isWord_27 ?_
      exact (t_X6_isWord_s6_l28 E hr bigN 0 σ cl_0 hσ h).weak (w_k (w_k (w_k w_n)))
    · replace h := h.2 hc
      refine g_iconst E dX6_isWord_24 ?_
      exact g_zret E hr (Or.inl rfl) h hσ dX6_isWord_25
end
theorem m_X6_isWord_s6 {Z : (Nat → Nat) × (Nat → Nat)} {l : Launch} {D : va_G} {cA : Nat → ClassId} {ad : Nat → Nat} {b : Bool} {σ : St} {Q : Int → St → Prop} (hA : AdOk (NC b) ad) (hσ : CanS (shC b) (NC b) σ) (h : wp_X6_isWord_s6  σ Q) : KtI Z l D cA ad (shC b) (NC b) yX6_isWord cX6_isWord 3 (some .boolean) 6 [.ref (ad 3), .ref (Z.1 6)] σ Q :=
  KtI.of my_X6_isWord hA [some (.ref (ad 3)), some (.ref (Z.1 6)), none] (Nat.le_of_ble_eq_true rfl) rfl (fun p e s m args below meth c A0 E hr => t_X6_isWord_s6 E hr σ hσ h)
section
variable {p : Program} {l : Launch} {e : Env} {s : State} {m : MethodId} {args : Array Value} {below : List Frame} {meth : Method} {c : Code} {A0 : Nat → Prop} {D : va_G} {cA : Nat → ClassId} {ad : Nat → Nat} {Z : (Nat → Nat) × (Nat → Nat)} {Q : Int → St → Prop} {b : Bool}
set_option maxHeartbeats 4000000 in
set_option maxRecDepth 100000 in
theorem t_X6_passWord_s6 (E : Ev p s m args meth c cX6_passWord 2 RX6 A0 D cA ad (NC b) Z) (hr : meth.sig.returnType = none) (σ : St) (hσ : CanS (shC b) (NC b) σ) (h : wp_X6_passWord_s6  σ Q) : G p l e (rmL 7 0 0) s m args below meth c 2 A0 D cA ad (shC b) (NC b) 0 0 (MQ below (QVc D cA ad (shC b) (NC b) Q A0) args s 0 0 A0) σ 0 [some (.ref (ad 3)), some (.ref (Z.1 6))] [] := by
  unfold wp_X6_passWord_s6 at h
  refine g_aload_0 E dX6_passWord_0 ?_
  refine g_aload_1 E dX6_passWord_1 ?_
  refine g_callvI E my_X6_isWord mi_X6_isWord msel_X6_isWord ml_RX6_46 (rm_ok (by decide) (by decide)) ⟨Nat.zero_le _, Nat.zero_le _⟩ (kC_3 b) (sC_3 b) rfl (m_X6_isWord_s6 E.2.2.1 hσ h) rfl rfl (Nat.le_of_ble_eq_true rfl) dX6_passWord_2 (fun r1 σ2 cr1 hσ2 h => ?_)
  refine g_if_ne E cr1 djX6_passWord_5 (fun hc => ?_) (fun hc => ?_)
  · replace h := h.1 hc
    refine g_aload_0 E dX6_passWord_13 ?_
    refine g_callvV E my_X6_advance mi_X6_advance msel_X6_advance ml_RX6_38 (rm_ok (by decide) (by decide)) ⟨Nat.zero_le _, Nat.zero_le _⟩ (kC_3 b) (sC_3 b) rfl (m_X6_advance E.2.2.1 hσ2 h) rfl rfl (Nat.le_of_ble_eq_true rfl) dX6_passWord_14 (fun σ4 r3 hσ4 h => ?_)
    exact g_vret E hr h hσ4 dX6_passWord_17
  · replace h := h.2 hc
    refine g_aload_0 E dX6_passWord_8 ?_
    refine g_iconst E dX6_passWord_9 ?_
    refine g_callvV E my_X6_fail mi_X6_fail msel_X6_fail ml_RX6_58 (rm_ok (by decide) (by decide)) ⟨Nat.zero_le _, Nat.zero_le _⟩ (kC_3 b) (sC_3 b) rfl (m_X6_fail E.2.2.1 cl_1 hσ2 h) rfl rfl (Nat.le_of_ble_eq_true rfl) dX6_passWord_10 (fun σ6 r5 hσ6 h => ?_)
    refine g_aload_0 E dX6_passWord_13 ?_
    refine g_callvV E my_X6_advance mi_X6_advance msel_X6_advance ml_RX6_38 (rm_ok (by decide) (by decide)) ⟨Nat.zero_le _, Nat.zero_le _⟩ (kC_3 b) (sC_3 b) rfl (m_X6_advance E.2.2.1 hσ6 h) rfl rfl (Nat.le_of_ble_eq_true rfl) dX6_passWord_14 (fun σ8 r7 hσ8 h => ?_)
    exact g_vret E hr h hσ8 dX6_passWord_17
end
theorem m_X6_passWord_s6 {Z : (Nat → Nat) × (Nat → Nat)} {l : Launch} {D : va_G} {cA : Nat → ClassId} {ad : Nat → Nat} {b : Bool} {σ : St} {Q : Int → St → Prop} (hA : AdOk (NC b) ad) (hσ : CanS (shC b) (NC b) σ) (h : wp_X6_passWord_s6  σ Q) : KtV Z l D cA ad (shC b) (NC b) yX6_passWord cX6_passWord 2 none 7 [.ref (ad 3), .ref (Z.1 6)] σ Q :=
  KtV.of my_X6_passWord hA [some (.ref (ad 3)), some (.ref (Z.1 6))] (Nat.le_of_ble_eq_true rfl) rfl (fun p e s m args below meth c A0 E hr => t_X6_passWord_s6 E hr σ hσ h)
theorem dX6_readRow_0 : Dc cX6_readRow 0 (.aload_n 0) 1 1 := ⟨by decide +kernel, rfl⟩
theorem dX6_readRow_1 : Dc cX6_readRow 1 (.getfield 18) 3 4 := ⟨by decide +kernel, rfl⟩
theorem dX6_readRow_4 : Dc cX6_readRow 4 (.getfield 70) 3 7 := ⟨by decide +kernel, rfl⟩
theorem dX6_readRow_7 : Dc cX6_readRow 7 (.aload_n 0) 1 8 := ⟨by decide +kernel, rfl⟩
theorem dX6_readRow_8 : Dc cX6_readRow 8 (.getfield 18) 3 11 := ⟨by decide +kernel, rfl⟩
theorem dX6_readRow_11 : Dc cX6_readRow 11 (.getfield 70) 3 14 := ⟨by decide +kernel, rfl⟩
theorem dX6_readRow_14 : Dc cX6_readRow 14 (.imul) 1 15 := ⟨by decide +kernel, rfl⟩
theorem dX6_readRow_15 : Dc cX6_readRow 15 (.aload_n 1) 1 16 := ⟨by decide +kernel, rfl⟩
theorem dX6_readRow_16 : Dc cX6_readRow 16 (.arraylength) 1 17 := ⟨by decide +kernel, rfl⟩
theorem dX6_readRow_17 : Dc cX6_readRow 17 (.invokestatic 99) 3 20 := ⟨by decide +kernel, rfl⟩
theorem dX6_readRow_20 : Dc cX6_readRow 20 (.istore_n 2) 1 21 := ⟨by decide +kernel, rfl⟩
theorem dX6_readRow_21 : Dc cX6_readRow 21 (.iconst 0) 1 22 := ⟨by decide +kernel, rfl⟩
theorem dX6_readRow_22 : Dc cX6_readRow 22 (.istore_n 3) 1 23 := ⟨by decide +kernel, rfl⟩
theorem dX6_readRow_23 : Dc cX6_readRow 23 (.iload_n 3) 1 24 := ⟨by decide +kernel, rfl⟩
theorem dX6_readRow_24 : Dc cX6_readRow 24 (.iload_n 2) 1 25 := ⟨by decide +kernel, rfl⟩
theorem djX6_readRow_25 : Dj cX6_readRow 25 (.if_icmp .ge 33) 3 28 33 58 := ⟨by decide +kernel, rfl, by decide⟩
theorem dX6_readRow_28 : Dc cX6_readRow 28 (.aload_n 0) 1 29 := ⟨by decide +kernel, rfl⟩
theorem dX6_readRow_29 : Dc cX6_readRow 29 (.getfield 22) 3 32 := ⟨by decide +kernel, rfl⟩
theorem djX6_readRow_32 : Dj cX6_readRow 32 (.ifCond .ne 26) 3 35 26 58 := ⟨by decide +kernel, rfl, by decide⟩
theorem dX6_readRow_35 : Dc cX6_readRow 35 (.aload_n 1) 1 36 := ⟨by decide +kernel, rfl⟩
theorem dX6_readRow_36 : Dc cX6_readRow 36 (.iload_n 3) 1 37 := ⟨by decide +kernel, rfl⟩
theorem dX6_readRow_37 : Dc cX6_readRow 37 (.aload_n 0) 1 38 := ⟨by decide +kernel, rfl⟩
theorem dX6_readRow_38 : Dc cX6_readRow 38 (.iconst 0) 1 39 := ⟨by decide +kernel, rfl⟩
theorem dX6_readRow_39 : Dc cX6_readRow 39 (.aload_n 0) 1 40 := ⟨by decide +kernel, rfl⟩
theorem dX6_readRow_40 : Dc cX6_readRow 40 (.getfield 18) 3 43 := ⟨by decide +kernel, rfl⟩
theorem dX6_readRow_43 : Dc cX6_readRow 43 (.getfield 70) 3 46 := ⟨by decide +kernel, rfl⟩
theorem dX6_readRow_46 : Dc cX6_readRow 46 (.iconst 1) 1 47 := ⟨by decide +kernel, rfl⟩
theorem dX6_readRow_47 : Dc cX6_readRow 47 (.isub) 1 48 := ⟨by decide +kernel, rfl⟩
theorem dX6_readRow_48 : Dc cX6_readRow 48 (.invokevirtual 66) 3 51 := ⟨by decide +kernel, rfl⟩
theorem dX6_readRow_51 : Dc cX6_readRow 51 (.iastore) 1 52 := ⟨by decide +kernel, rfl⟩
theorem dX6_readRow_52 : Dc cX6_readRow 52 (.iinc 3 1) 3 55 := ⟨by decide +kernel, rfl⟩
theorem djX6_readRow_55 : Dj cX6_readRow 55 (.goto (-32)) 3 58 (-32) 23 := ⟨by decide +kernel, rfl, by decide⟩
theorem dX6_readRow_58 : Dc cX6_readRow 58 (.return_) 1 59 := ⟨by decide +kernel, rfl⟩
section
variable {p : Program} {l : Launch} {e : Env} {s : State} {m : MethodId} {args : Array Value} {below : List Frame} {meth : Method} {c : Code} {A0 : Nat → Prop} {D : va_G} {cA : Nat → ClassId} {ad : Nat → Nat} {Z : (Nat → Nat) × (Nat → Nat)} {Q : Int → St → Prop} {b : Bool}
set_option maxHeartbeats 4000000 in
set_option maxRecDepth 100000 in
theorem t_X6_readRow_c11_l23 (E : Ev p s m args meth c cX6_readRow 4 RX6 A0 D cA ad (NC b) Z) (hr : meth.sig.returnType = none) : ∀ (n : Nat) (x2 : Int) (x3 : Int) (σ : St), C32 x2 → C32 x3 → CanS (shC b) (NC b) σ → wp_X6_readRow_c11_l23 Q n x2 x3 σ → G p l e (rmL 4 0 0) s m args below meth c 4 A0 D cA ad (shC b) (NC b) 0 0 (MQ below (QVc D cA ad (shC b) (NC b) Q A0) args s 0 0 A0) σ 23 [some (.ref (ad 3)), some (.ref (ad 11)), some (vI x2), some (vI x3)] [] := by
  intro n
  induction n with
  | zero => intro _ _ _ _ _ _ h; exact h.elim
  | succ n ih =>
    intro x2 x3 σ c2 c3 hσ h
    unfold wp_X6_readRow_c11_l23 at h
    refine g_iload_3 E dX6_readRow_23 ?_
    refine g_iload_2 E dX6_readRow_24 ?_
    refine g_icmp_ge E c3 c2 djX6_readRow_25 (fun hc => ?_) (fun hc => ?_)
    · replace h := h.1 hc
      exact g_vret E hr h hσ dX6_readRow_58
    · replace h := h.2 hc
      refine g_aload_0 E dX6_readRow_28 ?_
      refine g_getI E fl_RX6_22 (kC_3 b) (sC_3 b) rfl dX6_readRow_29 ?_
      refine g_if_ne E (fC_3_2 hσ) djX6_readRow_32 (fun hc => ?_) (fun hc => ?_)
      · replace h := h.1 hc
        exact g_vret E hr h hσ dX6_readRow_58
      · replace h := h.2 hc
        refine g_aload_1 E dX6_readRow_35 ?_
        refine g_iload_3 E dX6_readRow_36 ?_
        refine g_aload_0 E dX6_readRow_37 ?_
        refine g_iconst E dX6_readRow_38 ?_
        refine g_aload_0 E dX6_readRow_39 ?_
        refine g_getR E fl_RX6_18 (kC_3 b) (sC_3 b) rfl dX6_readRow_40 ?_
        refine g_getI E fl_RX6_70 (kC_4 b) (sC_4 b) rfl dX6_readRow_43 ?_
        refine g_iconst E dX6_readRow_46 ?_
        refine g_isub E dX6_readRow_47 ?_
        refine g_callvI E my_X6_readNumber mi_X6_readNumber msel_X6_readNumber ml_RX6_66 (rm_ok (by decide) (by decide)) ⟨Nat.zero_le _, Nat.zero_le _⟩ (kC_3 b) (sC_3 b) rfl (m_X6_readNumber E.2.2.1 cl_0 (c32_w _) hσ h) rfl rfl (Nat.le_of_ble_eq_true rfl) dX6_readRow_48 (fun r2 σ3 cr2 hσ3 h => ?_)
        refine g_iast E (kC_11 b) (sC_11 b) (by decide) h.1 dX6_readRow_51 (g_nmS (fun σ4 eσ4 => ?_))
        replace h := h.2 σ4 eσ4
        have hσ4 : CanS (shC b) (NC b) σ4 := by rw [eσ4]; exact wC_11 hσ3 cr2
        refine g_iinc_3 E rfl (by decide) dX6_readRow_52 (fun v5 ev5 => ?_)
        replace h := h v5 ev5
        have cv5 : C32 v5 := by rw [ev5]; exact c32_w _
        refine g_goto E djX6_readRow_55 ?_
        exact (ih x2 v5 σ4 c2 cv5 hσ4 h).weak (w_k (w_k (w_k (w_k w_n))))
set_option maxHeartbeats 4000000 in
set_option maxRecDepth 100000 in
theorem t_X6_readRow_c11 (E : Ev p s m args meth c cX6_readRow 4 RX6 A0 D cA ad (NC b) Z) (hr : meth.sig.returnType = none) (σ : St) (hσ : CanS (shC b) (NC b) σ) (h : wp_X6_readRow_c11  σ Q) : G p l e (rmL 4 0 0) s m args below meth c 4 A0 D cA ad (shC b) (NC b) 0 0 (MQ below (QVc D cA ad (shC b) (NC b) Q A0) args s 0 0 A0) σ 0 [some (.ref (ad 3)), some (.ref (ad 11)), none, none] [] := by
  unfold wp_X6_readRow_c11 at h
  refine g_aload_0 E dX6_readRow_0 ?_
  refine g_getR E fl_RX6_18 (kC_3 b) (sC_3 b) rfl dX6_readRow_1 ?_
  refine g_getI E fl_RX6_70 (kC_4 b) (sC_4 b) rfl dX6_readRow_4 ?_
  refine g_aload_0 E dX6_readRow_7 ?_
  refine g_getR E fl_RX6_18 (kC_3 b) (sC_3 b) rfl dX6_readRow_8 ?_
  refine g_getI E fl_RX6_70 (kC_4 b) (sC_4 b) rfl dX6_readRow_11 ?_
  refine g_imul E dX6_readRow_14 ?_
  refine g_aload_1 E dX6_readRow_15 ?_
  refine g_alen E (kC_11 b) (sC_11 b) (by decide) (by decide) dX6_readRow_16 ?_
  refine g_mmin E ml_RX6_99 (c32_w _) cl_25 (Nat.le_of_ble_eq_true rfl) (rm_1 4) ⟨Nat.zero_le _, Nat.zero_le _⟩ dX6_readRow_17 ?_
  refine g_nmI (fun v1 ev1 => ?_)
  replace h := h v1 ev1
  have cv1 : C32 v1 := by rw [ev1]; exact (c32_min (c32_w _) cl_25)
  refine g_istore_2 E rfl (by decide) dX6_readRow_20 ?_
  refine g_iconst E dX6_readRow_21 ?_
  refine g_istore_3 E rfl (by decide) dX6_readRow_22 ?_
  exact (t_X6_readRow_c11_l23 E hr bigN v1 0 σ cv1 cl_0 hσ h).weak (w_k (w_k (w_k (w_k w_n))))
end
theorem m_X6_readRow_c11 {Z : (Nat → Nat) × (Nat → Nat)} {l : Launch} {D : va_G} {cA : Nat → ClassId} {ad : Nat → Nat} {b : Bool} {σ : St} {Q : Int → St → Prop} (hA : AdOk (NC b) ad) (hσ : CanS (shC b) (NC b) σ) (h : wp_X6_readRow_c11  σ Q) : KtV Z l D cA ad (shC b) (NC b) yX6_readRow cX6_readRow 4 none 4 [.ref (ad 3), .ref (ad 11)] σ Q :=
  KtV.of my_X6_readRow hA [some (.ref (ad 3)), some (.ref (ad 11)), none, none] (Nat.le_of_ble_eq_true rfl) rfl (fun p e s m args below meth c A0 E hr => t_X6_readRow_c11 E hr σ hσ h)
section
variable {p : Program} {l : Launch} {e : Env} {s : State} {m : MethodId} {args : Array Value} {below : List Frame} {meth : Method} {c : Code} {A0 : Nat → Prop} {D : va_G} {cA : Nat → ClassId} {ad : Nat → Nat} {Z : (Nat → Nat) × (Nat → Nat)} {Q : Int → St → Prop} {b : Bool}
set_option maxHeartbeats 4000000 in
set_option maxRecDepth 100000 in
theorem t_X6_isWord_s7_l28 (E : Ev p s m args meth c cX6_isWord 3 RX6 A0 D cA ad (NC b) Z) (hr : meth.sig.returnType = (some .boolean)) : ∀ (n : Nat) (x2 : Int) (σ : St), C32 x2 → CanS (shC b) (NC b) σ → wp_X6_isWord_s7_l28 Q n x2 σ → G p l e (rmL 6 0 0) s m args below meth c 3 A0 D cA ad (shC b) (NC b) 0 0 (MQ below (QIc D cA ad (shC b) (NC b) Q A0) args s 0 0 A0) σ 28 [some (.ref (ad 3)), some (.ref (Z.1 7)), some (vI x2)] [] := by
  intro n
  induction n with
  | zero => intro _ _ _ _ h; exact h.elim
  | succ n ih =>
    intro x2 σ c2 hσ h
    unfold wp_X6_isWord_s7_l28 at h
    refine g_iload_2 E dX6_isWord_28 ?_
    refine g_aload_1 E dX6_isWord_29 ?_
    refine g_slen E ml_RX6_143 (i := 7) (by decide) hσ (n := 5) rfl (Nat.le_of_ble_eq_true rfl) (rm_s 6 (by decide)) ⟨Nat.zero_le _, Nat.zero_le _⟩ dX6_isWord_30 ?_
    refine g_icmp_ge E c2 cl_5 djX6_isWord_33 (fun hc => ?_) (fun hc => ?_)
    · replace h := h.1 hc
      refine g_iconst E dX6_isWord_63 ?_
      exact g_zret E hr (Or.inr rfl) h hσ dX6_isWord_64
    · replace h := h.2 hc
      refine g_aload_0 E dX6_isWord_36 ?_
      refine g_getR E fl_RX6_9 (kC_3 b) (sC_3 b) rfl dX6_isWord_37 ?_
      refine g_aload_0 E dX6_isWord_40 ?_
      refine g_getI E fl_RX6_137 (kC_3 b) (sC_3 b) rfl dX6_isWord_41 ?_
      refine g_iload_2 E dX6_isWord_44 ?_
      refine g_iadd E dX6_isWord_45 ?_
      refine g_iald E (kC_1 b) (sC_1 b) (by decide) h.1 dX6_isWord_46 ?_
      replace h := h.2
      refine g_aload_1 E dX6_isWord_47 ?_
      refine g_iload_2 E dX6_isWord_48 ?_
      refine g_schar E ml_RX6_148 (i := 7) (by decide) hσ (n := 5) rfl h.1 (Nat.le_of_ble_eq_true rfl) (rm_s 6 (by decide)) ⟨Nat.zero_le _, Nat.zero_le _⟩ dX6_isWord_49 ?_
      replace h := h.2
      refine g_icmp_eq E (aC_1 hσ _) (c32_str 7 (by decide) _) djX6_isWord_52 (fun hc => ?_) (fun hc => ?_)
      · replace h := h.1 hc
        refine g_iinc_2 E rfl (by decide) dX6_isWord_57 (fun v1 ev1 => ?_)
        replace h := h v1 ev1
        have cv1 : C32 v1 := by rw [ev1]; exact c32_w _
        refine g_goto E djX6_isWord_60 ?_
        exact (ih v1 σ cv1 hσ h).weak (w_k (w_k (w_k w_n)))
      · replace h := h.2 hc
        refine g_iconst E dX6_isWord_55 ?_
        exact g_zret E hr (Or.inl rfl) h hσ dX6_isWord_56
set_option maxHeartbeats 4000000 in
set_option maxRecDepth 100000 in
theorem t_X6_isWord_s7 (E : Ev p s m args meth c cX6_isWord 3 RX6 A0 D cA ad (NC b) Z) (hr : meth.sig.returnType = (some .boolean)) (σ : St) (hσ : CanS (shC b) (NC b) σ) (h : wp_X6_isWord_s7  σ Q) : G p l e (rmL 6 0 0) s m args below meth c 3 A0 D cA ad (shC b) (NC b) 0 0 (MQ below (QIc D cA ad (shC b) (NC b) Q A0) args s 0 0 A0) σ 0 [some (.ref (ad 3)), some (.ref (Z.1 7)), none] [] := by
  unfold wp_X6_isWord_s7 at h
  refine g_aload_0 E dX6_isWord_0 ?_
  refine g_getI E fl_RX6_41 (kC_3 b) (sC_3 b) rfl dX6_isWord_1 ?_
  refine g_iconst E dX6_isWord_4 ?_
  refine g_icmp_ne E (fC_3_5 hσ) cl_1 djX6_isWord_5 (fun hc => ?_) (fun hc => ?_)
  · replace h := h.1 hc
    refine g_iconst E dX6_isWord_24 ?_
    exact g_zret E hr (Or.inl rfl) h hσ dX6_isWord_25
  · replace h := h.2 hc
    refine g_aload_0 E dX6_isWord_8 ?_
    refine g_getI E fl_RX6_32 (kC_3 b) (sC_3 b) rfl dX6_isWord_9 ?_
    refine g_aload_0 E dX6_isWord_12 ?_
    refine g_getI E fl_RX6_137 (kC_3 b) (sC_3 b) rfl dX6_isWord_13 ?_
    refine g_isub E dX6_isWord_16 ?_
    refine g_aload_1 E dX6_isWord_17 ?_
    refine g_slen E ml_RX6_143 (i := 7) (by decide) hσ (n := 5) rfl (Nat.le_of_ble_eq_true rfl) (rm_s 6 (by decide)) ⟨Nat.zero_le _, Nat.zero_le _⟩ dX6_isWord_18 ?_
    refine g_icmp_eq E (c32_w _) cl_5 djX6_isWord_21 (fun hc => ?_) (fun hc => ?_)
    · replace h := h.1 hc
      refine g_iconst E dX6_isWord_26 ?_
      refine g_istore_2 E rfl (by decide) dX6_isWord_27 ?_
      exact (t_X6_isWord_s7_l28 E hr bigN 0 σ cl_0 hσ h).weak (w_k (w_k (w_k w_n)))
    · replace h := h.2 hc
      refine g_iconst E dX6_isWord_24 ?_
      exact g_zret E hr (Or.inl rfl) h hσ dX6_isWord_25
end
theorem m_X6_isWord_s7 {Z : (Nat → Nat) × (Nat → Nat)} {l : Launch} {D : va_G} {cA : Nat → ClassId} {ad : Nat → Nat} {b : Bool} {σ : St} {Q : Int → St → Prop} (hA : AdOk (NC b) ad) (hσ : CanS (shC b) (NC b) σ) (h : wp_X6_isWord_s7  σ Q) : KtI Z l D cA ad (shC b) (NC b) yX6_isWord cX6_isWord 3 (some .boolean) 6 [.ref (ad 3), .ref (Z.1 7)] σ Q :=
  KtI.of my_X6_isWord hA [some (.ref (ad 3)), some (.ref (Z.1 7)), none] (Nat.le_of_ble_eq_true rfl) rfl (fun p e s m args below meth c A0 E hr => t_X6_isWord_s7 E hr σ hσ h)
section
variable {p : Program} {l : Launch} {e : Env} {s : State} {m : MethodId} {args : Array Value} {below : List Frame} {meth : Method} {c : Code} {A0 : Nat → Prop} {D : va_G} {cA : Nat → ClassId} {ad : Nat → Nat} {Z : (Nat → Nat) × (Nat → Nat)} {Q : Int → St → Prop} {b : Bool}
set_option maxHeartbeats 4000000 in
set_option maxRecDepth 100000 in
theorem t_X6_passWord_s7 (E : Ev p s m args meth c cX6_passWord 2 RX6 A0 D cA ad (NC b) Z) (hr : meth.sig.returnType = none) (σ : St) (hσ : CanS (shC b) (NC b) σ) (h : wp_X6_passWord_s7  σ Q) : G p l e (rmL 7 0 0) s m args below meth c 2 A0 D cA ad (shC b) (NC b) 0 0 (MQ below (QVc D cA ad (shC b) (NC b) Q A0) args s 0 0 A0) σ 0 [some (.ref (ad 3)), some (.ref (Z.1 7))] [] := by
  unfold wp_X6_passWord_s7 at h
  refine g_aload_0 E dX6_passWord_0 ?_
  refine g_aload_1 E dX6_passWord_1 ?_
  refine g_callvI E my_X6_isWord mi_X6_isWord msel_X6_isWord ml_RX6_46 (rm_ok (by decide) (by decide)) ⟨Nat.zero_le _, Nat.zero_le _⟩ (kC_3 b) (sC_3 b) rfl (m_X6_isWord_s7 E.2.2.1 hσ h) rfl rfl (Nat.le_of_ble_eq_true rfl) dX6_passWord_2 (fun r1 σ2 cr1 hσ2 h => ?_)
  refine g_if_ne E cr1 djX6_passWord_5 (fun hc => ?_) (fun hc => ?_)
  · replace h := h.1 hc
    refine g_aload_0 E dX6_passWord_13 ?_
    refine g_callvV E my_X6_advance mi_X6_advance msel_X6_advance ml_RX6_38 (rm_ok (by decide) (by decide)) ⟨Nat.zero_le _, Nat.zero_le _⟩ (kC_3 b) (sC_3 b) rfl (m_X6_advance E.2.2.1 hσ2 h) rfl rfl (Nat.le_of_ble_eq_true rfl) dX6_passWord_14 (fun σ4 r3 hσ4 h => ?_)
    exact g_vret E hr h hσ4 dX6_passWord_17
  · replace h := h.2 hc
    refine g_aload_0 E dX6_passWord_8 ?_
    refine g_iconst E dX6_passWord_9 ?_
    refine g_callvV E my_X6_fail mi_X6_fail msel_X6_fail ml_RX6_58 (rm_ok (by decide) (by decide)) ⟨Nat.zero_le _, Nat.zero_le _⟩ (kC_3 b) (sC_3 b) rfl (m_X6_fail E.2.2.1 cl_1 hσ2 h) rfl rfl (Nat.le_of_ble_eq_true rfl) dX6_passWord_10 (fun σ6 r5 hσ6 h => ?_)
    refine g_aload_0 E dX6_passWord_13 ?_
    refine g_callvV E my_X6_advance mi_X6_advance msel_X6_advance ml_RX6_38 (rm_ok (by decide) (by decide)) ⟨Nat.zero_le _, Nat.zero_le _⟩ (kC_3 b) (sC_3 b) rfl (m_X6_advance E.2.2.1 hσ6 h) rfl rfl (Nat.le_of_ble_eq_true rfl) dX6_passWord_14 (fun σ8 r7 hσ8 h => ?_)
    exact g_vret E hr h hσ8 dX6_passWord_17
end
theorem m_X6_passWord_s7 {Z : (Nat → Nat) × (Nat → Nat)} {l : Launch} {D : va_G} {cA : Nat → ClassId} {ad : Nat → Nat} {b : Bool} {σ : St} {Q : Int → St → Prop} (hA : AdOk (NC b) ad) (hσ : CanS (shC b) (NC b) σ) (h : wp_X6_passWord_s7  σ Q) : KtV Z l D cA ad (shC b) (NC b) yX6_passWord cX6_passWord 2 none 7 [.ref (ad 3), .ref (Z.1 7)] σ Q :=
  KtV.of my_X6_passWord hA [some (.ref (ad 3)), some (.ref (Z.1 7))] (Nat.le_of_ble_eq_true rfl) rfl (fun p e s m args below meth c A0 E hr => t_X6_passWord_s7 E hr σ hσ h)
section
variable {p : Program} {l : Launch} {e : Env} {s : State} {m : MethodId} {args : Array Value} {below : List Frame} {meth : Method} {c : Code} {A0 : Nat → Prop} {D : va_G} {cA : Nat → ClassId} {ad : Nat → Nat} {Z : (Nat → Nat) × (Nat → Nat)} {Q : Int → St → Prop} {b : Bool}
set_option maxHeartbeats 4000000 in
set_option maxRecDepth 100000 in
theorem t_X6_readRow_c12_l23 (E : Ev p s m args meth c cX6_readRow 4 RX6 A0 D cA ad (NC b) Z) (hr : meth.sig.returnType = none) : ∀ (n : Nat) (x2 : Int) (x3 : Int) (σ : St), C32 x2 → C32 x3 → CanS (shC b) (NC b) σ → wp_X6_readRow_c12_l23 Q n x2 x3 σ → G p l e (rmL 4 0 0) s m args below meth c 4 A0 D cA ad (shC b) (NC b) 0 0 (MQ below (QVc D cA ad (shC b) (NC b) Q A0) args s 0 0 A0) σ 23 [some (.ref (ad 3)), some (.ref (ad 12)), some (vI x2), some (vI x3)] [] := by
  intro n
  induction n with
  | zero => intro _ _ _ _ _ _ h; exact h.elim
  | succ n ih =>
    intro x2 x3 σ c2 c3 hσ h
    unfold wp_X6_readRow_c12_l23 at h
    refine g_iload_3 E dX6_readRow_23 ?_
    refine g_iload_2 E dX6_readRow_24 ?_
    refine g_icmp_ge E c3 c2 djX6_readRow_25 (fun hc => ?_) (fun hc => ?_)
    · replace h := h.1 hc
      exact g_vret E hr h hσ dX6_readRow_58
    · replace h := h.2 hc
      refine g_aload_0 E dX6_readRow_28 ?_
      refine g_getI E fl_RX6_22 (kC_3 b) (sC_3 b) rfl dX6_readRow_29 ?_
      refine g_if_ne E (fC_3_2 hσ) djX6_readRow_32 (fun hc => ?_) (fun hc => ?_)
      · replace h := h.1 hc
        exact g_vret E hr h hσ dX6_readRow_58
      · replace h := h.2 hc
        refine g_aload_1 E dX6_readRow_35 ?_
        refine g_iload_3 E dX6_readRow_36 ?_
        refine g_aload_0 E dX6_readRow_37 ?_
        refine g_iconst E dX6_readRow_38 ?_
        refine g_aload_0 E dX6_readRow_39 ?_
        refine g_getR E fl_RX6_18 (kC_3 b) (sC_3 b) rfl dX6_readRow_40 ?_
        refine g_getI E fl_RX6_70 (kC_4 b) (sC_4 b) rfl dX6_readRow_43 ?_
        refine g_iconst E dX6_readRow_46 ?_
        refine g_isub E dX6_readRow_47 ?_
        refine g_callvI E my_X6_readNumber mi_X6_readNumber msel_X6_readNumber ml_RX6_66 (rm_ok (by decide) (by decide)) ⟨Nat.zero_le _, Nat.zero_le _⟩ (kC_3 b) (sC_3 b) rfl (m_X6_readNumber E.2.2.1 cl_0 (c32_w _) hσ h) rfl rfl (Nat.le_of_ble_eq_true rfl) dX6_readRow_48 (fun r2 σ3 cr2 hσ3 h => ?_)
        refine g_iast E (kC_12 b) (sC_12 b) (by decide) h.1 dX6_readRow_51 (g_nmS (fun σ4 eσ4 => ?_))
        replace h := h.2 σ4 eσ4
        have hσ4 : CanS (shC b) (NC b) σ4 := by rw [eσ4]; exact wC_12 hσ3 cr2
        refine g_iinc_3 E rfl (by decide) dX6_readRow_52 (fun v5 ev5 => ?_)
        replace h := h v5 ev5
        have cv5 : C32 v5 := by rw [ev5]; exact c32_w _
        refine g_goto E djX6_readRow_55 ?_
        exact (ih x2 v5 σ4 c2 cv5 hσ4 h).weak (w_k (w_k (w_k (w_k w_n))))
set_option maxHeartbeats 4000000 in
set_option maxRecDepth 100000 in
theorem t_X6_readRow_c12 (E : Ev p s m args meth c cX6_readRow 4 RX6 A0 D cA ad (NC b) Z) (hr : meth.sig.returnType = none) (σ : St) (hσ : CanS (shC b) (NC b) σ) (h : wp_X6_readRow_c12  σ Q) : G p l e (rmL 4 0 0) s m args below meth c 4 A0 D cA ad (shC b) (NC b) 0 0 (MQ below (QVc D cA ad (shC b) (NC b) Q A0) args s 0 0 A0) σ 0 [some (.ref (ad 3)), some (.ref (ad 12)), none, none] [] := by
  unfold wp_X6_readRow_c12 at h
  refine g_aload_0 E dX6_readRow_0 ?_
  refine g_getR E fl_RX6_18 (kC_3 b) (sC_3 b) rfl dX6_readRow_1 ?_
  refine g_getI E fl_RX6_70 (kC_4 b) (sC_4 b) rfl dX6_readRow_4 ?_
  refine g_aload_0 E dX6_readRow_7 ?_
  refine g_getR E fl_RX6_18 (kC_3 b) (sC_3 b) rfl dX6_readRow_8 ?_
  refine g_getI E fl_RX6_70 (kC_4 b) (sC_4 b) rfl dX6_readRow_11 ?_
  refine g_imul E dX6_readRow_14 ?_
  refine g_aload_1 E dX6_readRow_15 ?_
  refine g_alen E (kC_12 b) (sC_12 b) (by decide) (by decide) dX6_readRow_16 ?_
  refine g_mmin E ml_RX6_99 (c32_w _) cl_25 (Nat.le_of_ble_eq_true rfl) (rm_1 4) ⟨Nat.zero_le _, Nat.zero_le _⟩ dX6_readRow_17 ?_
  refine g_nmI (fun v1 ev1 => ?_)
  replace h := h v1 ev1
  have cv1 : C32 v1 := by rw [ev1]; exact (c32_min (c32_w _) cl_25)
  refine g_istore_2 E rfl (by decide) dX6_readRow_20 ?_
  refine g_iconst E dX6_readRow_21 ?_
  refine g_istore_3 E rfl (by decide) dX6_readRow_22 ?_
  exact (t_X6_readRow_c12_l23 E hr bigN v1 0 σ cv1 cl_0 hσ h).weak (w_k (w_k (w_k (w_k w_n))))
end
theorem m_X6_readRow_c12 {Z : (Nat → Nat) × (Nat → Nat)} {l : Launch} {D : va_G} {cA : Nat → ClassId} {ad : Nat → Nat} {b : Bool} {σ : St} {Q : Int → St → Prop} (hA : AdOk (NC b) ad) (hσ : CanS (shC b) (NC b) σ) (h : wp_X6_readRow_c12  σ Q) : KtV Z l D cA ad (shC b) (NC b) yX6_readRow cX6_readRow 4 none 4 [.ref (ad 3), .ref (ad 12)] σ Q :=
  KtV.of my_X6_readRow hA [some (.ref (ad 3)), some (.ref (ad 12)), none, none] (Nat.le_of_ble_eq_true rfl) rfl (fun p e s m args below meth c A0 E hr => t_X6_readRow_c12 E hr σ hσ h)
theorem dX6_readTable_0 : Dc cX6_readTable 0 (.aload_n 0) 1 1 := ⟨by decide +kernel, rfl⟩
theorem dX6_readTable_1 : Dc cX6_readTable 1 (.invokevirtual 38) 3 4 := ⟨by decide +kernel, rfl⟩
theorem dX6_readTable_4 : Dc cX6_readTable 4 (.aload_n 0) 1 5 := ⟨by decide +kernel, rfl⟩
theorem dX6_readTable_5 : Dc cX6_readTable 5 (.getfield 18) 3 8 := ⟨by decide +kernel, rfl⟩
theorem dX6_readTable_8 : Dc cX6_readTable 8 (.aload_n 0) 1 9 := ⟨by decide +kernel, rfl⟩
theorem dX6_readTable_9 : Dc cX6_readTable 9 (.iconst 2) 1 10 := ⟨by decide +kernel, rfl⟩
theorem dX6_readTable_10 : Dc cX6_readTable 10 (.iconst 5) 1 11 := ⟨by decide +kernel, rfl⟩
theorem dX6_readTable_11 : Dc cX6_readTable 11 (.invokevirtual 66) 3 14 := ⟨by decide +kernel, rfl⟩
theorem dX6_readTable_14 : Dc cX6_readTable 14 (.putfield 70) 3 17 := ⟨by decide +kernel, rfl⟩
theorem dX6_readTable_17 : Dc cX6_readTable 17 (.aload_n 0) 1 18 := ⟨by decide +kernel, rfl⟩
theorem dX6_readTable_18 : Dc cX6_readTable 18 (.ldc 73) 2 20 := ⟨by decide +kernel, rfl⟩
theorem dX6_readTable_20 : Dc cX6_readTable 20 (.invokevirtual 75) 3 23 := ⟨by decide +kernel, rfl⟩
theorem dX6_readTable_23 : Dc cX6_readTable 23 (.aload_n 0) 1 24 := ⟨by decide +kernel, rfl⟩
theorem dX6_readTable_24 : Dc cX6_readTable 24 (.getfield 18) 3 27 := ⟨by decide +kernel, rfl⟩
theorem dX6_readTable_27 : Dc cX6_readTable 27 (.aload_n 0) 1 28 := ⟨by decide +kernel, rfl⟩
theorem dX6_readTable_28 : Dc cX6_readTable 28 (.iconst 0) 1 29 := ⟨by decide +kernel, rfl⟩
theorem dX6_readTable_29 : Dc cX6_readTable 29 (.aload_n 0) 1 30 := ⟨by decide +kernel, rfl⟩
theorem dX6_readTable_30 : Dc cX6_readTable 30 (.getfield 18) 3 33 := ⟨by decide +kernel, rfl⟩
theorem dX6_readTable_33 : Dc cX6_readTable 33 (.getfield 70) 3 36 := ⟨by decide +kernel, rfl⟩
theorem dX6_readTable_36 : Dc cX6_readTable 36 (.iconst 1) 1 37 := ⟨by decide +kernel, rfl⟩
theorem dX6_readTable_37 : Dc cX6_readTable 37 (.isub) 1 38 := ⟨by decide +kernel, rfl⟩
theorem dX6_readTable_38 : Dc cX6_readTable 38 (.invokevirtual 66) 3 41 := ⟨by decide +kernel, rfl⟩
theorem dX6_readTable_41 : Dc cX6_readTable 41 (.putfield 79) 3 44 := ⟨by decide +kernel, rfl⟩
theorem dX6_readTable_44 : Dc cX6_readTable 44 (.aload_n 0) 1 45 := ⟨by decide +kernel, rfl⟩
theorem dX6_readTable_45 : Dc cX6_readTable 45 (.ldc 81) 2 47 := ⟨by decide +kernel, rfl⟩
theorem dX6_readTable_47 : Dc cX6_readTable 47 (.invokevirtual 75) 3 50 := ⟨by decide +kernel, rfl⟩
theorem dX6_readTable_50 : Dc cX6_readTable 50 (.aload_n 0) 1 51 := ⟨by decide +kernel, rfl⟩
theorem dX6_readTable_51 : Dc cX6_readTable 51 (.getfield 18) 3 54 := ⟨by decide +kernel, rfl⟩
theorem dX6_readTable_54 : Dc cX6_readTable 54 (.aload_n 0) 1 55 := ⟨by decide +kernel, rfl⟩
theorem dX6_readTable_55 : Dc cX6_readTable 55 (.iconst 0) 1 56 := ⟨by decide +kernel, rfl⟩
theorem dX6_readTable_56 : Dc cX6_readTable 56 (.aload_n 0) 1 57 := ⟨by decide +kernel, rfl⟩
theorem dX6_readTable_57 : Dc cX6_readTable 57 (.getfield 18) 3 60 := ⟨by decide +kernel, rfl⟩
theorem dX6_readTable_60 : Dc cX6_readTable 60 (.getfield 70) 3 63 := ⟨by decide +kernel, rfl⟩
theorem dX6_readTable_63 : Dc cX6_readTable 63 (.iconst 1) 1 64 := ⟨by decide +kernel, rfl⟩
theorem dX6_readTable_64 : Dc cX6_readTable 64 (.isub) 1 65 := ⟨by decide +kernel, rfl⟩
theorem dX6_readTable_65 : Dc cX6_readTable 65 (.invokevirtual 66) 3 68 := ⟨by decide +kernel, rfl⟩
theorem dX6_readTable_68 : Dc cX6_readTable 68 (.putfield 83) 3 71 := ⟨by decide +kernel, rfl⟩
theorem dX6_readTable_71 : Dc cX6_readTable 71 (.aload_n 0) 1 72 := ⟨by decide +kernel, rfl⟩
theorem dX6_readTable_72 : Dc cX6_readTable 72 (.ldc 85) 2 74 := ⟨by decide +kernel, rfl⟩
theorem dX6_readTable_74 : Dc cX6_readTable 74 (.invokevirtual 75) 3 77 := ⟨by decide +kernel, rfl⟩
theorem dX6_readTable_77 : Dc cX6_readTable 77 (.aload_n 0) 1 78 := ⟨by decide +kernel, rfl⟩
theorem dX6_readTable_78 : Dc cX6_readTable 78 (.aload_n 0) 1 79 := ⟨by decide +kernel, rfl⟩
theorem dX6_readTable_79 : Dc cX6_readTable 79 (.getfield 18) 3 82 := ⟨by decide +kernel, rfl⟩
theorem dX6_readTable_82 : Dc cX6_readTable 82 (.getfield 87) 3 85 := ⟨by decide +kernel, rfl⟩
theorem dX6_readTable_85 : Dc cX6_readTable 85 (.invokevirtual 90) 3 88 := ⟨by decide +kernel, rfl⟩
theorem dX6_readTable_88 : Dc cX6_readTable 88 (.aload_n 0) 1 89 := ⟨by decide +kernel, rfl⟩
theorem dX6_readTable_89 : Dc cX6_readTable 89 (.ldc 94) 2 91 := ⟨by decide +kernel, rfl⟩
theorem dX6_readTable_91 : Dc cX6_readTable 91 (.invokevirtual 75) 3 94 := ⟨by decide +kernel, rfl⟩
theorem dX6_readTable_94 : Dc cX6_readTable 94 (.aload_n 0) 1 95 := ⟨by decide +kernel, rfl⟩
theorem dX6_readTable_95 : Dc cX6_readTable 95 (.aload_n 0) 1 96 := ⟨by decide +kernel, rfl⟩
theorem dX6_readTable_96 : Dc cX6_readTable 96 (.getfield 18) 3 99 := ⟨by decide +kernel, rfl⟩
theorem dX6_readTable_99 : Dc cX6_readTable 99 (.getfield 96) 3 102 := ⟨by decide +kernel, rfl⟩
theorem dX6_readTable_102 : Dc cX6_readTable 102 (.invokevirtual 90) 3 105 := ⟨by decide +kernel, rfl⟩
theorem dX6_readTable_105 : Dc cX6_readTable 105 (.return_) 1 106 := ⟨by decide +kernel, rfl⟩
section
variable {p : Program} {l : Launch} {e : Env} {s : State} {m : MethodId} {args : Array Value} {below : List Frame} {meth : Method} {c : Code} {A0 : Nat → Prop} {D : va_G} {cA : Nat → ClassId} {ad : Nat → Nat} {Z : (Nat → Nat) × (Nat → Nat)} {Q : Int → St → Prop} {b : Bool}
set_option maxHeartbeats 4000000 in
set_option maxRecDepth 100000 in
theorem t_X6_readTable (E : Ev p s m args meth c cX6_readTable 1 RX6 A0 D cA ad (NC b) Z) (hr : meth.sig.returnType = none) (σ : St) (hσ : CanS (shC b) (NC b) σ) (h : wp_X6_readTable  σ Q) : G p l e (rmL 8 0 0) s m args below meth c 1 A0 D cA ad (shC b) (NC b) 0 0 (MQ below (QVc D cA ad (shC b) (NC b) Q A0) args s 0 0 A0) σ 0 [some (.ref (ad 3))] [] := by
  unfold wp_X6_readTable at h
  refine g_aload_0 E dX6_readTable_0 ?_
  refine g_callvV E my_X6_advance mi_X6_advance msel_X6_advance ml_RX6_38 (rm_ok (by decide) (by decide)) ⟨Nat.zero_le _, Nat.zero_le _⟩ (kC_3 b) (sC_3 b) rfl (m_X6_advance E.2.2.1 hσ h) rfl rfl (Nat.le_of_ble_eq_true rfl) dX6_readTable_1 (fun σ2 r1 hσ2 h => ?_)
  refine g_aload_0 E dX6_readTable_4 ?_
  refine g_getR E fl_RX6_18 (kC_3 b) (sC_3 b) rfl dX6_readTable_5 ?_
  refine g_aload_0 E dX6_readTable_8 ?_
  refine g_iconst E dX6_readTable_9 ?_
  refine g_iconst E dX6_readTable_10 ?_
  refine g_callvI E my_X6_readNumber mi_X6_readNumber msel_X6_readNumber ml_RX6_66 (rm_ok (by decide) (by decide)) ⟨Nat.zero_le _, Nat.zero_le _⟩ (kC_3 b) (sC_3 b) rfl (m_X6_readNumber E.2.2.1 cl_2 cl_5 hσ2 h) rfl rfl (Nat.le_of_ble_eq_true rfl) dX6_readTable_11 (fun r3 σ4 cr3 hσ4 h => ?_)
  refine g_putI E fl_RX6_70 rfl rfl (kC_4 b) (sC_4 b) rfl dX6_readTable_14 (g_nmS (fun σ5 eσ5 => ?_))
  replace h := h σ5 eσ5
  have hσ5 : CanS (shC b) (NC b) σ5 := by rw [eσ5]; exact uC_4_7 hσ4 cr3
  refine g_aload_0 E dX6_readTable_17 ?_
  refine g_ldcS E (i := 4) (by decide) ⟨rfl, rfl⟩ dX6_readTable_18 ?_
  refine g_callvV E my_X6_passWord mi_X6_passWord msel_X6_passWord ml_RX6_75 (rm_ok (by decide) (by decide)) ⟨Nat.zero_le _, Nat.zero_le _⟩ (kC_3 b) (sC_3 b) rfl (m_X6_passWord_s4 E.2.2.1 hσ5 h) rfl rfl (Nat.le_of_ble_eq_true rfl) dX6_readTable_20 (fun σ7 r6 hσ7 h => ?_)
  refine g_aload_0 E dX6_readTable_23 ?_
  refine g_getR E fl_RX6_18 (kC_3 b) (sC_3 b) rfl dX6_readTable_24 ?_
  refine g_aload_0 E dX6_readTable_27 ?_
  refine g_iconst E dX6_readTable_28 ?_
  refine g_aload_0 E dX6_readTable_29 ?_
  refine g_getR E fl_RX6_18 (kC_3 b) (sC_3 b) rfl dX6_readTable_30 ?_
  refine g_getI E fl_RX6_70 (kC_4 b) (sC_4 b) rfl dX6_readTable_33 ?_
  refine g_iconst E dX6_readTable_36 ?_
  refine g_isub E dX6_readTable_37 ?_
  refine g_callvI E my_X6_readNumber mi_X6_readNumber msel_X6_readNumber ml_RX6_66 (rm_ok (by decide) (by decide)) ⟨Nat.zero_le _, Nat.zero_le _⟩ (kC_3 b) (sC_3 b) rfl (m_X6_readNumber E.2.2.1 cl_0 (c32_w _) hσ7 h) rfl rfl (Nat.le_of_ble_eq_true rfl) dX6_readTable_38 (fun r8 σ9 cr8 hσ9 h => ?_)
  refine g_putI E fl_RX6_79 rfl rfl (kC_4 b) (sC_4 b) rfl dX6_readTable_41 (g_nmS (fun σ10 eσ10 => ?_))
  replace h := h σ10 eσ10
  have hσ10 : CanS (shC b) (NC b) σ10 := by rw [eσ10]; exact uC_4_8 hσ9 cr8
  refine g_aload_0 E dX6_readTable_44 ?_
  refine g_ldcS E (i := 5) (by decide) ⟨rfl, rfl⟩ dX6_readTable_45 ?_
  refine g_callvV E my_X6_passWord mi_X6_passWord msel_X6_passWord ml_RX6_75 (rm_ok (by decide) (by decide)) ⟨Nat.zero_le _, Nat.zero_le _⟩ (kC_3 b) (sC_3 b) rfl (m_X6_passWord_s5 E.2.2.1 hσ10 h) rfl rfl (Nat.le_of_ble_eq_true rfl) dX6_readTable_47 (fun σ12 r11 hσ12 h => ?_)
  refine g_aload_0 E dX6_readTable_50 ?_
  refine g_getR E fl_RX6_18 (kC_3 b) (sC_3 b) rfl dX6_readTable_51 ?_
  refine g_aload_0 E dX6_readTable_54 ?_
  refine g_iconst E dX6_readTable_55 ?_
  refine g_aload_0 E dX6_readTable_56 ?_
  refine g_getR E fl_RX6_18 (kC_3 b) (sC_3 b) rfl dX6_readTable_57 ?_
  refine g_getI E fl_RX6_70 (kC_4 b) (sC_4 b) rfl dX6_readTable_60 ?_
  refine g_iconst E dX6_readTable_63 ?_
  refine g_isub E dX6_readTable_64 ?_
  refine g_callvI E my_X6_readNumber mi_X6_readNumber msel_X6_readNumber ml_RX6_66 (rm_ok (by decide) (by decide)) ⟨Nat.zero_le _, Nat.zero_le _⟩ (kC_3 b) (sC_3 b) rfl (m_X6_readNumber E.2.2.1 cl_0 (c32_w _) hσ12 h) rfl rfl (Nat.le_of_ble_eq_true rfl) dX6_readTable_65 (fun r13 σ14 cr13 hσ14 h => ?_)
  refine g_putI E fl_RX6_83 rfl rfl (kC_4 b) (sC_4 b) rfl dX6_readTable_68 (g_nmS (fun σ15 eσ15 => ?_))
  replace h := h σ15 eσ15
  have hσ15 : CanS (shC b) (NC b) σ15 := by rw [eσ15]; exact uC_4_9 hσ14 cr13
  refine g_aload_0 E dX6_readTable_71 ?_
  refine g_ldcS E (i := 6) (by decide) ⟨rfl, rfl⟩ dX6_readTable_72 ?_
  refine g_callvV E my_X6_passWord mi_X6_passWord msel_X6_passWord ml_RX6_75 (rm_ok (by decide) (by decide)) ⟨Nat.zero_le _, Nat.zero_le _⟩ (kC_3 b) (sC_3 b) rfl (m_X6_passWord_s6 E.2.2.1 hσ15 h) rfl rfl (Nat.le_of_ble_eq_true rfl) dX6_readTable_74 (fun σ17 r16 hσ17 h => ?_)
  refine g_aload_0 E dX6_readTable_77 ?_
  refine g_aload_0 E dX6_readTable_78 ?_
  refine g_getR E fl_RX6_18 (kC_3 b) (sC_3 b) rfl dX6_readTable_79 ?_
  refine g_getR E fl_RX6_87 (kC_4 b) (sC_4 b) rfl dX6_readTable_82 ?_
  refine g_callvV E my_X6_readRow mi_X6_readRow msel_X6_readRow ml_RX6_90 (rm_ok (by decide) (by decide)) ⟨Nat.zero_le _, Nat.zero_le _⟩ (kC_3 b) (sC_3 b) rfl (m_X6_readRow_c11 E.2.2.1 hσ17 h) rfl rfl (Nat.le_of_ble_eq_true rfl) dX6_readTable_85 (fun σ19 r18 hσ19 h => ?_)
  refine g_aload_0 E dX6_readTable_88 ?_
  refine g_ldcS E (i := 7) (by decide) ⟨rfl, rfl⟩ dX6_readTable_89 ?_
  refine g_callvV E my_X6_passWord mi_X6_passWord msel_X6_passWord ml_RX6_75 (rm_ok (by decide) (by decide)) ⟨Nat.zero_le _, Nat.zero_le _⟩ (kC_3 b) (sC_3 b) rfl (m_X6_passWord_s7 E.2.2.1 hσ19 h) rfl rfl (Nat.le_of_ble_eq_true rfl) dX6_readTable_91 (fun σ21 r20 hσ21 h => ?_)
  refine g_aload_0 E dX6_readTable_94 ?_
  refine g_aload_0 E dX6_readTable_95 ?_
  refine g_getR E fl_RX6_18 (kC_3 b) (sC_3 b) rfl dX6_readTable_96 ?_
  refine g_getR E fl_RX6_96 (kC_4 b) (sC_4 b) rfl dX6_readTable_99 ?_
  refine g_callvV E my_X6_readRow mi_X6_readRow msel_X6_readRow ml_RX6_90 (rm_ok (by decide) (by decide)) ⟨Nat.zero_le _, Nat.zero_le _⟩ (kC_3 b) (sC_3 b) rfl (m_X6_readRow_c12 E.2.2.1 hσ21 h) rfl rfl (Nat.le_of_ble_eq_true rfl) dX6_readTable_102 (fun σ23 r22 hσ23 h => ?_)
  exact g_vret E hr h hσ23 dX6_readTable_105
end
theorem m_X6_readTable {Z : (Nat → Nat) × (Nat → Nat)} {l : Launch} {D : va_G} {cA : Nat → ClassId} {ad : Nat → Nat} {b : Bool} {σ : St} {Q : Int → St → Prop} (hA : AdOk (NC b) ad) (hσ : CanS (shC b) (NC b) σ) (h : wp_X6_readTable  σ Q) : KtV Z l D cA ad (shC b) (NC b) yX6_readTable cX6_readTable 1 none 8 [.ref (ad 3)] σ Q :=
  KtV.of my_X6_readTable hA [some (.ref (ad 3))] (Nat.le_of_ble_eq_true rfl) rfl (fun p e s m args below meth c A0 E hr => t_X6_readTable E hr σ hσ h)
theorem dX6_isLabel_0 : Dc cX6_isLabel 0 (.aload_n 0) 1 1 := ⟨by decide +kernel, rfl⟩
theorem dX6_isLabel_1 : Dc cX6_isLabel 1 (.getfield 41) 3 4 := ⟨by decide +kernel, rfl⟩
theorem dX6_isLabel_4 : Dc cX6_isLabel 4 (.iconst 3) 1 5 := ⟨by decide +kernel, rfl⟩
theorem djX6_isLabel_5 : Dj cX6_isLabel 5 (.if_icmp .ne 35) 3 8 35 40 := ⟨by decide +kernel, rfl, by decide⟩
theorem dX6_isLabel_8 : Dc cX6_isLabel 8 (.aload_n 0) 1 9 := ⟨by decide +kernel, rfl⟩
theorem dX6_isLabel_9 : Dc cX6_isLabel 9 (.getfield 9) 3 12 := ⟨by decide +kernel, rfl⟩
theorem dX6_isLabel_12 : Dc cX6_isLabel 12 (.aload_n 0) 1 13 := ⟨by decide +kernel, rfl⟩
theorem dX6_isLabel_13 : Dc cX6_isLabel 13 (.getfield 137) 3 16 := ⟨by decide +kernel, rfl⟩
theorem dX6_isLabel_16 : Dc cX6_isLabel 16 (.iaload) 1 17 := ⟨by decide +kernel, rfl⟩
theorem dX6_isLabel_17 : Dc cX6_isLabel 17 (.bipush 65) 2 19 := ⟨by decide +kernel, rfl⟩
theorem djX6_isLabel_19 : Dj cX6_isLabel 19 (.if_icmp .lt 21) 3 22 21 40 := ⟨by decide +kernel, rfl, by decide⟩
theorem dX6_isLabel_22 : Dc cX6_isLabel 22 (.aload_n 0) 1 23 := ⟨by decide +kernel, rfl⟩
theorem dX6_isLabel_23 : Dc cX6_isLabel 23 (.getfield 9) 3 26 := ⟨by decide +kernel, rfl⟩
theorem dX6_isLabel_26 : Dc cX6_isLabel 26 (.aload_n 0) 1 27 := ⟨by decide +kernel, rfl⟩
theorem dX6_isLabel_27 : Dc cX6_isLabel 27 (.getfield 137) 3 30 := ⟨by decide +kernel, rfl⟩
theorem dX6_isLabel_30 : Dc cX6_isLabel 30 (.iaload) 1 31 := ⟨by decide +kernel, rfl⟩
theorem dX6_isLabel_31 : Dc cX6_isLabel 31 (.bipush 77) 2 33 := ⟨by decide +kernel, rfl⟩
theorem djX6_isLabel_33 : Dj cX6_isLabel 33 (.if_icmp .ge 7) 3 36 7 40 := ⟨by decide +kernel, rfl, by decide⟩
theorem dX6_isLabel_36 : Dc cX6_isLabel 36 (.iconst 1) 1 37 := ⟨by decide +kernel, rfl⟩
theorem djX6_isLabel_37 : Dj cX6_isLabel 37 (.goto 4) 3 40 4 41 := ⟨by decide +kernel, rfl, by decide⟩
theorem dX6_isLabel_40 : Dc cX6_isLabel 40 (.iconst 0) 1 41 := ⟨by decide +kernel, rfl⟩
theorem dX6_isLabel_41 : Dc cX6_isLabel 41 (.ireturn) 1 42 := ⟨by decide +kernel, rfl⟩
section
variable {p : Program} {l : Launch} {e : Env} {s : State} {m : MethodId} {args : Array Value} {below : List Frame} {meth : Method} {c : Code} {A0 : Nat → Prop} {D : va_G} {cA : Nat → ClassId} {ad : Nat → Nat} {Z : (Nat → Nat) × (Nat → Nat)} {Q : Int → St → Prop} {b : Bool}
set_option maxHeartbeats 4000000 in
set_option maxRecDepth 100000 in
theorem t_X6_isLabel_b40 (E : Ev p s m args meth c cX6_isLabel 1 RX6 A0 D cA ad (NC b) Z) (hr : meth.sig.returnType = (some .boolean)) (σ : St) (hσ : CanS (shC b) (NC b) σ) (h : wp_X6_isLabel_b40 Q  σ) : G p l e (rmL 1 0 0) s m args below meth c 1 A0 D cA ad (shC b) (NC b) 0 0 (MQ below (QIc D cA ad (shC b) (NC b) Q A0) args s 0 0 A0) σ 40 [none] [] := by
  unfold wp_X6_isLabel_b40 at h
  refine g_iconst E dX6_isLabel_40 ?_
  exact g_zret E hr (Or.inl rfl) h hσ dX6_isLabel_41
set_option maxHeartbeats 4000000 in
set_option maxRecDepth 100000 in
theorem t_X6_isLabel (E : Ev p s m args meth c cX6_isLabel 1 RX6 A0 D cA ad (NC b) Z) (hr : meth.sig.returnType = (some .boolean)) (σ : St) (hσ : CanS (shC b) (NC b) σ) (h : wp_X6_isLabel  σ Q) : G p l e (rmL 1 0 0) s m args below meth c 1 A0 D cA ad (shC b) (NC b) 0 0 (MQ below (QIc D cA ad (shC b) (NC b) Q A0) args s 0 0 A0) σ 0 [some (.ref (ad 3))] [] := by
  unfold wp_X6_isLabel at h
  refine g_aload_0 E dX6_isLabel_0 ?_
  refine g_getI E fl_RX6_41 (kC_3 b) (sC_3 b) rfl dX6_isLabel_1 ?_
  refine g_iconst E dX6_isLabel_4 ?_
  refine g_icmp_ne E (fC_3_5 hσ) cl_3 djX6_isLabel_5 (fun hc => ?_) (fun hc => ?_)
  · replace h := h.1 hc
    exact (t_X6_isLabel_b40 E hr σ hσ h).weak (w_d w_n)
  · replace h := h.2 hc
    refine g_aload_0 E dX6_isLabel_8 ?_
    refine g_getR E fl_RX6_9 (kC_3 b) (sC_3 b) rfl dX6_isLabel_9 ?_
    refine g_aload_0 E dX6_isLabel_12 ?_
    refine g_getI E fl_RX6_137 (kC_3 b) (sC_3 b) rfl dX6_isLabel_13 ?_
    refine g_iald E (kC_1 b) (sC_1 b) (by decide) h.1 dX6_isLabel_16 ?_
    replace h := h.2
    refine g_bipush E (by decide) dX6_isLabel_17 ?_
    refine g_icmp_lt E (aC_1 hσ _) cl_65 djX6_isLabel_19 (fun hc => ?_) (fun hc => ?_)
    · replace h := h.1 hc
      exact (t_X6_isLabel_b40 E hr σ hσ h).weak (w_d w_n)
    · replace h := h.2 hc
      refine g_aload_0 E dX6_isLabel_22 ?_
      refine g_getR E fl_RX6_9 (kC_3 b) (sC_3 b) rfl dX6_isLabel_23 ?_
      refine g_aload_0 E dX6_isLabel_26 ?_
      refine g_getI E fl_RX6_137 (kC_3 b) (sC_3 b) rfl dX6_isLabel_27 ?_
      refine g_iald E (kC_1 b) (sC_1 b) (by decide) h.1 dX6_isLabel_30 ?_
      replace h := h.2
      refine g_bipush E (by decide) dX6_isLabel_31 ?_
      refine g_icmp_ge E (aC_1 hσ _) cl_77 djX6_isLabel_33 (fun hc => ?_) (fun hc => ?_)
      · replace h := h.1 hc
        exact (t_X6_isLabel_b40 E hr σ hσ h).weak (w_d w_n)
      · replace h := h.2 hc
        refine g_iconst E dX6_isLabel_36 ?_
        refine g_goto E djX6_isLabel_37 ?_
        exact g_zret E hr (Or.inr rfl) h hσ dX6_isLabel_41
end
theorem m_X6_isLabel {Z : (Nat → Nat) × (Nat → Nat)} {l : Launch} {D : va_G} {cA : Nat → ClassId} {ad : Nat → Nat} {b : Bool} {σ : St} {Q : Int → St → Prop} (hA : AdOk (NC b) ad) (hσ : CanS (shC b) (NC b) σ) (h : wp_X6_isLabel  σ Q) : KtI Z l D cA ad (shC b) (NC b) yX6_isLabel cX6_isLabel 1 (some .boolean) 1 [.ref (ad 3)] σ Q :=
  KtI.of my_X6_isLabel hA [some (.ref (ad 3))] (Nat.le_of_ble_eq_true rfl) rfl (fun p e s m args below meth c A0 E hr => t_X6_isLabel E hr σ hσ h)
theorem dX6_isLetter_0 : Dc cX6_isLetter 0 (.aload_n 0) 1 1 := ⟨by decide +kernel, rfl⟩
theorem dX6_isLetter_1 : Dc cX6_isLetter 1 (.getfield 41) 3 4 := ⟨by decide +kernel, rfl⟩
theorem dX6_isLetter_4 : Dc cX6_isLetter 4 (.iconst 1) 1 5 := ⟨by decide +kernel, rfl⟩
theorem djX6_isLetter_5 : Dj cX6_isLetter 5 (.if_icmp .ne 20) 3 8 20 25 := ⟨by decide +kernel, rfl, by decide⟩
theorem dX6_isLetter_8 : Dc cX6_isLetter 8 (.aload_n 0) 1 9 := ⟨by decide +kernel, rfl⟩
theorem dX6_isLetter_9 : Dc cX6_isLetter 9 (.getfield 32) 3 12 := ⟨by decide +kernel, rfl⟩
theorem dX6_isLetter_12 : Dc cX6_isLetter 12 (.aload_n 0) 1 13 := ⟨by decide +kernel, rfl⟩
theorem dX6_isLetter_13 : Dc cX6_isLetter 13 (.getfield 137) 3 16 := ⟨by decide +kernel, rfl⟩
theorem dX6_isLetter_16 : Dc cX6_isLetter 16 (.isub) 1 17 := ⟨by decide +kernel, rfl⟩
theorem dX6_isLetter_17 : Dc cX6_isLetter 17 (.iconst 1) 1 18 := ⟨by decide +kernel, rfl⟩
theorem djX6_isLetter_18 : Dj cX6_isLetter 18 (.if_icmp .ne 7) 3 21 7 25 := ⟨by decide +kernel, rfl, by decide⟩
theorem dX6_isLetter_21 : Dc cX6_isLetter 21 (.iconst 1) 1 22 := ⟨by decide +kernel, rfl⟩
theorem djX6_isLetter_22 : Dj cX6_isLetter 22 (.goto 4) 3 25 4 26 := ⟨by decide +kernel, rfl, by decide⟩
theorem dX6_isLetter_25 : Dc cX6_isLetter 25 (.iconst 0) 1 26 := ⟨by decide +kernel, rfl⟩
theorem dX6_isLetter_26 : Dc cX6_isLetter 26 (.ireturn) 1 27 := ⟨by decide +kernel, rfl⟩
section
variable {p : Program} {l : Launch} {e : Env} {s : State} {m : MethodId} {args : Array Value} {below : List Frame} {meth : Method} {c : Code} {A0 : Nat → Prop} {D : va_G} {cA : Nat → ClassId} {ad : Nat → Nat} {Z : (Nat → Nat) × (Nat → Nat)} {Q : Int → St → Prop} {b : Bool}
set_option maxHeartbeats 4000000 in
set_option maxRecDepth 100000 in
theorem t_X6_isLetter_b25 (E : Ev p s m args meth c cX6_isLetter 1 RX6 A0 D cA ad (NC b) Z) (hr : meth.sig.returnType = (some .boolean)) (σ : St) (hσ : CanS (shC b) (NC b) σ) (h : wp_X6_isLetter_b25 Q  σ) : G p l e (rmL 1 0 0) s m args below meth c 1 A0 D cA ad (shC b) (NC b) 0 0 (MQ below (QIc D cA ad (shC b) (NC b) Q A0) args s 0 0 A0) σ 25 [none] [] := by
  unfold wp_X6_isLetter_b25 at h
  refine g_iconst E dX6_isLetter_25 ?_
  exact g_zret E hr (Or.inl rfl) h hσ dX6_isLetter_26
set_option maxHeartbeats 4000000 in
set_option maxRecDepth 100000 in
theorem t_X6_isLetter (E : Ev p s m args meth c cX6_isLetter 1 RX6 A0 D cA ad (NC b) Z) (hr : meth.sig.returnType = (some .boolean)) (σ : St) (hσ : CanS (shC b) (NC b) σ) (h : wp_X6_isLetter  σ Q) : G p l e (rmL 1 0 0) s m args below meth c 1 A0 D cA ad (shC b) (NC b) 0 0 (MQ below (QIc D cA ad (shC b) (NC b) Q A0) args s 0 0 A0) σ 0 [some (.ref (ad 3))] [] := by
  unfold wp_X6_isLetter at h
  refine g_aload_0 E dX6_isLetter_0 ?_
  refine g_getI E fl_RX6_41 (kC_3 b) (sC_3 b) rfl dX6_isLetter_1 ?_
  refine g_iconst E dX6_isLetter_4 ?_
  refine g_icmp_ne E (fC_3_5 hσ) cl_1 djX6_isLetter_5 (fun hc => ?_) (fun hc => ?_)
  · replace h := h.1 hc
    exact (t_X6_isLetter_b25 E hr σ hσ h).weak (w_d w_n)
  · replace h := h.2 hc
    refine g_aload_0 E dX6_isLetter_8 ?_
    refine g_getI E fl_RX6_32 (kC_3 b) (sC_3 b) rfl dX6_isLetter_9 ?_
    refine g_aload_0 E dX6_isLetter_12 ?_
    refine g_getI E fl_RX6_137 (kC_3 b) (sC_3 b) rfl dX6_isLetter_13 ?_
    refine g_isub E dX6_isLetter_16 ?_
    refine g_iconst E dX6_isLetter_17 ?_
    refine g_icmp_ne E (c32_w _) cl_1 djX6_isLetter_18 (fun hc => ?_) (fun hc => ?_)
    · replace h := h.1 hc
      exact (t_X6_isLetter_b25 E hr σ hσ h).weak (w_d w_n)
    · replace h := h.2 hc
      refine g_iconst E dX6_isLetter_21 ?_
      refine g_goto E djX6_isLetter_22 ?_
      exact g_zret E hr (Or.inr rfl) h hσ dX6_isLetter_26
end
theorem m_X6_isLetter {Z : (Nat → Nat) × (Nat → Nat)} {l : Launch} {D : va_G} {cA : Nat → ClassId} {ad : Nat → Nat} {b : Bool} {σ : St} {Q : Int → St → Prop} (hA : AdOk (NC b) ad) (hσ : CanS (shC b) (NC b) σ) (h : wp_X6_isLetter  σ Q) : KtI Z l D cA ad (shC b) (NC b) yX6_isLetter cX6_isLetter 1 (some .boolean) 1 [.ref (ad 3)] σ Q :=
  KtI.of my_X6_isLetter hA [some (.ref (ad 3))] (Nat.le_of_ble_eq_true rfl) rfl (fun p e s m args below meth c A0 E hr => t_X6_isLetter E hr σ hσ h)
