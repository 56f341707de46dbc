theorem dX11_drops_0 : Dc cX11_drops 0 (.aload_n 0) 1 1 := ⟨by decide +kernel, rfl⟩
theorem dX11_drops_1 : Dc cX11_drops 1 (.getfield 28) 3 4 := ⟨by decide +kernel, rfl⟩
theorem dX11_drops_4 : Dc cX11_drops 4 (.iload_n 1) 1 5 := ⟨by decide +kernel, rfl⟩
theorem dX11_drops_5 : Dc cX11_drops 5 (.invokevirtual 171) 3 8 := ⟨by decide +kernel, rfl⟩
theorem djX11_drops_8 : Dj cX11_drops 8 (.ifCond .eq 12) 3 11 12 20 := ⟨by decide +kernel, rfl, by decide⟩
theorem dX11_drops_11 : Dc cX11_drops 11 (.iload_n 2) 1 12 := ⟨by decide +kernel, rfl⟩
theorem djX11_drops_12 : Dj cX11_drops 12 (.ifCond .lt 8) 3 15 8 20 := ⟨by decide +kernel, rfl, by decide⟩
theorem dX11_drops_15 : Dc cX11_drops 15 (.iload_n 2) 1 16 := ⟨by decide +kernel, rfl⟩
theorem dX11_drops_16 : Dc cX11_drops 16 (.iconst 1) 1 17 := ⟨by decide +kernel, rfl⟩
theorem djX11_drops_17 : Dj cX11_drops 17 (.if_icmp .le 6) 3 20 6 23 := ⟨by decide +kernel, rfl, by decide⟩
theorem dX11_drops_20 : Dc cX11_drops 20 (.bipush (-2)) 2 22 := ⟨by decide +kernel, rfl⟩
theorem dX11_drops_22 : Dc cX11_drops 22 (.ireturn) 1 23 := ⟨by decide +kernel, rfl⟩
theorem dX11_drops_23 : Dc cX11_drops 23 (.iload_n 2) 1 24 := ⟨by decide +kernel, rfl⟩
theorem dX11_drops_24 : Dc cX11_drops 24 (.iconst 1) 1 25 := ⟨by decide +kernel, rfl⟩
theorem djX11_drops_25 : Dj cX11_drops 25 (.if_icmp .ne 7) 3 28 7 32 := ⟨by decide +kernel, rfl, by decide⟩
theorem dX11_drops_28 : Dc cX11_drops 28 (.iconst 1) 1 29 := ⟨by decide +kernel, rfl⟩
theorem djX11_drops_29 : Dj cX11_drops 29 (.goto 4) 3 32 4 33 := ⟨by decide +kernel, rfl, by decide⟩
theorem dX11_drops_32 : Dc cX11_drops 32 (.iconst 0) 1 33 := ⟨by decide +kernel, rfl⟩
theorem dX11_drops_33 : Dc cX11_drops 33 (.istore_n 3) 1 34 := ⟨by decide +kernel, rfl⟩
theorem dX11_drops_34 : Dc cX11_drops 34 (.aload_n 0) 1 35 := ⟨by decide +kernel, rfl⟩
theorem dX11_drops_35 : Dc cX11_drops 35 (.getfield 28) 3 38 := ⟨by decide +kernel, rfl⟩
theorem dX11_drops_38 : Dc cX11_drops 38 (.getfield 189) 3 41 := ⟨by decide +kernel, rfl⟩
theorem dX11_drops_41 : Dc cX11_drops 41 (.iload_n 1) 1 42 := ⟨by decide +kernel, rfl⟩
theorem dX11_drops_42 : Dc cX11_drops 42 (.baload) 1 43 := ⟨by decide +kernel, rfl⟩
theorem dX11_drops_43 : Dc cX11_drops 43 (.iload_n 3) 1 44 := ⟨by decide +kernel, rfl⟩
theorem djX11_drops_44 : Dj cX11_drops 44 (.if_icmp .ne 5) 3 47 5 49 := ⟨by decide +kernel, rfl, by decide⟩
theorem dX11_drops_47 : Dc cX11_drops 47 (.iconst 0) 1 48 := ⟨by decide +kernel, rfl⟩
theorem dX11_drops_48 : Dc cX11_drops 48 (.ireturn) 1 49 := ⟨by decide +kernel, rfl⟩
theorem dX11_drops_49 : Dc cX11_drops 49 (.aload_n 0) 1 50 := ⟨by decide +kernel, rfl⟩
theorem dX11_drops_50 : Dc cX11_drops 50 (.getfield 28) 3 53 := ⟨by decide +kernel, rfl⟩
theorem dX11_drops_53 : Dc cX11_drops 53 (.getfield 189) 3 56 := ⟨by decide +kernel, rfl⟩
theorem dX11_drops_56 : Dc cX11_drops 56 (.iload_n 1) 1 57 := ⟨by decide +kernel, rfl⟩
theorem dX11_drops_57 : Dc cX11_drops 57 (.iload_n 3) 1 58 := ⟨by decide +kernel, rfl⟩
theorem dX11_drops_58 : Dc cX11_drops 58 (.bastore) 1 59 := ⟨by decide +kernel, rfl⟩
theorem dX11_drops_59 : Dc cX11_drops 59 (.aload_n 0) 1 60 := ⟨by decide +kernel, rfl⟩
theorem dX11_drops_60 : Dc cX11_drops 60 (.invokevirtual 126) 3 63 := ⟨by decide +kernel, rfl⟩
theorem dX11_drops_63 : Dc cX11_drops 63 (.iconst 1) 1 64 := ⟨by decide +kernel, rfl⟩
theorem dX11_drops_64 : Dc cX11_drops 64 (.ireturn) 1 65 := ⟨by decide +kernel, rfl⟩
section
variable {p : Program} {l : Launch} {e : Env} {s : State} {m : MethodId} {args : Array Value} {below : List Frame} {meth : Method} {c : Code} {A0 : Nat → Prop} {D : va_G} {cA : Nat → ClassId} {ad : Nat → Nat} {Z : (Nat → Nat) × (Nat → Nat)} {Q : Int → St → Prop} {b : Bool}
set_option maxHeartbeats 4000000 in
set_option maxRecDepth 100000 in
theorem t_X11_drops_b33 (E : Ev p s m args meth c cX11_drops 4 RX11 A0 D cA ad (NC b) Z) (hr : meth.sig.returnType = (some .int)) (x1 : Int) (s0 : Int) (σ : St) (c1 : C32 x1) (cs0 : C32 s0) (hσ : CanS (shC b) (NC b) σ) (h : wp_X11_drops_b33 Q x1 s0 σ) : G p l e (rmL 5 0 0) s m args below meth c 4 A0 D cA ad (shC b) (NC b) 0 0 (MQ below (QIc D cA ad (shC b) (NC b) Q A0) args s 0 0 A0) σ 33 [some (.ref (ad 0)), some (vI x1), none, none] [vI s0] := by
  unfold wp_X11_drops_b33 at h
  refine g_istore_3 E rfl (by decide) dX11_drops_33 ?_
  refine g_aload_0 E dX11_drops_34 ?_
  refine g_getR E fl_RX11_28 (kC_0 b) (sC_0 b) rfl dX11_drops_35 ?_
  refine g_getR E fl_RX11_189 (kC_14 b) (sC_14 b) rfl dX11_drops_38 ?_
  refine g_iload_1 E dX11_drops_41 ?_
  refine g_zald E (kC_20 b) (sC_20 b) (by decide) h.1 dX11_drops_42 ?_
  replace h := h.2
  refine g_iload_3 E dX11_drops_43 ?_
  refine g_icmp_ne E (aC_20 hσ _) cs0 djX11_drops_44 (fun hc => ?_) (fun hc => ?_)
  · replace h := h.1 hc
    refine g_aload_0 E dX11_drops_49 ?_
    refine g_getR E fl_RX11_28 (kC_0 b) (sC_0 b) rfl dX11_drops_50 ?_
    refine g_getR E fl_RX11_189 (kC_14 b) (sC_14 b) rfl dX11_drops_53 ?_
    refine g_iload_1 E dX11_drops_56 ?_
    refine g_iload_3 E dX11_drops_57 ?_
    refine g_zast E (kC_20 b) (sC_20 b) (by decide) h.1 dX11_drops_58 (g_nmS (fun σ3 eσ3 => ?_))
    replace h := h.2 σ3 eσ3
    have hσ3 : CanS (shC b) (NC b) σ3 := by rw [eσ3]; exact wC_20 hσ (c32_t _)
    refine g_aload_0 E dX11_drops_59 ?_
    refine g_callvV E my_X11_forgetCases mi_X11_forgetCases msel_X11_forgetCases ml_RX11_126 (rm_ok (by decide) (by decide)) ⟨Nat.zero_le _, Nat.zero_le _⟩ (kC_0 b) (sC_0 b) rfl (m_X11_forgetCases E.2.2.1 hσ3 h) rfl rfl (Nat.le_of_ble_eq_true rfl) dX11_drops_60 (fun σ5 r4 hσ5 h => ?_)
    refine g_iconst E dX11_drops_63 ?_
    exact g_iret E hr cl_1 h hσ5 dX11_drops_64
  · replace h := h.2 hc
    refine g_iconst E dX11_drops_47 ?_
    exact g_iret E hr cl_0 h hσ dX11_drops_48
set_option maxHeartbeats 4000000 in
set_option maxRecDepth 100000 in
theorem t_X11_drops (E : Ev p s m args meth c cX11_drops 4 RX11 A0 D cA ad (NC b) Z) (hr : meth.sig.returnType = (some .int)) (x1 : Int) (x2 : Int) (σ : St) (c1 : C32 x1) (c2 : C32 x2) (hσ : CanS (shC b) (NC b) σ) (h : wp_X11_drops x1 x2 σ Q) : G p l e (rmL 5 0 0) s m args below meth c 4 A0 D cA ad (shC b) (NC b) 0 0 (MQ below (QIc D cA ad (shC b) (NC b) Q A0) args s 0 0 A0) σ 0 [some (.ref (ad 0)), some (vI x1), some (vI x2), none] [] := by
  unfold wp_X11_drops at h
  refine g_aload_0 E dX11_drops_0 ?_
  refine g_getR E fl_RX11_28 (kC_0 b) (sC_0 b) rfl dX11_drops_1 ?_
  refine g_iload_1 E dX11_drops_4 ?_
  refine g_callvI E my_X4_knows mi_X4_knows msel_X4_knows ml_RX11_171 (rm_ok (by decide) (by decide)) ⟨Nat.zero_le _, Nat.zero_le _⟩ (kC_14 b) (sC_14 b) rfl (m_X4_knows E.2.2.1 c1 hσ h) rfl rfl (Nat.le_of_ble_eq_true rfl) dX11_drops_5 (fun r1 σ2 cr1 hσ2 h => ?_)
  refine g_if_eq E cr1 djX11_drops_8 (fun hc => ?_) (fun hc => ?_)
  · replace h := h.1 hc
    refine g_bipush E (by decide) dX11_drops_20 ?_
    exact g_iret E hr cl_m2 h hσ2 dX11_drops_22
  · replace h := h.2 hc
    refine g_iload_2 E dX11_drops_11 ?_
    refine g_if_lt E c2 djX11_drops_12 (fun hc => ?_) (fun hc => ?_)
    · replace h := h.1 hc
      refine g_bipush E (by decide) dX11_drops_20 ?_
      exact g_iret E hr cl_m2 h hσ2 dX11_drops_22
    · replace h := h.2 hc
      refine g_iload_2 E dX11_drops_15 ?_
      refine g_iconst E dX11_drops_16 ?_
      refine g_icmp_le E c2 cl_1 djX11_drops_17 (fun hc => ?_) (fun hc => ?_)
      · replace h := h.1 hc
        refine g_iload_2 E dX11_drops_23 ?_
        refine g_iconst E dX11_drops_24 ?_
        refine g_icmp_ne E c2 cl_1 djX11_drops_25 (fun hc => ?_) (fun hc => ?_)
        · replace h := h.1 hc
          refine g_iconst E dX11_drops_32 ?_
          exact (t_X11_drops_b33 E hr x1 0 σ2 c1 cl_0 hσ2 h).weak (w_k (w_k (w_d (w_d w_n))))
        · replace h := h.2 hc
          refine g_iconst E dX11_drops_28 ?_
          refine g_goto E djX11_drops_29 ?_
          exact (t_X11_drops_b33 E hr x1 1 σ2 c1 cl_1 hσ2 h).weak (w_k (w_k (w_d (w_d w_n))))
      · replace h := h.2 hc
        refine g_bipush E (by decide) dX11_drops_20 ?_
        exact g_iret E hr cl_m2 h hσ2 dX11_drops_22
end
theorem m_X11_drops {Z : (Nat → Nat) × (Nat → Nat)} {l : Launch} {D : va_G} {cA : Nat → ClassId} {ad : Nat → Nat} {b : Bool} {x1 x2 : Int} {σ : St} {Q : Int → St → Prop} (hA : AdOk (NC b) ad) (c1 : C32 x1) (c2 : C32 x2) (hσ : CanS (shC b) (NC b) σ) (h : wp_X11_drops x1 x2 σ Q) : KtI Z l D cA ad (shC b) (NC b) yX11_drops cX11_drops 4 (some .int) 5 [.ref (ad 0), vI x1, vI x2] σ Q :=
  KtI.of my_X11_drops hA [some (.ref (ad 0)), some (vI x1), some (vI x2), none] (Nat.le_of_ble_eq_true rfl) rfl (fun p e s m args below meth c A0 E hr => t_X11_drops E hr x1 x2 σ c1 c2 hσ h)
theorem dX11_prices_0 : Dc cX11_prices 0 (.aload_n 0) 1 1 := ⟨by decide +kernel, rfl⟩
theorem dX11_prices_1 : Dc cX11_prices 1 (.getfield 28) 3 4 := ⟨by decide +kernel, rfl⟩
theorem dX11_prices_4 : Dc cX11_prices 4 (.iload_n 1) 1 5 := ⟨by decide +kernel, rfl⟩
theorem dX11_prices_5 : Dc cX11_prices 5 (.invokevirtual 171) 3 8 := ⟨by decide +kernel, rfl⟩
theorem djX11_prices_8 : Dj cX11_prices 8 (.ifCond .eq 14) 3 11 14 22 := ⟨by decide +kernel, rfl, by decide⟩
theorem dX11_prices_11 : Dc cX11_prices 11 (.iload_n 2) 1 12 := ⟨by decide +kernel, rfl⟩
theorem dX11_prices_12 : Dc cX11_prices 12 (.iconst 1) 1 13 := ⟨by decide +kernel, rfl⟩
theorem djX11_prices_13 : Dj cX11_prices 13 (.if_icmp .lt 9) 3 16 9 22 := ⟨by decide +kernel, rfl, by decide⟩
theorem dX11_prices_16 : Dc cX11_prices 16 (.iload_n 2) 1 17 := ⟨by decide +kernel, rfl⟩
theorem dX11_prices_17 : Dc cX11_prices 17 (.bipush 99) 2 19 := ⟨by decide +kernel, rfl⟩
theorem djX11_prices_19 : Dj cX11_prices 19 (.if_icmp .le 6) 3 22 6 25 := ⟨by decide +kernel, rfl, by decide⟩
theorem dX11_prices_22 : Dc cX11_prices 22 (.bipush (-2)) 2 24 := ⟨by decide +kernel, rfl⟩
theorem dX11_prices_24 : Dc cX11_prices 24 (.ireturn) 1 25 := ⟨by decide +kernel, rfl⟩
theorem dX11_prices_25 : Dc cX11_prices 25 (.aload_n 0) 1 26 := ⟨by decide +kernel, rfl⟩
theorem dX11_prices_26 : Dc cX11_prices 26 (.getfield 28) 3 29 := ⟨by decide +kernel, rfl⟩
theorem dX11_prices_29 : Dc cX11_prices 29 (.getfield 183) 3 32 := ⟨by decide +kernel, rfl⟩
theorem dX11_prices_32 : Dc cX11_prices 32 (.iload_n 1) 1 33 := ⟨by decide +kernel, rfl⟩
theorem dX11_prices_33 : Dc cX11_prices 33 (.iaload) 1 34 := ⟨by decide +kernel, rfl⟩
theorem dX11_prices_34 : Dc cX11_prices 34 (.istore_n 3) 1 35 := ⟨by decide +kernel, rfl⟩
theorem dX11_prices_35 : Dc cX11_prices 35 (.iload_n 3) 1 36 := ⟨by decide +kernel, rfl⟩
theorem dX11_prices_36 : Dc cX11_prices 36 (.iload_n 2) 1 37 := ⟨by decide +kernel, rfl⟩
theorem djX11_prices_37 : Dj cX11_prices 37 (.if_icmp .eq 17) 3 40 17 54 := ⟨by decide +kernel, rfl, by decide⟩
theorem dX11_prices_40 : Dc cX11_prices 40 (.aload_n 0) 1 41 := ⟨by decide +kernel, rfl⟩
theorem dX11_prices_41 : Dc cX11_prices 41 (.getfield 28) 3 44 := ⟨by decide +kernel, rfl⟩
theorem dX11_prices_44 : Dc cX11_prices 44 (.getfield 183) 3 47 := ⟨by decide +kernel, rfl⟩
theorem dX11_prices_47 : Dc cX11_prices 47 (.iload_n 1) 1 48 := ⟨by decide +kernel, rfl⟩
theorem dX11_prices_48 : Dc cX11_prices 48 (.iload_n 2) 1 49 := ⟨by decide +kernel, rfl⟩
theorem dX11_prices_49 : Dc cX11_prices 49 (.iastore) 1 50 := ⟨by decide +kernel, rfl⟩
theorem dX11_prices_50 : Dc cX11_prices 50 (.aload_n 0) 1 51 := ⟨by decide +kernel, rfl⟩
theorem dX11_prices_51 : Dc cX11_prices 51 (.invokevirtual 203) 3 54 := ⟨by decide +kernel, rfl⟩
theorem dX11_prices_54 : Dc cX11_prices 54 (.iload_n 3) 1 55 := ⟨by decide +kernel, rfl⟩
theorem dX11_prices_55 : Dc cX11_prices 55 (.ireturn) 1 56 := ⟨by decide +kernel, rfl⟩
section
variable {p : Program} {l : Launch} {e : Env} {s : State} {m : MethodId} {args : Array Value} {below : List Frame} {meth : Method} {c : Code} {A0 : Nat → Prop} {D : va_G} {cA : Nat → ClassId} {ad : Nat → Nat} {Z : (Nat → Nat) × (Nat → Nat)} {Q : Int → St → Prop} {b : Bool}
set_option maxHeartbeats 4000000 in
set_option maxRecDepth 100000 in
theorem t_X11_prices (E : Ev p s m args meth c cX11_prices 4 RX11 A0 D cA ad (NC b) Z) (hr : meth.sig.returnType = (some .int)) (x1 : Int) (x2 : Int) (σ : St) (c1 : C32 x1) (c2 : C32 x2) (hσ : CanS (shC b) (NC b) σ) (h : wp_X11_prices x1 x2 σ Q) : G p l e (rmL 4 0 0) s m args below meth c 4 A0 D cA ad (shC b) (NC b) 0 0 (MQ below (QIc D cA ad (shC b) (NC b) Q A0) args s 0 0 A0) σ 0 [some (.ref (ad 0)), some (vI x1), some (vI x2), none] [] := by
  unfold wp_X11_prices at h
  refine g_aload_0 E dX11_prices_0 ?_
  refine g_getR E fl_RX11_28 (kC_0 b) (sC_0 b) rfl dX11_prices_1 ?_
  refine g_iload_1 E dX11_prices_4 ?_
  refine g_callvI E my_X4_knows mi_X4_knows msel_X4_knows ml_RX11_171 (rm_ok (by decide) (by decide)) ⟨Nat.zero_le _, Nat.zero_le _⟩ (kC_14 b) (sC_14 b) rfl (m_X4_knows E.2.2.1 c1 hσ h) rfl rfl (Nat.le_of_ble_eq_true rfl) dX11_prices_5 (fun r1 σ2 cr1 hσ2 h => ?_)
  refine g_if_eq E cr1 djX11_prices_8 (fun hc => ?_) (fun hc => ?_)
  · replace h := h.1 hc
    refine g_bipush E (by decide) dX11_prices_22 ?_
    exact g_iret E hr cl_m2 h hσ2 dX11_prices_24
  · replace h := h.2 hc
    refine g_iload_2 E dX11_prices_11 ?_
    refine g_iconst E dX11_prices_12 ?_
    refine g_icmp_lt E c2 cl_1 djX11_prices_13 (fun hc => ?_) (fun hc => ?_)
    · replace h := h.1 hc
      refine g_bipush E (by decide) dX11_prices_22 ?_
      exact g_iret E hr cl_m2 h hσ2 dX11_prices_24
    · replace h := h.2 hc
      refine g_iload_2 E dX11_prices_16 ?_
      refine g_bipush E (by decide) dX11_prices_17 ?_
      refine g_icmp_le E c2 cl_99 djX11_prices_19 (fun hc => ?_) (fun hc => ?_)
      · replace h := h.1 hc
        refine g_aload_0 E dX11_prices_25 ?_
        refine g_getR E fl_RX11_28 (kC_0 b) (sC_0 b) rfl dX11_prices_26 ?_
        refine g_getR E fl_RX11_183 (kC_14 b) (sC_14 b) rfl dX11_prices_29 ?_
        refine g_iload_1 E dX11_prices_32 ?_
        refine g_iald E (kC_18 b) (sC_18 b) (by decide) h.1 dX11_prices_33 ?_
        replace h := h.2
        refine g_nmI (fun v3 ev3 => ?_)
        replace h := h v3 ev3
        have cv3 : C32 v3 := by rw [ev3]; exact (aC_18 hσ2 _)
        refine g_istore_3 E rfl (by decide) dX11_prices_34 ?_
        refine g_iload_3 E dX11_prices_35 ?_
        refine g_iload_2 E dX11_prices_36 ?_
        refine g_icmp_eq E cv3 c2 djX11_prices_37 (fun hc => ?_) (fun hc => ?_)
        · replace h := h.1 hc
          refine g_iload_3 E dX11_prices_54 ?_
          exact g_iret E hr cv3 h hσ2 dX11_prices_55
        · replace h := h.2 hc
          refine g_aload_0 E dX11_prices_40 ?_
          refine g_getR E fl_RX11_28 (kC_0 b) (sC_0 b) rfl dX11_prices_41 ?_
          refine g_getR E fl_RX11_183 (kC_14 b) (sC_14 b) rfl dX11_prices_44 ?_
          refine g_iload_1 E dX11_prices_47 ?_
          refine g_iload_2 E dX11_prices_48 ?_
          refine g_iast E (kC_18 b) (sC_18 b) (by decide) h.1 dX11_prices_49 (g_nmS (fun σ4 eσ4 => ?_))
          replace h := h.2 σ4 eσ4
          have hσ4 : CanS (shC b) (NC b) σ4 := by rw [eσ4]; exact wC_18 hσ2 c2
          refine g_aload_0 E dX11_prices_50 ?_
          refine g_callvV E my_X11_forgetCosts mi_X11_forgetCosts msel_X11_forgetCosts ml_RX11_203 (rm_ok (by decide) (by decide)) ⟨Nat.zero_le _, Nat.zero_le _⟩ (kC_0 b) (sC_0 b) rfl (m_X11_forgetCosts E.2.2.1 hσ4 h) rfl rfl (Nat.le_of_ble_eq_true rfl) dX11_prices_51 (fun σ6 r5 hσ6 h => ?_)
          refine g_iload_3 E dX11_prices_54 ?_
          exact g_iret E hr cv3 h hσ6 dX11_prices_55
      · replace h := h.2 hc
        refine g_bipush E (by decide) dX11_prices_22 ?_
        exact g_iret E hr cl_m2 h hσ2 dX11_prices_24
end
theorem m_X11_prices {Z : (Nat → Nat) × (Nat → Nat)} {l : Launch} {D : va_G} {cA : Nat → ClassId} {ad : Nat → Nat} {b : Bool} {x1 x2 : Int} {σ : St} {Q : Int → St → Prop} (hA : AdOk (NC b) ad) (c1 : C32 x1) (c2 : C32 x2) (hσ : CanS (shC b) (NC b) σ) (h : wp_X11_prices x1 x2 σ Q) : KtI Z l D cA ad (shC b) (NC b) yX11_prices cX11_prices 4 (some .int) 4 [.ref (ad 0), vI x1, vI x2] σ Q :=
  KtI.of my_X11_prices hA [some (.ref (ad 0)), some (vI x1), some (vI x2), none] (Nat.le_of_ble_eq_true rfl) rfl (fun p e s m args below meth c A0 E hr => t_X11_prices E hr x1 x2 σ c1 c2 hσ h)
theorem dX11_elements_0 : Dc cX11_elements 0 (.aload_n 0) 1 1 := ⟨by decide +kernel, rfl⟩
theorem dX11_elements_1 : Dc cX11_elements 1 (.getfield 28) 3 4 := ⟨by decide +kernel, rfl⟩
theorem dX11_elements_4 : Dc cX11_elements 4 (.iload_n 1) 1 5 := ⟨by decide +kernel, rfl⟩
theorem dX11_elements_5 : Dc cX11_elements 5 (.invokevirtual 171) 3 8 := ⟨by decide +kernel, rfl⟩
theorem djX11_elements_8 : Dj cX11_elements 8 (.ifCond .eq 14) 3 11 14 22 := ⟨by decide +kernel, rfl, by decide⟩
theorem dX11_elements_11 : Dc cX11_elements 11 (.aload_n 0) 1 12 := ⟨by decide +kernel, rfl⟩
theorem dX11_elements_12 : Dc cX11_elements 12 (.getfield 28) 3 15 := ⟨by decide +kernel, rfl⟩
theorem dX11_elements_15 : Dc cX11_elements 15 (.iload_n 2) 1 16 := ⟨by decide +kernel, rfl⟩
theorem dX11_elements_16 : Dc cX11_elements 16 (.invokevirtual 193) 3 19 := ⟨by decide +kernel, rfl⟩
theorem djX11_elements_19 : Dj cX11_elements 19 (.ifCond .ne 6) 3 22 6 25 := ⟨by decide +kernel, rfl, by decide⟩
theorem dX11_elements_22 : Dc cX11_elements 22 (.bipush (-2)) 2 24 := ⟨by decide +kernel, rfl⟩
theorem dX11_elements_24 : Dc cX11_elements 24 (.ireturn) 1 25 := ⟨by decide +kernel, rfl⟩
theorem dX11_elements_25 : Dc cX11_elements 25 (.aload_n 0) 1 26 := ⟨by decide +kernel, rfl⟩
theorem dX11_elements_26 : Dc cX11_elements 26 (.getfield 28) 3 29 := ⟨by decide +kernel, rfl⟩
theorem dX11_elements_29 : Dc cX11_elements 29 (.getfield 186) 3 32 := ⟨by decide +kernel, rfl⟩
theorem dX11_elements_32 : Dc cX11_elements 32 (.iload_n 1) 1 33 := ⟨by decide +kernel, rfl⟩
theorem dX11_elements_33 : Dc cX11_elements 33 (.iaload) 1 34 := ⟨by decide +kernel, rfl⟩
theorem dX11_elements_34 : Dc cX11_elements 34 (.istore_n 3) 1 35 := ⟨by decide +kernel, rfl⟩
theorem dX11_elements_35 : Dc cX11_elements 35 (.iload_n 3) 1 36 := ⟨by decide +kernel, rfl⟩
theorem dX11_elements_36 : Dc cX11_elements 36 (.iload_n 2) 1 37 := ⟨by decide +kernel, rfl⟩
theorem djX11_elements_37 : Dj cX11_elements 37 (.if_icmp .eq 20) 3 40 20 57 := ⟨by decide +kernel, rfl, by decide⟩
theorem dX11_elements_40 : Dc cX11_elements 40 (.aload_n 0) 1 41 := ⟨by decide +kernel, rfl⟩
theorem dX11_elements_41 : Dc cX11_elements 41 (.getfield 28) 3 44 := ⟨by decide +kernel, rfl⟩
theorem dX11_elements_44 : Dc cX11_elements 44 (.getfield 186) 3 47 := ⟨by decide +kernel, rfl⟩
theorem dX11_elements_47 : Dc cX11_elements 47 (.iload_n 1) 1 48 := ⟨by decide +kernel, rfl⟩
theorem dX11_elements_48 : Dc cX11_elements 48 (.iload_n 2) 1 49 := ⟨by decide +kernel, rfl⟩
theorem dX11_elements_49 : Dc cX11_elements 49 (.iastore) 1 50 := ⟨by decide +kernel, rfl⟩
theorem dX11_elements_50 : Dc cX11_elements 50 (.aload_n 0) 1 51 := ⟨by decide +kernel, rfl⟩
theorem dX11_elements_51 : Dc cX11_elements 51 (.getfield 69) 3 54 := ⟨by decide +kernel, rfl⟩
theorem dX11_elements_54 : Dc cX11_elements 54 (.invokevirtual 206) 3 57 := ⟨by decide +kernel, rfl⟩
theorem dX11_elements_57 : Dc cX11_elements 57 (.iload_n 3) 1 58 := ⟨by decide +kernel, rfl⟩
theorem dX11_elements_58 : Dc cX11_elements 58 (.ireturn) 1 59 := ⟨by decide +kernel, rfl⟩
section
variable {p : Program} {l : Launch} {e : Env} {s : State} {m : MethodId} {args : Array Value} {below : List Frame} {meth : Method} {c : Code} {A0 : Nat → Prop} {D : va_G} {cA : Nat → ClassId} {ad : Nat → Nat} {Z : (Nat → Nat) × (Nat → Nat)} {Q : Int → St → Prop} {b : Bool}
set_option maxHeartbeats 4000000 in
set_option maxRecDepth 100000 in
theorem t_X11_elements (E : Ev p s m args meth c cX11_elements 4 RX11 A0 D cA ad (NC b) Z) (hr : meth.sig.returnType = (some .int)) (x1 : Int) (x2 : Int) (σ : St) (c1 : C32 x1) (c2 : C32 x2) (hσ : CanS (shC b) (NC b) σ) (h : wp_X11_elements x1 x2 σ Q) : G p l e (rmL 2 0 0) s m args below meth c 4 A0 D cA ad (shC b) (NC b) 0 0 (MQ below (QIc D cA ad (shC b) (NC b) Q A0) args s 0 0 A0) σ 0 [some (.ref (ad 0)), some (vI x1), some (vI x2), none] [] := by
  unfold wp_X11_elements at h
  refine g_aload_0 E dX11_elements_0 ?_
  refine g_getR E fl_RX11_28 (kC_0 b) (sC_0 b) rfl dX11_elements_1 ?_
  refine g_iload_1 E dX11_elements_4 ?_
  refine g_callvI E my_X4_knows mi_X4_knows msel_X4_knows ml_RX11_171 (rm_ok (by decide) (by decide)) ⟨Nat.zero_le _, Nat.zero_le _⟩ (kC_14 b) (sC_14 b) rfl (m_X4_knows E.2.2.1 c1 hσ h) rfl rfl (Nat.le_of_ble_eq_true rfl) dX11_elements_5 (fun r1 σ2 cr1 hσ2 h => ?_)
  refine g_if_eq E cr1 djX11_elements_8 (fun hc => ?_) (fun hc => ?_)
  · replace h := h.1 hc
    refine g_bipush E (by decide) dX11_elements_22 ?_
    exact g_iret E hr cl_m2 h hσ2 dX11_elements_24
  · replace h := h.2 hc
    refine g_aload_0 E dX11_elements_11 ?_
    refine g_getR E fl_RX11_28 (kC_0 b) (sC_0 b) rfl dX11_elements_12 ?_
    refine g_iload_2 E dX11_elements_15 ?_
    refine g_callvI E my_X4_isElement mi_X4_isElement msel_X4_isElement ml_RX11_193 (rm_ok (by decide) (by decide)) ⟨Nat.zero_le _, Nat.zero_le _⟩ (kC_14 b) (sC_14 b) rfl (m_X4_isElement E.2.2.1 c2 hσ2 h) rfl rfl (Nat.le_of_ble_eq_true rfl) dX11_elements_16 (fun r3 σ4 cr3 hσ4 h => ?_)
    refine g_if_ne E cr3 djX11_elements_19 (fun hc => ?_) (fun hc => ?_)
    · replace h := h.1 hc
      refine g_aload_0 E dX11_elements_25 ?_
      refine g_getR E fl_RX11_28 (kC_0 b) (sC_0 b) rfl dX11_elements_26 ?_
      refine g_getR E fl_RX11_186 (kC_14 b) (sC_14 b) rfl dX11_elements_29 ?_
      refine g_iload_1 E dX11_elements_32 ?_
      refine g_iald E (kC_19 b) (sC_19 b) (by decide) h.1 dX11_elements_33 ?_
      replace h := h.2
      refine g_nmI (fun v5 ev5 => ?_)
      replace h := h v5 ev5
      have cv5 : C32 v5 := by rw [ev5]; exact (aC_19 hσ4 _)
      refine g_istore_3 E rfl (by decide) dX11_elements_34 ?_
      refine g_iload_3 E dX11_elements_35 ?_
      refine g_iload_2 E dX11_elements_36 ?_
      refine g_icmp_eq E cv5 c2 djX11_elements_37 (fun hc => ?_) (fun hc => ?_)
      · replace h := h.1 hc
        refine g_iload_3 E dX11_elements_57 ?_
        exact g_iret E hr cv5 h hσ4 dX11_elements_58
      · replace h := h.2 hc
        refine g_aload_0 E dX11_elements_40 ?_
        refine g_getR E fl_RX11_28 (kC_0 b) (sC_0 b) rfl dX11_elements_41 ?_
        refine g_getR E fl_RX11_186 (kC_14 b) (sC_14 b) rfl dX11_elements_44 ?_
        refine g_iload_1 E dX11_elements_47 ?_
        refine g_iload_2 E dX11_elements_48 ?_
        refine g_iast E (kC_19 b) (sC_19 b) (by decide) h.1 dX11_elements_49 (g_nmS (fun σ6 eσ6 => ?_))
        replace h := h.2 σ6 eσ6
        have hσ6 : CanS (shC b) (NC b) σ6 := by rw [eσ6]; exact wC_19 hσ4 c2
        refine g_aload_0 E dX11_elements_50 ?_
        refine g_getR E fl_RX11_69 (kC_0 b) (sC_0 b) rfl dX11_elements_51 ?_
        refine g_callvV E my_X9_forget mi_X9_forget msel_X9_forget ml_RX11_206 (rm_ok (by decide) (by decide)) ⟨Nat.zero_le _, Nat.zero_le _⟩ (kC_50 b) (sC_50 b) rfl (m_X9_forget E.2.2.1 hσ6 h) rfl rfl (Nat.le_of_ble_eq_true rfl) dX11_elements_54 (fun σ8 r7 hσ8 h => ?_)
        refine g_iload_3 E dX11_elements_57 ?_
        exact g_iret E hr cv5 h hσ8 dX11_elements_58
    · replace h := h.2 hc
      refine g_bipush E (by decide) dX11_elements_22 ?_
      exact g_iret E hr cl_m2 h hσ4 dX11_elements_24
end
theorem m_X11_elements {Z : (Nat → Nat) × (Nat → Nat)} {l : Launch} {D : va_G} {cA : Nat → ClassId} {ad : Nat → Nat} {b : Bool} {x1 x2 : Int} {σ : St} {Q : Int → St → Prop} (hA : AdOk (NC b) ad) (c1 : C32 x1) (c2 : C32 x2) (hσ : CanS (shC b) (NC b) σ) (h : wp_X11_elements x1 x2 σ Q) : KtI Z l D cA ad (shC b) (NC b) yX11_elements cX11_elements 4 (some .int) 2 [.ref (ad 0), vI x1, vI x2] σ Q :=
  KtI.of my_X11_elements hA [some (.ref (ad 0)), some (vI x1), some (vI x2), none] (Nat.le_of_ble_eq_true rfl) rfl (fun p e s m args below meth c A0 E hr => t_X11_elements E hr x1 x2 σ c1 c2 hσ h)
theorem dX0_itemAt_0 : Dc cX0_itemAt 0 (.aload_n 0) 1 1 := ⟨by decide +kernel, rfl⟩
theorem dX0_itemAt_1 : Dc cX0_itemAt 1 (.getfield 25) 3 4 := ⟨by decide +kernel, rfl⟩
theorem dX0_itemAt_4 : Dc cX0_itemAt 4 (.iload_n 2) 1 5 := ⟨by decide +kernel, rfl⟩
theorem dX0_itemAt_5 : Dc cX0_itemAt 5 (.bipush 9) 2 7 := ⟨by decide +kernel, rfl⟩
theorem dX0_itemAt_7 : Dc cX0_itemAt 7 (.imul) 1 8 := ⟨by decide +kernel, rfl⟩
theorem dX0_itemAt_8 : Dc cX0_itemAt 8 (.iload_n 3) 1 9 := ⟨by decide +kernel, rfl⟩
theorem dX0_itemAt_9 : Dc cX0_itemAt 9 (.iadd) 1 10 := ⟨by decide +kernel, rfl⟩
theorem dX0_itemAt_10 : Dc cX0_itemAt 10 (.iaload) 1 11 := ⟨by decide +kernel, rfl⟩
theorem dX0_itemAt_11 : Dc cX0_itemAt 11 (.bipush 12) 2 13 := ⟨by decide +kernel, rfl⟩
theorem dX0_itemAt_13 : Dc cX0_itemAt 13 (.imul) 1 14 := ⟨by decide +kernel, rfl⟩
theorem dX0_itemAt_14 : Dc cX0_itemAt 14 (.iload_n 1) 1 15 := ⟨by decide +kernel, rfl⟩
theorem dX0_itemAt_15 : Dc cX0_itemAt 15 (.iadd) 1 16 := ⟨by decide +kernel, rfl⟩
theorem dX0_itemAt_16 : Dc cX0_itemAt 16 (.ireturn) 1 17 := ⟨by decide +kernel, rfl⟩
section
variable {p : Program} {l : Launch} {e : Env} {s : State} {m : MethodId} {args : Array Value} {below : List Frame} {meth : Method} {c : Code} {A0 : Nat → Prop} {D : va_G} {cA : Nat → ClassId} {ad : Nat → Nat} {Z : (Nat → Nat) × (Nat → Nat)} {Q : Int → St → Prop} {b : Bool}
set_option maxHeartbeats 4000000 in
set_option maxRecDepth 100000 in
theorem t_X0_itemAt (E : Ev p s m args meth c cX0_itemAt 4 RX0 A0 D cA ad (NC b) Z) (hr : meth.sig.returnType = (some .int)) (x1 : Int) (x2 : Int) (x3 : Int) (σ : St) (c1 : C32 x1) (c2 : C32 x2) (c3 : C32 x3) (hσ : CanS (shC b) (NC b) σ) (h : wp_X0_itemAt x1 x2 x3 σ Q) : G p l e (rmL 1 0 0) s m args below meth c 4 A0 D cA ad (shC b) (NC b) 0 0 (MQ below (QIc D cA ad (shC b) (NC b) Q A0) args s 0 0 A0) σ 0 [some (.ref (ad 24)), some (vI x1), some (vI x2), some (vI x3)] [] := by
  unfold wp_X0_itemAt at h
  refine g_aload_0 E dX0_itemAt_0 ?_
  refine g_getR E fl_RX0_25 (kC_24 b) (sC_24 b) rfl dX0_itemAt_1 ?_
  refine g_iload_2 E dX0_itemAt_4 ?_
  refine g_bipush E (by decide) dX0_itemAt_5 ?_
  refine g_imul E dX0_itemAt_7 ?_
  refine g_iload_3 E dX0_itemAt_8 ?_
  refine g_iadd E dX0_itemAt_9 ?_
  refine g_iald E (kC_28 b) (sC_28 b) (by decide) h.1 dX0_itemAt_10 ?_
  replace h := h.2
  refine g_bipush E (by decide) dX0_itemAt_11 ?_
  refine g_imul E dX0_itemAt_13 ?_
  refine g_iload_1 E dX0_itemAt_14 ?_
  refine g_iadd E dX0_itemAt_15 ?_
  exact g_iret E hr (c32_w _) h hσ dX0_itemAt_16
end
theorem m_X0_itemAt {Z : (Nat → Nat) × (Nat → Nat)} {l : Launch} {D : va_G} {cA : Nat → ClassId} {ad : Nat → Nat} {b : Bool} {x1 x2 x3 : Int} {σ : St} {Q : Int → St → Prop} (hA : AdOk (NC b) ad) (c1 : C32 x1) (c2 : C32 x2) (c3 : C32 x3) (hσ : CanS (shC b) (NC b) σ) (h : wp_X0_itemAt x1 x2 x3 σ Q) : KtI Z l D cA ad (shC b) (NC b) yX0_itemAt cX0_itemAt 4 (some .int) 1 [.ref (ad 24), vI x1, vI x2, vI x3] σ Q :=
  KtI.of my_X0_itemAt hA [some (.ref (ad 24)), some (vI x1), some (vI x2), some (vI x3)] (Nat.le_of_ble_eq_true rfl) rfl (fun p e s m args below meth c A0 E hr => t_X0_itemAt E hr x1 x2 x3 σ c1 c2 c3 hσ h)
theorem dX11_itemOf_0 : Dc cX11_itemOf 0 (.iload_n 1) 1 1 := ⟨by decide +kernel, rfl⟩
theorem djX11_itemOf_1 : Dj cX11_itemOf 1 (.ifCond .lt 29) 3 4 29 30 := ⟨by decide +kernel, rfl, by decide⟩
theorem dX11_itemOf_4 : Dc cX11_itemOf 4 (.iload_n 1) 1 5 := ⟨by decide +kernel, rfl⟩
theorem dX11_itemOf_5 : Dc cX11_itemOf 5 (.bipush 12) 2 7 := ⟨by decide +kernel, rfl⟩
theorem djX11_itemOf_7 : Dj cX11_itemOf 7 (.if_icmp .ge 23) 3 10 23 30 := ⟨by decide +kernel, rfl, by decide⟩
theorem dX11_itemOf_10 : Dc cX11_itemOf 10 (.iload_n 2) 1 11 := ⟨by decide +kernel, rfl⟩
theorem djX11_itemOf_11 : Dj cX11_itemOf 11 (.ifCond .lt 19) 3 14 19 30 := ⟨by decide +kernel, rfl, by decide⟩
theorem dX11_itemOf_14 : Dc cX11_itemOf 14 (.iload_n 3) 1 15 := ⟨by decide +kernel, rfl⟩
theorem dX11_itemOf_15 : Dc cX11_itemOf 15 (.iload_n 2) 1 16 := ⟨by decide +kernel, rfl⟩
theorem djX11_itemOf_16 : Dj cX11_itemOf 16 (.if_icmp .le 14) 3 19 14 30 := ⟨by decide +kernel, rfl, by decide⟩
theorem dX11_itemOf_19 : Dc cX11_itemOf 19 (.iload_n 3) 1 20 := ⟨by decide +kernel, rfl⟩
theorem dX11_itemOf_20 : Dc cX11_itemOf 20 (.aload_n 0) 1 21 := ⟨by decide +kernel, rfl⟩
theorem dX11_itemOf_21 : Dc cX11_itemOf 21 (.getfield 37) 3 24 := ⟨by decide +kernel, rfl⟩
theorem dX11_itemOf_24 : Dc cX11_itemOf 24 (.getfield 146) 3 27 := ⟨by decide +kernel, rfl⟩
theorem djX11_itemOf_27 : Dj cX11_itemOf 27 (.if_icmp .le 6) 3 30 6 33 := ⟨by decide +kernel, rfl, by decide⟩
theorem dX11_itemOf_30 : Dc cX11_itemOf 30 (.bipush (-2)) 2 32 := ⟨by decide +kernel, rfl⟩
theorem dX11_itemOf_32 : Dc cX11_itemOf 32 (.ireturn) 1 33 := ⟨by decide +kernel, rfl⟩
theorem dX11_itemOf_33 : Dc cX11_itemOf 33 (.aload_n 0) 1 34 := ⟨by decide +kernel, rfl⟩
theorem dX11_itemOf_34 : Dc cX11_itemOf 34 (.getfield 37) 3 37 := ⟨by decide +kernel, rfl⟩
theorem dX11_itemOf_37 : Dc cX11_itemOf 37 (.invokevirtual 216) 3 40 := ⟨by decide +kernel, rfl⟩
theorem dX11_itemOf_40 : Dc cX11_itemOf 40 (.aload_n 0) 1 41 := ⟨by decide +kernel, rfl⟩
theorem dX11_itemOf_41 : Dc cX11_itemOf 41 (.getfield 37) 3 44 := ⟨by decide +kernel, rfl⟩
theorem dX11_itemOf_44 : Dc cX11_itemOf 44 (.iload_n 1) 1 45 := ⟨by decide +kernel, rfl⟩
theorem dX11_itemOf_45 : Dc cX11_itemOf 45 (.iload_n 2) 1 46 := ⟨by decide +kernel, rfl⟩
theorem dX11_itemOf_46 : Dc cX11_itemOf 46 (.iload_n 3) 1 47 := ⟨by decide +kernel, rfl⟩
theorem dX11_itemOf_47 : Dc cX11_itemOf 47 (.invokevirtual 219) 3 50 := ⟨by decide +kernel, rfl⟩
theorem dX11_itemOf_50 : Dc cX11_itemOf 50 (.ireturn) 1 51 := ⟨by decide +kernel, rfl⟩
section
variable {p : Program} {l : Launch} {e : Env} {s : State} {m : MethodId} {args : Array Value} {below : List Frame} {meth : Method} {c : Code} {A0 : Nat → Prop} {D : va_G} {cA : Nat → ClassId} {ad : Nat → Nat} {Z : (Nat → Nat) × (Nat → Nat)} {Q : Int → St → Prop} {b : Bool}
set_option maxHeartbeats 4000000 in
set_option maxRecDepth 100000 in
theorem t_X11_itemOf (E : Ev p s m args meth c cX11_itemOf 4 RX11 A0 D cA ad (NC b) Z) (hr : meth.sig.returnType = (some .int)) (x1 : Int) (x2 : Int) (x3 : Int) (σ : St) (c1 : C32 x1) (c2 : C32 x2) (c3 : C32 x3) (hσ : CanS (shC b) (NC b) σ) (h : wp_X11_itemOf x1 x2 x3 σ Q) : G p l e (rmL 5 0 0) s m args below meth c 4 A0 D cA ad (shC b) (NC b) 0 0 (MQ below (QIc D cA ad (shC b) (NC b) Q A0) args s 0 0 A0) σ 0 [some (.ref (ad 0)), some (vI x1), some (vI x2), some (vI x3)] [] := by
  unfold wp_X11_itemOf at h
  refine g_iload_1 E dX11_itemOf_0 ?_
  refine g_if_lt E c1 djX11_itemOf_1 (fun hc => ?_) (fun hc => ?_)
  · replace h := h.1 hc
    refine g_bipush E (by decide) dX11_itemOf_30 ?_
    exact g_iret E hr cl_m2 h hσ dX11_itemOf_32
  · replace h := h.2 hc
    refine g_iload_1 E dX11_itemOf_4 ?_
    refine g_bipush E (by decide) dX11_itemOf_5 ?_
    refine g_icmp_ge E c1 cl_12 djX11_itemOf_7 (fun hc => ?_) (fun hc => ?_)
    · replace h := h.1 hc
      refine g_bipush E (by decide) dX11_itemOf_30 ?_
      exact g_iret E hr cl_m2 h hσ dX11_itemOf_32
    · replace h := h.2 hc
      refine g_iload_2 E dX11_itemOf_10 ?_
      refine g_if_lt E c2 djX11_itemOf_11 (fun hc => ?_) (fun hc => ?_)
      · replace h := h.1 hc
        refine g_bipush E (by decide) dX11_itemOf_30 ?_
        exact g_iret E hr cl_m2 h hσ dX11_itemOf_32
      · replace h := h.2 hc
        refine g_iload_3 E dX11_itemOf_14 ?_
        refine g_iload_2 E dX11_itemOf_15 ?_
        refine g_icmp_le E c3 c2 djX11_itemOf_16 (fun hc => ?_) (fun hc => ?_)
        · replace h := h.1 hc
          refine g_bipush E (by decide) dX11_itemOf_30 ?_
          exact g_iret E hr cl_m2 h hσ dX11_itemOf_32
        · replace h := h.2 hc
          refine g_iload_3 E dX11_itemOf_19 ?_
          refine g_aload_0 E dX11_itemOf_20 ?_
          refine g_getR E fl_RX11_37 (kC_0 b) (sC_0 b) rfl dX11_itemOf_21 ?_
          refine g_getI E fl_RX11_146 (kC_24 b) (sC_24 b) rfl dX11_itemOf_24 ?_
          refine g_icmp_le E c3 (fC_24_2 hσ) djX11_itemOf_27 (fun hc => ?_) (fun hc => ?_)
          · replace h := h.1 hc
            refine g_aload_0 E dX11_itemOf_33 ?_
            refine g_getR E fl_RX11_37 (kC_0 b) (sC_0 b) rfl dX11_itemOf_34 ?_
            refine g_callvV E my_X0_build mi_X0_build msel_X0_build ml_RX11_216 (rm_ok (by decide) (by decide)) ⟨Nat.zero_le _, Nat.zero_le _⟩ (kC_24 b) (sC_24 b) rfl (m_X0_build E.2.2.1 hσ h) rfl rfl (Nat.le_of_ble_eq_true rfl) dX11_itemOf_37 (fun σ2 r1 hσ2 h => ?_)
            refine g_aload_0 E dX11_itemOf_40 ?_
            refine g_getR E fl_RX11_37 (kC_0 b) (sC_0 b) rfl dX11_itemOf_41 ?_
            refine g_iload_1 E dX11_itemOf_44 ?_
            refine g_iload_2 E dX11_itemOf_45 ?_
            refine g_iload_3 E dX11_itemOf_46 ?_
            refine g_callvI E my_X0_itemAt mi_X0_itemAt msel_X0_itemAt ml_RX11_219 (rm_ok (by decide) (by decide)) ⟨Nat.zero_le _, Nat.zero_le _⟩ (kC_24 b) (sC_24 b) rfl (m_X0_itemAt E.2.2.1 c1 c2 c3 hσ2 h) rfl rfl (Nat.le_of_ble_eq_true rfl) dX11_itemOf_47 (fun r3 σ4 cr3 hσ4 h => ?_)
            exact g_iret E hr cr3 h hσ4 dX11_itemOf_50
          · replace h := h.2 hc
            refine g_bipush E (by decide) dX11_itemOf_30 ?_
            exact g_iret E hr cl_m2 h hσ dX11_itemOf_32
end
theorem m_X11_itemOf {Z : (Nat → Nat) × (Nat → Nat)} {l : Launch} {D : va_G} {cA : Nat → ClassId} {ad : Nat → Nat} {b : Bool} {x1 x2 x3 : Int} {σ : St} {Q : Int → St → Prop} (hA : AdOk (NC b) ad) (c1 : C32 x1) (c2 : C32 x2) (c3 : C32 x3) (hσ : CanS (shC b) (NC b) σ) (h : wp_X11_itemOf x1 x2 x3 σ Q) : KtI Z l D cA ad (shC b) (NC b) yX11_itemOf cX11_itemOf 4 (some .int) 5 [.ref (ad 0), vI x1, vI x2, vI x3] σ Q :=
  KtI.of my_X11_itemOf hA [some (.ref (ad 0)), some (vI x1), some (vI x2), some (vI x3)] (Nat.le_of_ble_eq_true rfl) rfl (fun p e s m args below meth c A0 E hr => t_X11_itemOf E hr x1 x2 x3 σ c1 c2 c3 hσ h)
theorem dX1_lowestOf_0 : Dc cX1_lowestOf 0 (.aload_n 0) 1 1 := ⟨by decide +kernel, rfl⟩
theorem dX1_lowestOf_1 : Dc cX1_lowestOf 1 (.invokevirtual 51) 3 4 := ⟨by decide +kernel, rfl⟩
theorem dX1_lowestOf_4 : Dc cX1_lowestOf 4 (.aload_n 0) 1 5 := ⟨by decide +kernel, rfl⟩
theorem dX1_lowestOf_5 : Dc cX1_lowestOf 5 (.getfield 19) 3 8 := ⟨by decide +kernel, rfl⟩
theorem dX1_lowestOf_8 : Dc cX1_lowestOf 8 (.iload_n 1) 1 9 := ⟨by decide +kernel, rfl⟩
theorem dX1_lowestOf_9 : Dc cX1_lowestOf 9 (.iaload) 1 10 := ⟨by decide +kernel, rfl⟩
theorem dX1_lowestOf_10 : Dc cX1_lowestOf 10 (.ireturn) 1 11 := ⟨by decide +kernel, rfl⟩
section
variable {p : Program} {l : Launch} {e : Env} {s : State} {m : MethodId} {args : Array Value} {below : List Frame} {meth : Method} {c : Code} {A0 : Nat → Prop} {D : va_G} {cA : Nat → ClassId} {ad : Nat → Nat} {Z : (Nat → Nat) × (Nat → Nat)} {Q : Int → St → Prop} {b : Bool}
set_option maxHeartbeats 4000000 in
set_option maxRecDepth 100000 in
theorem t_X1_lowestOf (E : Ev p s m args meth c cX1_lowestOf 2 RX1 A0 D cA ad (NC b) Z) (hr : meth.sig.returnType = (some .int)) (x1 : Int) (σ : St) (c1 : C32 x1) (hσ : CanS (shC b) (NC b) σ) (h : wp_X1_lowestOf x1 σ Q) : G p l e (rmL 6 0 0) s m args below meth c 2 A0 D cA ad (shC b) (NC b) 0 0 (MQ below (QIc D cA ad (shC b) (NC b) Q A0) args s 0 0 A0) σ 0 [some (.ref (ad 36)), some (vI x1)] [] := by
  unfold wp_X1_lowestOf at h
  refine g_aload_0 E dX1_lowestOf_0 ?_
  refine g_callvV E my_X1_prepare mi_X1_prepare msel_X1_prepare ml_RX1_51 (rm_ok (by decide) (by decide)) ⟨Nat.zero_le _, Nat.zero_le _⟩ (kC_36 b) (sC_36 b) rfl (m_X1_prepare E.2.2.1 hσ h) rfl rfl (Nat.le_of_ble_eq_true rfl) dX1_lowestOf_1 (fun σ2 r1 hσ2 h => ?_)
  refine g_aload_0 E dX1_lowestOf_4 ?_
  refine g_getR E fl_RX1_19 (kC_36 b) (sC_36 b) rfl dX1_lowestOf_5 ?_
  refine g_iload_1 E dX1_lowestOf_8 ?_
  refine g_iald E (kC_37 b) (sC_37 b) (by decide) h.1 dX1_lowestOf_9 ?_
  replace h := h.2
  exact g_iret E hr (aC_37 hσ2 _) h hσ2 dX1_lowestOf_10
end
theorem m_X1_lowestOf {Z : (Nat → Nat) × (Nat → Nat)} {l : Launch} {D : va_G} {cA : Nat → ClassId} {ad : Nat → Nat} {b : Bool} {x1 : Int} {σ : St} {Q : Int → St → Prop} (hA : AdOk (NC b) ad) (c1 : C32 x1) (hσ : CanS (shC b) (NC b) σ) (h : wp_X1_lowestOf x1 σ Q) : KtI Z l D cA ad (shC b) (NC b) yX1_lowestOf cX1_lowestOf 2 (some .int) 6 [.ref (ad 36), vI x1] σ Q :=
  KtI.of my_X1_lowestOf hA [some (.ref (ad 36)), some (vI x1)] (Nat.le_of_ble_eq_true rfl) rfl (fun p e s m args below meth c A0 E hr => t_X1_lowestOf E hr x1 σ c1 hσ h)
theorem dX11_can_0 : Dc cX11_can 0 (.aload_n 0) 1 1 := ⟨by decide +kernel, rfl⟩
theorem dX11_can_1 : Dc cX11_can 1 (.iload_n 1) 1 2 := ⟨by decide +kernel, rfl⟩
theorem dX11_can_2 : Dc cX11_can 2 (.iload_n 2) 1 3 := ⟨by decide +kernel, rfl⟩
theorem dX11_can_3 : Dc cX11_can 3 (.iload_n 3) 1 4 := ⟨by decide +kernel, rfl⟩
theorem dX11_can_4 : Dc cX11_can 4 (.invokevirtual 223) 3 7 := ⟨by decide +kernel, rfl⟩
theorem dX11_can_7 : Dc cX11_can 7 (.istore 4) 2 9 := ⟨by decide +kernel, rfl⟩
theorem dX11_can_9 : Dc cX11_can 9 (.iload 4) 2 11 := ⟨by decide +kernel, rfl⟩
theorem djX11_can_11 : Dj cX11_can 11 (.ifCond .ge 6) 3 14 6 17 := ⟨by decide +kernel, rfl, by decide⟩
theorem dX11_can_14 : Dc cX11_can 14 (.bipush (-2)) 2 16 := ⟨by decide +kernel, rfl⟩
theorem dX11_can_16 : Dc cX11_can 16 (.ireturn) 1 17 := ⟨by decide +kernel, rfl⟩
theorem dX11_can_17 : Dc cX11_can 17 (.aload_n 0) 1 18 := ⟨by decide +kernel, rfl⟩
theorem dX11_can_18 : Dc cX11_can 18 (.getfield 46) 3 21 := ⟨by decide +kernel, rfl⟩
theorem dX11_can_21 : Dc cX11_can 21 (.iload 4) 2 23 := ⟨by decide +kernel, rfl⟩
theorem dX11_can_23 : Dc cX11_can 23 (.invokevirtual 226) 3 26 := ⟨by decide +kernel, rfl⟩
theorem djX11_can_26 : Dj cX11_can 26 (.ifCond .le 7) 3 29 7 33 := ⟨by decide +kernel, rfl, by decide⟩
theorem dX11_can_29 : Dc cX11_can 29 (.iconst 1) 1 30 := ⟨by decide +kernel, rfl⟩
theorem djX11_can_30 : Dj cX11_can 30 (.goto 4) 3 33 4 34 := ⟨by decide +kernel, rfl, by decide⟩
theorem dX11_can_33 : Dc cX11_can 33 (.iconst 0) 1 34 := ⟨by decide +kernel, rfl⟩
theorem dX11_can_34 : Dc cX11_can 34 (.ireturn) 1 35 := ⟨by decide +kernel, rfl⟩
section
variable {p : Program} {l : Launch} {e : Env} {s : State} {m : MethodId} {args : Array Value} {below : List Frame} {meth : Method} {c : Code} {A0 : Nat → Prop} {D : va_G} {cA : Nat → ClassId} {ad : Nat → Nat} {Z : (Nat → Nat) × (Nat → Nat)} {Q : Int → St → Prop} {b : Bool}
set_option maxHeartbeats 4000000 in
set_option maxRecDepth 100000 in
theorem t_X11_can (E : Ev p s m args meth c cX11_can 5 RX11 A0 D cA ad (NC b) Z) (hr : meth.sig.returnType = (some .int)) (x1 : Int) (x2 : Int) (x3 : Int) (σ : St) (c1 : C32 x1) (c2 : C32 x2) (c3 : C32 x3) (hσ : CanS (shC b) (NC b) σ) (h : wp_X11_can x1 x2 x3 σ Q) : G p l e (rmL 7 0 0) s m args below meth c 5 A0 D cA ad (shC b) (NC b) 0 0 (MQ below (QIc D cA ad (shC b) (NC b) Q A0) args s 0 0 A0) σ 0 [some (.ref (ad 0)), some (vI x1), some (vI x2), some (vI x3), none] [] := by
  unfold wp_X11_can at h
  refine g_aload_0 E dX11_can_0 ?_
  refine g_iload_1 E dX11_can_1 ?_
  refine g_iload_2 E dX11_can_2 ?_
  refine g_iload_3 E dX11_can_3 ?_
  refine g_callvI E my_X11_itemOf mi_X11_itemOf msel_X11_itemOf ml_RX11_223 (rm_ok (by decide) (by decide)) ⟨Nat.zero_le _, Nat.zero_le _⟩ (kC_0 b) (sC_0 b) rfl (m_X11_itemOf E.2.2.1 c1 c2 c3 hσ h) rfl rfl (Nat.le_of_ble_eq_true rfl) dX11_can_4 (fun r1 σ2 cr1 hσ2 h => ?_)
  refine g_istore_4 E rfl (by decide) dX11_can_7 ?_
  refine g_iload_4 E dX11_can_9 ?_
  refine g_if_ge E cr1 djX11_can_11 (fun hc => ?_) (fun hc => ?_)
  · replace h := h.1 hc
    refine g_aload_0 E dX11_can_17 ?_
    refine g_getR E fl_RX11_46 (kC_0 b) (sC_0 b) rfl dX11_can_18 ?_
    refine g_iload_4 E dX11_can_21 ?_
    refine g_callvI E my_X1_lowestOf mi_X1_lowestOf msel_X1_lowestOf ml_RX11_226 (rm_ok (by decide) (by decide)) ⟨Nat.zero_le _, Nat.zero_le _⟩ (kC_36 b) (sC_36 b) rfl (m_X1_lowestOf E.2.2.1 cr1 hσ2 h) rfl rfl (Nat.le_of_ble_eq_true rfl) dX11_can_23 (fun r3 σ4 cr3 hσ4 h => ?_)
    refine g_if_le E cr3 djX11_can_26 (fun hc => ?_) (fun hc => ?_)
    · replace h := h.1 hc
      refine g_iconst E dX11_can_33 ?_
      exact g_iret E hr cl_0 h hσ4 dX11_can_34
    · replace h := h.2 hc
      refine g_iconst E dX11_can_29 ?_
      refine g_goto E djX11_can_30 ?_
      exact g_iret E hr cl_1 h hσ4 dX11_can_34
  · replace h := h.2 hc
    refine g_bipush E (by decide) dX11_can_14 ?_
    exact g_iret E hr cl_m2 h hσ2 dX11_can_16
end
theorem m_X11_can {Z : (Nat → Nat) × (Nat → Nat)} {l : Launch} {D : va_G} {cA : Nat → ClassId} {ad : Nat → Nat} {b : Bool} {x1 x2 x3 : Int} {σ : St} {Q : Int → St → Prop} (hA : AdOk (NC b) ad) (c1 : C32 x1) (c2 : C32 x2) (c3 : C32 x3) (hσ : CanS (shC b) (NC b) σ) (h : wp_X11_can x1 x2 x3 σ Q) : KtI Z l D cA ad (shC b) (NC b) yX11_can cX11_can 5 (some .int) 7 [.ref (ad 0), vI x1, vI x2, vI x3] σ Q :=
  KtI.of my_X11_can hA [some (.ref (ad 0)), some (vI x1), some (vI x2), some (vI x3), none] (Nat.le_of_ble_eq_true rfl) rfl (fun p e s m args below meth c A0 E hr => t_X11_can E hr x1 x2 x3 σ c1 c2 c3 hσ h)
theorem dX11_least_0 : Dc cX11_least 0 (.aload_n 0) 1 1 := ⟨by decide +kernel, rfl⟩
theorem dX11_least_1 : Dc cX11_least 1 (.iload_n 1) 1 2 := ⟨by decide +kernel, rfl⟩
theorem dX11_least_2 : Dc cX11_least 2 (.iload_n 2) 1 3 := ⟨by decide +kernel, rfl⟩
theorem dX11_least_3 : Dc cX11_least 3 (.iload_n 3) 1 4 := ⟨by decide +kernel, rfl⟩
theorem dX11_least_4 : Dc cX11_least 4 (.invokevirtual 223) 3 7 := ⟨by decide +kernel, rfl⟩
theorem dX11_least_7 : Dc cX11_least 7 (.istore 4) 2 9 := ⟨by decide +kernel, rfl⟩
theorem dX11_least_9 : Dc cX11_least 9 (.iload 4) 2 11 := ⟨by decide +kernel, rfl⟩
theorem djX11_least_11 : Dj cX11_least 11 (.ifCond .ge 8) 3 14 8 19 := ⟨by decide +kernel, rfl, by decide⟩
theorem dX11_least_14 : Dc cX11_least 14 (.bipush (-2)) 2 16 := ⟨by decide +kernel, rfl⟩
theorem djX11_least_16 : Dj cX11_least 16 (.goto 12) 3 19 12 28 := ⟨by decide +kernel, rfl, by decide⟩
theorem dX11_least_19 : Dc cX11_least 19 (.aload_n 0) 1 20 := ⟨by decide +kernel, rfl⟩
theorem dX11_least_20 : Dc cX11_least 20 (.getfield 46) 3 23 := ⟨by decide +kernel, rfl⟩
theorem dX11_least_23 : Dc cX11_least 23 (.iload 4) 2 25 := ⟨by decide +kernel, rfl⟩
theorem dX11_least_25 : Dc cX11_least 25 (.invokevirtual 226) 3 28 := ⟨by decide +kernel, rfl⟩
theorem dX11_least_28 : Dc cX11_least 28 (.ireturn) 1 29 := ⟨by decide +kernel, rfl⟩
section
variable {p : Program} {l : Launch} {e : Env} {s : State} {m : MethodId} {args : Array Value} {below : List Frame} {meth : Method} {c : Code} {A0 : Nat → Prop} {D : va_G} {cA : Nat → ClassId} {ad : Nat → Nat} {Z : (Nat → Nat) × (Nat → Nat)} {Q : Int → St → Prop} {b : Bool}
set_option maxHeartbeats 4000000 in
set_option maxRecDepth 100000 in
theorem t_X11_least (E : Ev p s m args meth c cX11_least 5 RX11 A0 D cA ad (NC b) Z) (hr : meth.sig.returnType = (some .int)) (x1 : Int) (x2 : Int) (x3 : Int) (σ : St) (c1 : C32 x1) (c2 : C32 x2) (c3 : C32 x3) (hσ : CanS (shC b) (NC b) σ) (h : wp_X11_least x1 x2 x3 σ Q) : G p l e (rmL 7 0 0) s m args below meth c 5 A0 D cA ad (shC b) (NC b) 0 0 (MQ below (QIc D cA ad (shC b) (NC b) Q A0) args s 0 0 A0) σ 0 [some (.ref (ad 0)), some (vI x1), some (vI x2), some (vI x3), none] [] := by
  unfold wp_X11_least at h
  refine g_aload_0 E dX11_least_0 ?_
  refine g_iload_1 E dX11_least_1 ?_
  refine g_iload_2 E dX11_least_2 ?_
  refine g_iload_3 E dX11_least_3 ?_
  refine g_callvI E my_X11_itemOf mi_X11_itemOf msel_X11_itemOf ml_RX11_223 (rm_ok (by decide) (by decide)) ⟨Nat.zero_le _, Nat.zero_le _⟩ (kC_0 b) (sC_0 b) rfl (m_X11_itemOf E.2.2.1 c1 c2 c3 hσ h) rfl rfl (Nat.le_of_ble_eq_true rfl) dX11_least_4 (fun r1 σ2 cr1 hσ2 h => ?_)
  refine g_istore_4 E rfl (by decide) dX11_least_7 ?_
  refine g_iload_4 E dX11_least_9 ?_
  refine g_if_ge E cr1 djX11_least_11 (fun hc => ?_) (fun hc => ?_)
  · replace h := h.1 hc
    refine g_aload_0 E dX11_least_19 ?_
    refine g_getR E fl_RX11_46 (kC_0 b) (sC_0 b) rfl dX11_least_20 ?_
    refine g_iload_4 E dX11_least_23 ?_
    refine g_callvI E my_X1_lowestOf mi_X1_lowestOf msel_X1_lowestOf ml_RX11_226 (rm_ok (by decide) (by decide)) ⟨Nat.zero_le _, Nat.zero_le _⟩ (kC_36 b) (sC_36 b) rfl (m_X1_lowestOf E.2.2.1 cr1 hσ2 h) rfl rfl (Nat.le_of_ble_eq_true rfl) dX11_least_25 (fun r3 σ4 cr3 hσ4 h => ?_)
    exact g_iret E hr cr3 h hσ4 dX11_least_28
  · replace h := h.2 hc
    refine g_bipush E (by decide) dX11_least_14 ?_
    refine g_goto E djX11_least_16 ?_
    exact g_iret E hr cl_m2 h hσ2 dX11_least_28
end
theorem m_X11_least {Z : (Nat → Nat) × (Nat → Nat)} {l : Launch} {D : va_G} {cA : Nat → ClassId} {ad : Nat → Nat} {b : Bool} {x1 x2 x3 : Int} {σ : St} {Q : Int → St → Prop} (hA : AdOk (NC b) ad) (c1 : C32 x1) (c2 : C32 x2) (c3 : C32 x3) (hσ : CanS (shC b) (NC b) σ) (h : wp_X11_least x1 x2 x3 σ Q) : KtI Z l D cA ad (shC b) (NC b) yX11_least cX11_least 5 (some .int) 7 [.ref (ad 0), vI x1, vI x2, vI x3] σ Q :=
  KtI.of my_X11_least hA [some (.ref (ad 0)), some (vI x1), some (vI x2), some (vI x3), none] (Nat.le_of_ble_eq_true rfl) rfl (fun p e s m args below meth c A0 E hr => t_X11_least E hr x1 x2 x3 σ c1 c2 c3 hσ h)
theorem dX2_targets_0 : Dc cX2_targets 0 (.iconst 0) 1 1 := ⟨by decide +kernel, rfl⟩
theorem dX2_targets_1 : Dc cX2_targets 1 (.istore_n 3) 1 2 := ⟨by decide +kernel, rfl⟩
theorem dX2_targets_2 : Dc cX2_targets 2 (.iconst 0) 1 3 := ⟨by decide +kernel, rfl⟩
theorem dX2_targets_3 : Dc cX2_targets 3 (.istore 4) 2 5 := ⟨by decide +kernel, rfl⟩
theorem dX2_targets_5 : Dc cX2_targets 5 (.iload 4) 2 7 := ⟨by decide +kernel, rfl⟩
theorem dX2_targets_7 : Dc cX2_targets 7 (.aload_n 0) 1 8 := ⟨by decide +kernel, rfl⟩
theorem dX2_targets_8 : Dc cX2_targets 8 (.getfield 15) 3 11 := ⟨by decide +kernel, rfl⟩
theorem dX2_targets_11 : Dc cX2_targets 11 (.getfield 103) 3 14 := ⟨by decide +kernel, rfl⟩
theorem djX2_targets_14 : Dj cX2_targets 14 (.if_icmp .ge 72) 3 17 72 86 := ⟨by decide +kernel, rfl, by decide⟩
theorem dX2_targets_17 : Dc cX2_targets 17 (.aload_n 0) 1 18 := ⟨by decide +kernel, rfl⟩
theorem dX2_targets_18 : Dc cX2_targets 18 (.getfield 15) 3 21 := ⟨by decide +kernel, rfl⟩
theorem dX2_targets_21 : Dc cX2_targets 21 (.getfield 106) 3 24 := ⟨by decide +kernel, rfl⟩
theorem dX2_targets_24 : Dc cX2_targets 24 (.iload 4) 2 26 := ⟨by decide +kernel, rfl⟩
theorem dX2_targets_26 : Dc cX2_targets 26 (.iaload) 1 27 := ⟨by decide +kernel, rfl⟩
theorem dX2_targets_27 : Dc cX2_targets 27 (.istore 5) 2 29 := ⟨by decide +kernel, rfl⟩
theorem dX2_targets_29 : Dc cX2_targets 29 (.aload_n 0) 1 30 := ⟨by decide +kernel, rfl⟩
theorem dX2_targets_30 : Dc cX2_targets 30 (.getfield 9) 3 33 := ⟨by decide +kernel, rfl⟩
theorem dX2_targets_33 : Dc cX2_targets 33 (.getfield 109) 3 36 := ⟨by decide +kernel, rfl⟩
theorem dX2_targets_36 : Dc cX2_targets 36 (.iload 5) 2 38 := ⟨by decide +kernel, rfl⟩
theorem dX2_targets_38 : Dc cX2_targets 38 (.iaload) 1 39 := ⟨by decide +kernel, rfl⟩
theorem dX2_targets_39 : Dc cX2_targets 39 (.iload_n 2) 1 40 := ⟨by decide +kernel, rfl⟩
theorem djX2_targets_40 : Dj cX2_targets 40 (.if_icmp .ne 40) 3 43 40 80 := ⟨by decide +kernel, rfl, by decide⟩
theorem dX2_targets_43 : Dc cX2_targets 43 (.aload_n 0) 1 44 := ⟨by decide +kernel, rfl⟩
theorem dX2_targets_44 : Dc cX2_targets 44 (.getfield 19) 3 47 := ⟨by decide +kernel, rfl⟩
theorem dX2_targets_47 : Dc cX2_targets 47 (.iload_n 1) 1 48 := ⟨by decide +kernel, rfl⟩
theorem dX2_targets_48 : Dc cX2_targets 48 (.aload_n 0) 1 49 := ⟨by decide +kernel, rfl⟩
theorem dX2_targets_49 : Dc cX2_targets 49 (.getfield 9) 3 52 := ⟨by decide +kernel, rfl⟩
theorem dX2_targets_52 : Dc cX2_targets 52 (.getfield 114) 3 55 := ⟨by decide +kernel, rfl⟩
theorem dX2_targets_55 : Dc cX2_targets 55 (.iload 5) 2 57 := ⟨by decide +kernel, rfl⟩
theorem dX2_targets_57 : Dc cX2_targets 57 (.iaload) 1 58 := ⟨by decide +kernel, rfl⟩
theorem dX2_targets_58 : Dc cX2_targets 58 (.iadd) 1 59 := ⟨by decide +kernel, rfl⟩
theorem dX2_targets_59 : Dc cX2_targets 59 (.invokevirtual 115) 3 62 := ⟨by decide +kernel, rfl⟩
theorem djX2_targets_62 : Dj cX2_targets 62 (.ifCond .eq 18) 3 65 18 80 := ⟨by decide +kernel, rfl, by decide⟩
theorem dX2_targets_65 : Dc cX2_targets 65 (.iload_n 3) 1 66 := ⟨by decide +kernel, rfl⟩
theorem dX2_targets_66 : Dc cX2_targets 66 (.iconst 1) 1 67 := ⟨by decide +kernel, rfl⟩
theorem dX2_targets_67 : Dc cX2_targets 67 (.aload_n 0) 1 68 := ⟨by decide +kernel, rfl⟩
theorem dX2_targets_68 : Dc cX2_targets 68 (.getfield 9) 3 71 := ⟨by decide +kernel, rfl⟩
theorem dX2_targets_71 : Dc cX2_targets 71 (.getfield 114) 3 74 := ⟨by decide +kernel, rfl⟩
theorem dX2_targets_74 : Dc cX2_targets 74 (.iload 5) 2 76 := ⟨by decide +kernel, rfl⟩
theorem dX2_targets_76 : Dc cX2_targets 76 (.iaload) 1 77 := ⟨by decide +kernel, rfl⟩
theorem dX2_targets_77 : Dc cX2_targets 77 (.ishl) 1 78 := ⟨by decide +kernel, rfl⟩
theorem dX2_targets_78 : Dc cX2_targets 78 (.ior) 1 79 := ⟨by decide +kernel, rfl⟩
theorem dX2_targets_79 : Dc cX2_targets 79 (.istore_n 3) 1 80 := ⟨by decide +kernel, rfl⟩
theorem dX2_targets_80 : Dc cX2_targets 80 (.iinc 4 1) 3 83 := ⟨by decide +kernel, rfl⟩
theorem djX2_targets_83 : Dj cX2_targets 83 (.goto (-78)) 3 86 (-78) 5 := ⟨by decide +kernel, rfl, by decide⟩
theorem dX2_targets_86 : Dc cX2_targets 86 (.iload_n 3) 1 87 := ⟨by decide +kernel, rfl⟩
theorem dX2_targets_87 : Dc cX2_targets 87 (.ireturn) 1 88 := ⟨by decide +kernel, rfl⟩
section
variable {p : Program} {l : Launch} {e : Env} {s : State} {m : MethodId} {args : Array Value} {below : List Frame} {meth : Method} {c : Code} {A0 : Nat → Prop} {D : va_G} {cA : Nat → ClassId} {ad : Nat → Nat} {Z : (Nat → Nat) × (Nat → Nat)} {Q : Int → St → Prop} {b : Bool}
set_option maxHeartbeats 4000000 in
set_option maxRecDepth 100000 in
theorem t_X2_targets_b80 (E : Ev p s m args meth c cX2_targets 6 RX2 A0 D cA ad (NC b) Z) (hr : meth.sig.returnType = (some .int)) {K5 : Int → Int → Int → Int → St → Prop} (hK5 : ∀ (x1 : Int) (x2 : Int) (x3 : Int) (x4 : Int) (σ : St), C32 x1 → C32 x2 → C32 x3 → C32 x4 → CanS (shC b) (NC b) σ → K5 x1 x2 x3 x4 σ → G p l e (rmL 2 0 0) s m args below meth c 6 A0 D cA ad (shC b) (NC b) 0 0 (MQ below (QIc D cA ad (shC b) (NC b) Q A0) args s 0 0 A0) σ 5 [some (.ref (ad 41)), some (vI x1), some (vI x2), some (vI x3), some (vI x4), none] []) (x1 : Int) (x2 : Int) (x3 : Int) (x4 : Int) (σ : St) (c1 : C32 x1) (c2 : C32 x2) (c3 : C32 x3) (c4 : C32 x4) (hσ : CanS (shC b) (NC b) σ) (h : wp_X2_targets_b80 Q K5 x1 x2 x3 x4 σ) : G p l e (rmL 2 0 0) s m args below meth c 6 A0 D cA ad (shC b) (NC b) 0 0 (MQ below (QIc D cA ad (shC b) (NC b) Q A0) args s 0 0 A0) σ 80 [some (.ref (ad 41)), some (vI x1), some (vI x2), some (vI x3), some (vI x4), none] [] := by
  unfold wp_X2_targets_b80 at h
  refine g_iinc_4 E rfl (by decide) dX2_targets_80 (fun v5 ev5 => ?_)
  replace h := h v5 ev5
  have cv5 : C32 v5 := by rw [ev5]; exact c32_w _
  refine g_goto E djX2_targets_83 ?_
  exact (hK5 x1 x2 x3 v5 σ c1 c2 c3 cv5 hσ h).weak (w_k (w_k (w_k (w_k (w_k (w_d w_n))))))
set_option maxHeartbeats 4000000 in
set_option maxRecDepth 100000 in
theorem t_X2_targets_l5 (E : Ev p s m args meth c cX2_targets 6 RX2 A0 D cA ad (NC b) Z) (hr : meth.sig.returnType = (some .int)) : ∀ (n : Nat) (x1 : Int) (x2 : Int) (x3 : Int) (x4 : Int) (σ : St), C32 x1 → C32 x2 → C32 x3 → C32 x4 → CanS (shC b) (NC b) σ → wp_X2_targets_l5 Q n x1 x2 x3 x4 σ → G p l e (rmL 2 0 0) s m args below meth c 6 A0 D cA ad (shC b) (NC b) 0 0 (MQ below (QIc D cA ad (shC b) (NC b) Q A0) args s 0 0 A0) σ 5 [some (.ref (ad 41)), some (vI x1), some (vI x2), some (vI x3), some (vI x4), none] [] := by
  intro n
  induction n with
  | zero => intro _ _ _ _ _ _ _ _ _ _ h; exact h.elim
  | succ n ih =>
    intro x1 x2 x3 x4 σ c1 c2 c3 c4 hσ h
    unfold wp_X2_targets_l5 at h
    refine g_iload_4 E dX2_targets_5 ?_
    refine g_aload_0 E dX2_targets_7 ?_
    refine g_getR E fl_RX2_15 (kC_41 b) (sC_41 b) rfl dX2_targets_8 ?_
    refine g_getI E fl_RX2_103 (kC_24 b) (sC_24 b) rfl dX2_targets_11 ?_
    refine g_icmp_ge E c4 (fC_24_12 hσ) djX2_targets_14 (fun hc => ?_) (fun hc => ?_)
    · replace h := h.1 hc
      refine g_iload_3 E dX2_targets_86 ?_
      exact g_iret E hr c3 h hσ dX2_targets_87
    · replace h := h.2 hc
      refine g_aload_0 E dX2_targets_17 ?_
      refine g_getR E fl_RX2_15 (kC_41 b) (sC_41 b) rfl dX2_targets_18 ?_
      refine g_getR E fl_RX2_106 (kC_24 b) (sC_24 b) rfl dX2_targets_21 ?_
      refine g_iload_4 E dX2_targets_24 ?_
      refine g_iald E (kC_33 b) (sC_33 b) (by decide) h.1 dX2_targets_26 ?_
      replace h := h.2
      refine g_nmI (fun v1 ev1 => ?_)
      replace h := h v1 ev1
      have cv1 : C32 v1 := by rw [ev1]; exact (aC_33 hσ _)
      refine g_istore_5 E rfl (by decide) dX2_targets_27 ?_
      refine g_aload_0 E dX2_targets_29 ?_
      refine g_getR E fl_RX2_9 (kC_41 b) (sC_41 b) rfl dX2_targets_30 ?_
      refine g_getR E fl_RX2_109 (kC_14 b) (sC_14 b) rfl dX2_targets_33 ?_
      refine g_iload_5 E dX2_targets_36 ?_
      refine g_iald E (kC_15 b) (sC_15 b) (by decide) h.1 dX2_targets_38 ?_
      replace h := h.2
      refine g_iload_2 E dX2_targets_39 ?_
      refine g_icmp_ne E (aC_15 hσ _) c2 djX2_targets_40 (fun hc => ?_) (fun hc => ?_)
      · replace h := h.1 hc
        exact (t_X2_targets_b80 E hr ih x1 x2 x3 x4 σ c1 c2 c3 c4 hσ h).weak (w_k (w_k (w_k (w_k (w_k (w_d w_n))))))
      · replace h := h.2 hc
        refine g_aload_0 E dX2_targets_43 ?_
        refine g_getR E fl_RX2_19 (kC_41 b) (sC_41 b) rfl dX2_targets_44 ?_
        refine g_iload_1 E dX2_targets_47 ?_
        refine g_aload_0 E dX2_targets_48 ?_
        refine g_getR E fl_RX2_9 (kC_41 b) (sC_41 b) rfl dX2_targets_49 ?_
        refine g_getR E fl_RX2_114 (kC_14 b) (sC_14 b) rfl dX2_targets_52 ?_
        refine g_iload_5 E dX2_targets_55 ?_
        refine g_iald E (kC_16 b) (sC_16 b) (by decide) h.1 dX2_targets_57 ?_
        replace h := h.2
        refine g_iadd E dX2_targets_58 ?_
        refine g_callvI E my_X1_has mi_X1_has msel_X1_has ml_RX2_115 (rm_ok (by decide) (by decide)) ⟨Nat.zero_le _, Nat.zero_le _⟩ (kC_36 b) (sC_36 b) rfl (m_X1_has E.2.2.1 (c32_w _) hσ h) rfl rfl (Nat.le_of_ble_eq_true rfl) dX2_targets_59 (fun r2 σ3 cr2 hσ3 h => ?_)
        refine g_if_eq E cr2 djX2_targets_62 (fun hc => ?_) (fun hc => ?_)
        · replace h := h.1 hc
          exact (t_X2_targets_b80 E hr ih x1 x2 x3 x4 σ3 c1 c2 c3 c4 hσ3 h).weak (w_k (w_k (w_k (w_k (w_k (w_d w_n))))))
        · replace h := h.2 hc
          refine g_iload_3 E dX2_targets_65 ?_
          refine g_iconst E dX2_targets_66 ?_
          refine g_aload_0 E dX2_targets_67 ?_
          refine g_getR E fl_RX2_9 (kC_41 b) (sC_41 b) rfl dX2_targets_68 ?_
          refine g_getR E fl_RX2_114 (kC_14 b) (sC_14 b) rfl dX2_targets_71 ?_
          refine g_iload_5 E dX2_targets_74 ?_
          refine g_iald E (kC_16 b) (sC_16 b) (by decide) h.1 dX2_targets_76 ?_
          replace h := h.2
          refine g_ishl E dX2_targets_77 ?_
          refine g_ior E dX2_targets_78 ?_
          refine g_nmI (fun v4 ev4 => ?_)
          replace h := h v4 ev4
          have cv4 : C32 v4 := by rw [ev4]; exact (c32_t _)
          refine g_istore_3 E rfl (by decide) dX2_targets_79 ?_
          exact (t_X2_targets_b80 E hr ih x1 x2 v4 x4 σ3 c1 c2 cv4 c4 hσ3 h).weak (w_k (w_k (w_k (w_k (w_k (w_d w_n))))))
set_option maxHeartbeats 4000000 in
set_option maxRecDepth 100000 in
theorem t_X2_targets (E : Ev p s m args meth c cX2_targets 6 RX2 A0 D cA ad (NC b) Z) (hr : meth.sig.returnType = (some .int)) (x1 : Int) (x2 : Int) (σ : St) (c1 : C32 x1) (c2 : C32 x2) (hσ : CanS (shC b) (NC b) σ) (h : wp_X2_targets x1 x2 σ Q) : G p l e (rmL 2 0 0) s m args below meth c 6 A0 D cA ad (shC b) (NC b) 0 0 (MQ below (QIc D cA ad (shC b) (NC b) Q A0) args s 0 0 A0) σ 0 [some (.ref (ad 41)), some (vI x1), some (vI x2), none, none, none] [] := by
  unfold wp_X2_targets at h
  refine g_iconst E dX2_targets_0 ?_
  refine g_istore_3 E rfl (by decide) dX2_targets_1 ?_
  refine g_iconst E dX2_targets_2 ?_
  refine g_istore_4 E rfl (by decide) dX2_targets_3 ?_
  exact (t_X2_targets_l5 E hr bigN x1 x2 0 0 σ c1 c2 cl_0 cl_0 hσ h).weak (w_k (w_k (w_k (w_k (w_k (w_d w_n))))))
end
theorem m_X2_targets {Z : (Nat → Nat) × (Nat → Nat)} {l : Launch} {D : va_G} {cA : Nat → ClassId} {ad : Nat → Nat} {b : Bool} {x1 x2 : Int} {σ : St} {Q : Int → St → Prop} (hA : AdOk (NC b) ad) (c1 : C32 x1) (c2 : C32 x2) (hσ : CanS (shC b) (NC b) σ) (h : wp_X2_targets x1 x2 σ Q) : KtI Z l D cA ad (shC b) (NC b) yX2_targets cX2_targets 6 (some .int) 2 [.ref (ad 41), vI x1, vI x2] σ Q :=
  KtI.of my_X2_targets hA [some (.ref (ad 41)), some (vI x1), some (vI x2), none, none, none] (Nat.le_of_ble_eq_true rfl) rfl (fun p e s m args below meth c A0 E hr => t_X2_targets E hr x1 x2 σ c1 c2 hσ h)
theorem dX2_labelsThatGoOn_0 : Dc cX2_labelsThatGoOn 0 (.iconst 0) 1 1 := ⟨by decide +kernel, rfl⟩
theorem dX2_labelsThatGoOn_1 : Dc cX2_labelsThatGoOn 1 (.istore_n 2) 1 2 := ⟨by decide +kernel, rfl⟩
theorem dX2_labelsThatGoOn_2 : Dc cX2_labelsThatGoOn 2 (.iconst 0) 1 3 := ⟨by decide +kernel, rfl⟩
theorem dX2_labelsThatGoOn_3 : Dc cX2_labelsThatGoOn 3 (.istore_n 3) 1 4 := ⟨by decide +kernel, rfl⟩
theorem dX2_labelsThatGoOn_4 : Dc cX2_labelsThatGoOn 4 (.iload_n 3) 1 5 := ⟨by decide +kernel, rfl⟩
theorem dX2_labelsThatGoOn_5 : Dc cX2_labelsThatGoOn 5 (.bipush 12) 2 7 := ⟨by decide +kernel, rfl⟩
theorem djX2_labelsThatGoOn_7 : Dj cX2_labelsThatGoOn 7 (.if_icmp .ge 24) 3 10 24 31 := ⟨by decide +kernel, rfl, by decide⟩
theorem dX2_labelsThatGoOn_10 : Dc cX2_labelsThatGoOn 10 (.aload_n 0) 1 11 := ⟨by decide +kernel, rfl⟩
theorem dX2_labelsThatGoOn_11 : Dc cX2_labelsThatGoOn 11 (.iload_n 1) 1 12 := ⟨by decide +kernel, rfl⟩
theorem dX2_labelsThatGoOn_12 : Dc cX2_labelsThatGoOn 12 (.iload_n 3) 1 13 := ⟨by decide +kernel, rfl⟩
theorem dX2_labelsThatGoOn_13 : Dc cX2_labelsThatGoOn 13 (.invokevirtual 66) 3 16 := ⟨by decide +kernel, rfl⟩
theorem djX2_labelsThatGoOn_16 : Dj cX2_labelsThatGoOn 16 (.ifCond .eq 9) 3 19 9 25 := ⟨by decide +kernel, rfl, by decide⟩
theorem dX2_labelsThatGoOn_19 : Dc cX2_labelsThatGoOn 19 (.iload_n 2) 1 20 := ⟨by decide +kernel, rfl⟩
theorem dX2_labelsThatGoOn_20 : Dc cX2_labelsThatGoOn 20 (.iconst 1) 1 21 := ⟨by decide +kernel, rfl⟩
theorem dX2_labelsThatGoOn_21 : Dc cX2_labelsThatGoOn 21 (.iload_n 3) 1 22 := ⟨by decide +kernel, rfl⟩
theorem dX2_labelsThatGoOn_22 : Dc cX2_labelsThatGoOn 22 (.ishl) 1 23 := ⟨by decide +kernel, rfl⟩
theorem dX2_labelsThatGoOn_23 : Dc cX2_labelsThatGoOn 23 (.ior) 1 24 := ⟨by decide +kernel, rfl⟩
theorem dX2_labelsThatGoOn_24 : Dc cX2_labelsThatGoOn 24 (.istore_n 2) 1 25 := ⟨by decide +kernel, rfl⟩
theorem dX2_labelsThatGoOn_25 : Dc cX2_labelsThatGoOn 25 (.iinc 3 1) 3 28 := ⟨by decide +kernel, rfl⟩
theorem djX2_labelsThatGoOn_28 : Dj cX2_labelsThatGoOn 28 (.goto (-24)) 3 31 (-24) 4 := ⟨by decide +kernel, rfl, by decide⟩
theorem dX2_labelsThatGoOn_31 : Dc cX2_labelsThatGoOn 31 (.iload_n 2) 1 32 := ⟨by decide +kernel, rfl⟩
theorem dX2_labelsThatGoOn_32 : Dc cX2_labelsThatGoOn 32 (.ireturn) 1 33 := ⟨by decide +kernel, rfl⟩
section
variable {p : Program} {l : Launch} {e : Env} {s : State} {m : MethodId} {args : Array Value} {below : List Frame} {meth : Method} {c : Code} {A0 : Nat → Prop} {D : va_G} {cA : Nat → ClassId} {ad : Nat → Nat} {Z : (Nat → Nat) × (Nat → Nat)} {Q : Int → St → Prop} {b : Bool}
set_option maxHeartbeats 4000000 in
set_option maxRecDepth 100000 in
theorem t_X2_labelsThatGoOn_b25 (E : Ev p s m args meth c cX2_labelsThatGoOn 4 RX2 A0 D cA ad (NC b) Z) (hr : meth.sig.returnType = (some .int)) {K4 : Int → Int → Int → St → Prop} (hK4 : ∀ (x1 : Int) (x2 : Int) (x3 : Int) (σ : St), C32 x1 → C32 x2 → C32 x3 → CanS (shC b) (NC b) σ → K4 x1 x2 x3 σ → G p l e (rmL 3 0 0) s m args below meth c 4 A0 D cA ad (shC b) (NC b) 0 0 (MQ below (QIc D cA ad (shC b) (NC b) Q A0) args s 0 0 A0) σ 4 [some (.ref (ad 41)), some (vI x1), some (vI x2), some (vI x3)] []) (x1 : Int) (x2 : Int) (x3 : Int) (σ : St) (c1 : C32 x1) (c2 : C32 x2) (c3 : C32 x3) (hσ : CanS (shC b) (NC b) σ) (h : wp_X2_labelsThatGoOn_b25 Q K4 x1 x2 x3 σ) : G p l e (rmL 3 0 0) s m args below meth c 4 A0 D cA ad (shC b) (NC b) 0 0 (MQ below (QIc D cA ad (shC b) (NC b) Q A0) args s 0 0 A0) σ 25 [some (.ref (ad 41)), some (vI x1), some (vI x2), some (vI x3)] [] := by
  unfold wp_X2_labelsThatGoOn_b25 at h
  refine g_iinc_3 E rfl (by decide) dX2_labelsThatGoOn_25 (fun v4 ev4 => ?_)
  replace h := h v4 ev4
  have cv4 : C32 v4 := by rw [ev4]; exact c32_w _
  refine g_goto E djX2_labelsThatGoOn_28 ?_
  exact (hK4 x1 x2 v4 σ c1 c2 cv4 hσ h).weak (w_k (w_k (w_k (w_k w_n))))
set_option maxHeartbeats 4000000 in
set_option maxRecDepth 100000 in
theorem t_X2_labelsThatGoOn_l4 (E : Ev p s m args meth c cX2_labelsThatGoOn 4 RX2 A0 D cA ad (NC b) Z) (hr : meth.sig.returnType = (some .int)) : ∀ (n : Nat) (x1 : Int) (x2 : Int) (x3 : Int) (σ : St), C32 x1 → C32 x2 → C32 x3 → CanS (shC b) (NC b) σ → wp_X2_labelsThatGoOn_l4 Q n x1 x2 x3 σ → G p l e (rmL 3 0 0) s m args below meth c 4 A0 D cA ad (shC b) (NC b) 0 0 (MQ below (QIc D cA ad (shC b) (NC b) Q A0) args s 0 0 A0) σ 4 [some (.ref (ad 41)), some (vI x1), some (vI x2), some (vI x3)] [] := by
  intro n
  induction n with
  | zero => intro _ _ _ _ _ _ _ _ h; exact h.elim
  | succ n ih =>
    intro x1 x2 x3 σ c1 c2 c3 hσ h
    unfold wp_X2_labelsThatGoOn_l4 at h
    refine g_iload_3 E dX2_labelsThatGoOn_4 ?_
    refine g_bipush E (by decide) dX2_labelsThatGoOn_5 ?_
    refine g_icmp_ge E c3 cl_12 djX2_labelsThatGoOn_7 (fun hc => ?_) (fun hc => ?_)
    · replace h := h.1 hc
      refine g_iload_2 E dX2_labelsThatGoOn_31 ?_
      exact g_iret E hr c2 h hσ dX2_labelsThatGoOn_32
    · replace h := h.2 hc
      refine g_aload_0 E dX2_labelsThatGoOn_10 ?_
      refine g_iload_1 E dX2_labelsThatGoOn_11 ?_
      refine g_iload_3 E dX2_labelsThatGoOn_12 ?_
      refine g_callvI E my_X2_targets mi_X2_targets msel_X2_targets ml_RX2_66 (rm_ok (by decide) (by decide)) ⟨Nat.zero_le _, Nat.zero_le _⟩ (kC_41 b) (sC_41 b) rfl (m_X2_targets E.2.2.1 c1 c3 hσ h) rfl rfl (Nat.le_of_ble_eq_true rfl) dX2_labelsThatGoOn_13 (fun r1 σ2 cr1 hσ2 h => ?_)
      refine g_if_eq E cr1 djX2_labelsThatGoOn_16 (fun hc => ?_) (fun hc => ?_)
      · replace h := h.1 hc
        exact (t_X2_labelsThatGoOn_b25 E hr ih x1 x2 x3 σ2 c1 c2 c3 hσ2 h).weak (w_k (w_k (w_k (w_k w_n))))
      · replace h := h.2 hc
        refine g_iload_2 E dX2_labelsThatGoOn_19 ?_
        refine g_iconst E dX2_labelsThatGoOn_20 ?_
        refine g_iload_3 E dX2_labelsThatGoOn_21 ?_
        refine g_ishl E dX2_labelsThatGoOn_22 ?_
        refine g_ior E dX2_labelsThatGoOn_23 ?_
        refine g_nmI (fun v3 ev3 => ?_)
        replace h := h v3 ev3
        have cv3 : C32 v3 := by rw [ev3]; exact (c32_t _)
        refine g_istore_2 E rfl (by decide) dX2_labelsThatGoOn_24 ?_
        exact (t_X2_labelsThatGoOn_b25 E hr ih x1 v3 x3 σ2 c1 cv3 c3 hσ2 h).weak (w_k (w_k (w_k (w_k w_n))))
set_option maxHeartbeats 4000000 in
set_option maxRecDepth 100000 in
theorem t_X2_labelsThatGoOn (E : Ev p s m args meth c cX2_labelsThatGoOn 4 RX2 A0 D cA ad (NC b) Z) (hr : meth.sig.returnType = (some .int)) (x1 : Int) (σ : St) (c1 : C32 x1) (hσ : CanS (shC b) (NC b) σ) (h : wp_X2_labelsThatGoOn x1 σ Q) : G p l e (rmL 3 0 0) s m args below meth c 4 A0 D cA ad (shC b) (NC b) 0 0 (MQ below (QIc D cA ad (shC b) (NC b) Q A0) args s 0 0 A0) σ 0 [some (.ref (ad 41)), some (vI x1), none, none] [] := by
  unfold wp_X2_labelsThatGoOn at h
  refine g_iconst E dX2_labelsThatGoOn_0 ?_
  refine g_istore_2 E rfl (by decide) dX2_labelsThatGoOn_1 ?_
  refine g_iconst E dX2_labelsThatGoOn_2 ?_
  refine g_istore_3 E rfl (by decide) dX2_labelsThatGoOn_3 ?_
  exact (t_X2_labelsThatGoOn_l4 E hr bigN x1 0 0 σ c1 cl_0 cl_0 hσ h).weak (w_k (w_k (w_k (w_k w_n))))
end
theorem m_X2_labelsThatGoOn {Z : (Nat → Nat) × (Nat → Nat)} {l : Launch} {D : va_G} {cA : Nat → ClassId} {ad : Nat → Nat} {b : Bool} {x1 : Int} {σ : St} {Q : Int → St → Prop} (hA : AdOk (NC b) ad) (c1 : C32 x1) (hσ : CanS (shC b) (NC b) σ) (h : wp_X2_labelsThatGoOn x1 σ Q) : KtI Z l D cA ad (shC b) (NC b) yX2_labelsThatGoOn cX2_labelsThatGoOn 4 (some .int) 3 [.ref (ad 41), vI x1] σ Q :=
  KtI.of my_X2_labelsThatGoOn hA [some (.ref (ad 41)), some (vI x1), none, none] (Nat.le_of_ble_eq_true rfl) rfl (fun p e s m args below meth c A0 E hr => t_X2_labelsThatGoOn E hr x1 σ c1 hσ h)
theorem dX1_isFull_0 : Dc cX1_isFull 0 (.aload_n 0) 1 1 := ⟨by decide +kernel, rfl⟩
theorem dX1_isFull_1 : Dc cX1_isFull 1 (.getfield 15) 3 4 := ⟨by decide +kernel, rfl⟩
theorem dX1_isFull_4 : Dc cX1_isFull 4 (.getfield 80) 3 7 := ⟨by decide +kernel, rfl⟩
theorem dX1_isFull_7 : Dc cX1_isFull 7 (.iload_n 1) 1 8 := ⟨by decide +kernel, rfl⟩
theorem dX1_isFull_8 : Dc cX1_isFull 8 (.iaload) 1 9 := ⟨by decide +kernel, rfl⟩
theorem dX1_isFull_9 : Dc cX1_isFull 9 (.istore_n 2) 1 10 := ⟨by decide +kernel, rfl⟩
theorem dX1_isFull_10 : Dc cX1_isFull 10 (.aload_n 0) 1 11 := ⟨by decide +kernel, rfl⟩
theorem dX1_isFull_11 : Dc cX1_isFull 11 (.getfield 15) 3 14 := ⟨by decide +kernel, rfl⟩
theorem dX1_isFull_14 : Dc cX1_isFull 14 (.getfield 83) 3 17 := ⟨by decide +kernel, rfl⟩
theorem dX1_isFull_17 : Dc cX1_isFull 17 (.iload_n 1) 1 18 := ⟨by decide +kernel, rfl⟩
theorem dX1_isFull_18 : Dc cX1_isFull 18 (.iaload) 1 19 := ⟨by decide +kernel, rfl⟩
theorem dX1_isFull_19 : Dc cX1_isFull 19 (.istore_n 3) 1 20 := ⟨by decide +kernel, rfl⟩
theorem dX1_isFull_20 : Dc cX1_isFull 20 (.iload_n 2) 1 21 := ⟨by decide +kernel, rfl⟩
theorem djX1_isFull_21 : Dj cX1_isFull 21 (.ifCond .lt 11) 3 24 11 32 := ⟨by decide +kernel, rfl, by decide⟩
theorem dX1_isFull_24 : Dc cX1_isFull 24 (.aload_n 0) 1 25 := ⟨by decide +kernel, rfl⟩
theorem dX1_isFull_25 : Dc cX1_isFull 25 (.iload_n 2) 1 26 := ⟨by decide +kernel, rfl⟩
theorem dX1_isFull_26 : Dc cX1_isFull 26 (.invokevirtual 114) 3 29 := ⟨by decide +kernel, rfl⟩
theorem djX1_isFull_29 : Dj cX1_isFull 29 (.ifCond .eq 19) 3 32 19 48 := ⟨by decide +kernel, rfl, by decide⟩
theorem dX1_isFull_32 : Dc cX1_isFull 32 (.iload_n 3) 1 33 := ⟨by decide +kernel, rfl⟩
theorem djX1_isFull_33 : Dj cX1_isFull 33 (.ifCond .lt 11) 3 36 11 44 := ⟨by decide +kernel, rfl, by decide⟩
theorem dX1_isFull_36 : Dc cX1_isFull 36 (.aload_n 0) 1 37 := ⟨by decide +kernel, rfl⟩
theorem dX1_isFull_37 : Dc cX1_isFull 37 (.iload_n 3) 1 38 := ⟨by decide +kernel, rfl⟩
theorem dX1_isFull_38 : Dc cX1_isFull 38 (.invokevirtual 114) 3 41 := ⟨by decide +kernel, rfl⟩
theorem djX1_isFull_41 : Dj cX1_isFull 41 (.ifCond .eq 7) 3 44 7 48 := ⟨by decide +kernel, rfl, by decide⟩
theorem dX1_isFull_44 : Dc cX1_isFull 44 (.iconst 1) 1 45 := ⟨by decide +kernel, rfl⟩
theorem djX1_isFull_45 : Dj cX1_isFull 45 (.goto 4) 3 48 4 49 := ⟨by decide +kernel, rfl, by decide⟩
theorem dX1_isFull_48 : Dc cX1_isFull 48 (.iconst 0) 1 49 := ⟨by decide +kernel, rfl⟩
theorem dX1_isFull_49 : Dc cX1_isFull 49 (.ireturn) 1 50 := ⟨by decide +kernel, rfl⟩
section
variable {p : Program} {l : Launch} {e : Env} {s : State} {m : MethodId} {args : Array Value} {below : List Frame} {meth : Method} {c : Code} {A0 : Nat → Prop} {D : va_G} {cA : Nat → ClassId} {ad : Nat → Nat} {Z : (Nat → Nat) × (Nat → Nat)} {Q : Int → St → Prop} {b : Bool}
set_option maxHeartbeats 4000000 in
set_option maxRecDepth 100000 in
theorem t_X1_isFull_b44 (E : Ev p s m args meth c cX1_isFull 4 RX1 A0 D cA ad (NC b) Z) (hr : meth.sig.returnType = (some .boolean)) (σ : St) (hσ : CanS (shC b) (NC b) σ) (h : wp_X1_isFull_b44 Q  σ) : G p l e (rmL 2 0 0) s m args below meth c 4 A0 D cA ad (shC b) (NC b) 0 0 (MQ below (QIc D cA ad (shC b) (NC b) Q A0) args s 0 0 A0) σ 44 [none, none, none, none] [] := by
  unfold wp_X1_isFull_b44 at h
  refine g_iconst E dX1_isFull_44 ?_
  refine g_goto E djX1_isFull_45 ?_
  exact g_zret E hr (Or.inr rfl) h hσ dX1_isFull_49
set_option maxHeartbeats 4000000 in
set_option maxRecDepth 100000 in
theorem t_X1_isFull_b48 (E : Ev p s m args meth c cX1_isFull 4 RX1 A0 D cA ad (NC b) Z) (hr : meth.sig.returnType = (some .boolean)) (σ : St) (hσ : CanS (shC b) (NC b) σ) (h : wp_X1_isFull_b48 Q  σ) : G p l e (rmL 2 0 0) s m args below meth c 4 A0 D cA ad (shC b) (NC b) 0 0 (MQ below (QIc D cA ad (shC b) (NC b) Q A0) args s 0 0 A0) σ 48 [none, none, none, none] [] := by
  unfold wp_X1_isFull_b48 at h
  refine g_iconst E dX1_isFull_48 ?_
  exact g_zret E hr (Or.inl rfl) h hσ dX1_isFull_49
set_option maxHeartbeats 4000000 in
set_option maxRecDepth 100000 in
theorem t_X1_isFull_b32 (E : Ev p s m args meth c cX1_isFull 4 RX1 A0 D cA ad (NC b) Z) (hr : meth.sig.returnType = (some .boolean)) (x3 : Int) (σ : St) (c3 : C32 x3) (hσ : CanS (shC b) (NC b) σ) (h : wp_X1_isFull_b32 Q x3 σ) : G p l e (rmL 2 0 0) s m args below meth c 4 A0 D cA ad (shC b) (NC b) 0 0 (MQ below (QIc D cA ad (shC b) (NC b) Q A0) args s 0 0 A0) σ 32 [some (.ref (ad 36)), none, none, some (vI x3)] [] := by
  unfold wp_X1_isFull_b32 at h
  refine g_iload_3 E dX1_isFull_32 ?_
  refine g_if_lt E c3 djX1_isFull_33 (fun hc => ?_) (fun hc => ?_)
  · replace h := h.1 hc
    exact (t_X1_isFull_b44 E hr σ hσ h).weak (w_d (w_d (w_d (w_d w_n))))
  · replace h := h.2 hc
    refine g_aload_0 E dX1_isFull_36 ?_
    refine g_iload_3 E dX1_isFull_37 ?_
    refine g_callvI E my_X1_has mi_X1_has msel_X1_has ml_RX1_114 (rm_ok (by decide) (by decide)) ⟨Nat.zero_le _, Nat.zero_le _⟩ (kC_36 b) (sC_36 b) rfl (m_X1_has E.2.2.1 c3 hσ h) rfl rfl (Nat.le_of_ble_eq_true rfl) dX1_isFull_38 (fun r5 σ6 cr5 hσ6 h => ?_)
    refine g_if_eq E cr5 djX1_isFull_41 (fun hc => ?_) (fun hc => ?_)
    · replace h := h.1 hc
      exact (t_X1_isFull_b48 E hr σ6 hσ6 h).weak (w_d (w_d (w_d (w_d w_n))))
    · replace h := h.2 hc
      exact (t_X1_isFull_b44 E hr σ6 hσ6 h).weak (w_d (w_d (w_d (w_d w_n))))
set_option maxHeartbeats 4000000 in
set_option maxRecDepth 100000 in
theorem t_X1_isFull (E : Ev p s m args meth c cX1_isFull 4 RX1 A0 D cA ad (NC b) Z) (hr : meth.sig.returnType = (some .boolean)) (x1 : Int) (σ : St) (c1 : C32 x1) (hσ : CanS (shC b) (NC b) σ) (h : wp_X1_isFull x1 σ Q) : G p l e (rmL 2 0 0) s m args below meth c 4 A0 D cA ad (shC b) (NC b) 0 0 (MQ below (QIc D cA ad (shC b) (NC b) Q A0) args s 0 0 A0) σ 0 [some (.ref (ad 36)), some (vI x1), none, none] [] := by
  unfold wp_X1_isFull at h
  refine g_aload_0 E dX1_isFull_0 ?_
  refine g_getR E fl_RX1_15 (kC_36 b) (sC_36 b) rfl dX1_isFull_1 ?_
  refine g_getR E fl_RX1_80 (kC_24 b) (sC_24 b) rfl dX1_isFull_4 ?_
  refine g_iload_1 E dX1_isFull_7 ?_
  refine g_iald E (kC_31 b) (sC_31 b) (by decide) h.1 dX1_isFull_8 ?_
  replace h := h.2
  refine g_nmI (fun v1 ev1 => ?_)
  replace h := h v1 ev1
  have cv1 : C32 v1 := by rw [ev1]; exact (aC_31 hσ _)
  refine g_istore_2 E rfl (by decide) dX1_isFull_9 ?_
  refine g_aload_0 E dX1_isFull_10 ?_
  refine g_getR E fl_RX1_15 (kC_36 b) (sC_36 b) rfl dX1_isFull_11 ?_
  refine g_getR E fl_RX1_83 (kC_24 b) (sC_24 b) rfl dX1_isFull_14 ?_
  refine g_iload_1 E dX1_isFull_17 ?_
  refine g_iald E (kC_32 b) (sC_32 b) (by decide) h.1 dX1_isFull_18 ?_
  replace h := h.2
  refine g_nmI (fun v2 ev2 => ?_)
  replace h := h v2 ev2
  have cv2 : C32 v2 := by rw [ev2]; exact (aC_32 hσ _)
  refine g_istore_3 E rfl (by decide) dX1_isFull_19 ?_
  refine g_iload_2 E dX1_isFull_20 ?_
  refine g_if_lt E cv1 djX1_isFull_21 (fun hc => ?_) (fun hc => ?_)
  · replace h := h.1 hc
    exact (t_X1_isFull_b32 E hr v2 σ cv2 hσ h).weak (w_k (w_d (w_d (w_k w_n))))
  · replace h := h.2 hc
    refine g_aload_0 E dX1_isFull_24 ?_
    refine g_iload_2 E dX1_isFull_25 ?_
    refine g_callvI E my_X1_has mi_X1_has msel_X1_has ml_RX1_114 (rm_ok (by decide) (by decide)) ⟨Nat.zero_le _, Nat.zero_le _⟩ (kC_36 b) (sC_36 b) rfl (m_X1_has E.2.2.1 cv1 hσ h) rfl rfl (Nat.le_of_ble_eq_true rfl) dX1_isFull_26 (fun r3 σ4 cr3 hσ4 h => ?_)
    refine g_if_eq E cr3 djX1_isFull_29 (fun hc => ?_) (fun hc => ?_)
    · replace h := h.1 hc
      exact (t_X1_isFull_b48 E hr σ4 hσ4 h).weak (w_d (w_d (w_d (w_d w_n))))
    · replace h := h.2 hc
      exact (t_X1_isFull_b32 E hr v2 σ4 cv2 hσ4 h).weak (w_k (w_d (w_d (w_k w_n))))
end
theorem m_X1_isFull {Z : (Nat → Nat) × (Nat → Nat)} {l : Launch} {D : va_G} {cA : Nat → ClassId} {ad : Nat → Nat} {b : Bool} {x1 : Int} {σ : St} {Q : Int → St → Prop} (hA : AdOk (NC b) ad) (c1 : C32 x1) (hσ : CanS (shC b) (NC b) σ) (h : wp_X1_isFull x1 σ Q) : KtI Z l D cA ad (shC b) (NC b) yX1_isFull cX1_isFull 4 (some .boolean) 2 [.ref (ad 36), vI x1] σ Q :=
  KtI.of my_X1_isFull hA [some (.ref (ad 36)), some (vI x1), none, none] (Nat.le_of_ble_eq_true rfl) rfl (fun p e s m args below meth c A0 E hr => t_X1_isFull E hr x1 σ c1 hσ h)
theorem dX8_multiply_0 : Dc cX8_multiply 0 (.lload_n 0) 1 1 := ⟨by decide +kernel, rfl⟩
theorem dX8_multiply_1 : Dc cX8_multiply 1 (.lconst 0) 1 2 := ⟨by decide +kernel, rfl⟩
theorem dX8_multiply_2 : Dc cX8_multiply 2 (.lcmp) 1 3 := ⟨by decide +kernel, rfl⟩
theorem djX8_multiply_3 : Dj cX8_multiply 3 (.ifCond .eq 9) 3 6 9 12 := ⟨by decide +kernel, rfl, by decide⟩
theorem dX8_multiply_6 : Dc cX8_multiply 6 (.lload_n 2) 1 7 := ⟨by decide +kernel, rfl⟩
theorem dX8_multiply_7 : Dc cX8_multiply 7 (.lconst 0) 1 8 := ⟨by decide +kernel, rfl⟩
theorem dX8_multiply_8 : Dc cX8_multiply 8 (.lcmp) 1 9 := ⟨by decide +kernel, rfl⟩
theorem djX8_multiply_9 : Dj cX8_multiply 9 (.ifCond .ne 5) 3 12 5 14 := ⟨by decide +kernel, rfl, by decide⟩
theorem dX8_multiply_12 : Dc cX8_multiply 12 (.lconst 0) 1 13 := ⟨by decide +kernel, rfl⟩
theorem dX8_multiply_13 : Dc cX8_multiply 13 (.lreturn) 1 14 := ⟨by decide +kernel, rfl⟩
theorem dX8_multiply_14 : Dc cX8_multiply 14 (.lload_n 0) 1 15 := ⟨by decide +kernel, rfl⟩
theorem dX8_multiply_15 : Dc cX8_multiply 15 (.ldc2_w 122) 3 18 := ⟨by decide +kernel, rfl⟩
theorem dX8_multiply_18 : Dc cX8_multiply 18 (.lcmp) 1 19 := ⟨by decide +kernel, rfl⟩
theorem djX8_multiply_19 : Dj cX8_multiply 19 (.ifCond .ge 29) 3 22 29 48 := ⟨by decide +kernel, rfl, by decide⟩
theorem dX8_multiply_22 : Dc cX8_multiply 22 (.lload_n 2) 1 23 := ⟨by decide +kernel, rfl⟩
theorem dX8_multiply_23 : Dc cX8_multiply 23 (.ldc2_w 122) 3 26 := ⟨by decide +kernel, rfl⟩
theorem dX8_multiply_26 : Dc cX8_multiply 26 (.lcmp) 1 27 := ⟨by decide +kernel, rfl⟩
theorem djX8_multiply_27 : Dj cX8_multiply 27 (.ifCond .ge 21) 3 30 21 48 := ⟨by decide +kernel, rfl, by decide⟩
theorem dX8_multiply_30 : Dc cX8_multiply 30 (.lload_n 0) 1 31 := ⟨by decide +kernel, rfl⟩
theorem dX8_multiply_31 : Dc cX8_multiply 31 (.lload_n 2) 1 32 := ⟨by decide +kernel, rfl⟩
theorem dX8_multiply_32 : Dc cX8_multiply 32 (.lmul) 1 33 := ⟨by decide +kernel, rfl⟩
theorem dX8_multiply_33 : Dc cX8_multiply 33 (.ldc2_w 77) 3 36 := ⟨by decide +kernel, rfl⟩
theorem dX8_multiply_36 : Dc cX8_multiply 36 (.lcmp) 1 37 := ⟨by decide +kernel, rfl⟩
theorem djX8_multiply_37 : Dj cX8_multiply 37 (.ifCond .ge 7) 3 40 7 44 := ⟨by decide +kernel, rfl, by decide⟩
theorem dX8_multiply_40 : Dc cX8_multiply 40 (.iconst 1) 1 41 := ⟨by decide +kernel, rfl⟩
theorem djX8_multiply_41 : Dj cX8_multiply 41 (.goto 22) 3 44 22 63 := ⟨by decide +kernel, rfl, by decide⟩
theorem dX8_multiply_44 : Dc cX8_multiply 44 (.iconst 0) 1 45 := ⟨by decide +kernel, rfl⟩
theorem djX8_multiply_45 : Dj cX8_multiply 45 (.goto 18) 3 48 18 63 := ⟨by decide +kernel, rfl, by decide⟩
theorem dX8_multiply_48 : Dc cX8_multiply 48 (.lload_n 0) 1 49 := ⟨by decide +kernel, rfl⟩
theorem dX8_multiply_49 : Dc cX8_multiply 49 (.ldc2_w 77) 3 52 := ⟨by decide +kernel, rfl⟩
theorem dX8_multiply_52 : Dc cX8_multiply 52 (.lload_n 2) 1 53 := ⟨by decide +kernel, rfl⟩
theorem dX8_multiply_53 : Dc cX8_multiply 53 (.ldiv) 1 54 := ⟨by decide +kernel, rfl⟩
theorem dX8_multiply_54 : Dc cX8_multiply 54 (.lcmp) 1 55 := ⟨by decide +kernel, rfl⟩
theorem djX8_multiply_55 : Dj cX8_multiply 55 (.ifCond .gt 7) 3 58 7 62 := ⟨by decide +kernel, rfl, by decide⟩
theorem dX8_multiply_58 : Dc cX8_multiply 58 (.iconst 1) 1 59 := ⟨by decide +kernel, rfl⟩
theorem djX8_multiply_59 : Dj cX8_multiply 59 (.goto 4) 3 62 4 63 := ⟨by decide +kernel, rfl, by decide⟩
theorem dX8_multiply_62 : Dc cX8_multiply 62 (.iconst 0) 1 63 := ⟨by decide +kernel, rfl⟩
theorem dX8_multiply_63 : Dc cX8_multiply 63 (.istore 4) 2 65 := ⟨by decide +kernel, rfl⟩
theorem dX8_multiply_65 : Dc cX8_multiply 65 (.iload 4) 2 67 := ⟨by decide +kernel, rfl⟩
theorem djX8_multiply_67 : Dj cX8_multiply 67 (.ifCond .eq 9) 3 70 9 76 := ⟨by decide +kernel, rfl, by decide⟩
theorem dX8_multiply_70 : Dc cX8_multiply 70 (.lload_n 0) 1 71 := ⟨by decide +kernel, rfl⟩
theorem dX8_multiply_71 : Dc cX8_multiply 71 (.lload_n 2) 1 72 := ⟨by decide +kernel, rfl⟩
theorem dX8_multiply_72 : Dc cX8_multiply 72 (.lmul) 1 73 := ⟨by decide +kernel, rfl⟩
theorem djX8_multiply_73 : Dj cX8_multiply 73 (.goto 6) 3 76 6 79 := ⟨by decide +kernel, rfl, by decide⟩
theorem dX8_multiply_76 : Dc cX8_multiply 76 (.ldc2_w 77) 3 79 := ⟨by decide +kernel, rfl⟩
theorem dX8_multiply_79 : Dc cX8_multiply 79 (.lreturn) 1 80 := ⟨by decide +kernel, rfl⟩
section
variable {p : Program} {l : Launch} {e : Env} {s : State} {m : MethodId} {args : Array Value} {below : List Frame} {meth : Method} {c : Code} {A0 : Nat → Prop} {D : va_G} {cA : Nat → ClassId} {ad : Nat → Nat} {Z : (Nat → Nat) × (Nat → Nat)} {Q : Int → St → Prop} {b : Bool}
set_option maxHeartbeats 4000000 in
set_option maxRecDepth 100000 in
theorem t_X8_multiply_b63 (E : Ev p s m args meth c cX8_multiply 5 RX8 A0 D cA ad (NC b) Z) (hr : meth.sig.returnType = (some .long)) (x0 : Int) (x2 : Int) (s0 : Int) (σ : St) (c0 : C64 x0) (c2 : C64 x2) (cs0 : C32 s0) (hσ : CanS (shC b) (NC b) σ) (h : wp_X8_multiply_b63 Q x0 x2 s0 σ) : G p l e (rmL 1 0 0) s m args below meth c 5 A0 D cA ad (shC b) (NC b) 0 0 (MQ below (QLc D cA ad (shC b) (NC b) Q A0) args s 0 0 A0) σ 63 [some (vL x0), none, some (vL x2), none, none] [vI s0] := by
  unfold wp_X8_multiply_b63 at h
  refine g_istore_4 E rfl (by decide) dX8_multiply_63 ?_
  refine g_iload_4 E dX8_multiply_65 ?_
  refine g_if_eq E cs0 djX8_multiply_67 (fun hc => ?_) (fun hc => ?_)
  · replace h := h.1 hc
    refine g_ldc2 (n := 1000000000000001) E wc_RX8_77 dX8_multiply_76 ?_
    exact g_lret E hr cL_1000000000000001 h hσ dX8_multiply_79
  · replace h := h.2 hc
    refine g_lload_0 E dX8_multiply_70 ?_
    refine g_lload_2 E dX8_multiply_71 ?_
    refine g_lmul E dX8_multiply_72 ?_
    refine g_goto E djX8_multiply_73 ?_
    exact g_lret E hr (c64_w _) h hσ dX8_multiply_79
set_option maxHeartbeats 4000000 in
set_option maxRecDepth 100000 in
theorem t_X8_multiply_b48 (E : Ev p s m args meth c cX8_multiply 5 RX8 A0 D cA ad (NC b) Z) (hr : meth.sig.returnType = (some .long)) (x0 : Int) (x2 : Int) (σ : St) (c0 : C64 x0) (c2 : C64 x2) (hσ : CanS (shC b) (NC b) σ) (h : wp_X8_multiply_b48 Q x0 x2 σ) : G p l e (rmL 1 0 0) s m args below meth c 5 A0 D cA ad (shC b) (NC b) 0 0 (MQ below (QLc D cA ad (shC b) (NC b) Q A0) args s 0 0 A0) σ 48 [some (vL x0), none, some (vL x2), none, none] [] := by
  unfold wp_X8_multiply_b48 at h
  refine g_lload_0 E dX8_multiply_48 ?_
  refine g_ldc2 (n := 1000000000000001) E wc_RX8_77 dX8_multiply_49 ?_
  refine g_lload_2 E dX8_multiply_52 ?_
  refine g_ldiv E c2 h.1 dX8_multiply_53 ?_
  replace h := h.2
  refine g_lcmp_gt E c0 (c64_t _) dX8_multiply_54 djX8_multiply_55 (fun hc => ?_) (fun hc => ?_)
  · replace h := h.1 hc
    refine g_iconst E dX8_multiply_62 ?_
    exact (t_X8_multiply_b63 E hr x0 x2 0 σ c0 c2 cl_0 hσ h).weak (w_k (w_d (w_k (w_d (w_d w_n)))))
  · replace h := h.2 hc
    refine g_iconst E dX8_multiply_58 ?_
    refine g_goto E djX8_multiply_59 ?_
    exact (t_X8_multiply_b63 E hr x0 x2 1 σ c0 c2 cl_1 hσ h).weak (w_k (w_d (w_k (w_d (w_d w_n)))))
set_option maxHeartbeats 4000000 in
set_option maxRecDepth 100000 in
theorem t_X8_multiply (E : Ev p s m args meth c cX8_multiply 5 RX8 A0 D cA ad (NC b) Z) (hr : meth.sig.returnType = (some .long)) (x0 : Int) (x2 : Int) (σ : St) (c0 : C64 x0) (c2 : C64 x2) (hσ : CanS (shC b) (NC b) σ) (h : wp_X8_multiply x0 x2 σ Q) : G p l e (rmL 1 0 0) s m args below meth c 5 A0 D cA ad (shC b) (NC b) 0 0 (MQ below (QLc D cA ad (shC b) (NC b) Q A0) args s 0 0 A0) σ 0 [some (vL x0), none, some (vL x2), none, none] [] := by
  unfold wp_X8_multiply at h
  refine g_lload_0 E dX8_multiply_0 ?_
  refine g_lconst (n := 0) E (by decide) dX8_multiply_1 ?_
  refine g_lcmp_eq E c0 cL_0 dX8_multiply_2 djX8_multiply_3 (fun hc => ?_) (fun hc => ?_)
  · replace h := h.1 hc
    refine g_lconst (n := 0) E (by decide) dX8_multiply_12 ?_
    exact g_lret E hr cL_0 h hσ dX8_multiply_13
  · replace h := h.2 hc
    refine g_lload_2 E dX8_multiply_6 ?_
    refine g_lconst (n := 0) E (by decide) dX8_multiply_7 ?_
    refine g_lcmp_ne E c2 cL_0 dX8_multiply_8 djX8_multiply_9 (fun hc => ?_) (fun hc => ?_)
    · replace h := h.1 hc
      refine g_lload_0 E dX8_multiply_14 ?_
      refine g_ldc2 (n := 2147483648) E wc_RX8_122 dX8_multiply_15 ?_
      refine g_lcmp_ge E c0 cL_2147483648 dX8_multiply_18 djX8_multiply_19 (fun hc => ?_) (fun hc => ?_)
      · replace h := h.1 hc
        exact (t_X8_multiply_b48 E hr x0 x2 σ c0 c2 hσ h).weak (w_k (w_d (w_k (w_d (w_d w_n)))))
      · replace h := h.2 hc
        refine g_lload_2 E dX8_multiply_22 ?_
        refine g_ldc2 (n := 2147483648) E wc_RX8_122 dX8_multiply_23 ?_
        refine g_lcmp_ge E c2 cL_2147483648 dX8_multiply_26 djX8_multiply_27 (fun hc => ?_) (fun hc => ?_)
        · replace h := h.1 hc
          exact (t_X8_multiply_b48 E hr x0 x2 σ c0 c2 hσ h).weak (w_k (w_d (w_k (w_d (w_d w_n)))))
        · replace h := h.2 hc
          refine g_lload_0 E dX8_multiply_30 ?_
          refine g_lload_2 E dX8_multiply_31 ?_
          refine g_lmul E dX8_multiply_32 ?_
          refine g_ldc2 (n := 1000000000000001) E wc_RX8_77 dX8_multiply_33 ?_
          refine g_lcmp_ge E (c64_w _) cL_1000000000000001 dX8_multiply_36 djX8_multiply_37 (fun hc => ?_) (fun hc => ?_)
          · replace h := h.1 hc
            refine g_iconst E dX8_multiply_44 ?_
            refine g_goto E djX8_multiply_45 ?_
            exact (t_X8_multiply_b63 E hr x0 x2 0 σ c0 c2 cl_0 hσ h).weak (w_k (w_d (w_k (w_d (w_d w_n)))))
          · replace h := h.2 hc
            refine g_iconst E dX8_multiply_40 ?_
            refine g_goto E djX8_multiply_41 ?_
            exact (t_X8_multiply_b63 E hr x0 x2 1 σ c0 c2 cl_1 hσ h).weak (w_k (w_d (w_k (w_d (w_d w_n)))))
    · replace h := h.2 hc
      refine g_lconst (n := 0) E (by decide) dX8_multiply_12 ?_
      exact g_lret E hr cL_0 h hσ dX8_multiply_13
end
theorem m_X8_multiply {Z : (Nat → Nat) × (Nat → Nat)} {l : Launch} {D : va_G} {cA : Nat → ClassId} {ad : Nat → Nat} {b : Bool} {x0 x2 : Int} {σ : St} {Q : Int → St → Prop} (hA : AdOk (NC b) ad) (c0 : C64 x0) (c2 : C64 x2) (hσ : CanS (shC b) (NC b) σ) (h : wp_X8_multiply x0 x2 σ Q) : KtL Z l D cA ad (shC b) (NC b) yX8_multiply cX8_multiply 5 (some .long) 1 [vL x0, vL x2] σ Q :=
  KtL.of my_X8_multiply hA [some (vL x0), none, some (vL x2), none, none] (Nat.le_of_ble_eq_true rfl) rfl (fun p e s m args below meth c A0 E hr => t_X8_multiply E hr x0 x2 σ c0 c2 hσ h)
theorem dX2_endlessProduct_0 : Dc cX2_endlessProduct 0 (.lload_n 0) 1 1 := ⟨by decide +kernel, rfl⟩
theorem dX2_endlessProduct_1 : Dc cX2_endlessProduct 1 (.ldc2_w 74) 3 4 := ⟨by decide +kernel, rfl⟩
theorem dX2_endlessProduct_4 : Dc cX2_endlessProduct 4 (.lcmp) 1 5 := ⟨by decide +kernel, rfl⟩
theorem djX2_endlessProduct_5 : Dj cX2_endlessProduct 5 (.ifCond .eq 11) 3 8 11 16 := ⟨by decide +kernel, rfl, by decide⟩
theorem dX2_endlessProduct_8 : Dc cX2_endlessProduct 8 (.lload_n 2) 1 9 := ⟨by decide +kernel, rfl⟩
theorem dX2_endlessProduct_9 : Dc cX2_endlessProduct 9 (.ldc2_w 74) 3 12 := ⟨by decide +kernel, rfl⟩
theorem dX2_endlessProduct_12 : Dc cX2_endlessProduct 12 (.lcmp) 1 13 := ⟨by decide +kernel, rfl⟩
theorem djX2_endlessProduct_13 : Dj cX2_endlessProduct 13 (.ifCond .ne 9) 3 16 9 22 := ⟨by decide +kernel, rfl, by decide⟩
theorem dX2_endlessProduct_16 : Dc cX2_endlessProduct 16 (.ldc2_w 74) 3 19 := ⟨by decide +kernel, rfl⟩
theorem djX2_endlessProduct_19 : Dj cX2_endlessProduct 19 (.goto 8) 3 22 8 27 := ⟨by decide +kernel, rfl, by decide⟩
theorem dX2_endlessProduct_22 : Dc cX2_endlessProduct 22 (.lload_n 0) 1 23 := ⟨by decide +kernel, rfl⟩
theorem dX2_endlessProduct_23 : Dc cX2_endlessProduct 23 (.lload_n 2) 1 24 := ⟨by decide +kernel, rfl⟩
theorem dX2_endlessProduct_24 : Dc cX2_endlessProduct 24 (.invokestatic 123) 3 27 := ⟨by decide +kernel, rfl⟩
theorem dX2_endlessProduct_27 : Dc cX2_endlessProduct 27 (.lreturn) 1 28 := ⟨by decide +kernel, rfl⟩
section
variable {p : Program} {l : Launch} {e : Env} {s : State} {m : MethodId} {args : Array Value} {below : List Frame} {meth : Method} {c : Code} {A0 : Nat → Prop} {D : va_G} {cA : Nat → ClassId} {ad : Nat → Nat} {Z : (Nat → Nat) × (Nat → Nat)} {Q : Int → St → Prop} {b : Bool}
set_option maxHeartbeats 4000000 in
set_option maxRecDepth 100000 in
theorem t_X2_endlessProduct_b16 (E : Ev p s m args meth c cX2_endlessProduct 4 RX2 A0 D cA ad (NC b) Z) (hr : meth.sig.returnType = (some .long)) (σ : St) (hσ : CanS (shC b) (NC b) σ) (h : wp_X2_endlessProduct_b16 Q  σ) : G p l e (rmL 2 0 0) s m args below meth c 4 A0 D cA ad (shC b) (NC b) 0 0 (MQ below (QLc D cA ad (shC b) (NC b) Q A0) args s 0 0 A0) σ 16 [none, none, none, none] [] := by
  unfold wp_X2_endlessProduct_b16 at h
  refine g_ldc2 (n := (-5)) E wc_RX2_74 dX2_endlessProduct_16 ?_
  refine g_goto E djX2_endlessProduct_19 ?_
  exact g_lret E hr cL_m5 h hσ dX2_endlessProduct_27
set_option maxHeartbeats 4000000 in
set_option maxRecDepth 100000 in
theorem t_X2_endlessProduct (E : Ev p s m args meth c cX2_endlessProduct 4 RX2 A0 D cA ad (NC b) Z) (hr : meth.sig.returnType = (some .long)) (x0 : Int) (x2 : Int) (σ : St) (c0 : C64 x0) (c2 : C64 x2) (hσ : CanS (shC b) (NC b) σ) (h : wp_X2_endlessProduct x0 x2 σ Q) : G p l e (rmL 2 0 0) s m args below meth c 4 A0 D cA ad (shC b) (NC b) 0 0 (MQ below (QLc D cA ad (shC b) (NC b) Q A0) args s 0 0 A0) σ 0 [some (vL x0), none, some (vL x2), none] [] := by
  unfold wp_X2_endlessProduct at h
  refine g_lload_0 E dX2_endlessProduct_0 ?_
  refine g_ldc2 (n := (-5)) E wc_RX2_74 dX2_endlessProduct_1 ?_
  refine g_lcmp_eq E c0 cL_m5 dX2_endlessProduct_4 djX2_endlessProduct_5 (fun hc => ?_) (fun hc => ?_)
  · replace h := h.1 hc
    exact (t_X2_endlessProduct_b16 E hr σ hσ h).weak (w_d (w_d (w_d (w_d w_n))))
  · replace h := h.2 hc
    refine g_lload_2 E dX2_endlessProduct_8 ?_
    refine g_ldc2 (n := (-5)) E wc_RX2_74 dX2_endlessProduct_9 ?_
    refine g_lcmp_ne E c2 cL_m5 dX2_endlessProduct_12 djX2_endlessProduct_13 (fun hc => ?_) (fun hc => ?_)
    · replace h := h.1 hc
      refine g_lload_0 E dX2_endlessProduct_22 ?_
      refine g_lload_2 E dX2_endlessProduct_23 ?_
      refine g_callsL E my_X8_multiply ms_X8_multiply ml_RX2_123 (rm_ok (by decide) (by decide)) ⟨Nat.zero_le _, Nat.zero_le _⟩ (m_X8_multiply E.2.2.1 c0 c2 hσ h) rfl rfl (Nat.le_of_ble_eq_true rfl) dX2_endlessProduct_24 (fun r1 σ2 cr1 hσ2 h => ?_)
      exact g_lret E hr cr1 h hσ2 dX2_endlessProduct_27
    · replace h := h.2 hc
      exact (t_X2_endlessProduct_b16 E hr σ hσ h).weak (w_d (w_d (w_d (w_d w_n))))
end
theorem m_X2_endlessProduct {Z : (Nat → Nat) × (Nat → Nat)} {l : Launch} {D : va_G} {cA : Nat → ClassId} {ad : Nat → Nat} {b : Bool} {x0 x2 : Int} {σ : St} {Q : Int → St → Prop} (hA : AdOk (NC b) ad) (c0 : C64 x0) (c2 : C64 x2) (hσ : CanS (shC b) (NC b) σ) (h : wp_X2_endlessProduct x0 x2 σ Q) : KtL Z l D cA ad (shC b) (NC b) yX2_endlessProduct cX2_endlessProduct 4 (some .long) 2 [vL x0, vL x2] σ Q :=
  KtL.of my_X2_endlessProduct hA [some (vL x0), none, some (vL x2), none] (Nat.le_of_ble_eq_true rfl) rfl (fun p e s m args below meth c A0 E hr => t_X2_endlessProduct E hr x0 x2 σ c0 c2 hσ h)
theorem dX8_add_0 : Dc cX8_add 0 (.lload_n 0) 1 1 := ⟨by decide +kernel, rfl⟩
theorem dX8_add_1 : Dc cX8_add 1 (.lload_n 2) 1 2 := ⟨by decide +kernel, rfl⟩
theorem dX8_add_2 : Dc cX8_add 2 (.ladd) 1 3 := ⟨by decide +kernel, rfl⟩
theorem dX8_add_3 : Dc cX8_add 3 (.lstore 4) 2 5 := ⟨by decide +kernel, rfl⟩
theorem dX8_add_5 : Dc cX8_add 5 (.lload 4) 2 7 := ⟨by decide +kernel, rfl⟩
theorem dX8_add_7 : Dc cX8_add 7 (.ldc2_w 77) 3 10 := ⟨by decide +kernel, rfl⟩
theorem dX8_add_10 : Dc cX8_add 10 (.lcmp) 1 11 := ⟨by decide +kernel, rfl⟩
theorem djX8_add_11 : Dj cX8_add 11 (.ifCond .le 9) 3 14 9 20 := ⟨by decide +kernel, rfl, by decide⟩
theorem dX8_add_14 : Dc cX8_add 14 (.ldc2_w 77) 3 17 := ⟨by decide +kernel, rfl⟩
theorem djX8_add_17 : Dj cX8_add 17 (.goto 5) 3 20 5 22 := ⟨by decide +kernel, rfl, by decide⟩
theorem dX8_add_20 : Dc cX8_add 20 (.lload 4) 2 22 := ⟨by decide +kernel, rfl⟩
theorem dX8_add_22 : Dc cX8_add 22 (.lreturn) 1 23 := ⟨by decide +kernel, rfl⟩
section
variable {p : Program} {l : Launch} {e : Env} {s : State} {m : MethodId} {args : Array Value} {below : List Frame} {meth : Method} {c : Code} {A0 : Nat → Prop} {D : va_G} {cA : Nat → ClassId} {ad : Nat → Nat} {Z : (Nat → Nat) × (Nat → Nat)} {Q : Int → St → Prop} {b : Bool}
set_option maxHeartbeats 4000000 in
set_option maxRecDepth 100000 in
theorem t_X8_add (E : Ev p s m args meth c cX8_add 6 RX8 A0 D cA ad (NC b) Z) (hr : meth.sig.returnType = (some .long)) (x0 : Int) (x2 : Int) (σ : St) (c0 : C64 x0) (c2 : C64 x2) (hσ : CanS (shC b) (NC b) σ) (h : wp_X8_add x0 x2 σ Q) : G p l e (rmL 1 0 0) s m args below meth c 6 A0 D cA ad (shC b) (NC b) 0 0 (MQ below (QLc D cA ad (shC b) (NC b) Q A0) args s 0 0 A0) σ 0 [some (vL x0), none, some (vL x2), none, none, none] [] := by
  unfold wp_X8_add at h
  refine g_lload_0 E dX8_add_0 ?_
  refine g_lload_2 E dX8_add_1 ?_
  refine g_ladd E dX8_add_2 ?_
  refine g_nmL (fun v1 ev1 => ?_)
  replace h := h v1 ev1
  have cv1 : C64 v1 := by rw [ev1]; exact (c64_w _)
  refine g_lstore_4 E rfl (by decide) dX8_add_3 ?_
  refine g_lload_4 E dX8_add_5 ?_
  refine g_ldc2 (n := 1000000000000001) E wc_RX8_77 dX8_add_7 ?_
  refine g_lcmp_le E cv1 cL_1000000000000001 dX8_add_10 djX8_add_11 (fun hc => ?_) (fun hc => ?_)
  · replace h := h.1 hc
    refine g_lload_4 E dX8_add_20 ?_
    exact g_lret E hr cv1 h hσ dX8_add_22
  · replace h := h.2 hc
    refine g_ldc2 (n := 1000000000000001) E wc_RX8_77 dX8_add_14 ?_
    refine g_goto E djX8_add_17 ?_
    exact g_lret E hr cL_1000000000000001 h hσ dX8_add_22
end
theorem m_X8_add {Z : (Nat → Nat) × (Nat → Nat)} {l : Launch} {D : va_G} {cA : Nat → ClassId} {ad : Nat → Nat} {b : Bool} {x0 x2 : Int} {σ : St} {Q : Int → St → Prop} (hA : AdOk (NC b) ad) (c0 : C64 x0) (c2 : C64 x2) (hσ : CanS (shC b) (NC b) σ) (h : wp_X8_add x0 x2 σ Q) : KtL Z l D cA ad (shC b) (NC b) yX8_add cX8_add 6 (some .long) 1 [vL x0, vL x2] σ Q :=
  KtL.of my_X8_add hA [some (vL x0), none, some (vL x2), none, none, none] (Nat.le_of_ble_eq_true rfl) rfl (fun p e s m args below meth c A0 E hr => t_X8_add E hr x0 x2 σ c0 c2 hσ h)
theorem dX2_endlessSum_0 : Dc cX2_endlessSum 0 (.lload_n 0) 1 1 := ⟨by decide +kernel, rfl⟩
theorem dX2_endlessSum_1 : Dc cX2_endlessSum 1 (.ldc2_w 74) 3 4 := ⟨by decide +kernel, rfl⟩
theorem dX2_endlessSum_4 : Dc cX2_endlessSum 4 (.lcmp) 1 5 := ⟨by decide +kernel, rfl⟩
theorem djX2_endlessSum_5 : Dj cX2_endlessSum 5 (.ifCond .eq 11) 3 8 11 16 := ⟨by decide +kernel, rfl, by decide⟩
theorem dX2_endlessSum_8 : Dc cX2_endlessSum 8 (.lload_n 2) 1 9 := ⟨by decide +kernel, rfl⟩
theorem dX2_endlessSum_9 : Dc cX2_endlessSum 9 (.ldc2_w 74) 3 12 := ⟨by decide +kernel, rfl⟩
theorem dX2_endlessSum_12 : Dc cX2_endlessSum 12 (.lcmp) 1 13 := ⟨by decide +kernel, rfl⟩
theorem djX2_endlessSum_13 : Dj cX2_endlessSum 13 (.ifCond .ne 9) 3 16 9 22 := ⟨by decide +kernel, rfl, by decide⟩
theorem dX2_endlessSum_16 : Dc cX2_endlessSum 16 (.ldc2_w 74) 3 19 := ⟨by decide +kernel, rfl⟩
theorem djX2_endlessSum_19 : Dj cX2_endlessSum 19 (.goto 8) 3 22 8 27 := ⟨by decide +kernel, rfl, by decide⟩
theorem dX2_endlessSum_22 : Dc cX2_endlessSum 22 (.lload_n 0) 1 23 := ⟨by decide +kernel, rfl⟩
theorem dX2_endlessSum_23 : Dc cX2_endlessSum 23 (.lload_n 2) 1 24 := ⟨by decide +kernel, rfl⟩
theorem dX2_endlessSum_24 : Dc cX2_endlessSum 24 (.invokestatic 118) 3 27 := ⟨by decide +kernel, rfl⟩
theorem dX2_endlessSum_27 : Dc cX2_endlessSum 27 (.lreturn) 1 28 := ⟨by decide +kernel, rfl⟩
section
variable {p : Program} {l : Launch} {e : Env} {s : State} {m : MethodId} {args : Array Value} {below : List Frame} {meth : Method} {c : Code} {A0 : Nat → Prop} {D : va_G} {cA : Nat → ClassId} {ad : Nat → Nat} {Z : (Nat → Nat) × (Nat → Nat)} {Q : Int → St → Prop} {b : Bool}
set_option maxHeartbeats 4000000 in
set_option maxRecDepth 100000 in
theorem t_X2_endlessSum_b16 (E : Ev p s m args meth c cX2_endlessSum 4 RX2 A0 D cA ad (NC b) Z) (hr : meth.sig.returnType = (some .long)) (σ : St) (hσ : CanS (shC b) (NC b) σ) (h : wp_X2_endlessSum_b16 Q  σ) : G p l e (rmL 2 0 0) s m args below meth c 4 A0 D cA ad (shC b) (NC b) 0 0 (MQ below (QLc D cA ad (shC b) (NC b) Q A0) args s 0 0 A0) σ 16 [none, none, none, none] [] := by
  unfold wp_X2_endlessSum_b16 at h
  refine g_ldc2 (n := (-5)) E wc_RX2_74 dX2_endlessSum_16 ?_
  refine g_goto E djX2_endlessSum_19 ?_
  exact g_lret E hr cL_m5 h hσ dX2_endlessSum_27
set_option maxHeartbeats 4000000 in
set_option maxRecDepth 100000 in
theorem t_X2_endlessSum (E : Ev p s m args meth c cX2_endlessSum 4 RX2 A0 D cA ad (NC b) Z) (hr : meth.sig.returnType = (some .long)) (x0 : Int) (x2 : Int) (σ : St) (c0 : C64 x0) (c2 : C64 x2) (hσ : CanS (shC b) (NC b) σ) (h : wp_X2_endlessSum x0 x2 σ Q) : G p l e (rmL 2 0 0) s m args below meth c 4 A0 D cA ad (shC b) (NC b) 0 0 (MQ below (QLc D cA ad (shC b) (NC b) Q A0) args s 0 0 A0) σ 0 [some (vL x0), none, some (vL x2), none] [] := by
  unfold wp_X2_endlessSum at h
  refine g_lload_0 E dX2_endlessSum_0 ?_
  refine g_ldc2 (n := (-5)) E wc_RX2_74 dX2_endlessSum_1 ?_
  refine g_lcmp_eq E c0 cL_m5 dX2_endlessSum_4 djX2_endlessSum_5 (fun hc => ?_) (fun hc => ?_)
  · replace h := h.1 hc
    exact (t_X2_endlessSum_b16 E hr σ hσ h).weak (w_d (w_d (w_d (w_d w_n))))
  · replace h := h.2 hc
    refine g_lload_2 E dX2_endlessSum_8 ?_
    refine g_ldc2 (n := (-5)) E wc_RX2_74 dX2_endlessSum_9 ?_
    refine g_lcmp_ne E c2 cL_m5 dX2_endlessSum_12 djX2_endlessSum_13 (fun hc => ?_) (fun hc => ?_)
    · replace h := h.1 hc
      refine g_lload_0 E dX2_endlessSum_22 ?_
      refine g_lload_2 E dX2_endlessSum_23 ?_
      refine g_callsL E my_X8_add ms_X8_add ml_RX2_118 (rm_ok (by decide) (by decide)) ⟨Nat.zero_le _, Nat.zero_le _⟩ (m_X8_add E.2.2.1 c0 c2 hσ h) rfl rfl (Nat.le_of_ble_eq_true rfl) dX2_endlessSum_24 (fun r1 σ2 cr1 hσ2 h => ?_)
      exact g_lret E hr cr1 h hσ2 dX2_endlessSum_27
    · replace h := h.2 hc
      exact (t_X2_endlessSum_b16 E hr σ hσ h).weak (w_d (w_d (w_d (w_d w_n))))
end
theorem m_X2_endlessSum {Z : (Nat → Nat) × (Nat → Nat)} {l : Launch} {D : va_G} {cA : Nat → ClassId} {ad : Nat → Nat} {b : Bool} {x0 x2 : Int} {σ : St} {Q : Int → St → Prop} (hA : AdOk (NC b) ad) (c0 : C64 x0) (c2 : C64 x2) (hσ : CanS (shC b) (NC b) σ) (h : wp_X2_endlessSum x0 x2 σ Q) : KtL Z l D cA ad (shC b) (NC b) yX2_endlessSum cX2_endlessSum 4 (some .long) 2 [vL x0, vL x2] σ Q :=
  KtL.of my_X2_endlessSum hA [some (vL x0), none, some (vL x2), none] (Nat.le_of_ble_eq_true rfl) rfl (fun p e s m args below meth c A0 E hr => t_X2_endlessSum E hr x0 x2 σ c0 c2 hσ h)
theorem dX2_countCases_0 : Dc cX2_countCases 0 (.lconst 0) 1 1 := ⟨by decide +kernel, rfl⟩
theorem dX2_countCases_1 : Dc cX2_countCases 1 (.lstore_n 2) 1 2 := ⟨by decide +kernel, rfl⟩
theorem dX2_countCases_2 : Dc cX2_countCases 2 (.aload_n 0) 1 3 := ⟨by decide +kernel, rfl⟩
theorem dX2_countCases_3 : Dc cX2_countCases 3 (.getfield 15) 3 6 := ⟨by decide +kernel, rfl⟩
theorem dX2_countCases_6 : Dc cX2_countCases 6 (.iload_n 1) 1 7 := ⟨by decide +kernel, rfl⟩
theorem dX2_countCases_7 : Dc cX2_countCases 7 (.invokevirtual 76) 3 10 := ⟨by decide +kernel, rfl⟩
theorem dX2_countCases_10 : Dc cX2_countCases 10 (.istore 4) 2 12 := ⟨by decide +kernel, rfl⟩
theorem dX2_countCases_12 : Dc cX2_countCases 12 (.iload 4) 2 14 := ⟨by decide +kernel, rfl⟩
theorem dX2_countCases_14 : Dc cX2_countCases 14 (.aload_n 0) 1 15 := ⟨by decide +kernel, rfl⟩
theorem dX2_countCases_15 : Dc cX2_countCases 15 (.getfield 15) 3 18 := ⟨by decide +kernel, rfl⟩
theorem dX2_countCases_18 : Dc cX2_countCases 18 (.iload_n 1) 1 19 := ⟨by decide +kernel, rfl⟩
theorem dX2_countCases_19 : Dc cX2_countCases 19 (.invokevirtual 79) 3 22 := ⟨by decide +kernel, rfl⟩
theorem djX2_countCases_22 : Dj cX2_countCases 22 (.if_icmp .ge 113) 3 25 113 135 := ⟨by decide +kernel, rfl, by decide⟩
theorem dX2_countCases_25 : Dc cX2_countCases 25 (.aload_n 0) 1 26 := ⟨by decide +kernel, rfl⟩
theorem dX2_countCases_26 : Dc cX2_countCases 26 (.getfield 15) 3 29 := ⟨by decide +kernel, rfl⟩
theorem dX2_countCases_29 : Dc cX2_countCases 29 (.iload 4) 2 31 := ⟨by decide +kernel, rfl⟩
theorem dX2_countCases_31 : Dc cX2_countCases 31 (.invokevirtual 82) 3 34 := ⟨by decide +kernel, rfl⟩
theorem djX2_countCases_34 : Dj cX2_countCases 34 (.ifCond .ne 95) 3 37 95 129 := ⟨by decide +kernel, rfl, by decide⟩
theorem dX2_countCases_37 : Dc cX2_countCases 37 (.aload_n 0) 1 38 := ⟨by decide +kernel, rfl⟩
theorem dX2_countCases_38 : Dc cX2_countCases 38 (.getfield 19) 3 41 := ⟨by decide +kernel, rfl⟩
theorem dX2_countCases_41 : Dc cX2_countCases 41 (.iload 4) 2 43 := ⟨by decide +kernel, rfl⟩
theorem dX2_countCases_43 : Dc cX2_countCases 43 (.invokevirtual 86) 3 46 := ⟨by decide +kernel, rfl⟩
theorem djX2_countCases_46 : Dj cX2_countCases 46 (.ifCond .eq 83) 3 49 83 129 := ⟨by decide +kernel, rfl, by decide⟩
theorem dX2_countCases_49 : Dc cX2_countCases 49 (.aload_n 0) 1 50 := ⟨by decide +kernel, rfl⟩
theorem dX2_countCases_50 : Dc cX2_countCases 50 (.getfield 15) 3 53 := ⟨by decide +kernel, rfl⟩
theorem dX2_countCases_53 : Dc cX2_countCases 53 (.getfield 89) 3 56 := ⟨by decide +kernel, rfl⟩
theorem dX2_countCases_56 : Dc cX2_countCases 56 (.iload 4) 2 58 := ⟨by decide +kernel, rfl⟩
theorem dX2_countCases_58 : Dc cX2_countCases 58 (.iaload) 1 59 := ⟨by decide +kernel, rfl⟩
theorem djX2_countCases_59 : Dj cX2_countCases 59 (.ifCond .ge 7) 3 62 7 66 := ⟨by decide +kernel, rfl, by decide⟩
theorem dX2_countCases_62 : Dc cX2_countCases 62 (.lconst 1) 1 63 := ⟨by decide +kernel, rfl⟩
theorem djX2_countCases_63 : Dj cX2_countCases 63 (.goto 18) 3 66 18 81 := ⟨by decide +kernel, rfl, by decide⟩
theorem dX2_countCases_66 : Dc cX2_countCases 66 (.aload_n 0) 1 67 := ⟨by decide +kernel, rfl⟩
theorem dX2_countCases_67 : Dc cX2_countCases 67 (.getfield 23) 3 70 := ⟨by decide +kernel, rfl⟩
theorem dX2_countCases_70 : Dc cX2_countCases 70 (.aload_n 0) 1 71 := ⟨by decide +kernel, rfl⟩
theorem dX2_countCases_71 : Dc cX2_countCases 71 (.getfield 15) 3 74 := ⟨by decide +kernel, rfl⟩
theorem dX2_countCases_74 : Dc cX2_countCases 74 (.getfield 89) 3 77 := ⟨by decide +kernel, rfl⟩
theorem dX2_countCases_77 : Dc cX2_countCases 77 (.iload 4) 2 79 := ⟨by decide +kernel, rfl⟩
theorem dX2_countCases_79 : Dc cX2_countCases 79 (.iaload) 1 80 := ⟨by decide +kernel, rfl⟩
theorem dX2_countCases_80 : Dc cX2_countCases 80 (.laload) 1 81 := ⟨by decide +kernel, rfl⟩
theorem dX2_countCases_81 : Dc cX2_countCases 81 (.lstore 5) 2 83 := ⟨by decide +kernel, rfl⟩
theorem dX2_countCases_83 : Dc cX2_countCases 83 (.aload_n 0) 1 84 := ⟨by decide +kernel, rfl⟩
theorem dX2_countCases_84 : Dc cX2_countCases 84 (.getfield 15) 3 87 := ⟨by decide +kernel, rfl⟩
theorem dX2_countCases_87 : Dc cX2_countCases 87 (.getfield 93) 3 90 := ⟨by decide +kernel, rfl⟩
theorem dX2_countCases_90 : Dc cX2_countCases 90 (.iload 4) 2 92 := ⟨by decide +kernel, rfl⟩
theorem dX2_countCases_92 : Dc cX2_countCases 92 (.iaload) 1 93 := ⟨by decide +kernel, rfl⟩
theorem djX2_countCases_93 : Dj cX2_countCases 93 (.ifCond .ge 7) 3 96 7 100 := ⟨by decide +kernel, rfl, by decide⟩
theorem dX2_countCases_96 : Dc cX2_countCases 96 (.lconst 1) 1 97 := ⟨by decide +kernel, rfl⟩
theorem djX2_countCases_97 : Dj cX2_countCases 97 (.goto 18) 3 100 18 115 := ⟨by decide +kernel, rfl, by decide⟩
theorem dX2_countCases_100 : Dc cX2_countCases 100 (.aload_n 0) 1 101 := ⟨by decide +kernel, rfl⟩
theorem dX2_countCases_101 : Dc cX2_countCases 101 (.getfield 23) 3 104 := ⟨by decide +kernel, rfl⟩
theorem dX2_countCases_104 : Dc cX2_countCases 104 (.aload_n 0) 1 105 := ⟨by decide +kernel, rfl⟩
theorem dX2_countCases_105 : Dc cX2_countCases 105 (.getfield 15) 3 108 := ⟨by decide +kernel, rfl⟩
theorem dX2_countCases_108 : Dc cX2_countCases 108 (.getfield 93) 3 111 := ⟨by decide +kernel, rfl⟩
theorem dX2_countCases_111 : Dc cX2_countCases 111 (.iload 4) 2 113 := ⟨by decide +kernel, rfl⟩
theorem dX2_countCases_113 : Dc cX2_countCases 113 (.iaload) 1 114 := ⟨by decide +kernel, rfl⟩
theorem dX2_countCases_114 : Dc cX2_countCases 114 (.laload) 1 115 := ⟨by decide +kernel, rfl⟩
theorem dX2_countCases_115 : Dc cX2_countCases 115 (.lstore 7) 2 117 := ⟨by decide +kernel, rfl⟩
theorem dX2_countCases_117 : Dc cX2_countCases 117 (.lload_n 2) 1 118 := ⟨by decide +kernel, rfl⟩
theorem dX2_countCases_118 : Dc cX2_countCases 118 (.lload 5) 2 120 := ⟨by decide +kernel, rfl⟩
theorem dX2_countCases_120 : Dc cX2_countCases 120 (.lload 7) 2 122 := ⟨by decide +kernel, rfl⟩
theorem dX2_countCases_122 : Dc cX2_countCases 122 (.invokestatic 96) 3 125 := ⟨by decide +kernel, rfl⟩
theorem dX2_countCases_125 : Dc cX2_countCases 125 (.invokestatic 100) 3 128 := ⟨by decide +kernel, rfl⟩
theorem dX2_countCases_128 : Dc cX2_countCases 128 (.lstore_n 2) 1 129 := ⟨by decide +kernel, rfl⟩
theorem dX2_countCases_129 : Dc cX2_countCases 129 (.iinc 4 1) 3 132 := ⟨by decide +kernel, rfl⟩
theorem djX2_countCases_132 : Dj cX2_countCases 132 (.goto (-120)) 3 135 (-120) 12 := ⟨by decide +kernel, rfl, by decide⟩
theorem dX2_countCases_135 : Dc cX2_countCases 135 (.lload_n 2) 1 136 := ⟨by decide +kernel, rfl⟩
theorem dX2_countCases_136 : Dc cX2_countCases 136 (.lreturn) 1 137 := ⟨by decide +kernel, rfl⟩
section
variable {p : Program} {l : Launch} {e : Env} {s : State} {m : MethodId} {args : Array Value} {below : List Frame} {meth : Method} {c : Code} {A0 : Nat → Prop} {D : va_G} {cA : Nat → ClassId} {ad : Nat → Nat} {Z : (Nat → Nat) × (Nat → Nat)} {Q : Int → St → Prop} {b : Bool}
set_option maxHeartbeats 4000000 in
set_option maxRecDepth 100000 in
theorem t_X2_countCases_b129 (E : Ev p s m args meth c cX2_countCases 9 RX2 A0 D cA ad (NC b) Z) (hr : meth.sig.returnType = (some .long)) {K12 : Int → Int → Int → St → Prop} (hK12 : ∀ (x1 : Int) (x2 : Int) (x4 : Int) (σ : St), C32 x1 → C64 x2 → C32 x4 → CanS (shC b) (NC b) σ → K12 x1 x2 x4 σ → G p l e (rmL 3 0 0) s m args below meth c 9 A0 D cA ad (shC b) (NC b) 0 0 (MQ below (QLc D cA ad (shC b) (NC b) Q A0) args s 0 0 A0) σ 12 [some (.ref (ad 41)), some (vI x1), some (vL x2), none, some (vI x4), none, none, none, none] []) (x1 : Int) (x2 : Int) (x4 : Int) (σ : St) (c1 : C32 x1) (c2 : C64 x2) (c4 : C32 x4) (hσ : CanS (shC b) (NC b) σ) (h : wp_X2_countCases_b129 Q K12 x1 x2 x4 σ) : G p l e (rmL 3 0 0) s m args below meth c 9 A0 D cA ad (shC b) (NC b) 0 0 (MQ below (QLc D cA ad (shC b) (NC b) Q A0) args s 0 0 A0) σ 129 [some (.ref (ad 41)), some (vI x1), some (vL x2), none, some (vI x4), none, none, none, none] [] := by
  unfold wp_X2_countCases_b129 at h
  refine g_iinc_4 E rfl (by decide) dX2_countCases_129 (fun v9 ev9 => ?_)
  replace h := h v9 ev9
  have cv9 : C32 v9 := by rw [ev9]; exact c32_w _
  refine g_goto E djX2_countCases_132 ?_
  exact (hK12 x1 x2 v9 σ c1 c2 cv9 hσ h).weak (w_k (w_k (w_k (w_d (w_k (w_d (w_d (w_d (w_d w_n)))))))))
set_option maxHeartbeats 4000000 in
set_option maxRecDepth 100000 in
theorem t_X2_countCases_b115 (E : Ev p s m args meth c cX2_countCases 9 RX2 A0 D cA ad (NC b) Z) (hr : meth.sig.returnType = (some .long)) {K12 : Int → Int → Int → St → Prop} (hK12 : ∀ (x1 : Int) (x2 : Int) (x4 : Int) (σ : St), C32 x1 → C64 x2 → C32 x4 → CanS (shC b) (NC b) σ → K12 x1 x2 x4 σ → G p l e (rmL 3 0 0) s m args below meth c 9 A0 D cA ad (shC b) (NC b) 0 0 (MQ below (QLc D cA ad (shC b) (NC b) Q A0) args s 0 0 A0) σ 12 [some (.ref (ad 41)), some (vI x1), some (vL x2), none, some (vI x4), none, none, none, none] []) (x1 : Int) (x2 : Int) (x4 : Int) (x5 : Int) (s0 : Int) (σ : St) (c1 : C32 x1) (c2 : C64 x2) (c4 : C32 x4) (c5 : C64 x5) (cs0 : C64 s0) (hσ : CanS (shC b) (NC b) σ) (h : wp_X2_countCases_b115 Q K12 x1 x2 x4 x5 s0 σ) : G p l e (rmL 3 0 0) s m args below meth c 9 A0 D cA ad (shC b) (NC b) 0 0 (MQ below (QLc D cA ad (shC b) (NC b) Q A0) args s 0 0 A0) σ 115 [some (.ref (ad 41)), some (vI x1), some (vL x2), none, some (vI x4), some (vL x5), none, none, none] [vL s0] := by
  unfold wp_X2_countCases_b115 at h
  refine g_lstore_7 E rfl (by decide) dX2_countCases_115 ?_
  refine g_lload_2 E dX2_countCases_117 ?_
  refine g_lload_5 E dX2_countCases_118 ?_
  refine g_lload_7 E dX2_countCases_120 ?_
  refine g_callsL E my_X2_endlessProduct ms_X2_endlessProduct ml_RX2_96 (rm_ok (by decide) (by decide)) ⟨Nat.zero_le _, Nat.zero_le _⟩ (m_X2_endlessProduct E.2.2.1 c5 cs0 hσ h) rfl rfl (Nat.le_of_ble_eq_true rfl) dX2_countCases_122 (fun r10 σ11 cr10 hσ11 h => ?_)
  refine g_callsL E my_X2_endlessSum ms_X2_endlessSum ml_RX2_100 (rm_ok (by decide) (by decide)) ⟨Nat.zero_le _, Nat.zero_le _⟩ (m_X2_endlessSum E.2.2.1 c2 cr10 hσ11 h) rfl rfl (Nat.le_of_ble_eq_true rfl) dX2_countCases_125 (fun r12 σ13 cr12 hσ13 h => ?_)
  refine g_lstore_2 E rfl (by decide) dX2_countCases_128 ?_
  exact (t_X2_countCases_b129 E hr hK12 x1 r12 x4 σ13 c1 cr12 c4 hσ13 h).weak (w_k (w_k (w_k (w_d (w_k (w_d (w_d (w_d (w_d w_n)))))))))
set_option maxHeartbeats 4000000 in
set_option maxRecDepth 100000 in
theorem t_X2_countCases_b81 (E : Ev p s m args meth c cX2_countCases 9 RX2 A0 D cA ad (NC b) Z) (hr : meth.sig.returnType = (some .long)) {K12 : Int → Int → Int → St → Prop} (hK12 : ∀ (x1 : Int) (x2 : Int) (x4 : Int) (σ : St), C32 x1 → C64 x2 → C32 x4 → CanS (shC b) (NC b) σ → K12 x1 x2 x4 σ → G p l e (rmL 3 0 0) s m args below meth c 9 A0 D cA ad (shC b) (NC b) 0 0 (MQ below (QLc D cA ad (shC b) (NC b) Q A0) args s 0 0 A0) σ 12 [some (.ref (ad 41)), some (vI x1), some (vL x2), none, some (vI x4), none, none, none, none] []) (x1 : Int) (x2 : Int) (x4 : Int) (s0 : Int) (σ : St) (c1 : C32 x1) (c2 : C64 x2) (c4 : C32 x4) (cs0 : C64 s0) (hσ : CanS (shC b) (NC b) σ) (h : wp_X2_countCases_b81 Q K12 x1 x2 x4 s0 σ) : G p l e (rmL 3 0 0) s m args below meth c 9 A0 D cA ad (shC b) (NC b) 0 0 (MQ below (QLc D cA ad (shC b) (NC b) Q A0) args s 0 0 A0) σ 81 [some (.ref (ad 41)), some (vI x1), some (vL x2), none, some (vI x4), none, none, none, none] [vL s0] := by
  unfold wp_X2_countCases_b81 at h
  refine g_lstore_5 E rfl (by decide) dX2_countCases_81 ?_
  refine g_aload_0 E dX2_countCases_83 ?_
  refine g_getR E fl_RX2_15 (kC_41 b) (sC_41 b) rfl dX2_countCases_84 ?_
  refine g_getR E fl_RX2_93 (kC_24 b) (sC_24 b) rfl dX2_countCases_87 ?_
  refine g_iload_4 E dX2_countCases_90 ?_
  refine g_iald E (kC_32 b) (sC_32 b) (by decide) h.1 dX2_countCases_92 ?_
  replace h := h.2
  refine g_if_ge E (aC_32 hσ _) djX2_countCases_93 (fun hc => ?_) (fun hc => ?_)
  · replace h := h.1 hc
    refine g_aload_0 E dX2_countCases_100 ?_
    refine g_getR E fl_RX2_23 (kC_41 b) (sC_41 b) rfl dX2_countCases_101 ?_
    refine g_aload_0 E dX2_countCases_104 ?_
    refine g_getR E fl_RX2_15 (kC_41 b) (sC_41 b) rfl dX2_countCases_105 ?_
    refine g_getR E fl_RX2_93 (kC_24 b) (sC_24 b) rfl dX2_countCases_108 ?_
    refine g_iload_4 E dX2_countCases_111 ?_
    refine g_iald E (kC_32 b) (sC_32 b) (by decide) h.1 dX2_countCases_113 ?_
    replace h := h.2
    refine g_lald E (kC_42 b) (sC_42 b) (by decide) h.1 dX2_countCases_114 ?_
    replace h := h.2
    exact (t_X2_countCases_b115 E hr hK12 x1 x2 x4 s0 (σ 42 ((σ 32 (x4.toNat)).toNat)) σ c1 c2 c4 cs0 (aC_42 hσ _) hσ h).weak (w_k (w_k (w_k (w_d (w_k (w_k (w_d (w_d (w_d w_n)))))))))
  · replace h := h.2 hc
    refine g_lconst (n := 1) E (by decide) dX2_countCases_96 ?_
    refine g_goto E djX2_countCases_97 ?_
    exact (t_X2_countCases_b115 E hr hK12 x1 x2 x4 s0 1 σ c1 c2 c4 cs0 cL_1 hσ h).weak (w_k (w_k (w_k (w_d (w_k (w_k (w_d (w_d (w_d w_n)))))))))
set_option maxHeartbeats 4000000 in
set_option maxRecDepth 100000 in
theorem t_X2_countCases_l12 (E : Ev p s m args meth c cX2_countCases 9 RX2 A0 D cA ad (NC b) Z) (hr : meth.sig.returnType = (some .long)) : ∀ (n : Nat) (x1 : Int) (x2 : Int) (x4 : Int) (σ : St), C32 x1 → C64 x2 → C32 x4 → CanS (shC b) (NC b) σ → wp_X2_countCases_l12 Q n x1 x2 x4 σ → G p l e (rmL 3 0 0) s m args below meth c 9 A0 D cA ad (shC b) (NC b) 0 0 (MQ below (QLc D cA ad (shC b) (NC b) Q A0) args s 0 0 A0) σ 12 [some (.ref (ad 41)), some (vI x1), some (vL x2), none, some (vI x4), none, none, none, none] [] := by
  intro n
  induction n with
  | zero => intro _ _ _ _ _ _ _ _ h; exact h.elim
  | succ n ih =>
    intro x1 x2 x4 σ c1 c2 c4 hσ h
    unfold wp_X2_countCases_l12 at h
    refine g_iload_4 E dX2_countCases_12 ?_
    refine g_aload_0 E dX2_countCases_14 ?_
    refine g_getR E fl_RX2_15 (kC_41 b) (sC_41 b) rfl dX2_countCases_15 ?_
    refine g_iload_1 E dX2_countCases_18 ?_
    refine g_callvI E my_X0_caseEnd mi_X0_caseEnd msel_X0_caseEnd ml_RX2_79 (rm_ok (by decide) (by decide)) ⟨Nat.zero_le _, Nat.zero_le _⟩ (kC_24 b) (sC_24 b) rfl (m_X0_caseEnd E.2.2.1 c1 hσ h) rfl rfl (Nat.le_of_ble_eq_true rfl) dX2_countCases_19 (fun r3 σ4 cr3 hσ4 h => ?_)
    refine g_icmp_ge E c4 cr3 djX2_countCases_22 (fun hc => ?_) (fun hc => ?_)
    · replace h := h.1 hc
      refine g_lload_2 E dX2_countCases_135 ?_
      exact g_lret E hr c2 h hσ4 dX2_countCases_136
    · replace h := h.2 hc
      refine g_aload_0 E dX2_countCases_25 ?_
      refine g_getR E fl_RX2_15 (kC_41 b) (sC_41 b) rfl dX2_countCases_26 ?_
      refine g_iload_4 E dX2_countCases_29 ?_
      refine g_callvI E my_X0_goesOn mi_X0_goesOn msel_X0_goesOn ml_RX2_82 (rm_ok (by decide) (by decide)) ⟨Nat.zero_le _, Nat.zero_le _⟩ (kC_24 b) (sC_24 b) rfl (m_X0_goesOn E.2.2.1 c4 hσ4 h) rfl rfl (Nat.le_of_ble_eq_true rfl) dX2_countCases_31 (fun r5 σ6 cr5 hσ6 h => ?_)
      refine g_if_ne E cr5 djX2_countCases_34 (fun hc => ?_) (fun hc => ?_)
      · replace h := h.1 hc
        exact (t_X2_countCases_b129 E hr ih x1 x2 x4 σ6 c1 c2 c4 hσ6 h).weak (w_k (w_k (w_k (w_d (w_k (w_d (w_d (w_d (w_d w_n)))))))))
      · replace h := h.2 hc
        refine g_aload_0 E dX2_countCases_37 ?_
        refine g_getR E fl_RX2_19 (kC_41 b) (sC_41 b) rfl dX2_countCases_38 ?_
        refine g_iload_4 E dX2_countCases_41 ?_
        refine g_callvI E my_X1_isFull mi_X1_isFull msel_X1_isFull ml_RX2_86 (rm_ok (by decide) (by decide)) ⟨Nat.zero_le _, Nat.zero_le _⟩ (kC_36 b) (sC_36 b) rfl (m_X1_isFull E.2.2.1 c4 hσ6 h) rfl rfl (Nat.le_of_ble_eq_true rfl) dX2_countCases_43 (fun r7 σ8 cr7 hσ8 h => ?_)
        refine g_if_eq E cr7 djX2_countCases_46 (fun hc => ?_) (fun hc => ?_)
        · replace h := h.1 hc
          exact (t_X2_countCases_b129 E hr ih x1 x2 x4 σ8 c1 c2 c4 hσ8 h).weak (w_k (w_k (w_k (w_d (w_k (w_d (w_d (w_d (w_d w_n)))))))))
        · replace h := h.2 hc
          refine g_aload_0 E dX2_countCases_49 ?_
          refine g_getR E fl_RX2_15 (kC_41 b) (sC_41 b) rfl dX2_countCases_50 ?_
          refine g_getR E fl_RX2_89 (kC_24 b) (sC_24 b) rfl dX2_countCases_53 ?_
          refine g_iload_4 E dX2_countCases_56 ?_
          refine g_iald E (kC_31 b) (sC_31 b) (by decide) h.1 dX2_countCases_58 ?_
          replace h := h.2
          refine g_if_ge E (aC_31 hσ8 _) djX2_countCases_59 (fun hc => ?_) (fun hc => ?_)
          · replace h := h.1 hc
            refine g_aload_0 E dX2_countCases_66 ?_
            refine g_getR E fl_RX2_23 (kC_41 b) (sC_41 b) rfl dX2_countCases_67 ?_
            refine g_aload_0 E dX2_countCases_70 ?_
            refine g_getR E fl_RX2_15 (kC_41 b) (sC_41 b) rfl dX2_countCases_71 ?_
            refine g_getR E fl_RX2_89 (kC_24 b) (sC_24 b) rfl dX2_countCases_74 ?_
            refine g_iload_4 E dX2_countCases_77 ?_
            refine g_iald E (kC_31 b) (sC_31 b) (by decide) h.1 dX2_countCases_79 ?_
            replace h := h.2
            refine g_lald E (kC_42 b) (sC_42 b) (by decide) h.1 dX2_countCases_80 ?_
            replace h := h.2
            exact (t_X2_countCases_b81 E hr ih x1 x2 x4 (σ8 42 ((σ8 31 (x4.toNat)).toNat)) σ8 c1 c2 c4 (aC_42 hσ8 _) hσ8 h).weak (w_k (w_k (w_k (w_d (w_k (w_d (w_d (w_d (w_d w_n)))))))))
          · replace h := h.2 hc
            refine g_lconst (n := 1) E (by decide) dX2_countCases_62 ?_
            refine g_goto E djX2_countCases_63 ?_
            exact (t_X2_countCases_b81 E hr ih x1 x2 x4 1 σ8 c1 c2 c4 cL_1 hσ8 h).weak (w_k (w_k (w_k (w_d (w_k (w_d (w_d (w_d (w_d w_n)))))))))
set_option maxHeartbeats 4000000 in
set_option maxRecDepth 100000 in
theorem t_X2_countCases (E : Ev p s m args meth c cX2_countCases 9 RX2 A0 D cA ad (NC b) Z) (hr : meth.sig.returnType = (some .long)) (x1 : Int) (σ : St) (c1 : C32 x1) (hσ : CanS (shC b) (NC b) σ) (h : wp_X2_countCases x1 σ Q) : G p l e (rmL 3 0 0) s m args below meth c 9 A0 D cA ad (shC b) (NC b) 0 0 (MQ below (QLc D cA ad (shC b) (NC b) Q A0) args s 0 0 A0) σ 0 [some (.ref (ad 41)), some (vI x1), none, none, none, none, none, none, none] [] := by
  unfold wp_X2_countCases at h
  refine g_lconst (n := 0) E (by decide) dX2_countCases_0 ?_
  refine g_lstore_2 E rfl (by decide) dX2_countCases_1 ?_
  refine g_aload_0 E dX2_countCases_2 ?_
  refine g_getR E fl_RX2_15 (kC_41 b) (sC_41 b) rfl dX2_countCases_3 ?_
  refine g_iload_1 E dX2_countCases_6 ?_
  refine g_callvI E my_X0_caseStart mi_X0_caseStart msel_X0_caseStart ml_RX2_76 (rm_ok (by decide) (by decide)) ⟨Nat.zero_le _, Nat.zero_le _⟩ (kC_24 b) (sC_24 b) rfl (m_X0_caseStart E.2.2.1 c1 hσ h) rfl rfl (Nat.le_of_ble_eq_true rfl) dX2_countCases_7 (fun r1 σ2 cr1 hσ2 h => ?_)
  refine g_istore_4 E rfl (by decide) dX2_countCases_10 ?_
  exact (t_X2_countCases_l12 E hr bigN x1 0 r1 σ2 c1 cL_0 cr1 hσ2 h).weak (w_k (w_k (w_k (w_d (w_k (w_d (w_d (w_d (w_d w_n)))))))))
end
theorem m_X2_countCases {Z : (Nat → Nat) × (Nat → Nat)} {l : Launch} {D : va_G} {cA : Nat → ClassId} {ad : Nat → Nat} {b : Bool} {x1 : Int} {σ : St} {Q : Int → St → Prop} (hA : AdOk (NC b) ad) (c1 : C32 x1) (hσ : CanS (shC b) (NC b) σ) (h : wp_X2_countCases x1 σ Q) : KtL Z l D cA ad (shC b) (NC b) yX2_countCases cX2_countCases 9 (some .long) 3 [.ref (ad 41), vI x1] σ Q :=
  KtL.of my_X2_countCases hA [some (.ref (ad 41)), some (vI x1), none, none, none, none, none, none, none] (Nat.le_of_ble_eq_true rfl) rfl (fun p e s m args below meth c A0 E hr => t_X2_countCases E hr x1 σ c1 hσ h)
theorem dX2_addTargets_0 : Dc cX2_addTargets 0 (.iconst 0) 1 1 := ⟨by decide +kernel, rfl⟩
theorem dX2_addTargets_1 : Dc cX2_addTargets 1 (.istore_n 3) 1 2 := ⟨by decide +kernel, rfl⟩
theorem dX2_addTargets_2 : Dc cX2_addTargets 2 (.iload_n 3) 1 3 := ⟨by decide +kernel, rfl⟩
theorem dX2_addTargets_3 : Dc cX2_addTargets 3 (.aload_n 0) 1 4 := ⟨by decide +kernel, rfl⟩
theorem dX2_addTargets_4 : Dc cX2_addTargets 4 (.getfield 15) 3 7 := ⟨by decide +kernel, rfl⟩
theorem dX2_addTargets_7 : Dc cX2_addTargets 7 (.getfield 103) 3 10 := ⟨by decide +kernel, rfl⟩
theorem djX2_addTargets_10 : Dj cX2_addTargets 10 (.if_icmp .ge 86) 3 13 86 96 := ⟨by decide +kernel, rfl, by decide⟩
theorem dX2_addTargets_13 : Dc cX2_addTargets 13 (.aload_n 0) 1 14 := ⟨by decide +kernel, rfl⟩
theorem dX2_addTargets_14 : Dc cX2_addTargets 14 (.getfield 15) 3 17 := ⟨by decide +kernel, rfl⟩
theorem dX2_addTargets_17 : Dc cX2_addTargets 17 (.getfield 106) 3 20 := ⟨by decide +kernel, rfl⟩
theorem dX2_addTargets_20 : Dc cX2_addTargets 20 (.iload_n 3) 1 21 := ⟨by decide +kernel, rfl⟩
theorem dX2_addTargets_21 : Dc cX2_addTargets 21 (.iaload) 1 22 := ⟨by decide +kernel, rfl⟩
theorem dX2_addTargets_22 : Dc cX2_addTargets 22 (.istore 4) 2 24 := ⟨by decide +kernel, rfl⟩
theorem dX2_addTargets_24 : Dc cX2_addTargets 24 (.iload_n 1) 1 25 := ⟨by decide +kernel, rfl⟩
theorem dX2_addTargets_25 : Dc cX2_addTargets 25 (.aload_n 0) 1 26 := ⟨by decide +kernel, rfl⟩
theorem dX2_addTargets_26 : Dc cX2_addTargets 26 (.getfield 9) 3 29 := ⟨by decide +kernel, rfl⟩
theorem dX2_addTargets_29 : Dc cX2_addTargets 29 (.getfield 114) 3 32 := ⟨by decide +kernel, rfl⟩
theorem dX2_addTargets_32 : Dc cX2_addTargets 32 (.iload 4) 2 34 := ⟨by decide +kernel, rfl⟩
theorem dX2_addTargets_34 : Dc cX2_addTargets 34 (.iaload) 1 35 := ⟨by decide +kernel, rfl⟩
theorem dX2_addTargets_35 : Dc cX2_addTargets 35 (.iadd) 1 36 := ⟨by decide +kernel, rfl⟩
theorem dX2_addTargets_36 : Dc cX2_addTargets 36 (.istore 5) 2 38 := ⟨by decide +kernel, rfl⟩
theorem dX2_addTargets_38 : Dc cX2_addTargets 38 (.aload_n 0) 1 39 := ⟨by decide +kernel, rfl⟩
theorem dX2_addTargets_39 : Dc cX2_addTargets 39 (.getfield 9) 3 42 := ⟨by decide +kernel, rfl⟩
theorem dX2_addTargets_42 : Dc cX2_addTargets 42 (.getfield 109) 3 45 := ⟨by decide +kernel, rfl⟩
theorem dX2_addTargets_45 : Dc cX2_addTargets 45 (.iload 4) 2 47 := ⟨by decide +kernel, rfl⟩
theorem dX2_addTargets_47 : Dc cX2_addTargets 47 (.iaload) 1 48 := ⟨by decide +kernel, rfl⟩
theorem dX2_addTargets_48 : Dc cX2_addTargets 48 (.iload_n 2) 1 49 := ⟨by decide +kernel, rfl⟩
theorem djX2_addTargets_49 : Dj cX2_addTargets 49 (.if_icmp .ne 41) 3 52 41 90 := ⟨by decide +kernel, rfl, by decide⟩
theorem dX2_addTargets_52 : Dc cX2_addTargets 52 (.aload_n 0) 1 53 := ⟨by decide +kernel, rfl⟩
theorem dX2_addTargets_53 : Dc cX2_addTargets 53 (.getfield 19) 3 56 := ⟨by decide +kernel, rfl⟩
theorem dX2_addTargets_56 : Dc cX2_addTargets 56 (.iload 5) 2 58 := ⟨by decide +kernel, rfl⟩
theorem dX2_addTargets_58 : Dc cX2_addTargets 58 (.invokevirtual 115) 3 61 := ⟨by decide +kernel, rfl⟩
theorem djX2_addTargets_61 : Dj cX2_addTargets 61 (.ifCond .eq 29) 3 64 29 90 := ⟨by decide +kernel, rfl, by decide⟩
theorem dX2_addTargets_64 : Dc cX2_addTargets 64 (.aload_n 0) 1 65 := ⟨by decide +kernel, rfl⟩
theorem dX2_addTargets_65 : Dc cX2_addTargets 65 (.getfield 23) 3 68 := ⟨by decide +kernel, rfl⟩
theorem dX2_addTargets_68 : Dc cX2_addTargets 68 (.iload_n 1) 1 69 := ⟨by decide +kernel, rfl⟩
theorem dX2_addTargets_69 : Dc cX2_addTargets 69 (.iload_n 2) 1 70 := ⟨by decide +kernel, rfl⟩
theorem dX2_addTargets_70 : Dc cX2_addTargets 70 (.iadd) 1 71 := ⟨by decide +kernel, rfl⟩
theorem dX2_addTargets_71 : Dc cX2_addTargets 71 (.aload_n 0) 1 72 := ⟨by decide +kernel, rfl⟩
theorem dX2_addTargets_72 : Dc cX2_addTargets 72 (.getfield 23) 3 75 := ⟨by decide +kernel, rfl⟩
theorem dX2_addTargets_75 : Dc cX2_addTargets 75 (.iload_n 1) 1 76 := ⟨by decide +kernel, rfl⟩
theorem dX2_addTargets_76 : Dc cX2_addTargets 76 (.iload_n 2) 1 77 := ⟨by decide +kernel, rfl⟩
theorem dX2_addTargets_77 : Dc cX2_addTargets 77 (.iadd) 1 78 := ⟨by decide +kernel, rfl⟩
theorem dX2_addTargets_78 : Dc cX2_addTargets 78 (.laload) 1 79 := ⟨by decide +kernel, rfl⟩
theorem dX2_addTargets_79 : Dc cX2_addTargets 79 (.aload_n 0) 1 80 := ⟨by decide +kernel, rfl⟩
theorem dX2_addTargets_80 : Dc cX2_addTargets 80 (.getfield 23) 3 83 := ⟨by decide +kernel, rfl⟩
theorem dX2_addTargets_83 : Dc cX2_addTargets 83 (.iload 5) 2 85 := ⟨by decide +kernel, rfl⟩
theorem dX2_addTargets_85 : Dc cX2_addTargets 85 (.laload) 1 86 := ⟨by decide +kernel, rfl⟩
theorem dX2_addTargets_86 : Dc cX2_addTargets 86 (.invokestatic 100) 3 89 := ⟨by decide +kernel, rfl⟩
theorem dX2_addTargets_89 : Dc cX2_addTargets 89 (.lastore) 1 90 := ⟨by decide +kernel, rfl⟩
theorem dX2_addTargets_90 : Dc cX2_addTargets 90 (.iinc 3 1) 3 93 := ⟨by decide +kernel, rfl⟩
theorem djX2_addTargets_93 : Dj cX2_addTargets 93 (.goto (-91)) 3 96 (-91) 2 := ⟨by decide +kernel, rfl, by decide⟩
theorem dX2_addTargets_96 : Dc cX2_addTargets 96 (.return_) 1 97 := ⟨by decide +kernel, rfl⟩
section
variable {p : Program} {l : Launch} {e : Env} {s : State} {m : MethodId} {args : Array Value} {below : List Frame} {meth : Method} {c : Code} {A0 : Nat → Prop} {D : va_G} {cA : Nat → ClassId} {ad : Nat → Nat} {Z : (Nat → Nat) × (Nat → Nat)} {Q : Int → St → Prop} {b : Bool}
set_option maxHeartbeats 4000000 in
set_option maxRecDepth 100000 in
theorem t_X2_addTargets_b90 (E : Ev p s m args meth c cX2_addTargets 6 RX2 A0 D cA ad (NC b) Z) (hr : meth.sig.returnType = none) {K2 : Int → Int → Int → St → Prop} (hK2 : ∀ (x1 : Int) (x2 : Int) (x3 : Int) (σ : St), C32 x1 → C32 x2 → C32 x3 → CanS (shC b) (NC b) σ → K2 x1 x2 x3 σ → G p l e (rmL 3 0 0) s m args below meth c 6 A0 D cA ad (shC b) (NC b) 0 0 (MQ below (QVc D cA ad (shC b) (NC b) Q A0) args s 0 0 A0) σ 2 [some (.ref (ad 41)), some (vI x1), some (vI x2), some (vI x3), none, none] []) (x1 : Int) (x2 : Int) (x3 : Int) (σ : St) (c1 : C32 x1) (c2 : C32 x2) (c3 : C32 x3) (hσ : CanS (shC b) (NC b) σ) (h : wp_X2_addTargets_b90 Q K2 x1 x2 x3 σ) : G p l e (rmL 3 0 0) s m args below meth c 6 A0 D cA ad (shC b) (NC b) 0 0 (MQ below (QVc D cA ad (shC b) (NC b) Q A0) args s 0 0 A0) σ 90 [some (.ref (ad 41)), some (vI x1), some (vI x2), some (vI x3), none, none] [] := by
  unfold wp_X2_addTargets_b90 at h
  refine g_iinc_3 E rfl (by decide) dX2_addTargets_90 (fun v8 ev8 => ?_)
  replace h := h v8 ev8
  have cv8 : C32 v8 := by rw [ev8]; exact c32_w _
  refine g_goto E djX2_addTargets_93 ?_
  exact (hK2 x1 x2 v8 σ c1 c2 cv8 hσ h).weak (w_k (w_k (w_k (w_k (w_d (w_d w_n))))))
set_option maxHeartbeats 4000000 in
set_option maxRecDepth 100000 in
theorem t_X2_addTargets_l2 (E : Ev p s m args meth c cX2_addTargets 6 RX2 A0 D cA ad (NC b) Z) (hr : meth.sig.returnType = none) : ∀ (n : Nat) (x1 : Int) (x2 : Int) (x3 : Int) (σ : St), C32 x1 → C32 x2 → C32 x3 → CanS (shC b) (NC b) σ → wp_X2_addTargets_l2 Q n x1 x2 x3 σ → G p l e (rmL 3 0 0) s m args below meth c 6 A0 D cA ad (shC b) (NC b) 0 0 (MQ below (QVc D cA ad (shC b) (NC b) Q A0) args s 0 0 A0) σ 2 [some (.ref (ad 41)), some (vI x1), some (vI x2), some (vI x3), none, none] [] := by
  intro n
  induction n with
  | zero => intro _ _ _ _ _ _ _ _ h; exact h.elim
  | succ n ih =>
    intro x1 x2 x3 σ c1 c2 c3 hσ h
    unfold wp_X2_addTargets_l2 at h
    refine g_iload_3 E dX2_addTargets_2 ?_
    refine g_aload_0 E dX2_addTargets_3 ?_
    refine g_getR E fl_RX2_15 (kC_41 b) (sC_41 b) rfl dX2_addTargets_4 ?_
    refine g_getI E fl_RX2_103 (kC_24 b) (sC_24 b) rfl dX2_addTargets_7 ?_
    refine g_icmp_ge E c3 (fC_24_12 hσ) djX2_addTargets_10 (fun hc => ?_) (fun hc => ?_)
    · replace h := h.1 hc
      exact g_vret E hr h hσ dX2_addTargets_96
    · replace h := h.2 hc
      refine g_aload_0 E dX2_addTargets_13 ?_
      refine g_getR E fl_RX2_15 (kC_41 b) (sC_41 b) rfl dX2_addTargets_14 ?_
      refine g_getR E fl_RX2_106 (kC_24 b) (sC_24 b) rfl dX2_addTargets_17 ?_
      refine g_iload_3 E dX2_addTargets_20 ?_
      refine g_iald E (kC_33 b) (sC_33 b) (by decide) h.1 dX2_addTargets_21 ?_
      replace h := h.2
      refine g_nmI (fun v1 ev1 => ?_)
      replace h := h v1 ev1
      have cv1 : C32 v1 := by rw [ev1]; exact (aC_33 hσ _)
      refine g_istore_4 E rfl (by decide) dX2_addTargets_22 ?_
      refine g_iload_1 E dX2_addTargets_24 ?_
      refine g_aload_0 E dX2_addTargets_25 ?_
      refine g_getR E fl_RX2_9 (kC_41 b) (sC_41 b) rfl dX2_addTargets_26 ?_
      refine g_getR E fl_RX2_114 (kC_14 b) (sC_14 b) rfl dX2_addTargets_29 ?_
      refine g_iload_4 E dX2_addTargets_32 ?_
      refine g_iald E (kC_16 b) (sC_16 b) (by decide) h.1 dX2_addTargets_34 ?_
      replace h := h.2
      refine g_iadd E dX2_addTargets_35 ?_
      refine g_nmI (fun v2 ev2 => ?_)
      replace h := h v2 ev2
      have cv2 : C32 v2 := by rw [ev2]; exact (c32_w _)
      refine g_istore_5 E rfl (by decide) dX2_addTargets_36 ?_
      refine g_aload_0 E dX2_addTargets_38 ?_
      refine g_getR E fl_RX2_9 (kC_41 b) (sC_41 b) rfl dX2_addTargets_39 ?_
      refine g_getR E fl_RX2_109 (kC_14 b) (sC_14 b) rfl dX2_addTargets_42 ?_
      refine g_iload_4 E dX2_addTargets_45 ?_
      refine g_iald E (kC_15 b) (sC_15 b) (by decide) h.1 dX2_addTargets_47 ?_
      replace h := h.2
      refine g_iload_2 E dX2_addTargets_48 ?_
      refine g_icmp_ne E (aC_15 hσ _) c2 djX2_addTargets_49 (fun hc => ?_) (fun hc => ?_)
      · replace h := h.1 hc
        exact (t_X2_addTargets_b90 E hr ih x1 x2 x3 σ c1 c2 c3 hσ h).weak (w_k (w_k (w_k (w_k (w_d (w_d w_n))))))
      · replace h := h.2 hc
        refine g_aload_0 E dX2_addTargets_52 ?_
        refine g_getR E fl_RX2_19 (kC_41 b) (sC_41 b) rfl dX2_addTargets_53 ?_
        refine g_iload_5 E dX2_addTargets_56 ?_
        refine g_callvI E my_X1_has mi_X1_has msel_X1_has ml_RX2_115 (rm_ok (by decide) (by decide)) ⟨Nat.zero_le _, Nat.zero_le _⟩ (kC_36 b) (sC_36 b) rfl (m_X1_has E.2.2.1 cv2 hσ h) rfl rfl (Nat.le_of_ble_eq_true rfl) dX2_addTargets_58 (fun r3 σ4 cr3 hσ4 h => ?_)
        refine g_if_eq E cr3 djX2_addTargets_61 (fun hc => ?_) (fun hc => ?_)
        · replace h := h.1 hc
          exact (t_X2_addTargets_b90 E hr ih x1 x2 x3 σ4 c1 c2 c3 hσ4 h).weak (w_k (w_k (w_k (w_k (w_d (w_d w_n))))))
        · replace h := h.2 hc
          refine g_aload_0 E dX2_addTargets_64 ?_
          refine g_getR E fl_RX2_23 (kC_41 b) (sC_41 b) rfl dX2_addTargets_65 ?_
          refine g_iload_1 E dX2_addTargets_68 ?_
          refine g_iload_2 E dX2_addTargets_69 ?_
          refine g_iadd E dX2_addTargets_70 ?_
          refine g_aload_0 E dX2_addTargets_71 ?_
          refine g_getR E fl_RX2_23 (kC_41 b) (sC_41 b) rfl dX2_addTargets_72 ?_
          refine g_iload_1 E dX2_addTargets_75 ?_
          refine g_iload_2 E dX2_addTargets_76 ?_
          refine g_iadd E dX2_addTargets_77 ?_
          refine g_lald E (kC_42 b) (sC_42 b) (by decide) h.1 dX2_addTargets_78 ?_
          replace h := h.2
          refine g_aload_0 E dX2_addTargets_79 ?_
          refine g_getR E fl_RX2_23 (kC_41 b) (sC_41 b) rfl dX2_addTargets_80 ?_
          refine g_iload_5 E dX2_addTargets_83 ?_
          refine g_lald E (kC_42 b) (sC_42 b) (by decide) h.1 dX2_addTargets_85 ?_
          replace h := h.2
          refine g_callsL E my_X2_endlessSum ms_X2_endlessSum ml_RX2_100 (rm_ok (by decide) (by decide)) ⟨Nat.zero_le _, Nat.zero_le _⟩ (m_X2_endlessSum E.2.2.1 (aC_42 hσ4 _) (aC_42 hσ4 _) hσ4 h) rfl rfl (Nat.le_of_ble_eq_true rfl) dX2_addTargets_86 (fun r5 σ6 cr5 hσ6 h => ?_)
          refine g_last E (kC_42 b) (sC_42 b) (by decide) h.1 dX2_addTargets_89 (g_nmS (fun σ7 eσ7 => ?_))
          replace h := h.2 σ7 eσ7
          have hσ7 : CanS (shC b) (NC b) σ7 := by rw [eσ7]; exact wC_42 hσ6 cr5
          exact (t_X2_addTargets_b90 E hr ih x1 x2 x3 σ7 c1 c2 c3 hσ7 h).weak (w_k (w_k (w_k (w_k (w_d (w_d w_n))))))
set_option maxHeartbeats 4000000 in
set_option maxRecDepth 100000 in
theorem t_X2_addTargets (E : Ev p s m args meth c cX2_addTargets 6 RX2 A0 D cA ad (NC b) Z) (hr : meth.sig.returnType = none) (x1 : Int) (x2 : Int) (σ : St) (c1 : C32 x1) (c2 : C32 x2) (hσ : CanS (shC b) (NC b) σ) (h : wp_X2_addTargets x1 x2 σ Q) : G p l e (rmL 3 0 0) s m args below meth c 6 A0 D cA ad (shC b) (NC b) 0 0 (MQ below (QVc D cA ad (shC b) (NC b) Q A0) args s 0 0 A0) σ 0 [some (.ref (ad 41)), some (vI x1), some (vI x2), none, none, none] [] := by
  unfold wp_X2_addTargets at h
  refine g_iconst E dX2_addTargets_0 ?_
  refine g_istore_3 E rfl (by decide) dX2_addTargets_1 ?_
  exact (t_X2_addTargets_l2 E hr bigN x1 x2 0 σ c1 c2 cl_0 hσ h).weak (w_k (w_k (w_k (w_k (w_d (w_d w_n))))))
end
theorem m_X2_addTargets {Z : (Nat → Nat) × (Nat → Nat)} {l : Launch} {D : va_G} {cA : Nat → ClassId} {ad : Nat → Nat} {b : Bool} {x1 x2 : Int} {σ : St} {Q : Int → St → Prop} (hA : AdOk (NC b) ad) (c1 : C32 x1) (c2 : C32 x2) (hσ : CanS (shC b) (NC b) σ) (h : wp_X2_addTargets x1 x2 σ Q) : KtV Z l D cA ad (shC b) (NC b) yX2_addTargets cX2_addTargets 6 none 3 [.ref (ad 41), vI x1, vI x2] σ Q :=
  KtV.of my_X2_addTargets hA [some (.ref (ad 41)), some (vI x1), some (vI x2), none, none, none] (Nat.le_of_ble_eq_true rfl) rfl (fun p e s m args below meth c A0 E hr => t_X2_addTargets E hr x1 x2 σ c1 c2 hσ h)
theorem dX2_countSpan_0 : Dc cX2_countSpan 0 (.iload_n 1) 1 1 := ⟨by decide +kernel, rfl⟩
theorem dX2_countSpan_1 : Dc cX2_countSpan 1 (.istore_n 2) 1 2 := ⟨by decide +kernel, rfl⟩
theorem dX2_countSpan_2 : Dc cX2_countSpan 2 (.iload_n 2) 1 3 := ⟨by decide +kernel, rfl⟩
theorem dX2_countSpan_3 : Dc cX2_countSpan 3 (.iload_n 1) 1 4 := ⟨by decide +kernel, rfl⟩
theorem dX2_countSpan_4 : Dc cX2_countSpan 4 (.bipush 12) 2 6 := ⟨by decide +kernel, rfl⟩
theorem dX2_countSpan_6 : Dc cX2_countSpan 6 (.iadd) 1 7 := ⟨by decide +kernel, rfl⟩
theorem djX2_countSpan_7 : Dj cX2_countSpan 7 (.if_icmp .ge 20) 3 10 20 27 := ⟨by decide +kernel, rfl, by decide⟩
theorem dX2_countSpan_10 : Dc cX2_countSpan 10 (.aload_n 0) 1 11 := ⟨by decide +kernel, rfl⟩
theorem dX2_countSpan_11 : Dc cX2_countSpan 11 (.getfield 23) 3 14 := ⟨by decide +kernel, rfl⟩
theorem dX2_countSpan_14 : Dc cX2_countSpan 14 (.iload_n 2) 1 15 := ⟨by decide +kernel, rfl⟩
theorem dX2_countSpan_15 : Dc cX2_countSpan 15 (.aload_n 0) 1 16 := ⟨by decide +kernel, rfl⟩
theorem dX2_countSpan_16 : Dc cX2_countSpan 16 (.iload_n 2) 1 17 := ⟨by decide +kernel, rfl⟩
theorem dX2_countSpan_17 : Dc cX2_countSpan 17 (.invokevirtual 58) 3 20 := ⟨by decide +kernel, rfl⟩
theorem dX2_countSpan_20 : Dc cX2_countSpan 20 (.lastore) 1 21 := ⟨by decide +kernel, rfl⟩
theorem dX2_countSpan_21 : Dc cX2_countSpan 21 (.iinc 2 1) 3 24 := ⟨by decide +kernel, rfl⟩
theorem djX2_countSpan_24 : Dj cX2_countSpan 24 (.goto (-22)) 3 27 (-22) 2 := ⟨by decide +kernel, rfl, by decide⟩
theorem dX2_countSpan_27 : Dc cX2_countSpan 27 (.aload_n 0) 1 28 := ⟨by decide +kernel, rfl⟩
theorem dX2_countSpan_28 : Dc cX2_countSpan 28 (.iload_n 1) 1 29 := ⟨by decide +kernel, rfl⟩
theorem dX2_countSpan_29 : Dc cX2_countSpan 29 (.invokevirtual 62) 3 32 := ⟨by decide +kernel, rfl⟩
theorem dX2_countSpan_32 : Dc cX2_countSpan 32 (.istore_n 2) 1 33 := ⟨by decide +kernel, rfl⟩
theorem dX2_countSpan_33 : Dc cX2_countSpan 33 (.iconst 0) 1 34 := ⟨by decide +kernel, rfl⟩
theorem dX2_countSpan_34 : Dc cX2_countSpan 34 (.istore_n 3) 1 35 := ⟨by decide +kernel, rfl⟩
theorem dX2_countSpan_35 : Dc cX2_countSpan 35 (.iload_n 3) 1 36 := ⟨by decide +kernel, rfl⟩
theorem dX2_countSpan_36 : Dc cX2_countSpan 36 (.bipush 12) 2 38 := ⟨by decide +kernel, rfl⟩
theorem djX2_countSpan_38 : Dj cX2_countSpan 38 (.if_icmp .ge 67) 3 41 67 105 := ⟨by decide +kernel, rfl, by decide⟩
theorem dX2_countSpan_41 : Dc cX2_countSpan 41 (.iload_n 2) 1 42 := ⟨by decide +kernel, rfl⟩
theorem djX2_countSpan_42 : Dj cX2_countSpan 42 (.ifCond .eq 63) 3 45 63 105 := ⟨by decide +kernel, rfl, by decide⟩
theorem dX2_countSpan_45 : Dc cX2_countSpan 45 (.iconst 0) 1 46 := ⟨by decide +kernel, rfl⟩
theorem dX2_countSpan_46 : Dc cX2_countSpan 46 (.istore 4) 2 48 := ⟨by decide +kernel, rfl⟩
theorem dX2_countSpan_48 : Dc cX2_countSpan 48 (.iload 4) 2 50 := ⟨by decide +kernel, rfl⟩
theorem dX2_countSpan_50 : Dc cX2_countSpan 50 (.bipush 12) 2 52 := ⟨by decide +kernel, rfl⟩
theorem djX2_countSpan_52 : Dj cX2_countSpan 52 (.if_icmp .ge 47) 3 55 47 99 := ⟨by decide +kernel, rfl, by decide⟩
theorem dX2_countSpan_55 : Dc cX2_countSpan 55 (.iload_n 2) 1 56 := ⟨by decide +kernel, rfl⟩
theorem dX2_countSpan_56 : Dc cX2_countSpan 56 (.iload 4) 2 58 := ⟨by decide +kernel, rfl⟩
theorem dX2_countSpan_58 : Dc cX2_countSpan 58 (.ishr) 1 59 := ⟨by decide +kernel, rfl⟩
theorem dX2_countSpan_59 : Dc cX2_countSpan 59 (.iconst 1) 1 60 := ⟨by decide +kernel, rfl⟩
theorem dX2_countSpan_60 : Dc cX2_countSpan 60 (.iand) 1 61 := ⟨by decide +kernel, rfl⟩
theorem dX2_countSpan_61 : Dc cX2_countSpan 61 (.iconst 1) 1 62 := ⟨by decide +kernel, rfl⟩
theorem djX2_countSpan_62 : Dj cX2_countSpan 62 (.if_icmp .ne 31) 3 65 31 93 := ⟨by decide +kernel, rfl, by decide⟩
theorem dX2_countSpan_65 : Dc cX2_countSpan 65 (.aload_n 0) 1 66 := ⟨by decide +kernel, rfl⟩
theorem dX2_countSpan_66 : Dc cX2_countSpan 66 (.iload_n 1) 1 67 := ⟨by decide +kernel, rfl⟩
theorem dX2_countSpan_67 : Dc cX2_countSpan 67 (.iload 4) 2 69 := ⟨by decide +kernel, rfl⟩
theorem dX2_countSpan_69 : Dc cX2_countSpan 69 (.invokevirtual 66) 3 72 := ⟨by decide +kernel, rfl⟩
theorem dX2_countSpan_72 : Dc cX2_countSpan 72 (.iload_n 2) 1 73 := ⟨by decide +kernel, rfl⟩
theorem dX2_countSpan_73 : Dc cX2_countSpan 73 (.iand) 1 74 := ⟨by decide +kernel, rfl⟩
theorem djX2_countSpan_74 : Dj cX2_countSpan 74 (.ifCond .ne 19) 3 77 19 93 := ⟨by decide +kernel, rfl, by decide⟩
theorem dX2_countSpan_77 : Dc cX2_countSpan 77 (.aload_n 0) 1 78 := ⟨by decide +kernel, rfl⟩
theorem dX2_countSpan_78 : Dc cX2_countSpan 78 (.iload_n 1) 1 79 := ⟨by decide +kernel, rfl⟩
theorem dX2_countSpan_79 : Dc cX2_countSpan 79 (.iload 4) 2 81 := ⟨by decide +kernel, rfl⟩
theorem dX2_countSpan_81 : Dc cX2_countSpan 81 (.invokevirtual 70) 3 84 := ⟨by decide +kernel, rfl⟩
theorem dX2_countSpan_84 : Dc cX2_countSpan 84 (.iload_n 2) 1 85 := ⟨by decide +kernel, rfl⟩
theorem dX2_countSpan_85 : Dc cX2_countSpan 85 (.iconst 1) 1 86 := ⟨by decide +kernel, rfl⟩
theorem dX2_countSpan_86 : Dc cX2_countSpan 86 (.iload 4) 2 88 := ⟨by decide +kernel, rfl⟩
theorem dX2_countSpan_88 : Dc cX2_countSpan 88 (.ishl) 1 89 := ⟨by decide +kernel, rfl⟩
theorem dX2_countSpan_89 : Dc cX2_countSpan 89 (.iconst (-1)) 1 90 := ⟨by decide +kernel, rfl⟩
theorem dX2_countSpan_90 : Dc cX2_countSpan 90 (.ixor) 1 91 := ⟨by decide +kernel, rfl⟩
theorem dX2_countSpan_91 : Dc cX2_countSpan 91 (.iand) 1 92 := ⟨by decide +kernel, rfl⟩
theorem dX2_countSpan_92 : Dc cX2_countSpan 92 (.istore_n 2) 1 93 := ⟨by decide +kernel, rfl⟩
theorem dX2_countSpan_93 : Dc cX2_countSpan 93 (.iinc 4 1) 3 96 := ⟨by decide +kernel, rfl⟩
theorem djX2_countSpan_96 : Dj cX2_countSpan 96 (.goto (-48)) 3 99 (-48) 48 := ⟨by decide +kernel, rfl, by decide⟩
theorem dX2_countSpan_99 : Dc cX2_countSpan 99 (.iinc 3 1) 3 102 := ⟨by decide +kernel, rfl⟩
theorem djX2_countSpan_102 : Dj cX2_countSpan 102 (.goto (-67)) 3 105 (-67) 35 := ⟨by decide +kernel, rfl, by decide⟩
theorem dX2_countSpan_105 : Dc cX2_countSpan 105 (.iconst 0) 1 106 := ⟨by decide +kernel, rfl⟩
theorem dX2_countSpan_106 : Dc cX2_countSpan 106 (.istore_n 3) 1 107 := ⟨by decide +kernel, rfl⟩
theorem dX2_countSpan_107 : Dc cX2_countSpan 107 (.iload_n 3) 1 108 := ⟨by decide +kernel, rfl⟩
theorem dX2_countSpan_108 : Dc cX2_countSpan 108 (.bipush 12) 2 110 := ⟨by decide +kernel, rfl⟩
theorem djX2_countSpan_110 : Dj cX2_countSpan 110 (.if_icmp .ge 29) 3 113 29 139 := ⟨by decide +kernel, rfl, by decide⟩
theorem dX2_countSpan_113 : Dc cX2_countSpan 113 (.iload_n 2) 1 114 := ⟨by decide +kernel, rfl⟩
theorem dX2_countSpan_114 : Dc cX2_countSpan 114 (.iload_n 3) 1 115 := ⟨by decide +kernel, rfl⟩
theorem dX2_countSpan_115 : Dc cX2_countSpan 115 (.ishr) 1 116 := ⟨by decide +kernel, rfl⟩
theorem dX2_countSpan_116 : Dc cX2_countSpan 116 (.iconst 1) 1 117 := ⟨by decide +kernel, rfl⟩
theorem dX2_countSpan_117 : Dc cX2_countSpan 117 (.iand) 1 118 := ⟨by decide +kernel, rfl⟩
theorem dX2_countSpan_118 : Dc cX2_countSpan 118 (.iconst 1) 1 119 := ⟨by decide +kernel, rfl⟩
theorem djX2_countSpan_119 : Dj cX2_countSpan 119 (.if_icmp .ne 14) 3 122 14 133 := ⟨by decide +kernel, rfl, by decide⟩
theorem dX2_countSpan_122 : Dc cX2_countSpan 122 (.aload_n 0) 1 123 := ⟨by decide +kernel, rfl⟩
theorem dX2_countSpan_123 : Dc cX2_countSpan 123 (.getfield 23) 3 126 := ⟨by decide +kernel, rfl⟩
theorem dX2_countSpan_126 : Dc cX2_countSpan 126 (.iload_n 1) 1 127 := ⟨by decide +kernel, rfl⟩
theorem dX2_countSpan_127 : Dc cX2_countSpan 127 (.iload_n 3) 1 128 := ⟨by decide +kernel, rfl⟩
theorem dX2_countSpan_128 : Dc cX2_countSpan 128 (.iadd) 1 129 := ⟨by decide +kernel, rfl⟩
theorem dX2_countSpan_129 : Dc cX2_countSpan 129 (.ldc2_w 74) 3 132 := ⟨by decide +kernel, rfl⟩
theorem dX2_countSpan_132 : Dc cX2_countSpan 132 (.lastore) 1 133 := ⟨by decide +kernel, rfl⟩
theorem dX2_countSpan_133 : Dc cX2_countSpan 133 (.iinc 3 1) 3 136 := ⟨by decide +kernel, rfl⟩
theorem djX2_countSpan_136 : Dj cX2_countSpan 136 (.goto (-29)) 3 139 (-29) 107 := ⟨by decide +kernel, rfl, by decide⟩
theorem dX2_countSpan_139 : Dc cX2_countSpan 139 (.return_) 1 140 := ⟨by decide +kernel, rfl⟩
section
variable {p : Program} {l : Launch} {e : Env} {s : State} {m : MethodId} {args : Array Value} {below : List Frame} {meth : Method} {c : Code} {A0 : Nat → Prop} {D : va_G} {cA : Nat → ClassId} {ad : Nat → Nat} {Z : (Nat → Nat) × (Nat → Nat)} {Q : Int → St → Prop} {b : Bool}
set_option maxHeartbeats 4000000 in
set_option maxRecDepth 100000 in
theorem t_X2_countSpan_b93 (E : Ev p s m args meth c cX2_countSpan 5 RX2 A0 D cA ad (NC b) Z) (hr : meth.sig.returnType = none) {K35 : Int → Int → Int → St → Prop} (hK35 : ∀ (x1 : Int) (x2 : Int) (x3 : Int) (σ : St), C32 x1 → C32 x2 → C32 x3 → CanS (shC b) (NC b) σ → K35 x1 x2 x3 σ → G p l e (rmL 4 0 0) s m args below meth c 5 A0 D cA ad (shC b) (NC b) 0 0 (MQ below (QVc D cA ad (shC b) (NC b) Q A0) args s 0 0 A0) σ 35 [some (.ref (ad 41)), some (vI x1), some (vI x2), some (vI x3), none] []) {K48 : Int → Int → Int → Int → St → Prop} (hK48 : ∀ (x1 : Int) (x2 : Int) (x3 : Int) (x4 : Int) (σ : St), C32 x1 → C32 x2 → C32 x3 → C32 x4 → CanS (shC b) (NC b) σ → K48 x1 x2 x3 x4 σ → G p l e (rmL 4 0 0) s m args below meth c 5 A0 D cA ad (shC b) (NC b) 0 0 (MQ below (QVc D cA ad (shC b) (NC b) Q A0) args s 0 0 A0) σ 48 [some (.ref (ad 41)), some (vI x1), some (vI x2), some (vI x3), some (vI x4)] []) (x1 : Int) (x2 : Int) (x3 : Int) (x4 : Int) (σ : St) (c1 : C32 x1) (c2 : C32 x2) (c3 : C32 x3) (c4 : C32 x4) (hσ : CanS (shC b) (NC b) σ) (h : wp_X2_countSpan_b93 Q K35 K48 x1 x2 x3 x4 σ) : G p l e (rmL 4 0 0) s m args below meth c 5 A0 D cA ad (shC b) (NC b) 0 0 (MQ below (QVc D cA ad (shC b) (NC b) Q A0) args s 0 0 A0) σ 93 [some (.ref (ad 41)), some (vI x1), some (vI x2), some (vI x3), some (vI x4)] [] := by
  unfold wp_X2_countSpan_b93 at h
  refine g_iinc_4 E rfl (by decide) dX2_countSpan_93 (fun v14 ev14 => ?_)
  replace h := h v14 ev14
  have cv14 : C32 v14 := by rw [ev14]; exact c32_w _
  refine g_goto E djX2_countSpan_96 ?_
  exact (hK48 x1 x2 x3 v14 σ c1 c2 c3 cv14 hσ h).weak (w_k (w_k (w_k (w_k (w_k w_n)))))
set_option maxHeartbeats 4000000 in
set_option maxRecDepth 100000 in
theorem t_X2_countSpan_l48 (E : Ev p s m args meth c cX2_countSpan 5 RX2 A0 D cA ad (NC b) Z) (hr : meth.sig.returnType = none) {K35 : Int → Int → Int → St → Prop} (hK35 : ∀ (x1 : Int) (x2 : Int) (x3 : Int) (σ : St), C32 x1 → C32 x2 → C32 x3 → CanS (shC b) (NC b) σ → K35 x1 x2 x3 σ → G p l e (rmL 4 0 0) s m args below meth c 5 A0 D cA ad (shC b) (NC b) 0 0 (MQ below (QVc D cA ad (shC b) (NC b) Q A0) args s 0 0 A0) σ 35 [some (.ref (ad 41)), some (vI x1), some (vI x2), some (vI x3), none] []) : ∀ (n : Nat) (x1 : Int) (x2 : Int) (x3 : Int) (x4 : Int) (σ : St), C32 x1 → C32 x2 → C32 x3 → C32 x4 → CanS (shC b) (NC b) σ → wp_X2_countSpan_l48 Q K35 n x1 x2 x3 x4 σ → G p l e (rmL 4 0 0) s m args below meth c 5 A0 D cA ad (shC b) (NC b) 0 0 (MQ below (QVc D cA ad (shC b) (NC b) Q A0) args s 0 0 A0) σ 48 [some (.ref (ad 41)), some (vI x1), some (vI x2), some (vI x3), some (vI x4)] [] := by
  intro n
  induction n with
  | zero => intro _ _ _ _ _ _ _ _ _ _ h; exact h.elim
  | succ n ih =>
    intro x1 x2 x3 x4 σ c1 c2 c3 c4 hσ h
    unfold wp_X2_countSpan_l48 at h
    refine g_iload_4 E dX2_countSpan_48 ?_
    refine g_bipush E (by decide) dX2_countSpan_50 ?_
    refine g_icmp_ge E c4 cl_12 djX2_countSpan_52 (fun hc => ?_) (fun hc => ?_)
    · replace h := h.1 hc
      refine g_iinc_3 E rfl (by decide) dX2_countSpan_99 (fun v7 ev7 => ?_)
      replace h := h v7 ev7
      have cv7 : C32 v7 := by rw [ev7]; exact c32_w _
      refine g_goto E djX2_countSpan_102 ?_
      exact (hK35 x1 x2 v7 σ c1 c2 cv7 hσ h).weak (w_k (w_k (w_k (w_k (w_d w_n)))))
    · replace h := h.2 hc
      refine g_iload_2 E dX2_countSpan_55 ?_
      refine g_iload_4 E dX2_countSpan_56 ?_
      refine g_ishr E dX2_countSpan_58 ?_
      refine g_iconst E dX2_countSpan_59 ?_
      refine g_iand E dX2_countSpan_60 ?_
      refine g_iconst E dX2_countSpan_61 ?_
      refine g_icmp_ne E (c32_t _) cl_1 djX2_countSpan_62 (fun hc => ?_) (fun hc => ?_)
      · replace h := h.1 hc
        exact (t_X2_countSpan_b93 E hr hK35 ih x1 x2 x3 x4 σ c1 c2 c3 c4 hσ h).weak (w_k (w_k (w_k (w_k (w_k w_n)))))
      · replace h := h.2 hc
        refine g_aload_0 E dX2_countSpan_65 ?_
        refine g_iload_1 E dX2_countSpan_66 ?_
        refine g_iload_4 E dX2_countSpan_67 ?_
        refine g_callvI E my_X2_targets mi_X2_targets msel_X2_targets ml_RX2_66 (rm_ok (by decide) (by decide)) ⟨Nat.zero_le _, Nat.zero_le _⟩ (kC_41 b) (sC_41 b) rfl (m_X2_targets E.2.2.1 c1 c4 hσ h) rfl rfl (Nat.le_of_ble_eq_true rfl) dX2_countSpan_69 (fun r8 σ9 cr8 hσ9 h => ?_)
        refine g_iload_2 E dX2_countSpan_72 ?_
        refine g_iand E dX2_countSpan_73 ?_
        refine g_if_ne E (c32_t _) djX2_countSpan_74 (fun hc => ?_) (fun hc => ?_)
        · replace h := h.1 hc
          exact (t_X2_countSpan_b93 E hr hK35 ih x1 x2 x3 x4 σ9 c1 c2 c3 c4 hσ9 h).weak (w_k (w_k (w_k (w_k (w_k w_n)))))
        · replace h := h.2 hc
          refine g_aload_0 E dX2_countSpan_77 ?_
          refine g_iload_1 E dX2_countSpan_78 ?_
          refine g_iload_4 E dX2_countSpan_79 ?_
          refine g_callvV E my_X2_addTargets mi_X2_addTargets msel_X2_addTargets ml_RX2_70 (rm_ok (by decide) (by decide)) ⟨Nat.zero_le _, Nat.zero_le _⟩ (kC_41 b) (sC_41 b) rfl (m_X2_addTargets E.2.2.1 c1 c4 hσ9 h) rfl rfl (Nat.le_of_ble_eq_true rfl) dX2_countSpan_81 (fun σ11 r10 hσ11 h => ?_)
          refine g_iload_2 E dX2_countSpan_84 ?_
          refine g_iconst E dX2_countSpan_85 ?_
          refine g_iload_4 E dX2_countSpan_86 ?_
          refine g_ishl E dX2_countSpan_88 ?_
          refine g_iconst E dX2_countSpan_89 ?_
          refine g_ixor E dX2_countSpan_90 ?_
          refine g_iand E dX2_countSpan_91 ?_
          refine g_nmI (fun v12 ev12 => ?_)
          replace h := h v12 ev12
          have cv12 : C32 v12 := by rw [ev12]; exact (c32_t _)
          refine g_istore_2 E rfl (by decide) dX2_countSpan_92 ?_
          exact (t_X2_countSpan_b93 E hr hK35 ih x1 v12 x3 x4 σ11 c1 cv12 c3 c4 hσ11 h).weak (w_k (w_k (w_k (w_k (w_k w_n)))))
set_option maxHeartbeats 4000000 in
set_option maxRecDepth 100000 in
theorem t_X2_countSpan_b133 (E : Ev p s m args meth c cX2_countSpan 5 RX2 A0 D cA ad (NC b) Z) (hr : meth.sig.returnType = none) {K107 : Int → Int → Int → St → Prop} (hK107 : ∀ (x1 : Int) (x2 : Int) (x3 : Int) (σ : St), C32 x1 → C32 x2 → C32 x3 → CanS (shC b) (NC b) σ → K107 x1 x2 x3 σ → G p l e (rmL 4 0 0) s m args below meth c 5 A0 D cA ad (shC b) (NC b) 0 0 (MQ below (QVc D cA ad (shC b) (NC b) Q A0) args s 0 0 A0) σ 107 [some (.ref (ad 41)), some (vI x1), some (vI x2), some (vI x3), none] []) (x1 : Int) (x2 : Int) (x3 : Int) (σ : St) (c1 : C32 x1) (c2 : C32 x2) (c3 : C32 x3) (hσ : CanS (shC b) (NC b) σ) (h : wp_X2_countSpan_b133 Q K107 x1 x2 x3 σ) : G p l e (rmL 4 0 0) s m args below meth c 5 A0 D cA ad (shC b) (NC b) 0 0 (MQ below (QVc D cA ad (shC b) (NC b) Q A0) args s 0 0 A0) σ 133 [some (.ref (ad 41)), some (vI x1), some (vI x2), some (vI x3), none] [] := by
  unfold wp_X2_countSpan_b133 at h
  refine g_iinc_3 E rfl (by decide) dX2_countSpan_133 (fun v15 ev15 => ?_)
  replace h := h v15 ev15
  have cv15 : C32 v15 := by rw [ev15]; exact c32_w _
  refine g_goto E djX2_countSpan_136 ?_
  exact (hK107 x1 x2 v15 σ c1 c2 cv15 hσ h).weak (w_k (w_k (w_k (w_k (w_d w_n)))))
set_option maxHeartbeats 4000000 in
set_option maxRecDepth 100000 in
theorem t_X2_countSpan_l107 (E : Ev p s m args meth c cX2_countSpan 5 RX2 A0 D cA ad (NC b) Z) (hr : meth.sig.returnType = none) : ∀ (n : Nat) (x1 : Int) (x2 : Int) (x3 : Int) (σ : St), C32 x1 → C32 x2 → C32 x3 → CanS (shC b) (NC b) σ → wp_X2_countSpan_l107 Q n x1 x2 x3 σ → G p l e (rmL 4 0 0) s m args below meth c 5 A0 D cA ad (shC b) (NC b) 0 0 (MQ below (QVc D cA ad (shC b) (NC b) Q A0) args s 0 0 A0) σ 107 [some (.ref (ad 41)), some (vI x1), some (vI x2), some (vI x3), none] [] := by
  intro n
  induction n with
  | zero => intro _ _ _ _ _ _ _ _ h; exact h.elim
  | succ n ih =>
    intro x1 x2 x3 σ c1 c2 c3 hσ h
    unfold wp_X2_countSpan_l107 at h
    refine g_iload_3 E dX2_countSpan_107 ?_
    refine g_bipush E (by decide) dX2_countSpan_108 ?_
    refine g_icmp_ge E c3 cl_12 djX2_countSpan_110 (fun hc => ?_) (fun hc => ?_)
    · replace h := h.1 hc
      exact g_vret E hr h hσ dX2_countSpan_139
    · replace h := h.2 hc
      refine g_iload_2 E dX2_countSpan_113 ?_
      refine g_iload_3 E dX2_countSpan_114 ?_
      refine g_ishr E dX2_countSpan_115 ?_
      refine g_iconst E dX2_countSpan_116 ?_
      refine g_iand E dX2_countSpan_117 ?_
      refine g_iconst E dX2_countSpan_118 ?_
      refine g_icmp_ne E (c32_t _) cl_1 djX2_countSpan_119 (fun hc => ?_) (fun hc => ?_)
      · replace h := h.1 hc
        exact (t_X2_countSpan_b133 E hr ih x1 x2 x3 σ c1 c2 c3 hσ h).weak (w_k (w_k (w_k (w_k (w_d w_n)))))
      · replace h := h.2 hc
        refine g_aload_0 E dX2_countSpan_122 ?_
        refine g_getR E fl_RX2_23 (kC_41 b) (sC_41 b) rfl dX2_countSpan_123 ?_
        refine g_iload_1 E dX2_countSpan_126 ?_
        refine g_iload_3 E dX2_countSpan_127 ?_
        refine g_iadd E dX2_countSpan_128 ?_
        refine g_ldc2 (n := (-5)) E wc_RX2_74 dX2_countSpan_129 ?_
        refine g_last E (kC_42 b) (sC_42 b) (by decide) h.1 dX2_countSpan_132 (g_nmS (fun σ13 eσ13 => ?_))
        replace h := h.2 σ13 eσ13
        have hσ13 : CanS (shC b) (NC b) σ13 := by rw [eσ13]; exact wC_42 hσ cL_m5
        exact (t_X2_countSpan_b133 E hr ih x1 x2 x3 σ13 c1 c2 c3 hσ13 h).weak (w_k (w_k (w_k (w_k (w_d w_n)))))
set_option maxHeartbeats 4000000 in
set_option maxRecDepth 100000 in
theorem t_X2_countSpan_b105 (E : Ev p s m args meth c cX2_countSpan 5 RX2 A0 D cA ad (NC b) Z) (hr : meth.sig.returnType = none) (x1 : Int) (x2 : Int) (σ : St) (c1 : C32 x1) (c2 : C32 x2) (hσ : CanS (shC b) (NC b) σ) (h : wp_X2_countSpan_b105 Q x1 x2 σ) : G p l e (rmL 4 0 0) s m args below meth c 5 A0 D cA ad (shC b) (NC b) 0 0 (MQ below (QVc D cA ad (shC b) (NC b) Q A0) args s 0 0 A0) σ 105 [some (.ref (ad 41)), some (vI x1), some (vI x2), none, none] [] := by
  unfold wp_X2_countSpan_b105 at h
  refine g_iconst E dX2_countSpan_105 ?_
  refine g_istore_3 E rfl (by decide) dX2_countSpan_106 ?_
  exact (t_X2_countSpan_l107 E hr bigN x1 x2 0 σ c1 c2 cl_0 hσ h).weak (w_k (w_k (w_k (w_k (w_d w_n)))))
set_option maxHeartbeats 4000000 in
set_option maxRecDepth 100000 in
theorem t_X2_countSpan_l35 (E : Ev p s m args meth c cX2_countSpan 5 RX2 A0 D cA ad (NC b) Z) (hr : meth.sig.returnType = none) : ∀ (n : Nat) (x1 : Int) (x2 : Int) (x3 : Int) (σ : St), C32 x1 → C32 x2 → C32 x3 → CanS (shC b) (NC b) σ → wp_X2_countSpan_l35 Q n x1 x2 x3 σ → G p l e (rmL 4 0 0) s m args below meth c 5 A0 D cA ad (shC b) (NC b) 0 0 (MQ below (QVc D cA ad (shC b) (NC b) Q A0) args s 0 0 A0) σ 35 [some (.ref (ad 41)), some (vI x1), some (vI x2), some (vI x3), none] [] := by
  intro n
  induction n with
  | zero => intro _ _ _ _ _ _ _ _ h; exact h.elim
  | succ n ih =>
    intro x1 x2 x3 σ c1 c2 c3 hσ h
    unfold wp_X2_countSpan_l35 at h
    refine g_iload_3 E dX2_countSpan_35 ?_
    refine g_bipush E (by decide) dX2_countSpan_36 ?_
    refine g_icmp_ge E c3 cl_12 djX2_countSpan_38 (fun hc => ?_) (fun hc => ?_)
    · replace h := h.1 hc
      exact (t_X2_countSpan_b105 E hr x1 x2 σ c1 c2 hσ h).weak (w_k (w_k (w_k (w_d (w_d w_n)))))
    · replace h := h.2 hc
      refine g_iload_2 E dX2_countSpan_41 ?_
      refine g_if_eq E c2 djX2_countSpan_42 (fun hc => ?_) (fun hc => ?_)
      · replace h := h.1 hc
        exact (t_X2_countSpan_b105 E hr x1 x2 σ c1 c2 hσ h).weak (w_k (w_k (w_k (w_d (w_d w_n)))))
      · replace h := h.2 hc
        refine g_iconst E dX2_countSpan_45 ?_
        refine g_istore_4 E rfl (by decide) dX2_countSpan_46 ?_
        exact (t_X2_countSpan_l48 E hr ih bigN x1 x2 x3 0 σ c1 c2 c3 cl_0 hσ h).weak (w_k (w_k (w_k (w_k (w_k w_n)))))
set_option maxHeartbeats 4000000 in
set_option maxRecDepth 100000 in
theorem t_X2_countSpan_l2 (E : Ev p s m args meth c cX2_countSpan 5 RX2 A0 D cA ad (NC b) Z) (hr : meth.sig.returnType = none) : ∀ (n : Nat) (x1 : Int) (x2 : Int) (σ : St), C32 x1 → C32 x2 → CanS (shC b) (NC b) σ → wp_X2_countSpan_l2 Q n x1 x2 σ → G p l e (rmL 4 0 0) s m args below meth c 5 A0 D cA ad (shC b) (NC b) 0 0 (MQ below (QVc D cA ad (shC b) (NC b) Q A0) args s 0 0 A0) σ 2 [some (.ref (ad 41)), some (vI x1), some (vI x2), none, none] [] := by
  intro n
  induction n with
  | zero => intro _ _ _ _ _ _ h; exact h.elim
  | succ n ih =>
    intro x1 x2 σ c1 c2 hσ h
    unfold wp_X2_countSpan_l2 at h
    refine g_iload_2 E dX2_countSpan_2 ?_
    refine g_iload_1 E dX2_countSpan_3 ?_
    refine g_bipush E (by decide) dX2_countSpan_4 ?_
    refine g_iadd E dX2_countSpan_6 ?_
    refine g_icmp_ge E c2 (c32_w _) djX2_countSpan_7 (fun hc => ?_) (fun hc => ?_)
    · replace h := h.1 hc
      refine g_aload_0 E dX2_countSpan_27 ?_
      refine g_iload_1 E dX2_countSpan_28 ?_
      refine g_callvI E my_X2_labelsThatGoOn mi_X2_labelsThatGoOn msel_X2_labelsThatGoOn ml_RX2_62 (rm_ok (by decide) (by decide)) ⟨Nat.zero_le _, Nat.zero_le _⟩ (kC_41 b) (sC_41 b) rfl (m_X2_labelsThatGoOn E.2.2.1 c1 hσ h) rfl rfl (Nat.le_of_ble_eq_true rfl) dX2_countSpan_29 (fun r1 σ2 cr1 hσ2 h => ?_)
      refine g_istore_2 E rfl (by decide) dX2_countSpan_32 ?_
      refine g_iconst E dX2_countSpan_33 ?_
      refine g_istore_3 E rfl (by decide) dX2_countSpan_34 ?_
      exact (t_X2_countSpan_l35 E hr bigN x1 r1 0 σ2 c1 cr1 cl_0 hσ2 h).weak (w_k (w_k (w_k (w_k (w_d w_n)))))
    · replace h := h.2 hc
      refine g_aload_0 E dX2_countSpan_10 ?_
      refine g_getR E fl_RX2_23 (kC_41 b) (sC_41 b) rfl dX2_countSpan_11 ?_
      refine g_iload_2 E dX2_countSpan_14 ?_
      refine g_aload_0 E dX2_countSpan_15 ?_
      refine g_iload_2 E dX2_countSpan_16 ?_
      refine g_callvL E my_X2_countCases mi_X2_countCases msel_X2_countCases ml_RX2_58 (rm_ok (by decide) (by decide)) ⟨Nat.zero_le _, Nat.zero_le _⟩ (kC_41 b) (sC_41 b) rfl (m_X2_countCases E.2.2.1 c2 hσ h) rfl rfl (Nat.le_of_ble_eq_true rfl) dX2_countSpan_17 (fun r3 σ4 cr3 hσ4 h => ?_)
      refine g_last E (kC_42 b) (sC_42 b) (by decide) h.1 dX2_countSpan_20 (g_nmS (fun σ5 eσ5 => ?_))
      replace h := h.2 σ5 eσ5
      have hσ5 : CanS (shC b) (NC b) σ5 := by rw [eσ5]; exact wC_42 hσ4 cr3
      refine g_iinc_2 E rfl (by decide) dX2_countSpan_21 (fun v6 ev6 => ?_)
      replace h := h v6 ev6
      have cv6 : C32 v6 := by rw [ev6]; exact c32_w _
      refine g_goto E djX2_countSpan_24 ?_
      exact (ih x1 v6 σ5 c1 cv6 hσ5 h).weak (w_k (w_k (w_k (w_d (w_d w_n)))))
set_option maxHeartbeats 4000000 in
set_option maxRecDepth 100000 in
theorem t_X2_countSpan (E : Ev p s m args meth c cX2_countSpan 5 RX2 A0 D cA ad (NC b) Z) (hr : meth.sig.returnType = none) (x1 : Int) (σ : St) (c1 : C32 x1) (hσ : CanS (shC b) (NC b) σ) (h : wp_X2_countSpan x1 σ Q) : G p l e (rmL 4 0 0) s m args below meth c 5 A0 D cA ad (shC b) (NC b) 0 0 (MQ below (QVc D cA ad (shC b) (NC b) Q A0) args s 0 0 A0) σ 0 [some (.ref (ad 41)), some (vI x1), none, none, none] [] := by
  unfold wp_X2_countSpan at h
  refine g_iload_1 E dX2_countSpan_0 ?_
  refine g_istore_2 E rfl (by decide) dX2_countSpan_1 ?_
  exact (t_X2_countSpan_l2 E hr bigN x1 x1 σ c1 c1 hσ h).weak (w_k (w_k (w_k (w_d (w_d w_n)))))
end
theorem m_X2_countSpan {Z : (Nat → Nat) × (Nat → Nat)} {l : Launch} {D : va_G} {cA : Nat → ClassId} {ad : Nat → Nat} {b : Bool} {x1 : Int} {σ : St} {Q : Int → St → Prop} (hA : AdOk (NC b) ad) (c1 : C32 x1) (hσ : CanS (shC b) (NC b) σ) (h : wp_X2_countSpan x1 σ Q) : KtV Z l D cA ad (shC b) (NC b) yX2_countSpan cX2_countSpan 5 none 4 [.ref (ad 41), vI x1] σ Q :=
  KtV.of my_X2_countSpan hA [some (.ref (ad 41)), some (vI x1), none, none, none] (Nat.le_of_ble_eq_true rfl) rfl (fun p e s m args below meth c A0 E hr => t_X2_countSpan E hr x1 σ c1 hσ h)
theorem dX2_treesOf_0 : Dc cX2_treesOf 0 (.aload_n 0) 1 1 := ⟨by decide +kernel, rfl⟩
theorem dX2_treesOf_1 : Dc cX2_treesOf 1 (.getfield 19) 3 4 := ⟨by decide +kernel, rfl⟩
theorem dX2_treesOf_4 : Dc cX2_treesOf 4 (.invokevirtual 43) 3 7 := ⟨by decide +kernel, rfl⟩
theorem dX2_treesOf_7 : Dc cX2_treesOf 7 (.aload_n 0) 1 8 := ⟨by decide +kernel, rfl⟩
theorem dX2_treesOf_8 : Dc cX2_treesOf 8 (.getfield 33) 3 11 := ⟨by decide +kernel, rfl⟩
theorem djX2_treesOf_11 : Dj cX2_treesOf 11 (.ifCond .ne 35) 3 14 35 46 := ⟨by decide +kernel, rfl, by decide⟩
theorem dX2_treesOf_14 : Dc cX2_treesOf 14 (.aload_n 0) 1 15 := ⟨by decide +kernel, rfl⟩
theorem dX2_treesOf_15 : Dc cX2_treesOf 15 (.iconst 1) 1 16 := ⟨by decide +kernel, rfl⟩
theorem dX2_treesOf_16 : Dc cX2_treesOf 16 (.putfield 33) 3 19 := ⟨by decide +kernel, rfl⟩
theorem dX2_treesOf_19 : Dc cX2_treesOf 19 (.iconst 0) 1 20 := ⟨by decide +kernel, rfl⟩
theorem dX2_treesOf_20 : Dc cX2_treesOf 20 (.istore_n 2) 1 21 := ⟨by decide +kernel, rfl⟩
theorem dX2_treesOf_21 : Dc cX2_treesOf 21 (.iload_n 2) 1 22 := ⟨by decide +kernel, rfl⟩
theorem dX2_treesOf_22 : Dc cX2_treesOf 22 (.aload_n 0) 1 23 := ⟨by decide +kernel, rfl⟩
theorem dX2_treesOf_23 : Dc cX2_treesOf 23 (.getfield 15) 3 26 := ⟨by decide +kernel, rfl⟩
theorem dX2_treesOf_26 : Dc cX2_treesOf 26 (.getfield 48) 3 29 := ⟨by decide +kernel, rfl⟩
theorem djX2_treesOf_29 : Dj cX2_treesOf 29 (.if_icmp .ge 17) 3 32 17 46 := ⟨by decide +kernel, rfl, by decide⟩
theorem dX2_treesOf_32 : Dc cX2_treesOf 32 (.aload_n 0) 1 33 := ⟨by decide +kernel, rfl⟩
theorem dX2_treesOf_33 : Dc cX2_treesOf 33 (.iload_n 2) 1 34 := ⟨by decide +kernel, rfl⟩
theorem dX2_treesOf_34 : Dc cX2_treesOf 34 (.bipush 12) 2 36 := ⟨by decide +kernel, rfl⟩
theorem dX2_treesOf_36 : Dc cX2_treesOf 36 (.imul) 1 37 := ⟨by decide +kernel, rfl⟩
theorem dX2_treesOf_37 : Dc cX2_treesOf 37 (.invokevirtual 54) 3 40 := ⟨by decide +kernel, rfl⟩
theorem dX2_treesOf_40 : Dc cX2_treesOf 40 (.iinc 2 1) 3 43 := ⟨by decide +kernel, rfl⟩
theorem djX2_treesOf_43 : Dj cX2_treesOf 43 (.goto (-22)) 3 46 (-22) 21 := ⟨by decide +kernel, rfl, by decide⟩
theorem dX2_treesOf_46 : Dc cX2_treesOf 46 (.aload_n 0) 1 47 := ⟨by decide +kernel, rfl⟩
theorem dX2_treesOf_47 : Dc cX2_treesOf 47 (.getfield 23) 3 50 := ⟨by decide +kernel, rfl⟩
theorem dX2_treesOf_50 : Dc cX2_treesOf 50 (.iload_n 1) 1 51 := ⟨by decide +kernel, rfl⟩
theorem dX2_treesOf_51 : Dc cX2_treesOf 51 (.laload) 1 52 := ⟨by decide +kernel, rfl⟩
theorem dX2_treesOf_52 : Dc cX2_treesOf 52 (.lreturn) 1 53 := ⟨by decide +kernel, rfl⟩
section
variable {p : Program} {l : Launch} {e : Env} {s : State} {m : MethodId} {args : Array Value} {below : List Frame} {meth : Method} {c : Code} {A0 : Nat → Prop} {D : va_G} {cA : Nat → ClassId} {ad : Nat → Nat} {Z : (Nat → Nat) × (Nat → Nat)} {Q : Int → St → Prop} {b : Bool}
set_option maxHeartbeats 4000000 in
set_option maxRecDepth 100000 in
theorem t_X2_treesOf_b46 (E : Ev p s m args meth c cX2_treesOf 3 RX2 A0 D cA ad (NC b) Z) (hr : meth.sig.returnType = (some .long)) (x1 : Int) (σ : St) (c1 : C32 x1) (hσ : CanS (shC b) (NC b) σ) (h : wp_X2_treesOf_b46 Q x1 σ) : G p l e (rmL 6 0 0) s m args below meth c 3 A0 D cA ad (shC b) (NC b) 0 0 (MQ below (QLc D cA ad (shC b) (NC b) Q A0) args s 0 0 A0) σ 46 [some (.ref (ad 41)), some (vI x1), none] [] := by
  unfold wp_X2_treesOf_b46 at h
  refine g_aload_0 E dX2_treesOf_46 ?_
  refine g_getR E fl_RX2_23 (kC_41 b) (sC_41 b) rfl dX2_treesOf_47 ?_
  refine g_iload_1 E dX2_treesOf_50 ?_
  refine g_lald E (kC_42 b) (sC_42 b) (by decide) h.1 dX2_treesOf_51 ?_
  replace h := h.2
  exact g_lret E hr (aC_42 hσ _) h hσ dX2_treesOf_52
set_option maxHeartbeats 4000000 in
set_option maxRecDepth 100000 in
theorem t_X2_treesOf_l21 (E : Ev p s m args meth c cX2_treesOf 3 RX2 A0 D cA ad (NC b) Z) (hr : meth.sig.returnType = (some .long)) : ∀ (n : Nat) (x1 : Int) (x2 : Int) (σ : St), C32 x1 → C32 x2 → CanS (shC b) (NC b) σ → wp_X2_treesOf_l21 Q n x1 x2 σ → G p l e (rmL 6 0 0) s m args below meth c 3 A0 D cA ad (shC b) (NC b) 0 0 (MQ below (QLc D cA ad (shC b) (NC b) Q A0) args s 0 0 A0) σ 21 [some (.ref (ad 41)), some (vI x1), some (vI x2)] [] := by
  intro n
  induction n with
  | zero => intro _ _ _ _ _ _ h; exact h.elim
  | succ n ih =>
    intro x1 x2 σ c1 c2 hσ h
    unfold wp_X2_treesOf_l21 at h
    refine g_iload_2 E dX2_treesOf_21 ?_
    refine g_aload_0 E dX2_treesOf_22 ?_
    refine g_getR E fl_RX2_15 (kC_41 b) (sC_41 b) rfl dX2_treesOf_23 ?_
    refine g_getI E fl_RX2_48 (kC_24 b) (sC_24 b) rfl dX2_treesOf_26 ?_
    refine g_icmp_ge E c2 (fC_24_3 hσ) djX2_treesOf_29 (fun hc => ?_) (fun hc => ?_)
    · replace h := h.1 hc
      exact (t_X2_treesOf_b46 E hr x1 σ c1 hσ h).weak (w_k (w_k (w_d w_n)))
    · replace h := h.2 hc
      refine g_aload_0 E dX2_treesOf_32 ?_
      refine g_iload_2 E dX2_treesOf_33 ?_
      refine g_bipush E (by decide) dX2_treesOf_34 ?_
      refine g_imul E dX2_treesOf_36 ?_
      refine g_callvV E my_X2_countSpan mi_X2_countSpan msel_X2_countSpan ml_RX2_54 (rm_ok (by decide) (by decide)) ⟨Nat.zero_le _, Nat.zero_le _⟩ (kC_41 b) (sC_41 b) rfl (m_X2_countSpan E.2.2.1 (c32_w _) hσ h) rfl rfl (Nat.le_of_ble_eq_true rfl) dX2_treesOf_37 (fun σ5 r4 hσ5 h => ?_)
      refine g_iinc_2 E rfl (by decide) dX2_treesOf_40 (fun v6 ev6 => ?_)
      replace h := h v6 ev6
      have cv6 : C32 v6 := by rw [ev6]; exact c32_w _
      refine g_goto E djX2_treesOf_43 ?_
      exact (ih x1 v6 σ5 c1 cv6 hσ5 h).weak (w_k (w_k (w_k w_n)))
set_option maxHeartbeats 4000000 in
set_option maxRecDepth 100000 in
theorem t_X2_treesOf (E : Ev p s m args meth c cX2_treesOf 3 RX2 A0 D cA ad (NC b) Z) (hr : meth.sig.returnType = (some .long)) (x1 : Int) (σ : St) (c1 : C32 x1) (hσ : CanS (shC b) (NC b) σ) (h : wp_X2_treesOf x1 σ Q) : G p l e (rmL 6 0 0) s m args below meth c 3 A0 D cA ad (shC b) (NC b) 0 0 (MQ below (QLc D cA ad (shC b) (NC b) Q A0) args s 0 0 A0) σ 0 [some (.ref (ad 41)), some (vI x1), none] [] := by
  unfold wp_X2_treesOf at h
  refine g_aload_0 E dX2_treesOf_0 ?_
  refine g_getR E fl_RX2_19 (kC_41 b) (sC_41 b) rfl dX2_treesOf_1 ?_
  refine g_callvV E my_X1_prepare mi_X1_prepare msel_X1_prepare ml_RX2_43 (rm_ok (by decide) (by decide)) ⟨Nat.zero_le _, Nat.zero_le _⟩ (kC_36 b) (sC_36 b) rfl (m_X1_prepare E.2.2.1 hσ h) rfl rfl (Nat.le_of_ble_eq_true rfl) dX2_treesOf_4 (fun σ2 r1 hσ2 h => ?_)
  refine g_aload_0 E dX2_treesOf_7 ?_
  refine g_getI E fl_RX2_33 (kC_41 b) (sC_41 b) rfl dX2_treesOf_8 ?_
  refine g_if_ne E (fC_41_6 hσ2) djX2_treesOf_11 (fun hc => ?_) (fun hc => ?_)
  · replace h := h.1 hc
    exact (t_X2_treesOf_b46 E hr x1 σ2 c1 hσ2 h).weak (w_k (w_k (w_d w_n)))
  · replace h := h.2 hc
    refine g_aload_0 E dX2_treesOf_14 ?_
    refine g_iconst E dX2_treesOf_15 ?_
    refine g_putZ E fl_RX2_33 rfl rfl (Or.inr rfl) (kC_41 b) (sC_41 b) rfl dX2_treesOf_16 (g_nmS (fun σ3 eσ3 => ?_))
    replace h := h σ3 eσ3
    have hσ3 : CanS (shC b) (NC b) σ3 := by rw [eσ3]; exact uC_41_6 hσ2 cl_1
    refine g_iconst E dX2_treesOf_19 ?_
    refine g_istore_2 E rfl (by decide) dX2_treesOf_20 ?_
    exact (t_X2_treesOf_l21 E hr bigN x1 0 σ3 c1 cl_0 hσ3 h).weak (w_k (w_k (w_k w_n)))
end
theorem m_X2_treesOf {Z : (Nat → Nat) × (Nat → Nat)} {l : Launch} {D : va_G} {cA : Nat → ClassId} {ad : Nat → Nat} {b : Bool} {x1 : Int} {σ : St} {Q : Int → St → Prop} (hA : AdOk (NC b) ad) (c1 : C32 x1) (hσ : CanS (shC b) (NC b) σ) (h : wp_X2_treesOf x1 σ Q) : KtL Z l D cA ad (shC b) (NC b) yX2_treesOf cX2_treesOf 3 (some .long) 6 [.ref (ad 41), vI x1] σ Q :=
  KtL.of my_X2_treesOf hA [some (.ref (ad 41)), some (vI x1), none] (Nat.le_of_ble_eq_true rfl) rfl (fun p e s m args below meth c A0 E hr => t_X2_treesOf E hr x1 σ c1 hσ h)
theorem dX11_tellNumber_0 : Dc cX11_tellNumber 0 (.lload_n 0) 1 1 := ⟨by decide +kernel, rfl⟩
theorem dX11_tellNumber_1 : Dc cX11_tellNumber 1 (.ldc2_w 240) 3 4 := ⟨by decide +kernel, rfl⟩
theorem dX11_tellNumber_4 : Dc cX11_tellNumber 4 (.lcmp) 1 5 := ⟨by decide +kernel, rfl⟩
theorem djX11_tellNumber_5 : Dj cX11_tellNumber 5 (.ifCond .le 9) 3 8 9 14 := ⟨by decide +kernel, rfl, by decide⟩
theorem dX11_tellNumber_8 : Dc cX11_tellNumber 8 (.ldc2_w 242) 3 11 := ⟨by decide +kernel, rfl⟩
theorem djX11_tellNumber_11 : Dj cX11_tellNumber 11 (.goto 4) 3 14 4 15 := ⟨by decide +kernel, rfl, by decide⟩
theorem dX11_tellNumber_14 : Dc cX11_tellNumber 14 (.lload_n 0) 1 15 := ⟨by decide +kernel, rfl⟩
theorem dX11_tellNumber_15 : Dc cX11_tellNumber 15 (.lreturn) 1 16 := ⟨by decide +kernel, rfl⟩
section
variable {p : Program} {l : Launch} {e : Env} {s : State} {m : MethodId} {args : Array Value} {below : List Frame} {meth : Method} {c : Code} {A0 : Nat → Prop} {D : va_G} {cA : Nat → ClassId} {ad : Nat → Nat} {Z : (Nat → Nat) × (Nat → Nat)} {Q : Int → St → Prop} {b : Bool}
set_option maxHeartbeats 4000000 in
set_option maxRecDepth 100000 in
theorem t_X11_tellNumber (E : Ev p s m args meth c cX11_tellNumber 2 RX11 A0 D cA ad (NC b) Z) (hr : meth.sig.returnType = (some .long)) (x0 : Int) (σ : St) (c0 : C64 x0) (hσ : CanS (shC b) (NC b) σ) (h : wp_X11_tellNumber x0 σ Q) : G p l e (rmL 1 0 0) s m args below meth c 2 A0 D cA ad (shC b) (NC b) 0 0 (MQ below (QLc D cA ad (shC b) (NC b) Q A0) args s 0 0 A0) σ 0 [some (vL x0), none] [] := by
  unfold wp_X11_tellNumber at h
  refine g_lload_0 E dX11_tellNumber_0 ?_
  refine g_ldc2 (n := 1000000000000000) E wc_RX11_240 dX11_tellNumber_1 ?_
  refine g_lcmp_le E c0 cL_1000000000000000 dX11_tellNumber_4 djX11_tellNumber_5 (fun hc => ?_) (fun hc => ?_)
  · replace h := h.1 hc
    refine g_lload_0 E dX11_tellNumber_14 ?_
    exact g_lret E hr c0 h hσ dX11_tellNumber_15
  · replace h := h.2 hc
    refine g_ldc2 (n := (-3)) E wc_RX11_242 dX11_tellNumber_8 ?_
    refine g_goto E djX11_tellNumber_11 ?_
    exact g_lret E hr cL_m3 h hσ dX11_tellNumber_15
end
theorem m_X11_tellNumber {Z : (Nat → Nat) × (Nat → Nat)} {l : Launch} {D : va_G} {cA : Nat → ClassId} {ad : Nat → Nat} {b : Bool} {x0 : Int} {σ : St} {Q : Int → St → Prop} (hA : AdOk (NC b) ad) (c0 : C64 x0) (hσ : CanS (shC b) (NC b) σ) (h : wp_X11_tellNumber x0 σ Q) : KtL Z l D cA ad (shC b) (NC b) yX11_tellNumber cX11_tellNumber 2 (some .long) 1 [vL x0] σ Q :=
  KtL.of my_X11_tellNumber hA [some (vL x0), none] (Nat.le_of_ble_eq_true rfl) rfl (fun p e s m args below meth c A0 E hr => t_X11_tellNumber E hr x0 σ c0 hσ h)
theorem dX11_ways_0 : Dc cX11_ways 0 (.aload_n 0) 1 1 := ⟨by decide +kernel, rfl⟩
theorem dX11_ways_1 : Dc cX11_ways 1 (.iload_n 1) 1 2 := ⟨by decide +kernel, rfl⟩
theorem dX11_ways_2 : Dc cX11_ways 2 (.iload_n 2) 1 3 := ⟨by decide +kernel, rfl⟩
theorem dX11_ways_3 : Dc cX11_ways 3 (.iload_n 3) 1 4 := ⟨by decide +kernel, rfl⟩
theorem dX11_ways_4 : Dc cX11_ways 4 (.invokevirtual 223) 3 7 := ⟨by decide +kernel, rfl⟩
theorem dX11_ways_7 : Dc cX11_ways 7 (.istore 4) 2 9 := ⟨by decide +kernel, rfl⟩
theorem dX11_ways_9 : Dc cX11_ways 9 (.iload 4) 2 11 := ⟨by decide +kernel, rfl⟩
theorem djX11_ways_11 : Dj cX11_ways 11 (.ifCond .ge 7) 3 14 7 18 := ⟨by decide +kernel, rfl, by decide⟩
theorem dX11_ways_14 : Dc cX11_ways 14 (.ldc2_w 230) 3 17 := ⟨by decide +kernel, rfl⟩
theorem dX11_ways_17 : Dc cX11_ways 17 (.lreturn) 1 18 := ⟨by decide +kernel, rfl⟩
theorem dX11_ways_18 : Dc cX11_ways 18 (.aload_n 0) 1 19 := ⟨by decide +kernel, rfl⟩
theorem dX11_ways_19 : Dc cX11_ways 19 (.getfield 55) 3 22 := ⟨by decide +kernel, rfl⟩
theorem dX11_ways_22 : Dc cX11_ways 22 (.iload 4) 2 24 := ⟨by decide +kernel, rfl⟩
theorem dX11_ways_24 : Dc cX11_ways 24 (.invokevirtual 232) 3 27 := ⟨by decide +kernel, rfl⟩
theorem dX11_ways_27 : Dc cX11_ways 27 (.invokestatic 236) 3 30 := ⟨by decide +kernel, rfl⟩
theorem dX11_ways_30 : Dc cX11_ways 30 (.lreturn) 1 31 := ⟨by decide +kernel, rfl⟩
section
variable {p : Program} {l : Launch} {e : Env} {s : State} {m : MethodId} {args : Array Value} {below : List Frame} {meth : Method} {c : Code} {A0 : Nat → Prop} {D : va_G} {cA : Nat → ClassId} {ad : Nat → Nat} {Z : (Nat → Nat) × (Nat → Nat)} {Q : Int → St → Prop} {b : Bool}
set_option maxHeartbeats 4000000 in
set_option maxRecDepth 100000 in
theorem t_X11_ways (E : Ev p s m args meth c cX11_ways 5 RX11 A0 D cA ad (NC b) Z) (hr : meth.sig.returnType = (some .long)) (x1 : Int) (x2 : Int) (x3 : Int) (σ : St) (c1 : C32 x1) (c2 : C32 x2) (c3 : C32 x3) (hσ : CanS (shC b) (NC b) σ) (h : wp_X11_ways x1 x2 x3 σ Q) : G p l e (rmL 7 0 0) s m args below meth c 5 A0 D cA ad (shC b) (NC b) 0 0 (MQ below (QLc D cA ad (shC b) (NC b) Q A0) args s 0 0 A0) σ 0 [some (.ref (ad 0)), some (vI x1), some (vI x2), some (vI x3), none] [] := by
  unfold wp_X11_ways at h
  refine g_aload_0 E dX11_ways_0 ?_
  refine g_iload_1 E dX11_ways_1 ?_
  refine g_iload_2 E dX11_ways_2 ?_
  refine g_iload_3 E dX11_ways_3 ?_
  refine g_callvI E my_X11_itemOf mi_X11_itemOf msel_X11_itemOf ml_RX11_223 (rm_ok (by decide) (by decide)) ⟨Nat.zero_le _, Nat.zero_le _⟩ (kC_0 b) (sC_0 b) rfl (m_X11_itemOf E.2.2.1 c1 c2 c3 hσ h) rfl rfl (Nat.le_of_ble_eq_true rfl) dX11_ways_4 (fun r1 σ2 cr1 hσ2 h => ?_)
  refine g_istore_4 E rfl (by decide) dX11_ways_7 ?_
  refine g_iload_4 E dX11_ways_9 ?_
  refine g_if_ge E cr1 djX11_ways_11 (fun hc => ?_) (fun hc => ?_)
  · replace h := h.1 hc
    refine g_aload_0 E dX11_ways_18 ?_
    refine g_getR E fl_RX11_55 (kC_0 b) (sC_0 b) rfl dX11_ways_19 ?_
    refine g_iload_4 E dX11_ways_22 ?_
    refine g_callvL E my_X2_treesOf mi_X2_treesOf msel_X2_treesOf ml_RX11_232 (rm_ok (by decide) (by decide)) ⟨Nat.zero_le _, Nat.zero_le _⟩ (kC_41 b) (sC_41 b) rfl (m_X2_treesOf E.2.2.1 cr1 hσ2 h) rfl rfl (Nat.le_of_ble_eq_true rfl) dX11_ways_24 (fun r3 σ4 cr3 hσ4 h => ?_)
    refine g_callsL E my_X11_tellNumber ms_X11_tellNumber ml_RX11_236 (rm_ok (by decide) (by decide)) ⟨Nat.zero_le _, Nat.zero_le _⟩ (m_X11_tellNumber E.2.2.1 cr3 hσ4 h) rfl rfl (Nat.le_of_ble_eq_true rfl) dX11_ways_27 (fun r5 σ6 cr5 hσ6 h => ?_)
    exact g_lret E hr cr5 h hσ6 dX11_ways_30
  · replace h := h.2 hc
    refine g_ldc2 (n := (-2)) E wc_RX11_230 dX11_ways_14 ?_
    exact g_lret E hr cL_m2 h hσ2 dX11_ways_17
end
theorem m_X11_ways {Z : (Nat → Nat) × (Nat → Nat)} {l : Launch} {D : va_G} {cA : Nat → ClassId} {ad : Nat → Nat} {b : Bool} {x1 x2 x3 : Int} {σ : St} {Q : Int → St → Prop} (hA : AdOk (NC b) ad) (c1 : C32 x1) (c2 : C32 x2) (c3 : C32 x3) (hσ : CanS (shC b) (NC b) σ) (h : wp_X11_ways x1 x2 x3 σ Q) : KtL Z l D cA ad (shC b) (NC b) yX11_ways cX11_ways 5 (some .long) 7 [.ref (ad 0), vI x1, vI x2, vI x3] σ Q :=
  KtL.of my_X11_ways hA [some (.ref (ad 0)), some (vI x1), some (vI x2), some (vI x3), none] (Nat.le_of_ble_eq_true rfl) rfl (fun p e s m args below meth c A0 E hr => t_X11_ways E hr x1 x2 x3 σ c1 c2 c3 hσ h)
section
variable {p : Program} {l : Launch} {e : Env} {s : State} {m : MethodId} {args : Array Value} {below : List Frame} {meth : Method} {c : Code} {A0 : Nat → Prop} {D : va_G} {cA : Nat → ClassId} {ad : Nat → Nat} {Z : (Nat → Nat) × (Nat → Nat)} {Q : Int → St → Prop} {b : Bool}
set_option maxHeartbeats 4000000 in
set_option maxRecDepth 100000 in
theorem t_X1_leastOfCases_c38_b159 (E : Ev p s m args meth c cX1_leastOfCases 10 RX1 A0 D cA ad (NC b) Z) (hr : meth.sig.returnType = (some .int)) {K13 : Int → Int → Int → Int → Int → St → Prop} (hK13 : ∀ (x2 : Int) (x3 : Int) (x4 : Int) (x5 : Int) (x6 : Int) (σ : St), C32 x2 → C32 x3 → C32 x4 → C32 x5 → C32 x6 → CanS (shC b) (NC b) σ → K13 x2 x3 x4 x5 x6 σ → G p l e (rmL 2 0 0) s m args below meth c 10 A0 D cA ad (shC b) (NC b) 0 0 (MQ below (QIc D cA ad (shC b) (NC b) Q A0) args s 0 0 A0) σ 13 [some (.ref (ad 36)), some (.ref (ad 38)), some (vI x2), some (vI x3), some (vI x4), some (vI x5), some (vI x6), none, none, none] []) (x2 : Int) (x3 : Int) (x4 : Int) (x5 : Int) (x6 : Int) (σ : St) (c2 : C32 x2) (c3 : C32 x3) (c4 : C32 x4) (c5 : C32 x5) (c6 : C32 x6) (hσ : CanS (shC b) (NC b) σ) (h : wp_X1_leastOfCases_c38_b159 Q K13 x2 x3 x4 x5 x6 σ) : G p l e (rmL 2 0 0) s m args below meth c 10 A0 D cA ad (shC b) (NC b) 0 0 (MQ below (QIc D cA ad (shC b) (NC b) Q A0) args s 0 0 A0) σ 159 [some (.ref (ad 36)), some (.ref (ad 38)), some (vI x2), some (vI x3), some (vI x4), some (vI x5), some (vI x6), none, none, none] [] := by
  unfold wp_X1_leastOfCases_c38_b159 at h
  refine g_iinc_6 E rfl (by decide) dX1_leastOfCases_159 (fun v8 ev8 => ?_)
  replace h := h v8 ev8
  have cv8 : C32 v8 := by rw [ev8]; exact c32_w _
  refine g_goto E djX1_leastOfCases_162 ?_
  exact (hK13 x2 x3 x4 x5 v8 σ c2 c3 c4 c5 cv8 hσ h).weak (w_k (w_k (w_k (w_k (w_k (w_k (w_k (w_d (w_d (w_d w_n))))))))))
set_option maxHeartbeats 4000000 in
set_option maxRecDepth 100000 in
theorem t_X1_leastOfCases_c38_b116 (E : Ev p s m args meth c cX1_leastOfCases 10 RX1 A0 D cA ad (NC b) Z) (hr : meth.sig.returnType = (some .int)) {K13 : Int → Int → Int → Int → Int → St → Prop} (hK13 : ∀ (x2 : Int) (x3 : Int) (x4 : Int) (x5 : Int) (x6 : Int) (σ : St), C32 x2 → C32 x3 → C32 x4 → C32 x5 → C32 x6 → CanS (shC b) (NC b) σ → K13 x2 x3 x4 x5 x6 σ → G p l e (rmL 2 0 0) s m args below meth c 10 A0 D cA ad (shC b) (NC b) 0 0 (MQ below (QIc D cA ad (shC b) (NC b) Q A0) args s 0 0 A0) σ 13 [some (.ref (ad 36)), some (.ref (ad 38)), some (vI x2), some (vI x3), some (vI x4), some (vI x5), some (vI x6), none, none, none] []) (x2 : Int) (x3 : Int) (x4 : Int) (x5 : Int) (x6 : Int) (x7 : Int) (x8 : Int) (s0 : Int) (σ : St) (c2 : C32 x2) (c3 : C32 x3) (c4 : C32 x4) (c5 : C32 x5) (c6 : C32 x6) (c7 : C32 x7) (c8 : C32 x8) (cs0 : C32 s0) (hσ : CanS (shC b) (NC b) σ) (h : wp_X1_leastOfCases_c38_b116 Q K13 x2 x3 x4 x5 x6 x7 x8 s0 σ) : G p l e (rmL 2 0 0) s m args below meth c 10 A0 D cA ad (shC b) (NC b) 0 0 (MQ below (QIc D cA ad (shC b) (NC b) Q A0) args s 0 0 A0) σ 116 [some (.ref (ad 36)), some (.ref (ad 38)), some (vI x2), some (vI x3), some (vI x4), some (vI x5), some (vI x6), some (vI x7), some (vI x8), none] [vI s0] := by
  unfold wp_X1_leastOfCases_c38_b116 at h
  refine g_istore_9 E rfl (by decide) dX1_leastOfCases_116 ?_
  refine g_iload_8 E dX1_leastOfCases_118 ?_
  refine g_if_lt E c8 djX1_leastOfCases_120 (fun hc => ?_) (fun hc => ?_)
  · replace h := h.1 hc
    exact (t_X1_leastOfCases_c38_b159 E hr hK13 x2 x3 x4 x5 x6 σ c2 c3 c4 c5 c6 hσ h).weak (w_k (w_k (w_k (w_k (w_k (w_k (w_k (w_d (w_d (w_d w_n))))))))))
  · replace h := h.2 hc
    refine g_iload_9 E dX1_leastOfCases_123 ?_
    refine g_if_lt E cs0 djX1_leastOfCases_125 (fun hc => ?_) (fun hc => ?_)
    · replace h := h.1 hc
      exact (t_X1_leastOfCases_c38_b159 E hr hK13 x2 x3 x4 x5 x6 σ c2 c3 c4 c5 c6 hσ h).weak (w_k (w_k (w_k (w_k (w_k (w_k (w_k (w_d (w_d (w_d w_n))))))))))
    · replace h := h.2 hc
      refine g_iload_5 E dX1_leastOfCases_128 ?_
      refine g_aload_0 E dX1_leastOfCases_130 ?_
      refine g_getR E fl_RX1_9 (kC_36 b) (sC_36 b) rfl dX1_leastOfCases_131 ?_
      refine g_getR E fl_RX1_86 (kC_14 b) (sC_14 b) rfl dX1_leastOfCases_134 ?_
      refine g_iload_7 E dX1_leastOfCases_137 ?_
      refine g_iald E (kC_18 b) (sC_18 b) (by decide) h.1 dX1_leastOfCases_139 ?_
      replace h := h.2
      refine g_iload_8 E dX1_leastOfCases_140 ?_
      refine g_iload_9 E dX1_leastOfCases_142 ?_
      refine g_iload_4 E dX1_leastOfCases_144 ?_
      refine g_callsI E my_X1_join ms_X1_join ml_RX1_91 (rm_ok (by decide) (by decide)) ⟨Nat.zero_le _, Nat.zero_le _⟩ (m_X1_join E.2.2.1 c8 cs0 c4 hσ h) rfl rfl (Nat.le_of_ble_eq_true rfl) dX1_leastOfCases_146 (fun r9 σ10 cr9 hσ10 h => ?_)
      refine g_iload_4 E dX1_leastOfCases_149 ?_
      refine g_callsI E my_X1_join ms_X1_join ml_RX1_91 (rm_ok (by decide) (by decide)) ⟨Nat.zero_le _, Nat.zero_le _⟩ (m_X1_join E.2.2.1 (aC_18 hσ _) cr9 c4 hσ10 h) rfl rfl (Nat.le_of_ble_eq_true rfl) dX1_leastOfCases_151 (fun r11 σ12 cr11 hσ12 h => ?_)
      refine g_callsI E my_X1_lesser ms_X1_lesser ml_RX1_95 (rm_ok (by decide) (by decide)) ⟨Nat.zero_le _, Nat.zero_le _⟩ (m_X1_lesser E.2.2.1 c5 cr11 hσ12 h) rfl rfl (Nat.le_of_ble_eq_true rfl) dX1_leastOfCases_154 (fun r13 σ14 cr13 hσ14 h => ?_)
      refine g_istore_5 E rfl (by decide) dX1_leastOfCases_157 ?_
      exact (t_X1_leastOfCases_c38_b159 E hr hK13 x2 x3 x4 r13 x6 σ14 c2 c3 c4 cr13 c6 hσ14 h).weak (w_k (w_k (w_k (w_k (w_k (w_k (w_k (w_d (w_d (w_d w_n))))))))))
set_option maxHeartbeats 4000000 in
set_option maxRecDepth 100000 in
theorem t_X1_leastOfCases_c38_b85 (E : Ev p s m args meth c cX1_leastOfCases 10 RX1 A0 D cA ad (NC b) Z) (hr : meth.sig.returnType = (some .int)) {K13 : Int → Int → Int → Int → Int → St → Prop} (hK13 : ∀ (x2 : Int) (x3 : Int) (x4 : Int) (x5 : Int) (x6 : Int) (σ : St), C32 x2 → C32 x3 → C32 x4 → C32 x5 → C32 x6 → CanS (shC b) (NC b) σ → K13 x2 x3 x4 x5 x6 σ → G p l e (rmL 2 0 0) s m args below meth c 10 A0 D cA ad (shC b) (NC b) 0 0 (MQ below (QIc D cA ad (shC b) (NC b) Q A0) args s 0 0 A0) σ 13 [some (.ref (ad 36)), some (.ref (ad 38)), some (vI x2), some (vI x3), some (vI x4), some (vI x5), some (vI x6), none, none, none] []) (x2 : Int) (x3 : Int) (x4 : Int) (x5 : Int) (x6 : Int) (x7 : Int) (s0 : Int) (σ : St) (c2 : C32 x2) (c3 : C32 x3) (c4 : C32 x4) (c5 : C32 x5) (c6 : C32 x6) (c7 : C32 x7) (cs0 : C32 s0) (hσ : CanS (shC b) (NC b) σ) (h : wp_X1_leastOfCases_c38_b85 Q K13 x2 x3 x4 x5 x6 x7 s0 σ) : G p l e (rmL 2 0 0) s m args below meth c 10 A0 D cA ad (shC b) (NC b) 0 0 (MQ below (QIc D cA ad (shC b) (NC b) Q A0) args s 0 0 A0) σ 85 [some (.ref (ad 36)), some (.ref (ad 38)), some (vI x2), some (vI x3), some (vI x4), some (vI x5), some (vI x6), some (vI x7), none, none] [vI s0] := by
  unfold wp_X1_leastOfCases_c38_b85 at h
  refine g_istore_8 E rfl (by decide) dX1_leastOfCases_85 ?_
  refine g_aload_0 E dX1_leastOfCases_87 ?_
  refine g_getR E fl_RX1_15 (kC_36 b) (sC_36 b) rfl dX1_leastOfCases_88 ?_
  refine g_getR E fl_RX1_83 (kC_24 b) (sC_24 b) rfl dX1_leastOfCases_91 ?_
  refine g_iload_6 E dX1_leastOfCases_94 ?_
  refine g_iald E (kC_32 b) (sC_32 b) (by decide) h.1 dX1_leastOfCases_96 ?_
  replace h := h.2
  refine g_if_ge E (aC_32 hσ _) djX1_leastOfCases_97 (fun hc => ?_) (fun hc => ?_)
  · replace h := h.1 hc
    refine g_aload_1 E dX1_leastOfCases_104 ?_
    refine g_aload_0 E dX1_leastOfCases_105 ?_
    refine g_getR E fl_RX1_15 (kC_36 b) (sC_36 b) rfl dX1_leastOfCases_106 ?_
    refine g_getR E fl_RX1_83 (kC_24 b) (sC_24 b) rfl dX1_leastOfCases_109 ?_
    refine g_iload_6 E dX1_leastOfCases_112 ?_
    refine g_iald E (kC_32 b) (sC_32 b) (by decide) h.1 dX1_leastOfCases_114 ?_
    replace h := h.2
    refine g_iald E (kC_38 b) (sC_38 b) (by decide) h.1 dX1_leastOfCases_115 ?_
    replace h := h.2
    exact (t_X1_leastOfCases_c38_b116 E hr hK13 x2 x3 x4 x5 x6 x7 s0 (σ 38 ((σ 32 (x6.toNat)).toNat)) σ c2 c3 c4 c5 c6 c7 cs0 (aC_38 hσ _) hσ h).weak (w_k (w_k (w_k (w_k (w_k (w_k (w_k (w_k (w_k (w_d w_n))))))))))
  · replace h := h.2 hc
    refine g_iconst E dX1_leastOfCases_100 ?_
    refine g_goto E djX1_leastOfCases_101 ?_
    exact (t_X1_leastOfCases_c38_b116 E hr hK13 x2 x3 x4 x5 x6 x7 s0 0 σ c2 c3 c4 c5 c6 c7 cs0 cl_0 hσ h).weak (w_k (w_k (w_k (w_k (w_k (w_k (w_k (w_k (w_k (w_d w_n))))))))))
set_option maxHeartbeats 4000000 in
set_option maxRecDepth 100000 in
theorem t_X1_leastOfCases_c38_l13 (E : Ev p s m args meth c cX1_leastOfCases 10 RX1 A0 D cA ad (NC b) Z) (hr : meth.sig.returnType = (some .int)) : ∀ (n : Nat) (x2 : Int) (x3 : Int) (x4 : Int) (x5 : Int) (x6 : Int) (σ : St), C32 x2 → C32 x3 → C32 x4 → C32 x5 → C32 x6 → CanS (shC b) (NC b) σ → wp_X1_leastOfCases_c38_l13 Q n x2 x3 x4 x5 x6 σ → G p l e (rmL 2 0 0) s m args below meth c 10 A0 D cA ad (shC b) (NC b) 0 0 (MQ below (QIc D cA ad (shC b) (NC b) Q A0) args s 0 0 A0) σ 13 [some (.ref (ad 36)), some (.ref (ad 38)), some (vI x2), some (vI x3), some (vI x4), some (vI x5), some (vI x6), none, none, none] [] := by
  intro n
  induction n with
  | zero => intro _ _ _ _ _ _ _ _ _ _ _ _ h; exact h.elim
  | succ n ih =>
    intro x2 x3 x4 x5 x6 σ c2 c3 c4 c5 c6 hσ h
    unfold wp_X1_leastOfCases_c38_l13 at h
    refine g_iload_6 E dX1_leastOfCases_13 ?_
    refine g_aload_0 E dX1_leastOfCases_15 ?_
    refine g_getR E fl_RX1_15 (kC_36 b) (sC_36 b) rfl dX1_leastOfCases_16 ?_
    refine g_iload_2 E dX1_leastOfCases_19 ?_
    refine g_callvI E my_X0_caseEnd mi_X0_caseEnd msel_X0_caseEnd ml_RX1_70 (rm_ok (by decide) (by decide)) ⟨Nat.zero_le _, Nat.zero_le _⟩ (kC_24 b) (sC_24 b) rfl (m_X0_caseEnd E.2.2.1 c2 hσ h) rfl rfl (Nat.le_of_ble_eq_true rfl) dX1_leastOfCases_20 (fun r3 σ4 cr3 hσ4 h => ?_)
    refine g_icmp_ge E c6 cr3 djX1_leastOfCases_23 (fun hc => ?_) (fun hc => ?_)
    · replace h := h.1 hc
      refine g_iload_5 E dX1_leastOfCases_165 ?_
      exact g_iret E hr c5 h hσ4 dX1_leastOfCases_167
    · replace h := h.2 hc
      refine g_aload_0 E dX1_leastOfCases_26 ?_
      refine g_getR E fl_RX1_15 (kC_36 b) (sC_36 b) rfl dX1_leastOfCases_27 ?_
      refine g_getR E fl_RX1_73 (kC_24 b) (sC_24 b) rfl dX1_leastOfCases_30 ?_
      refine g_iload_6 E dX1_leastOfCases_33 ?_
      refine g_iald E (kC_29 b) (sC_29 b) (by decide) h.1 dX1_leastOfCases_35 ?_
      replace h := h.2
      refine g_nmI (fun v5 ev5 => ?_)
      replace h := h v5 ev5
      have cv5 : C32 v5 := by rw [ev5]; exact (aC_29 hσ4 _)
      refine g_istore_7 E rfl (by decide) dX1_leastOfCases_36 ?_
      refine g_iload_7 E dX1_leastOfCases_38 ?_
      refine g_iload_3 E dX1_leastOfCases_40 ?_
      refine g_icmp_eq E cv5 c3 djX1_leastOfCases_41 (fun hc => ?_) (fun hc => ?_)
      · replace h := h.1 hc
        exact (t_X1_leastOfCases_c38_b159 E hr ih x2 x3 x4 x5 x6 σ4 c2 c3 c4 c5 c6 hσ4 h).weak (w_k (w_k (w_k (w_k (w_k (w_k (w_k (w_d (w_d (w_d w_n))))))))))
      · replace h := h.2 hc
        refine g_aload_0 E dX1_leastOfCases_44 ?_
        refine g_getR E fl_RX1_15 (kC_36 b) (sC_36 b) rfl dX1_leastOfCases_45 ?_
        refine g_iload_6 E dX1_leastOfCases_48 ?_
        refine g_callvI E my_X0_goesOn mi_X0_goesOn msel_X0_goesOn ml_RX1_76 (rm_ok (by decide) (by decide)) ⟨Nat.zero_le _, Nat.zero_le _⟩ (kC_24 b) (sC_24 b) rfl (m_X0_goesOn E.2.2.1 c6 hσ4 h) rfl rfl (Nat.le_of_ble_eq_true rfl) dX1_leastOfCases_50 (fun r6 σ7 cr6 hσ7 h => ?_)
        refine g_if_ne E cr6 djX1_leastOfCases_53 (fun hc => ?_) (fun hc => ?_)
        · replace h := h.1 hc
          exact (t_X1_leastOfCases_c38_b159 E hr ih x2 x3 x4 x5 x6 σ7 c2 c3 c4 c5 c6 hσ7 h).weak (w_k (w_k (w_k (w_k (w_k (w_k (w_k (w_d (w_d (w_d w_n))))))))))
        · replace h := h.2 hc
          refine g_aload_0 E dX1_leastOfCases_56 ?_
          refine g_getR E fl_RX1_15 (kC_36 b) (sC_36 b) rfl dX1_leastOfCases_57 ?_
          refine g_getR E fl_RX1_80 (kC_24 b) (sC_24 b) rfl dX1_leastOfCases_60 ?_
          refine g_iload_6 E dX1_leastOfCases_63 ?_
          refine g_iald E (kC_31 b) (sC_31 b) (by decide) h.1 dX1_leastOfCases_65 ?_
          replace h := h.2
          refine g_if_ge E (aC_31 hσ7 _) djX1_leastOfCases_66 (fun hc => ?_) (fun hc => ?_)
          · replace h := h.1 hc
            refine g_aload_1 E dX1_leastOfCases_73 ?_
            refine g_aload_0 E dX1_leastOfCases_74 ?_
            refine g_getR E fl_RX1_15 (kC_36 b) (sC_36 b) rfl dX1_leastOfCases_75 ?_
            refine g_getR E fl_RX1_80 (kC_24 b) (sC_24 b) rfl dX1_leastOfCases_78 ?_
            refine g_iload_6 E dX1_leastOfCases_81 ?_
            refine g_iald E (kC_31 b) (sC_31 b) (by decide) h.1 dX1_leastOfCases_83 ?_
            replace h := h.2
            refine g_iald E (kC_38 b) (sC_38 b) (by decide) h.1 dX1_leastOfCases_84 ?_
            replace h := h.2
            exact (t_X1_leastOfCases_c38_b85 E hr ih x2 x3 x4 x5 x6 v5 (σ7 38 ((σ7 31 (x6.toNat)).toNat)) σ7 c2 c3 c4 c5 c6 cv5 (aC_38 hσ7 _) hσ7 h).weak (w_k (w_k (w_k (w_k (w_k (w_k (w_k (w_k (w_d (w_d w_n))))))))))
          · replace h := h.2 hc
            refine g_iconst E dX1_leastOfCases_69 ?_
            refine g_goto E djX1_leastOfCases_70 ?_
            exact (t_X1_leastOfCases_c38_b85 E hr ih x2 x3 x4 x5 x6 v5 0 σ7 c2 c3 c4 c5 c6 cv5 cl_0 hσ7 h).weak (w_k (w_k (w_k (w_k (w_k (w_k (w_k (w_k (w_d (w_d w_n))))))))))
set_option maxHeartbeats 4000000 in
set_option maxRecDepth 100000 in
theorem t_X1_leastOfCases_c38 (E : Ev p s m args meth c cX1_leastOfCases 10 RX1 A0 D cA ad (NC b) Z) (hr : meth.sig.returnType = (some .int)) (x2 : Int) (x3 : Int) (x4 : Int) (σ : St) (c2 : C32 x2) (c3 : C32 x3) (c4 : C32 x4) (hσ : CanS (shC b) (NC b) σ) (h : wp_X1_leastOfCases_c38 x2 x3 x4 σ Q) : G p l e (rmL 2 0 0) s m args below meth c 10 A0 D cA ad (shC b) (NC b) 0 0 (MQ below (QIc D cA ad (shC b) (NC b) Q A0) args s 0 0 A0) σ 0 [some (.ref (ad 36)), some (.ref (ad 38)), some (vI x2), some (vI x3), some (vI x4), none, none, none, none, none] [] := by
  unfold wp_X1_leastOfCases_c38 at h
  refine g_iconst E dX1_leastOfCases_0 ?_
  refine g_istore_5 E rfl (by decide) dX1_leastOfCases_1 ?_
  refine g_aload_0 E dX1_leastOfCases_3 ?_
  refine g_getR E fl_RX1_15 (kC_36 b) (sC_36 b) rfl dX1_leastOfCases_4 ?_
  refine g_iload_2 E dX1_leastOfCases_7 ?_
  refine g_callvI E my_X0_caseStart mi_X0_caseStart msel_X0_caseStart ml_RX1_66 (rm_ok (by decide) (by decide)) ⟨Nat.zero_le _, Nat.zero_le _⟩ (kC_24 b) (sC_24 b) rfl (m_X0_caseStart E.2.2.1 c2 hσ h) rfl rfl (Nat.le_of_ble_eq_true rfl) dX1_leastOfCases_8 (fun r1 σ2 cr1 hσ2 h => ?_)
  refine g_istore_6 E rfl (by decide) dX1_leastOfCases_11 ?_
  exact (t_X1_leastOfCases_c38_l13 E hr bigN x2 x3 x4 ((-1)) r1 σ2 c2 c3 c4 cl_m1 cr1 hσ2 h).weak (w_k (w_k (w_k (w_k (w_k (w_k (w_k (w_d (w_d (w_d w_n))))))))))
end
theorem m_X1_leastOfCases_c38 {Z : (Nat → Nat) × (Nat → Nat)} {l : Launch} {D : va_G} {cA : Nat → ClassId} {ad : Nat → Nat} {b : Bool} {x2 x3 x4 : Int} {σ : St} {Q : Int → St → Prop} (hA : AdOk (NC b) ad) (c2 : C32 x2) (c3 : C32 x3) (c4 : C32 x4) (hσ : CanS (shC b) (NC b) σ) (h : wp_X1_leastOfCases_c38 x2 x3 x4 σ Q) : KtI Z l D cA ad (shC b) (NC b) yX1_leastOfCases cX1_leastOfCases 10 (some .int) 2 [.ref (ad 36), .ref (ad 38), vI x2, vI x3, vI x4] σ Q :=
  KtI.of my_X1_leastOfCases hA [some (.ref (ad 36)), some (.ref (ad 38)), some (vI x2), some (vI x3), some (vI x4), none, none, none, none, none] (Nat.le_of_ble_eq_true rfl) rfl (fun p e s m args below meth c A0 E hr => t_X1_leastOfCases_c38 E hr x2 x3 x4 σ c2 c3 c4 hσ h)
