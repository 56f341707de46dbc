theorem dX3_treeOf_0 : Dc cX3_treeOf 0 (.aload_n 0) 1 1 := ⟨by decide +kernel, rfl⟩
theorem dX3_treeOf_1 : Dc cX3_treeOf 1 (.getfield 19) 3 4 := ⟨by decide +kernel, rfl⟩
theorem dX3_treeOf_4 : Dc cX3_treeOf 4 (.invokevirtual 64) 3 7 := ⟨by decide +kernel, rfl⟩
theorem dX3_treeOf_7 : Dc cX3_treeOf 7 (.iload_n 1) 1 8 := ⟨by decide +kernel, rfl⟩
theorem dX3_treeOf_8 : Dc cX3_treeOf 8 (.bipush 12) 2 10 := ⟨by decide +kernel, rfl⟩
theorem dX3_treeOf_10 : Dc cX3_treeOf 10 (.idiv) 1 11 := ⟨by decide +kernel, rfl⟩
theorem dX3_treeOf_11 : Dc cX3_treeOf 11 (.istore_n 3) 1 12 := ⟨by decide +kernel, rfl⟩
theorem dX3_treeOf_12 : Dc cX3_treeOf 12 (.iconst 0) 1 13 := ⟨by decide +kernel, rfl⟩
theorem dX3_treeOf_13 : Dc cX3_treeOf 13 (.istore 4) 2 15 := ⟨by decide +kernel, rfl⟩
theorem dX3_treeOf_15 : Dc cX3_treeOf 15 (.iload 4) 2 17 := ⟨by decide +kernel, rfl⟩
theorem dX3_treeOf_17 : Dc cX3_treeOf 17 (.iload_n 3) 1 18 := ⟨by decide +kernel, rfl⟩
theorem djX3_treeOf_18 : Dj cX3_treeOf 18 (.if_icmp .gt 46) 3 21 46 64 := ⟨by decide +kernel, rfl, by decide⟩
theorem dX3_treeOf_21 : Dc cX3_treeOf 21 (.aload_n 0) 1 22 := ⟨by decide +kernel, rfl⟩
theorem dX3_treeOf_22 : Dc cX3_treeOf 22 (.getfield 39) 3 25 := ⟨by decide +kernel, rfl⟩
theorem dX3_treeOf_25 : Dc cX3_treeOf 25 (.iload 4) 2 27 := ⟨by decide +kernel, rfl⟩
theorem dX3_treeOf_27 : Dc cX3_treeOf 27 (.baload) 1 28 := ⟨by decide +kernel, rfl⟩
theorem djX3_treeOf_28 : Dj cX3_treeOf 28 (.ifCond .ne 30) 3 31 30 58 := ⟨by decide +kernel, rfl, by decide⟩
theorem dX3_treeOf_31 : Dc cX3_treeOf 31 (.aload_n 0) 1 32 := ⟨by decide +kernel, rfl⟩
theorem dX3_treeOf_32 : Dc cX3_treeOf 32 (.getfield 15) 3 35 := ⟨by decide +kernel, rfl⟩
theorem dX3_treeOf_35 : Dc cX3_treeOf 35 (.iload 4) 2 37 := ⟨by decide +kernel, rfl⟩
theorem dX3_treeOf_37 : Dc cX3_treeOf 37 (.iload_n 3) 1 38 := ⟨by decide +kernel, rfl⟩
theorem dX3_treeOf_38 : Dc cX3_treeOf 38 (.invokevirtual 69) 3 41 := ⟨by decide +kernel, rfl⟩
theorem djX3_treeOf_41 : Dj cX3_treeOf 41 (.ifCond .eq 17) 3 44 17 58 := ⟨by decide +kernel, rfl, by decide⟩
theorem dX3_treeOf_44 : Dc cX3_treeOf 44 (.aload_n 0) 1 45 := ⟨by decide +kernel, rfl⟩
theorem dX3_treeOf_45 : Dc cX3_treeOf 45 (.getfield 39) 3 48 := ⟨by decide +kernel, rfl⟩
theorem dX3_treeOf_48 : Dc cX3_treeOf 48 (.iload 4) 2 50 := ⟨by decide +kernel, rfl⟩
theorem dX3_treeOf_50 : Dc cX3_treeOf 50 (.iconst 1) 1 51 := ⟨by decide +kernel, rfl⟩
theorem dX3_treeOf_51 : Dc cX3_treeOf 51 (.bastore) 1 52 := ⟨by decide +kernel, rfl⟩
theorem dX3_treeOf_52 : Dc cX3_treeOf 52 (.aload_n 0) 1 53 := ⟨by decide +kernel, rfl⟩
theorem dX3_treeOf_53 : Dc cX3_treeOf 53 (.iload 4) 2 55 := ⟨by decide +kernel, rfl⟩
theorem dX3_treeOf_55 : Dc cX3_treeOf 55 (.invokevirtual 75) 3 58 := ⟨by decide +kernel, rfl⟩
theorem dX3_treeOf_58 : Dc cX3_treeOf 58 (.iinc 4 1) 3 61 := ⟨by decide +kernel, rfl⟩
theorem djX3_treeOf_61 : Dj cX3_treeOf 61 (.goto (-46)) 3 64 (-46) 15 := ⟨by decide +kernel, rfl, by decide⟩
theorem dX3_treeOf_64 : Dc cX3_treeOf 64 (.iload_n 2) 1 65 := ⟨by decide +kernel, rfl⟩
theorem djX3_treeOf_65 : Dj cX3_treeOf 65 (.ifCond .lt 13) 3 68 13 78 := ⟨by decide +kernel, rfl, by decide⟩
theorem dX3_treeOf_68 : Dc cX3_treeOf 68 (.iload_n 2) 1 69 := ⟨by decide +kernel, rfl⟩
theorem dX3_treeOf_69 : Dc cX3_treeOf 69 (.aload_n 0) 1 70 := ⟨by decide +kernel, rfl⟩
theorem dX3_treeOf_70 : Dc cX3_treeOf 70 (.getfield 36) 3 73 := ⟨by decide +kernel, rfl⟩
theorem dX3_treeOf_73 : Dc cX3_treeOf 73 (.iload_n 1) 1 74 := ⟨by decide +kernel, rfl⟩
theorem dX3_treeOf_74 : Dc cX3_treeOf 74 (.iaload) 1 75 := ⟨by decide +kernel, rfl⟩
theorem djX3_treeOf_75 : Dj cX3_treeOf 75 (.if_icmp .lt 7) 3 78 7 82 := ⟨by decide +kernel, rfl, by decide⟩
theorem dX3_treeOf_78 : Dc cX3_treeOf 78 (.iconst (-1)) 1 79 := ⟨by decide +kernel, rfl⟩
theorem djX3_treeOf_79 : Dj cX3_treeOf 79 (.goto 9) 3 82 9 88 := ⟨by decide +kernel, rfl, by decide⟩
theorem dX3_treeOf_82 : Dc cX3_treeOf 82 (.iload_n 1) 1 83 := ⟨by decide +kernel, rfl⟩
theorem dX3_treeOf_83 : Dc cX3_treeOf 83 (.bipush 16) 2 85 := ⟨by decide +kernel, rfl⟩
theorem dX3_treeOf_85 : Dc cX3_treeOf 85 (.imul) 1 86 := ⟨by decide +kernel, rfl⟩
theorem dX3_treeOf_86 : Dc cX3_treeOf 86 (.iload_n 2) 1 87 := ⟨by decide +kernel, rfl⟩
theorem dX3_treeOf_87 : Dc cX3_treeOf 87 (.iadd) 1 88 := ⟨by decide +kernel, rfl⟩
theorem dX3_treeOf_88 : Dc cX3_treeOf 88 (.ireturn) 1 89 := ⟨by decide +kernel, rfl⟩
section
variable {p : Program} {l : Launch} {e : Env} {s : State} {m : MethodId} {args : Array Value} {below : List Frame} {meth : Method} {c : Code} {A0 : Nat → Prop} {D : va_G} {cA : Nat → ClassId} {ad : Nat → Nat} {Z : (Nat → Nat) × (Nat → Nat)} {Q : Int → St → Prop} {b : Bool}
set_option maxHeartbeats 4000000 in
set_option maxRecDepth 100000 in
theorem t_X3_treeOf_b58 (E : Ev p s m args meth c cX3_treeOf 5 RX3 A0 D cA ad (NC b) Z) (hr : meth.sig.returnType = (some .int)) {K15 : Int → Int → Int → Int → St → Prop} (hK15 : ∀ (x1 : Int) (x2 : Int) (x3 : Int) (x4 : Int) (σ : St), C32 x1 → C32 x2 → C32 x3 → C32 x4 → CanS (shC b) (NC b) σ → K15 x1 x2 x3 x4 σ → G p l e (rmL 6 0 0) s m args below meth c 5 A0 D cA ad (shC b) (NC b) 0 0 (MQ below (QIc D cA ad (shC b) (NC b) Q A0) args s 0 0 A0) σ 15 [some (.ref (ad 54)), some (vI x1), some (vI x2), some (vI x3), some (vI x4)] []) (x1 : Int) (x2 : Int) (x3 : Int) (x4 : Int) (σ : St) (c1 : C32 x1) (c2 : C32 x2) (c3 : C32 x3) (c4 : C32 x4) (hσ : CanS (shC b) (NC b) σ) (h : wp_X3_treeOf_b58 Q K15 x1 x2 x3 x4 σ) : G p l e (rmL 6 0 0) s m args below meth c 5 A0 D cA ad (shC b) (NC b) 0 0 (MQ below (QIc D cA ad (shC b) (NC b) Q A0) args s 0 0 A0) σ 58 [some (.ref (ad 54)), some (vI x1), some (vI x2), some (vI x3), some (vI x4)] [] := by
  unfold wp_X3_treeOf_b58 at h
  refine g_iinc_4 E rfl (by decide) dX3_treeOf_58 (fun v9 ev9 => ?_)
  replace h := h v9 ev9
  have cv9 : C32 v9 := by rw [ev9]; exact c32_w _
  refine g_goto E djX3_treeOf_61 ?_
  exact (hK15 x1 x2 x3 v9 σ c1 c2 c3 cv9 hσ h).weak (w_k (w_k (w_k (w_k (w_k w_n)))))
set_option maxHeartbeats 4000000 in
set_option maxRecDepth 100000 in
theorem t_X3_treeOf_b78 (E : Ev p s m args meth c cX3_treeOf 5 RX3 A0 D cA ad (NC b) Z) (hr : meth.sig.returnType = (some .int)) (σ : St) (hσ : CanS (shC b) (NC b) σ) (h : wp_X3_treeOf_b78 Q  σ) : G p l e (rmL 6 0 0) s m args below meth c 5 A0 D cA ad (shC b) (NC b) 0 0 (MQ below (QIc D cA ad (shC b) (NC b) Q A0) args s 0 0 A0) σ 78 [none, none, none, none, none] [] := by
  unfold wp_X3_treeOf_b78 at h
  refine g_iconst E dX3_treeOf_78 ?_
  refine g_goto E djX3_treeOf_79 ?_
  exact g_iret E hr cl_m1 h hσ dX3_treeOf_88
set_option maxHeartbeats 4000000 in
set_option maxRecDepth 100000 in
theorem t_X3_treeOf_l15 (E : Ev p s m args meth c cX3_treeOf 5 RX3 A0 D cA ad (NC b) Z) (hr : meth.sig.returnType = (some .int)) : ∀ (n : Nat) (x1 : Int) (x2 : Int) (x3 : Int) (x4 : Int) (σ : St), C32 x1 → C32 x2 → C32 x3 → C32 x4 → CanS (shC b) (NC b) σ → wp_X3_treeOf_l15 Q n x1 x2 x3 x4 σ → G p l e (rmL 6 0 0) s m args below meth c 5 A0 D cA ad (shC b) (NC b) 0 0 (MQ below (QIc D cA ad (shC b) (NC b) Q A0) args s 0 0 A0) σ 15 [some (.ref (ad 54)), some (vI x1), some (vI x2), some (vI x3), some (vI x4)] [] := by
  intro n
  induction n with
  | zero => intro _ _ _ _ _ _ _ _ _ _ h; exact h.elim
  | succ n ih =>
    intro x1 x2 x3 x4 σ c1 c2 c3 c4 hσ h
    unfold wp_X3_treeOf_l15 at h
    refine g_iload_4 E dX3_treeOf_15 ?_
    refine g_iload_3 E dX3_treeOf_17 ?_
    refine g_icmp_gt E c4 c3 djX3_treeOf_18 (fun hc => ?_) (fun hc => ?_)
    · replace h := h.1 hc
      refine g_iload_2 E dX3_treeOf_64 ?_
      refine g_if_lt E c2 djX3_treeOf_65 (fun hc => ?_) (fun hc => ?_)
      · replace h := h.1 hc
        exact (t_X3_treeOf_b78 E hr σ hσ h).weak (w_d (w_d (w_d (w_d (w_d w_n)))))
      · replace h := h.2 hc
        refine g_iload_2 E dX3_treeOf_68 ?_
        refine g_aload_0 E dX3_treeOf_69 ?_
        refine g_getR E fl_RX3_36 (kC_54 b) (sC_54 b) rfl dX3_treeOf_70 ?_
        refine g_iload_1 E dX3_treeOf_73 ?_
        refine g_iald E (kC_59 b) (sC_59 b) (by decide) h.1 dX3_treeOf_74 ?_
        replace h := h.2
        refine g_icmp_lt E c2 (aC_59 hσ _) djX3_treeOf_75 (fun hc => ?_) (fun hc => ?_)
        · replace h := h.1 hc
          refine g_iload_1 E dX3_treeOf_82 ?_
          refine g_bipush E (by decide) dX3_treeOf_83 ?_
          refine g_imul E dX3_treeOf_85 ?_
          refine g_iload_2 E dX3_treeOf_86 ?_
          refine g_iadd E dX3_treeOf_87 ?_
          exact g_iret E hr (c32_w _) h hσ dX3_treeOf_88
        · replace h := h.2 hc
          exact (t_X3_treeOf_b78 E hr σ hσ h).weak (w_d (w_d (w_d (w_d (w_d w_n)))))
    · replace h := h.2 hc
      refine g_aload_0 E dX3_treeOf_21 ?_
      refine g_getR E fl_RX3_39 (kC_54 b) (sC_54 b) rfl dX3_treeOf_22 ?_
      refine g_iload_4 E dX3_treeOf_25 ?_
      refine g_zald E (kC_60 b) (sC_60 b) (by decide) h.1 dX3_treeOf_27 ?_
      replace h := h.2
      refine g_if_ne E (aC_60 hσ _) djX3_treeOf_28 (fun hc => ?_) (fun hc => ?_)
      · replace h := h.1 hc
        exact (t_X3_treeOf_b58 E hr ih x1 x2 x3 x4 σ c1 c2 c3 c4 hσ h).weak (w_k (w_k (w_k (w_k (w_k w_n)))))
      · replace h := h.2 hc
        refine g_aload_0 E dX3_treeOf_31 ?_
        refine g_getR E fl_RX3_15 (kC_54 b) (sC_54 b) rfl dX3_treeOf_32 ?_
        refine g_iload_4 E dX3_treeOf_35 ?_
        refine g_iload_3 E dX3_treeOf_37 ?_
        refine g_callvI E my_X0_isInside mi_X0_isInside msel_X0_isInside ml_RX3_69 (rm_ok (by decide) (by decide)) ⟨Nat.zero_le _, Nat.zero_le _⟩ (kC_24 b) (sC_24 b) rfl (m_X0_isInside E.2.2.1 c4 c3 hσ h) rfl rfl (Nat.le_of_ble_eq_true rfl) dX3_treeOf_38 (fun r4 σ5 cr4 hσ5 h => ?_)
        refine g_if_eq E cr4 djX3_treeOf_41 (fun hc => ?_) (fun hc => ?_)
        · replace h := h.1 hc
          exact (t_X3_treeOf_b58 E hr ih x1 x2 x3 x4 σ5 c1 c2 c3 c4 hσ5 h).weak (w_k (w_k (w_k (w_k (w_k w_n)))))
        · replace h := h.2 hc
          refine g_aload_0 E dX3_treeOf_44 ?_
          refine g_getR E fl_RX3_39 (kC_54 b) (sC_54 b) rfl dX3_treeOf_45 ?_
          refine g_iload_4 E dX3_treeOf_48 ?_
          refine g_iconst E dX3_treeOf_50 ?_
          refine g_zast E (kC_60 b) (sC_60 b) (by decide) h.1 dX3_treeOf_51 (g_nmS (fun σ6 eσ6 => ?_))
          replace h := h.2 σ6 eσ6
          have hσ6 : CanS (shC b) (NC b) σ6 := by rw [eσ6]; exact wC_60 hσ5 (c32_t _)
          refine g_aload_0 E dX3_treeOf_52 ?_
          refine g_iload_4 E dX3_treeOf_53 ?_
          refine g_callvV E my_X3_growSpan mi_X3_growSpan msel_X3_growSpan ml_RX3_75 (rm_ok (by decide) (by decide)) ⟨Nat.zero_le _, Nat.zero_le _⟩ (kC_54 b) (sC_54 b) rfl (m_X3_growSpan E.2.2.1 c4 hσ6 h) rfl rfl (Nat.le_of_ble_eq_true rfl) dX3_treeOf_55 (fun σ8 r7 hσ8 h => ?_)
          exact (t_X3_treeOf_b58 E hr ih x1 x2 x3 x4 σ8 c1 c2 c3 c4 hσ8 h).weak (w_k (w_k (w_k (w_k (w_k w_n)))))
set_option maxHeartbeats 4000000 in
set_option maxRecDepth 100000 in
theorem t_X3_treeOf (E : Ev p s m args meth c cX3_treeOf 5 RX3 A0 D cA ad (NC b) Z) (hr : meth.sig.returnType = (some .int)) (x1 : Int) (x2 : Int) (σ : St) (c1 : C32 x1) (c2 : C32 x2) (hσ : CanS (shC b) (NC b) σ) (h : wp_X3_treeOf x1 x2 σ Q) : G p l e (rmL 6 0 0) s m args below meth c 5 A0 D cA ad (shC b) (NC b) 0 0 (MQ below (QIc D cA ad (shC b) (NC b) Q A0) args s 0 0 A0) σ 0 [some (.ref (ad 54)), some (vI x1), some (vI x2), none, none] [] := by
  unfold wp_X3_treeOf at h
  refine g_aload_0 E dX3_treeOf_0 ?_
  refine g_getR E fl_RX3_19 (kC_54 b) (sC_54 b) rfl dX3_treeOf_1 ?_
  refine g_callvV E my_X1_prepare mi_X1_prepare msel_X1_prepare ml_RX3_64 (rm_ok (by decide) (by decide)) ⟨Nat.zero_le _, Nat.zero_le _⟩ (kC_36 b) (sC_36 b) rfl (m_X1_prepare E.2.2.1 hσ h) rfl rfl (Nat.le_of_ble_eq_true rfl) dX3_treeOf_4 (fun σ2 r1 hσ2 h => ?_)
  refine g_iload_1 E dX3_treeOf_7 ?_
  refine g_bipush E (by decide) dX3_treeOf_8 ?_
  refine g_idiv E cl_12 (by decide) dX3_treeOf_10 ?_
  refine g_nmI (fun v3 ev3 => ?_)
  replace h := h v3 ev3
  have cv3 : C32 v3 := by rw [ev3]; exact (c32_t _)
  refine g_istore_3 E rfl (by decide) dX3_treeOf_11 ?_
  refine g_iconst E dX3_treeOf_12 ?_
  refine g_istore_4 E rfl (by decide) dX3_treeOf_13 ?_
  exact (t_X3_treeOf_l15 E hr bigN x1 x2 v3 0 σ2 c1 c2 cv3 cl_0 hσ2 h).weak (w_k (w_k (w_k (w_k (w_k w_n)))))
end
theorem m_X3_treeOf {Z : (Nat → Nat) × (Nat → Nat)} {l : Launch} {D : va_G} {cA : Nat → ClassId} {ad : Nat → Nat} {b : Bool} {x1 x2 : Int} {σ : St} {Q : Int → St → Prop} (hA : AdOk (NC b) ad) (c1 : C32 x1) (c2 : C32 x2) (hσ : CanS (shC b) (NC b) σ) (h : wp_X3_treeOf x1 x2 σ Q) : KtI Z l D cA ad (shC b) (NC b) yX3_treeOf cX3_treeOf 5 (some .int) 6 [.ref (ad 54), vI x1, vI x2] σ Q :=
  KtI.of my_X3_treeOf hA [some (.ref (ad 54)), some (vI x1), some (vI x2), none, none] (Nat.le_of_ble_eq_true rfl) rfl (fun p e s m args below meth c A0 E hr => t_X3_treeOf E hr x1 x2 σ c1 c2 hσ h)
theorem dX11_best_0 : Dc cX11_best 0 (.aload_n 0) 1 1 := ⟨by decide +kernel, rfl⟩
theorem dX11_best_1 : Dc cX11_best 1 (.iload_n 1) 1 2 := ⟨by decide +kernel, rfl⟩
theorem dX11_best_2 : Dc cX11_best 2 (.iload_n 2) 1 3 := ⟨by decide +kernel, rfl⟩
theorem dX11_best_3 : Dc cX11_best 3 (.iload_n 3) 1 4 := ⟨by decide +kernel, rfl⟩
theorem dX11_best_4 : Dc cX11_best 4 (.invokevirtual 223) 3 7 := ⟨by decide +kernel, rfl⟩
theorem dX11_best_7 : Dc cX11_best 7 (.istore 5) 2 9 := ⟨by decide +kernel, rfl⟩
theorem dX11_best_9 : Dc cX11_best 9 (.iload 5) 2 11 := ⟨by decide +kernel, rfl⟩
theorem djX11_best_11 : Dj cX11_best 11 (.ifCond .lt 11) 3 14 11 22 := ⟨by decide +kernel, rfl, by decide⟩
theorem dX11_best_14 : Dc cX11_best 14 (.iload 4) 2 16 := ⟨by decide +kernel, rfl⟩
theorem dX11_best_16 : Dc cX11_best 16 (.invokestatic 286) 3 19 := ⟨by decide +kernel, rfl⟩
theorem djX11_best_19 : Dj cX11_best 19 (.ifCond .ne 6) 3 22 6 25 := ⟨by decide +kernel, rfl, by decide⟩
theorem dX11_best_22 : Dc cX11_best 22 (.bipush (-2)) 2 24 := ⟨by decide +kernel, rfl⟩
theorem dX11_best_24 : Dc cX11_best 24 (.ireturn) 1 25 := ⟨by decide +kernel, rfl⟩
theorem dX11_best_25 : Dc cX11_best 25 (.aload_n 0) 1 26 := ⟨by decide +kernel, rfl⟩
theorem dX11_best_26 : Dc cX11_best 26 (.getfield 76) 3 29 := ⟨by decide +kernel, rfl⟩
theorem dX11_best_29 : Dc cX11_best 29 (.iload 5) 2 31 := ⟨by decide +kernel, rfl⟩
theorem dX11_best_31 : Dc cX11_best 31 (.iload 4) 2 33 := ⟨by decide +kernel, rfl⟩
theorem dX11_best_33 : Dc cX11_best 33 (.invokevirtual 289) 3 36 := ⟨by decide +kernel, rfl⟩
theorem dX11_best_36 : Dc cX11_best 36 (.istore 6) 2 38 := ⟨by decide +kernel, rfl⟩
theorem dX11_best_38 : Dc cX11_best 38 (.iload 6) 2 40 := ⟨by decide +kernel, rfl⟩
theorem djX11_best_40 : Dj cX11_best 40 (.ifCond .ge 7) 3 43 7 47 := ⟨by decide +kernel, rfl, by decide⟩
theorem dX11_best_43 : Dc cX11_best 43 (.iconst (-1)) 1 44 := ⟨by decide +kernel, rfl⟩
theorem djX11_best_44 : Dj cX11_best 44 (.goto 13) 3 47 13 57 := ⟨by decide +kernel, rfl, by decide⟩
theorem dX11_best_47 : Dc cX11_best 47 (.aload_n 0) 1 48 := ⟨by decide +kernel, rfl⟩
theorem dX11_best_48 : Dc cX11_best 48 (.getfield 76) 3 51 := ⟨by decide +kernel, rfl⟩
theorem dX11_best_51 : Dc cX11_best 51 (.getfield 292) 3 54 := ⟨by decide +kernel, rfl⟩
theorem dX11_best_54 : Dc cX11_best 54 (.iload 6) 2 56 := ⟨by decide +kernel, rfl⟩
theorem dX11_best_56 : Dc cX11_best 56 (.iaload) 1 57 := ⟨by decide +kernel, rfl⟩
theorem dX11_best_57 : Dc cX11_best 57 (.ireturn) 1 58 := ⟨by decide +kernel, rfl⟩
section
variable {p : Program} {l : Launch} {e : Env} {s : State} {m : MethodId} {args : Array Value} {below : List Frame} {meth : Method} {c : Code} {A0 : Nat → Prop} {D : va_G} {cA : Nat → ClassId} {ad : Nat → Nat} {Z : (Nat → Nat) × (Nat → Nat)} {Q : Int → St → Prop} {b : Bool}
set_option maxHeartbeats 4000000 in
set_option maxRecDepth 100000 in
theorem t_X11_best (E : Ev p s m args meth c cX11_best 7 RX11 A0 D cA ad (NC b) Z) (hr : meth.sig.returnType = (some .int)) (x1 : Int) (x2 : Int) (x3 : Int) (x4 : Int) (σ : St) (c1 : C32 x1) (c2 : C32 x2) (c3 : C32 x3) (c4 : C32 x4) (hσ : CanS (shC b) (NC b) σ) (h : wp_X11_best x1 x2 x3 x4 σ Q) : G p l e (rmL 7 0 0) s m args below meth c 7 A0 D cA ad (shC b) (NC b) 0 0 (MQ below (QIc D cA ad (shC b) (NC b) Q A0) args s 0 0 A0) σ 0 [some (.ref (ad 0)), some (vI x1), some (vI x2), some (vI x3), some (vI x4), none, none] [] := by
  unfold wp_X11_best at h
  refine g_aload_0 E dX11_best_0 ?_
  refine g_iload_1 E dX11_best_1 ?_
  refine g_iload_2 E dX11_best_2 ?_
  refine g_iload_3 E dX11_best_3 ?_
  refine g_callvI E my_X11_itemOf mi_X11_itemOf msel_X11_itemOf ml_RX11_223 (rm_ok (by decide) (by decide)) ⟨Nat.zero_le _, Nat.zero_le _⟩ (kC_0 b) (sC_0 b) rfl (m_X11_itemOf E.2.2.1 c1 c2 c3 hσ h) rfl rfl (Nat.le_of_ble_eq_true rfl) dX11_best_4 (fun r1 σ2 cr1 hσ2 h => ?_)
  refine g_istore_5 E rfl (by decide) dX11_best_7 ?_
  refine g_iload_5 E dX11_best_9 ?_
  refine g_if_lt E cr1 djX11_best_11 (fun hc => ?_) (fun hc => ?_)
  · replace h := h.1 hc
    refine g_bipush E (by decide) dX11_best_22 ?_
    exact g_iret E hr cl_m2 h hσ2 dX11_best_24
  · replace h := h.2 hc
    refine g_iload_4 E dX11_best_14 ?_
    refine g_callsI E my_X11_isPlace ms_X11_isPlace ml_RX11_286 (rm_ok (by decide) (by decide)) ⟨Nat.zero_le _, Nat.zero_le _⟩ (m_X11_isPlace E.2.2.1 c4 hσ2 h) rfl rfl (Nat.le_of_ble_eq_true rfl) dX11_best_16 (fun r3 σ4 cr3 hσ4 h => ?_)
    refine g_if_ne E cr3 djX11_best_19 (fun hc => ?_) (fun hc => ?_)
    · replace h := h.1 hc
      refine g_aload_0 E dX11_best_25 ?_
      refine g_getR E fl_RX11_76 (kC_0 b) (sC_0 b) rfl dX11_best_26 ?_
      refine g_iload_5 E dX11_best_29 ?_
      refine g_iload_4 E dX11_best_31 ?_
      refine g_callvI E my_X3_treeOf mi_X3_treeOf msel_X3_treeOf ml_RX11_289 (rm_ok (by decide) (by decide)) ⟨Nat.zero_le _, Nat.zero_le _⟩ (kC_54 b) (sC_54 b) rfl (m_X3_treeOf E.2.2.1 cr1 c4 hσ4 h) rfl rfl (Nat.le_of_ble_eq_true rfl) dX11_best_33 (fun r5 σ6 cr5 hσ6 h => ?_)
      refine g_istore_6 E rfl (by decide) dX11_best_36 ?_
      refine g_iload_6 E dX11_best_38 ?_
      refine g_if_ge E cr5 djX11_best_40 (fun hc => ?_) (fun hc => ?_)
      · replace h := h.1 hc
        refine g_aload_0 E dX11_best_47 ?_
        refine g_getR E fl_RX11_76 (kC_0 b) (sC_0 b) rfl dX11_best_48 ?_
        refine g_getR E fl_RX11_292 (kC_54 b) (sC_54 b) rfl dX11_best_51 ?_
        refine g_iload_6 E dX11_best_54 ?_
        refine g_iald E (kC_55 b) (sC_55 b) (by decide) h.1 dX11_best_56 ?_
        replace h := h.2
        exact g_iret E hr (aC_55 hσ6 _) h hσ6 dX11_best_57
      · replace h := h.2 hc
        refine g_iconst E dX11_best_43 ?_
        refine g_goto E djX11_best_44 ?_
        exact g_iret E hr cl_m1 h hσ6 dX11_best_57
    · replace h := h.2 hc
      refine g_bipush E (by decide) dX11_best_22 ?_
      exact g_iret E hr cl_m2 h hσ4 dX11_best_24
end
theorem m_X11_best {Z : (Nat → Nat) × (Nat → Nat)} {l : Launch} {D : va_G} {cA : Nat → ClassId} {ad : Nat → Nat} {b : Bool} {x1 x2 x3 x4 : Int} {σ : St} {Q : Int → St → Prop} (hA : AdOk (NC b) ad) (c1 : C32 x1) (c2 : C32 x2) (c3 : C32 x3) (c4 : C32 x4) (hσ : CanS (shC b) (NC b) σ) (h : wp_X11_best x1 x2 x3 x4 σ Q) : KtI Z l D cA ad (shC b) (NC b) yX11_best cX11_best 7 (some .int) 7 [.ref (ad 0), vI x1, vI x2, vI x3, vI x4] σ Q :=
  KtI.of my_X11_best hA [some (.ref (ad 0)), some (vI x1), some (vI x2), some (vI x3), some (vI x4), none, none] (Nat.le_of_ble_eq_true rfl) rfl (fun p e s m args below meth c A0 E hr => t_X11_best E hr x1 x2 x3 x4 σ c1 c2 c3 c4 hσ h)
theorem dX10_push_0 : Dc cX10_push 0 (.aload_n 0) 1 1 := ⟨by decide +kernel, rfl⟩
theorem dX10_push_1 : Dc cX10_push 1 (.getfield 40) 3 4 := ⟨by decide +kernel, rfl⟩
theorem dX10_push_4 : Dc cX10_push 4 (.sipush 2560) 3 7 := ⟨by decide +kernel, rfl⟩
theorem djX10_push_7 : Dj cX10_push 7 (.if_icmp .ge 33) 3 10 33 40 := ⟨by decide +kernel, rfl, by decide⟩
theorem dX10_push_10 : Dc cX10_push 10 (.aload_n 0) 1 11 := ⟨by decide +kernel, rfl⟩
theorem dX10_push_11 : Dc cX10_push 11 (.getfield 23) 3 14 := ⟨by decide +kernel, rfl⟩
theorem dX10_push_14 : Dc cX10_push 14 (.aload_n 0) 1 15 := ⟨by decide +kernel, rfl⟩
theorem dX10_push_15 : Dc cX10_push 15 (.getfield 40) 3 18 := ⟨by decide +kernel, rfl⟩
theorem dX10_push_18 : Dc cX10_push 18 (.iload_n 1) 1 19 := ⟨by decide +kernel, rfl⟩
theorem dX10_push_19 : Dc cX10_push 19 (.iastore) 1 20 := ⟨by decide +kernel, rfl⟩
theorem dX10_push_20 : Dc cX10_push 20 (.aload_n 0) 1 21 := ⟨by decide +kernel, rfl⟩
theorem dX10_push_21 : Dc cX10_push 21 (.getfield 27) 3 24 := ⟨by decide +kernel, rfl⟩
theorem dX10_push_24 : Dc cX10_push 24 (.aload_n 0) 1 25 := ⟨by decide +kernel, rfl⟩
theorem dX10_push_25 : Dc cX10_push 25 (.getfield 40) 3 28 := ⟨by decide +kernel, rfl⟩
theorem dX10_push_28 : Dc cX10_push 28 (.iload_n 2) 1 29 := ⟨by decide +kernel, rfl⟩
theorem dX10_push_29 : Dc cX10_push 29 (.iastore) 1 30 := ⟨by decide +kernel, rfl⟩
theorem dX10_push_30 : Dc cX10_push 30 (.aload_n 0) 1 31 := ⟨by decide +kernel, rfl⟩
theorem dX10_push_31 : Dc cX10_push 31 (.dup) 1 32 := ⟨by decide +kernel, rfl⟩
theorem dX10_push_32 : Dc cX10_push 32 (.getfield 40) 3 35 := ⟨by decide +kernel, rfl⟩
theorem dX10_push_35 : Dc cX10_push 35 (.iconst 1) 1 36 := ⟨by decide +kernel, rfl⟩
theorem dX10_push_36 : Dc cX10_push 36 (.iadd) 1 37 := ⟨by decide +kernel, rfl⟩
theorem dX10_push_37 : Dc cX10_push 37 (.putfield 40) 3 40 := ⟨by decide +kernel, rfl⟩
theorem dX10_push_40 : Dc cX10_push 40 (.return_) 1 41 := ⟨by decide +kernel, rfl⟩
section
variable {p : Program} {l : Launch} {e : Env} {s : State} {m : MethodId} {args : Array Value} {below : List Frame} {meth : Method} {c : Code} {A0 : Nat → Prop} {D : va_G} {cA : Nat → ClassId} {ad : Nat → Nat} {Z : (Nat → Nat) × (Nat → Nat)} {Q : Int → St → Prop} {b : Bool}
set_option maxHeartbeats 4000000 in
set_option maxRecDepth 100000 in
theorem t_X10_push (E : Ev p s m args meth c cX10_push 3 RX10 A0 D cA ad (NC b) Z) (hr : meth.sig.returnType = none) (x1 : Int) (x2 : Int) (σ : St) (c1 : C32 x1) (c2 : C32 x2) (hσ : CanS (shC b) (NC b) σ) (h : wp_X10_push x1 x2 σ Q) : G p l e (rmL 1 0 0) s m args below meth c 3 A0 D cA ad (shC b) (NC b) 0 0 (MQ below (QVc D cA ad (shC b) (NC b) Q A0) args s 0 0 A0) σ 0 [some (.ref (ad 68)), some (vI x1), some (vI x2)] [] := by
  unfold wp_X10_push at h
  refine g_aload_0 E dX10_push_0 ?_
  refine g_getI E fl_RX10_40 (kC_68 b) (sC_68 b) rfl dX10_push_1 ?_
  refine g_sipush E (by decide) dX10_push_4 ?_
  refine g_icmp_ge E (fC_68_6 hσ) cl_2560 djX10_push_7 (fun hc => ?_) (fun hc => ?_)
  · replace h := h.1 hc
    exact g_vret E hr h hσ dX10_push_40
  · replace h := h.2 hc
    refine g_aload_0 E dX10_push_10 ?_
    refine g_getR E fl_RX10_23 (kC_68 b) (sC_68 b) rfl dX10_push_11 ?_
    refine g_aload_0 E dX10_push_14 ?_
    refine g_getI E fl_RX10_40 (kC_68 b) (sC_68 b) rfl dX10_push_15 ?_
    refine g_iload_1 E dX10_push_18 ?_
    refine g_iast E (kC_69 b) (sC_69 b) (by decide) h.1 dX10_push_19 (g_nmS (fun σ1 eσ1 => ?_))
    replace h := h.2 σ1 eσ1
    have hσ1 : CanS (shC b) (NC b) σ1 := by rw [eσ1]; exact wC_69 hσ c1
    refine g_aload_0 E dX10_push_20 ?_
    refine g_getR E fl_RX10_27 (kC_68 b) (sC_68 b) rfl dX10_push_21 ?_
    refine g_aload_0 E dX10_push_24 ?_
    refine g_getI E fl_RX10_40 (kC_68 b) (sC_68 b) rfl dX10_push_25 ?_
    refine g_iload_2 E dX10_push_28 ?_
    refine g_iast E (kC_70 b) (sC_70 b) (by decide) h.1 dX10_push_29 (g_nmS (fun σ2 eσ2 => ?_))
    replace h := h.2 σ2 eσ2
    have hσ2 : CanS (shC b) (NC b) σ2 := by rw [eσ2]; exact wC_70 hσ1 c2
    refine g_aload_0 E dX10_push_30 ?_
    refine g_dup E rfl dX10_push_31 ?_
    refine g_getI E fl_RX10_40 (kC_68 b) (sC_68 b) rfl dX10_push_32 ?_
    refine g_iconst E dX10_push_35 ?_
    refine g_iadd E dX10_push_36 ?_
    refine g_putI E fl_RX10_40 rfl rfl (kC_68 b) (sC_68 b) rfl dX10_push_37 (g_nmS (fun σ3 eσ3 => ?_))
    replace h := h σ3 eσ3
    have hσ3 : CanS (shC b) (NC b) σ3 := by rw [eσ3]; exact uC_68_6 hσ2 (c32_w _)
    exact g_vret E hr h hσ3 dX10_push_40
end
theorem m_X10_push {Z : (Nat → Nat) × (Nat → Nat)} {l : Launch} {D : va_G} {cA : Nat → ClassId} {ad : Nat → Nat} {b : Bool} {x1 x2 : Int} {σ : St} {Q : Int → St → Prop} (hA : AdOk (NC b) ad) (c1 : C32 x1) (c2 : C32 x2) (hσ : CanS (shC b) (NC b) σ) (h : wp_X10_push x1 x2 σ Q) : KtV Z l D cA ad (shC b) (NC b) yX10_push cX10_push 3 none 1 [.ref (ad 68), vI x1, vI x2] σ Q :=
  KtV.of my_X10_push hA [some (.ref (ad 68)), some (vI x1), some (vI x2)] (Nat.le_of_ble_eq_true rfl) rfl (fun p e s m args below meth c A0 E hr => t_X10_push E hr x1 x2 σ c1 c2 hσ h)
theorem dX3_rightTree_0 : Dc cX3_rightTree 0 (.aload_n 0) 1 1 := ⟨by decide +kernel, rfl⟩
theorem dX3_rightTree_1 : Dc cX3_rightTree 1 (.getfield 15) 3 4 := ⟨by decide +kernel, rfl⟩
theorem dX3_rightTree_4 : Dc cX3_rightTree 4 (.getfield 82) 3 7 := ⟨by decide +kernel, rfl⟩
theorem dX3_rightTree_7 : Dc cX3_rightTree 7 (.aload_n 0) 1 8 := ⟨by decide +kernel, rfl⟩
theorem dX3_rightTree_8 : Dc cX3_rightTree 8 (.getfield 27) 3 11 := ⟨by decide +kernel, rfl⟩
theorem dX3_rightTree_11 : Dc cX3_rightTree 11 (.iload_n 1) 1 12 := ⟨by decide +kernel, rfl⟩
theorem dX3_rightTree_12 : Dc cX3_rightTree 12 (.iaload) 1 13 := ⟨by decide +kernel, rfl⟩
theorem dX3_rightTree_13 : Dc cX3_rightTree 13 (.iaload) 1 14 := ⟨by decide +kernel, rfl⟩
theorem dX3_rightTree_14 : Dc cX3_rightTree 14 (.istore_n 2) 1 15 := ⟨by decide +kernel, rfl⟩
theorem dX3_rightTree_15 : Dc cX3_rightTree 15 (.iload_n 2) 1 16 := ⟨by decide +kernel, rfl⟩
theorem djX3_rightTree_16 : Dj cX3_rightTree 16 (.ifCond .ge 7) 3 19 7 23 := ⟨by decide +kernel, rfl, by decide⟩
theorem dX3_rightTree_19 : Dc cX3_rightTree 19 (.iconst (-1)) 1 20 := ⟨by decide +kernel, rfl⟩
theorem djX3_rightTree_20 : Dj cX3_rightTree 20 (.goto 17) 3 23 17 37 := ⟨by decide +kernel, rfl, by decide⟩
theorem dX3_rightTree_23 : Dc cX3_rightTree 23 (.iload_n 2) 1 24 := ⟨by decide +kernel, rfl⟩
theorem dX3_rightTree_24 : Dc cX3_rightTree 24 (.bipush 16) 2 26 := ⟨by decide +kernel, rfl⟩
theorem dX3_rightTree_26 : Dc cX3_rightTree 26 (.imul) 1 27 := ⟨by decide +kernel, rfl⟩
theorem dX3_rightTree_27 : Dc cX3_rightTree 27 (.aload_n 0) 1 28 := ⟨by decide +kernel, rfl⟩
theorem dX3_rightTree_28 : Dc cX3_rightTree 28 (.getfield 30) 3 31 := ⟨by decide +kernel, rfl⟩
theorem dX3_rightTree_31 : Dc cX3_rightTree 31 (.iload_n 1) 1 32 := ⟨by decide +kernel, rfl⟩
theorem dX3_rightTree_32 : Dc cX3_rightTree 32 (.iaload) 1 33 := ⟨by decide +kernel, rfl⟩
theorem dX3_rightTree_33 : Dc cX3_rightTree 33 (.bipush 16) 2 35 := ⟨by decide +kernel, rfl⟩
theorem dX3_rightTree_35 : Dc cX3_rightTree 35 (.irem) 1 36 := ⟨by decide +kernel, rfl⟩
theorem dX3_rightTree_36 : Dc cX3_rightTree 36 (.iadd) 1 37 := ⟨by decide +kernel, rfl⟩
theorem dX3_rightTree_37 : Dc cX3_rightTree 37 (.ireturn) 1 38 := ⟨by decide +kernel, rfl⟩
section
variable {p : Program} {l : Launch} {e : Env} {s : State} {m : MethodId} {args : Array Value} {below : List Frame} {meth : Method} {c : Code} {A0 : Nat → Prop} {D : va_G} {cA : Nat → ClassId} {ad : Nat → Nat} {Z : (Nat → Nat) × (Nat → Nat)} {Q : Int → St → Prop} {b : Bool}
set_option maxHeartbeats 4000000 in
set_option maxRecDepth 100000 in
theorem t_X3_rightTree (E : Ev p s m args meth c cX3_rightTree 3 RX3 A0 D cA ad (NC b) Z) (hr : meth.sig.returnType = (some .int)) (x1 : Int) (σ : St) (c1 : C32 x1) (hσ : CanS (shC b) (NC b) σ) (h : wp_X3_rightTree x1 σ Q) : G p l e (rmL 1 0 0) s m args below meth c 3 A0 D cA ad (shC b) (NC b) 0 0 (MQ below (QIc D cA ad (shC b) (NC b) Q A0) args s 0 0 A0) σ 0 [some (.ref (ad 54)), some (vI x1), none] [] := by
  unfold wp_X3_rightTree at h
  refine g_aload_0 E dX3_rightTree_0 ?_
  refine g_getR E fl_RX3_15 (kC_54 b) (sC_54 b) rfl dX3_rightTree_1 ?_
  refine g_getR E fl_RX3_82 (kC_24 b) (sC_24 b) rfl dX3_rightTree_4 ?_
  refine g_aload_0 E dX3_rightTree_7 ?_
  refine g_getR E fl_RX3_27 (kC_54 b) (sC_54 b) rfl dX3_rightTree_8 ?_
  refine g_iload_1 E dX3_rightTree_11 ?_
  refine g_iald E (kC_56 b) (sC_56 b) (by decide) h.1 dX3_rightTree_12 ?_
  replace h := h.2
  refine g_iald E (kC_32 b) (sC_32 b) (by decide) h.1 dX3_rightTree_13 ?_
  replace h := h.2
  refine g_nmI (fun v1 ev1 => ?_)
  replace h := h v1 ev1
  have cv1 : C32 v1 := by rw [ev1]; exact (aC_32 hσ _)
  refine g_istore_2 E rfl (by decide) dX3_rightTree_14 ?_
  refine g_iload_2 E dX3_rightTree_15 ?_
  refine g_if_ge E cv1 djX3_rightTree_16 (fun hc => ?_) (fun hc => ?_)
  · replace h := h.1 hc
    refine g_iload_2 E dX3_rightTree_23 ?_
    refine g_bipush E (by decide) dX3_rightTree_24 ?_
    refine g_imul E dX3_rightTree_26 ?_
    refine g_aload_0 E dX3_rightTree_27 ?_
    refine g_getR E fl_RX3_30 (kC_54 b) (sC_54 b) rfl dX3_rightTree_28 ?_
    refine g_iload_1 E dX3_rightTree_31 ?_
    refine g_iald E (kC_57 b) (sC_57 b) (by decide) h.1 dX3_rightTree_32 ?_
    replace h := h.2
    refine g_bipush E (by decide) dX3_rightTree_33 ?_
    refine g_irem E cl_16 (by decide) dX3_rightTree_35 ?_
    refine g_iadd E dX3_rightTree_36 ?_
    exact g_iret E hr (c32_w _) h hσ dX3_rightTree_37
  · replace h := h.2 hc
    refine g_iconst E dX3_rightTree_19 ?_
    refine g_goto E djX3_rightTree_20 ?_
    exact g_iret E hr cl_m1 h hσ dX3_rightTree_37
end
theorem m_X3_rightTree {Z : (Nat → Nat) × (Nat → Nat)} {l : Launch} {D : va_G} {cA : Nat → ClassId} {ad : Nat → Nat} {b : Bool} {x1 : Int} {σ : St} {Q : Int → St → Prop} (hA : AdOk (NC b) ad) (c1 : C32 x1) (hσ : CanS (shC b) (NC b) σ) (h : wp_X3_rightTree x1 σ Q) : KtI Z l D cA ad (shC b) (NC b) yX3_rightTree cX3_rightTree 3 (some .int) 1 [.ref (ad 54), vI x1] σ Q :=
  KtI.of my_X3_rightTree hA [some (.ref (ad 54)), some (vI x1), none] (Nat.le_of_ble_eq_true rfl) rfl (fun p e s m args below meth c A0 E hr => t_X3_rightTree E hr x1 σ c1 hσ h)
theorem dX10_pushTree_0 : Dc cX10_pushTree 0 (.iload_n 1) 1 1 := ⟨by decide +kernel, rfl⟩
theorem djX10_pushTree_1 : Dj cX10_pushTree 1 (.ifCond .lt 9) 3 4 9 10 := ⟨by decide +kernel, rfl, by decide⟩
theorem dX10_pushTree_4 : Dc cX10_pushTree 4 (.aload_n 0) 1 5 := ⟨by decide +kernel, rfl⟩
theorem dX10_pushTree_5 : Dc cX10_pushTree 5 (.iload_n 1) 1 6 := ⟨by decide +kernel, rfl⟩
theorem dX10_pushTree_6 : Dc cX10_pushTree 6 (.iload_n 2) 1 7 := ⟨by decide +kernel, rfl⟩
theorem dX10_pushTree_7 : Dc cX10_pushTree 7 (.invokevirtual 43) 3 10 := ⟨by decide +kernel, rfl⟩
theorem dX10_pushTree_10 : Dc cX10_pushTree 10 (.return_) 1 11 := ⟨by decide +kernel, rfl⟩
section
variable {p : Program} {l : Launch} {e : Env} {s : State} {m : MethodId} {args : Array Value} {below : List Frame} {meth : Method} {c : Code} {A0 : Nat → Prop} {D : va_G} {cA : Nat → ClassId} {ad : Nat → Nat} {Z : (Nat → Nat) × (Nat → Nat)} {Q : Int → St → Prop} {b : Bool}
set_option maxHeartbeats 4000000 in
set_option maxRecDepth 100000 in
theorem t_X10_pushTree (E : Ev p s m args meth c cX10_pushTree 3 RX10 A0 D cA ad (NC b) Z) (hr : meth.sig.returnType = none) (x1 : Int) (x2 : Int) (σ : St) (c1 : C32 x1) (c2 : C32 x2) (hσ : CanS (shC b) (NC b) σ) (h : wp_X10_pushTree x1 x2 σ Q) : G p l e (rmL 2 0 0) s m args below meth c 3 A0 D cA ad (shC b) (NC b) 0 0 (MQ below (QVc D cA ad (shC b) (NC b) Q A0) args s 0 0 A0) σ 0 [some (.ref (ad 68)), some (vI x1), some (vI x2)] [] := by
  unfold wp_X10_pushTree at h
  refine g_iload_1 E dX10_pushTree_0 ?_
  refine g_if_lt E c1 djX10_pushTree_1 (fun hc => ?_) (fun hc => ?_)
  · replace h := h.1 hc
    exact g_vret E hr h hσ dX10_pushTree_10
  · replace h := h.2 hc
    refine g_aload_0 E dX10_pushTree_4 ?_
    refine g_iload_1 E dX10_pushTree_5 ?_
    refine g_iload_2 E dX10_pushTree_6 ?_
    refine g_callvV E my_X10_push mi_X10_push msel_X10_push ml_RX10_43 (rm_ok (by decide) (by decide)) ⟨Nat.zero_le _, Nat.zero_le _⟩ (kC_68 b) (sC_68 b) rfl (m_X10_push E.2.2.1 c1 c2 hσ h) rfl rfl (Nat.le_of_ble_eq_true rfl) dX10_pushTree_7 (fun σ2 r1 hσ2 h => ?_)
    exact g_vret E hr h hσ2 dX10_pushTree_10
end
theorem m_X10_pushTree {Z : (Nat → Nat) × (Nat → Nat)} {l : Launch} {D : va_G} {cA : Nat → ClassId} {ad : Nat → Nat} {b : Bool} {x1 x2 : Int} {σ : St} {Q : Int → St → Prop} (hA : AdOk (NC b) ad) (c1 : C32 x1) (c2 : C32 x2) (hσ : CanS (shC b) (NC b) σ) (h : wp_X10_pushTree x1 x2 σ Q) : KtV Z l D cA ad (shC b) (NC b) yX10_pushTree cX10_pushTree 3 none 2 [.ref (ad 68), vI x1, vI x2] σ Q :=
  KtV.of my_X10_pushTree hA [some (.ref (ad 68)), some (vI x1), some (vI x2)] (Nat.le_of_ble_eq_true rfl) rfl (fun p e s m args below meth c A0 E hr => t_X10_pushTree E hr x1 x2 σ c1 c2 hσ h)
theorem dX3_leftTree_0 : Dc cX3_leftTree 0 (.aload_n 0) 1 1 := ⟨by decide +kernel, rfl⟩
theorem dX3_leftTree_1 : Dc cX3_leftTree 1 (.getfield 15) 3 4 := ⟨by decide +kernel, rfl⟩
theorem dX3_leftTree_4 : Dc cX3_leftTree 4 (.getfield 79) 3 7 := ⟨by decide +kernel, rfl⟩
theorem dX3_leftTree_7 : Dc cX3_leftTree 7 (.aload_n 0) 1 8 := ⟨by decide +kernel, rfl⟩
theorem dX3_leftTree_8 : Dc cX3_leftTree 8 (.getfield 27) 3 11 := ⟨by decide +kernel, rfl⟩
theorem dX3_leftTree_11 : Dc cX3_leftTree 11 (.iload_n 1) 1 12 := ⟨by decide +kernel, rfl⟩
theorem dX3_leftTree_12 : Dc cX3_leftTree 12 (.iaload) 1 13 := ⟨by decide +kernel, rfl⟩
theorem dX3_leftTree_13 : Dc cX3_leftTree 13 (.iaload) 1 14 := ⟨by decide +kernel, rfl⟩
theorem dX3_leftTree_14 : Dc cX3_leftTree 14 (.istore_n 2) 1 15 := ⟨by decide +kernel, rfl⟩
theorem dX3_leftTree_15 : Dc cX3_leftTree 15 (.iload_n 2) 1 16 := ⟨by decide +kernel, rfl⟩
theorem djX3_leftTree_16 : Dj cX3_leftTree 16 (.ifCond .ge 7) 3 19 7 23 := ⟨by decide +kernel, rfl, by decide⟩
theorem dX3_leftTree_19 : Dc cX3_leftTree 19 (.iconst (-1)) 1 20 := ⟨by decide +kernel, rfl⟩
theorem djX3_leftTree_20 : Dj cX3_leftTree 20 (.goto 17) 3 23 17 37 := ⟨by decide +kernel, rfl, by decide⟩
theorem dX3_leftTree_23 : Dc cX3_leftTree 23 (.iload_n 2) 1 24 := ⟨by decide +kernel, rfl⟩
theorem dX3_leftTree_24 : Dc cX3_leftTree 24 (.bipush 16) 2 26 := ⟨by decide +kernel, rfl⟩
theorem dX3_leftTree_26 : Dc cX3_leftTree 26 (.imul) 1 27 := ⟨by decide +kernel, rfl⟩
theorem dX3_leftTree_27 : Dc cX3_leftTree 27 (.aload_n 0) 1 28 := ⟨by decide +kernel, rfl⟩
theorem dX3_leftTree_28 : Dc cX3_leftTree 28 (.getfield 30) 3 31 := ⟨by decide +kernel, rfl⟩
theorem dX3_leftTree_31 : Dc cX3_leftTree 31 (.iload_n 1) 1 32 := ⟨by decide +kernel, rfl⟩
theorem dX3_leftTree_32 : Dc cX3_leftTree 32 (.iaload) 1 33 := ⟨by decide +kernel, rfl⟩
theorem dX3_leftTree_33 : Dc cX3_leftTree 33 (.bipush 16) 2 35 := ⟨by decide +kernel, rfl⟩
theorem dX3_leftTree_35 : Dc cX3_leftTree 35 (.idiv) 1 36 := ⟨by decide +kernel, rfl⟩
theorem dX3_leftTree_36 : Dc cX3_leftTree 36 (.iadd) 1 37 := ⟨by decide +kernel, rfl⟩
theorem dX3_leftTree_37 : Dc cX3_leftTree 37 (.ireturn) 1 38 := ⟨by decide +kernel, rfl⟩
section
variable {p : Program} {l : Launch} {e : Env} {s : State} {m : MethodId} {args : Array Value} {below : List Frame} {meth : Method} {c : Code} {A0 : Nat → Prop} {D : va_G} {cA : Nat → ClassId} {ad : Nat → Nat} {Z : (Nat → Nat) × (Nat → Nat)} {Q : Int → St → Prop} {b : Bool}
set_option maxHeartbeats 4000000 in
set_option maxRecDepth 100000 in
theorem t_X3_leftTree (E : Ev p s m args meth c cX3_leftTree 3 RX3 A0 D cA ad (NC b) Z) (hr : meth.sig.returnType = (some .int)) (x1 : Int) (σ : St) (c1 : C32 x1) (hσ : CanS (shC b) (NC b) σ) (h : wp_X3_leftTree x1 σ Q) : G p l e (rmL 1 0 0) s m args below meth c 3 A0 D cA ad (shC b) (NC b) 0 0 (MQ below (QIc D cA ad (shC b) (NC b) Q A0) args s 0 0 A0) σ 0 [some (.ref (ad 54)), some (vI x1), none] [] := by
  unfold wp_X3_leftTree at h
  refine g_aload_0 E dX3_leftTree_0 ?_
  refine g_getR E fl_RX3_15 (kC_54 b) (sC_54 b) rfl dX3_leftTree_1 ?_
  refine g_getR E fl_RX3_79 (kC_24 b) (sC_24 b) rfl dX3_leftTree_4 ?_
  refine g_aload_0 E dX3_leftTree_7 ?_
  refine g_getR E fl_RX3_27 (kC_54 b) (sC_54 b) rfl dX3_leftTree_8 ?_
  refine g_iload_1 E dX3_leftTree_11 ?_
  refine g_iald E (kC_56 b) (sC_56 b) (by decide) h.1 dX3_leftTree_12 ?_
  replace h := h.2
  refine g_iald E (kC_31 b) (sC_31 b) (by decide) h.1 dX3_leftTree_13 ?_
  replace h := h.2
  refine g_nmI (fun v1 ev1 => ?_)
  replace h := h v1 ev1
  have cv1 : C32 v1 := by rw [ev1]; exact (aC_31 hσ _)
  refine g_istore_2 E rfl (by decide) dX3_leftTree_14 ?_
  refine g_iload_2 E dX3_leftTree_15 ?_
  refine g_if_ge E cv1 djX3_leftTree_16 (fun hc => ?_) (fun hc => ?_)
  · replace h := h.1 hc
    refine g_iload_2 E dX3_leftTree_23 ?_
    refine g_bipush E (by decide) dX3_leftTree_24 ?_
    refine g_imul E dX3_leftTree_26 ?_
    refine g_aload_0 E dX3_leftTree_27 ?_
    refine g_getR E fl_RX3_30 (kC_54 b) (sC_54 b) rfl dX3_leftTree_28 ?_
    refine g_iload_1 E dX3_leftTree_31 ?_
    refine g_iald E (kC_57 b) (sC_57 b) (by decide) h.1 dX3_leftTree_32 ?_
    replace h := h.2
    refine g_bipush E (by decide) dX3_leftTree_33 ?_
    refine g_idiv E cl_16 (by decide) dX3_leftTree_35 ?_
    refine g_iadd E dX3_leftTree_36 ?_
    exact g_iret E hr (c32_w _) h hσ dX3_leftTree_37
  · replace h := h.2 hc
    refine g_iconst E dX3_leftTree_19 ?_
    refine g_goto E djX3_leftTree_20 ?_
    exact g_iret E hr cl_m1 h hσ dX3_leftTree_37
end
theorem m_X3_leftTree {Z : (Nat → Nat) × (Nat → Nat)} {l : Launch} {D : va_G} {cA : Nat → ClassId} {ad : Nat → Nat} {b : Bool} {x1 : Int} {σ : St} {Q : Int → St → Prop} (hA : AdOk (NC b) ad) (c1 : C32 x1) (hσ : CanS (shC b) (NC b) σ) (h : wp_X3_leftTree x1 σ Q) : KtI Z l D cA ad (shC b) (NC b) yX3_leftTree cX3_leftTree 3 (some .int) 1 [.ref (ad 54), vI x1] σ Q :=
  KtI.of my_X3_leftTree hA [some (.ref (ad 54)), some (vI x1), none] (Nat.le_of_ble_eq_true rfl) rfl (fun p e s m args below meth c A0 E hr => t_X3_leftTree E hr x1 σ c1 hσ h)
theorem dX10_follow_0 : Dc cX10_follow 0 (.aload_n 0) 1 1 := ⟨by decide +kernel, rfl⟩
theorem dX10_follow_1 : Dc cX10_follow 1 (.iconst 0) 1 2 := ⟨by decide +kernel, rfl⟩
theorem dX10_follow_2 : Dc cX10_follow 2 (.putfield 33) 3 5 := ⟨by decide +kernel, rfl⟩
theorem dX10_follow_5 : Dc cX10_follow 5 (.aload_n 0) 1 6 := ⟨by decide +kernel, rfl⟩
theorem dX10_follow_6 : Dc cX10_follow 6 (.iconst 0) 1 7 := ⟨by decide +kernel, rfl⟩
theorem dX10_follow_7 : Dc cX10_follow 7 (.putfield 37) 3 10 := ⟨by decide +kernel, rfl⟩
theorem dX10_follow_10 : Dc cX10_follow 10 (.aload_n 0) 1 11 := ⟨by decide +kernel, rfl⟩
theorem dX10_follow_11 : Dc cX10_follow 11 (.iconst 0) 1 12 := ⟨by decide +kernel, rfl⟩
theorem dX10_follow_12 : Dc cX10_follow 12 (.putfield 40) 3 15 := ⟨by decide +kernel, rfl⟩
theorem dX10_follow_15 : Dc cX10_follow 15 (.aload_n 0) 1 16 := ⟨by decide +kernel, rfl⟩
theorem dX10_follow_16 : Dc cX10_follow 16 (.iload_n 1) 1 17 := ⟨by decide +kernel, rfl⟩
theorem dX10_follow_17 : Dc cX10_follow 17 (.iconst 1) 1 18 := ⟨by decide +kernel, rfl⟩
theorem dX10_follow_18 : Dc cX10_follow 18 (.invokevirtual 43) 3 21 := ⟨by decide +kernel, rfl⟩
theorem dX10_follow_21 : Dc cX10_follow 21 (.iconst 0) 1 22 := ⟨by decide +kernel, rfl⟩
theorem dX10_follow_22 : Dc cX10_follow 22 (.istore_n 2) 1 23 := ⟨by decide +kernel, rfl⟩
theorem dX10_follow_23 : Dc cX10_follow 23 (.iload_n 2) 1 24 := ⟨by decide +kernel, rfl⟩
theorem dX10_follow_24 : Dc cX10_follow 24 (.sipush 512) 3 27 := ⟨by decide +kernel, rfl⟩
theorem djX10_follow_27 : Dj cX10_follow 27 (.if_icmp .ge 112) 3 30 112 139 := ⟨by decide +kernel, rfl, by decide⟩
theorem dX10_follow_30 : Dc cX10_follow 30 (.aload_n 0) 1 31 := ⟨by decide +kernel, rfl⟩
theorem dX10_follow_31 : Dc cX10_follow 31 (.getfield 40) 3 34 := ⟨by decide +kernel, rfl⟩
theorem djX10_follow_34 : Dj cX10_follow 34 (.ifCond .le 105) 3 37 105 139 := ⟨by decide +kernel, rfl, by decide⟩
theorem dX10_follow_37 : Dc cX10_follow 37 (.aload_n 0) 1 38 := ⟨by decide +kernel, rfl⟩
theorem dX10_follow_38 : Dc cX10_follow 38 (.dup) 1 39 := ⟨by decide +kernel, rfl⟩
theorem dX10_follow_39 : Dc cX10_follow 39 (.getfield 40) 3 42 := ⟨by decide +kernel, rfl⟩
theorem dX10_follow_42 : Dc cX10_follow 42 (.iconst 1) 1 43 := ⟨by decide +kernel, rfl⟩
theorem dX10_follow_43 : Dc cX10_follow 43 (.isub) 1 44 := ⟨by decide +kernel, rfl⟩
theorem dX10_follow_44 : Dc cX10_follow 44 (.putfield 40) 3 47 := ⟨by decide +kernel, rfl⟩
theorem dX10_follow_47 : Dc cX10_follow 47 (.aload_n 0) 1 48 := ⟨by decide +kernel, rfl⟩
theorem dX10_follow_48 : Dc cX10_follow 48 (.getfield 23) 3 51 := ⟨by decide +kernel, rfl⟩
theorem dX10_follow_51 : Dc cX10_follow 51 (.aload_n 0) 1 52 := ⟨by decide +kernel, rfl⟩
theorem dX10_follow_52 : Dc cX10_follow 52 (.getfield 40) 3 55 := ⟨by decide +kernel, rfl⟩
theorem dX10_follow_55 : Dc cX10_follow 55 (.iaload) 1 56 := ⟨by decide +kernel, rfl⟩
theorem dX10_follow_56 : Dc cX10_follow 56 (.istore_n 3) 1 57 := ⟨by decide +kernel, rfl⟩
theorem dX10_follow_57 : Dc cX10_follow 57 (.aload_n 0) 1 58 := ⟨by decide +kernel, rfl⟩
theorem dX10_follow_58 : Dc cX10_follow 58 (.getfield 27) 3 61 := ⟨by decide +kernel, rfl⟩
theorem dX10_follow_61 : Dc cX10_follow 61 (.aload_n 0) 1 62 := ⟨by decide +kernel, rfl⟩
theorem dX10_follow_62 : Dc cX10_follow 62 (.getfield 40) 3 65 := ⟨by decide +kernel, rfl⟩
theorem dX10_follow_65 : Dc cX10_follow 65 (.iaload) 1 66 := ⟨by decide +kernel, rfl⟩
theorem dX10_follow_66 : Dc cX10_follow 66 (.istore 4) 2 68 := ⟨by decide +kernel, rfl⟩
theorem dX10_follow_68 : Dc cX10_follow 68 (.aload_n 0) 1 69 := ⟨by decide +kernel, rfl⟩
theorem dX10_follow_69 : Dc cX10_follow 69 (.getfield 30) 3 72 := ⟨by decide +kernel, rfl⟩
theorem dX10_follow_72 : Dc cX10_follow 72 (.aload_n 0) 1 73 := ⟨by decide +kernel, rfl⟩
theorem dX10_follow_73 : Dc cX10_follow 73 (.getfield 33) 3 76 := ⟨by decide +kernel, rfl⟩
theorem dX10_follow_76 : Dc cX10_follow 76 (.iload_n 3) 1 77 := ⟨by decide +kernel, rfl⟩
theorem dX10_follow_77 : Dc cX10_follow 77 (.iastore) 1 78 := ⟨by decide +kernel, rfl⟩
theorem dX10_follow_78 : Dc cX10_follow 78 (.aload_n 0) 1 79 := ⟨by decide +kernel, rfl⟩
theorem dX10_follow_79 : Dc cX10_follow 79 (.dup) 1 80 := ⟨by decide +kernel, rfl⟩
theorem dX10_follow_80 : Dc cX10_follow 80 (.getfield 33) 3 83 := ⟨by decide +kernel, rfl⟩
theorem dX10_follow_83 : Dc cX10_follow 83 (.iconst 1) 1 84 := ⟨by decide +kernel, rfl⟩
theorem dX10_follow_84 : Dc cX10_follow 84 (.iadd) 1 85 := ⟨by decide +kernel, rfl⟩
theorem dX10_follow_85 : Dc cX10_follow 85 (.putfield 33) 3 88 := ⟨by decide +kernel, rfl⟩
theorem dX10_follow_88 : Dc cX10_follow 88 (.aload_n 0) 1 89 := ⟨by decide +kernel, rfl⟩
theorem dX10_follow_89 : Dc cX10_follow 89 (.aload_n 0) 1 90 := ⟨by decide +kernel, rfl⟩
theorem dX10_follow_90 : Dc cX10_follow 90 (.getfield 37) 3 93 := ⟨by decide +kernel, rfl⟩
theorem dX10_follow_93 : Dc cX10_follow 93 (.iload 4) 2 95 := ⟨by decide +kernel, rfl⟩
theorem dX10_follow_95 : Dc cX10_follow 95 (.invokestatic 47) 3 98 := ⟨by decide +kernel, rfl⟩
theorem dX10_follow_98 : Dc cX10_follow 98 (.putfield 37) 3 101 := ⟨by decide +kernel, rfl⟩
theorem dX10_follow_101 : Dc cX10_follow 101 (.aload_n 0) 1 102 := ⟨by decide +kernel, rfl⟩
theorem dX10_follow_102 : Dc cX10_follow 102 (.aload_n 0) 1 103 := ⟨by decide +kernel, rfl⟩
theorem dX10_follow_103 : Dc cX10_follow 103 (.getfield 19) 3 106 := ⟨by decide +kernel, rfl⟩
theorem dX10_follow_106 : Dc cX10_follow 106 (.iload_n 3) 1 107 := ⟨by decide +kernel, rfl⟩
theorem dX10_follow_107 : Dc cX10_follow 107 (.invokevirtual 53) 3 110 := ⟨by decide +kernel, rfl⟩
theorem dX10_follow_110 : Dc cX10_follow 110 (.iload 4) 2 112 := ⟨by decide +kernel, rfl⟩
theorem dX10_follow_112 : Dc cX10_follow 112 (.iconst 1) 1 113 := ⟨by decide +kernel, rfl⟩
theorem dX10_follow_113 : Dc cX10_follow 113 (.iadd) 1 114 := ⟨by decide +kernel, rfl⟩
theorem dX10_follow_114 : Dc cX10_follow 114 (.invokevirtual 59) 3 117 := ⟨by decide +kernel, rfl⟩
theorem dX10_follow_117 : Dc cX10_follow 117 (.aload_n 0) 1 118 := ⟨by decide +kernel, rfl⟩
theorem dX10_follow_118 : Dc cX10_follow 118 (.aload_n 0) 1 119 := ⟨by decide +kernel, rfl⟩
theorem dX10_follow_119 : Dc cX10_follow 119 (.getfield 19) 3 122 := ⟨by decide +kernel, rfl⟩
theorem dX10_follow_122 : Dc cX10_follow 122 (.iload_n 3) 1 123 := ⟨by decide +kernel, rfl⟩
theorem dX10_follow_123 : Dc cX10_follow 123 (.invokevirtual 62) 3 126 := ⟨by decide +kernel, rfl⟩
theorem dX10_follow_126 : Dc cX10_follow 126 (.iload 4) 2 128 := ⟨by decide +kernel, rfl⟩
theorem dX10_follow_128 : Dc cX10_follow 128 (.iconst 1) 1 129 := ⟨by decide +kernel, rfl⟩
theorem dX10_follow_129 : Dc cX10_follow 129 (.iadd) 1 130 := ⟨by decide +kernel, rfl⟩
theorem dX10_follow_130 : Dc cX10_follow 130 (.invokevirtual 59) 3 133 := ⟨by decide +kernel, rfl⟩
theorem dX10_follow_133 : Dc cX10_follow 133 (.iinc 2 1) 3 136 := ⟨by decide +kernel, rfl⟩
theorem djX10_follow_136 : Dj cX10_follow 136 (.goto (-113)) 3 139 (-113) 23 := ⟨by decide +kernel, rfl, by decide⟩
theorem dX10_follow_139 : Dc cX10_follow 139 (.return_) 1 140 := ⟨by decide +kernel, rfl⟩
section
variable {p : Program} {l : Launch} {e : Env} {s : State} {m : MethodId} {args : Array Value} {below : List Frame} {meth : Method} {c : Code} {A0 : Nat → Prop} {D : va_G} {cA : Nat → ClassId} {ad : Nat → Nat} {Z : (Nat → Nat) × (Nat → Nat)} {Q : Int → St → Prop} {b : Bool}
set_option maxHeartbeats 4000000 in
set_option maxRecDepth 100000 in
theorem t_X10_follow_l23 (E : Ev p s m args meth c cX10_follow 5 RX10 A0 D cA ad (NC b) Z) (hr : meth.sig.returnType = none) : ∀ (n : Nat) (x2 : Int) (σ : St), C32 x2 → CanS (shC b) (NC b) σ → wp_X10_follow_l23 Q n x2 σ → G p l e (rmL 3 0 0) s m args below meth c 5 A0 D cA ad (shC b) (NC b) 0 0 (MQ below (QVc D cA ad (shC b) (NC b) Q A0) args s 0 0 A0) σ 23 [some (.ref (ad 68)), none, some (vI x2), none, none] [] := by
  intro n
  induction n with
  | zero => intro _ _ _ _ h; exact h.elim
  | succ n ih =>
    intro x2 σ c2 hσ h
    unfold wp_X10_follow_l23 at h
    refine g_iload_2 E dX10_follow_23 ?_
    refine g_sipush E (by decide) dX10_follow_24 ?_
    refine g_icmp_ge E c2 cl_512 djX10_follow_27 (fun hc => ?_) (fun hc => ?_)
    · replace h := h.1 hc
      exact g_vret E hr h hσ dX10_follow_139
    · replace h := h.2 hc
      refine g_aload_0 E dX10_follow_30 ?_
      refine g_getI E fl_RX10_40 (kC_68 b) (sC_68 b) rfl dX10_follow_31 ?_
      refine g_if_le E (fC_68_6 hσ) djX10_follow_34 (fun hc => ?_) (fun hc => ?_)
      · replace h := h.1 hc
        exact g_vret E hr h hσ dX10_follow_139
      · replace h := h.2 hc
        refine g_aload_0 E dX10_follow_37 ?_
        refine g_dup E rfl dX10_follow_38 ?_
        refine g_getI E fl_RX10_40 (kC_68 b) (sC_68 b) rfl dX10_follow_39 ?_
        refine g_iconst E dX10_follow_42 ?_
        refine g_isub E dX10_follow_43 ?_
        refine g_putI E fl_RX10_40 rfl rfl (kC_68 b) (sC_68 b) rfl dX10_follow_44 (g_nmS (fun σ6 eσ6 => ?_))
        replace h := h σ6 eσ6
        have hσ6 : CanS (shC b) (NC b) σ6 := by rw [eσ6]; exact uC_68_6 hσ (c32_w _)
        refine g_aload_0 E dX10_follow_47 ?_
        refine g_getR E fl_RX10_23 (kC_68 b) (sC_68 b) rfl dX10_follow_48 ?_
        refine g_aload_0 E dX10_follow_51 ?_
        refine g_getI E fl_RX10_40 (kC_68 b) (sC_68 b) rfl dX10_follow_52 ?_
        refine g_iald E (kC_69 b) (sC_69 b) (by decide) h.1 dX10_follow_55 ?_
        replace h := h.2
        refine g_nmI (fun v7 ev7 => ?_)
        replace h := h v7 ev7
        have cv7 : C32 v7 := by rw [ev7]; exact (aC_69 hσ6 _)
        refine g_istore_3 E rfl (by decide) dX10_follow_56 ?_
        refine g_aload_0 E dX10_follow_57 ?_
        refine g_getR E fl_RX10_27 (kC_68 b) (sC_68 b) rfl dX10_follow_58 ?_
        refine g_aload_0 E dX10_follow_61 ?_
        refine g_getI E fl_RX10_40 (kC_68 b) (sC_68 b) rfl dX10_follow_62 ?_
        refine g_iald E (kC_70 b) (sC_70 b) (by decide) h.1 dX10_follow_65 ?_
        replace h := h.2
        refine g_nmI (fun v8 ev8 => ?_)
        replace h := h v8 ev8
        have cv8 : C32 v8 := by rw [ev8]; exact (aC_70 hσ6 _)
        refine g_istore_4 E rfl (by decide) dX10_follow_66 ?_
        refine g_aload_0 E dX10_follow_68 ?_
        refine g_getR E fl_RX10_30 (kC_68 b) (sC_68 b) rfl dX10_follow_69 ?_
        refine g_aload_0 E dX10_follow_72 ?_
        refine g_getI E fl_RX10_33 (kC_68 b) (sC_68 b) rfl dX10_follow_73 ?_
        refine g_iload_3 E dX10_follow_76 ?_
        refine g_iast E (kC_71 b) (sC_71 b) (by decide) h.1 dX10_follow_77 (g_nmS (fun σ9 eσ9 => ?_))
        replace h := h.2 σ9 eσ9
        have hσ9 : CanS (shC b) (NC b) σ9 := by rw [eσ9]; exact wC_71 hσ6 cv7
        refine g_aload_0 E dX10_follow_78 ?_
        refine g_dup E rfl dX10_follow_79 ?_
        refine g_getI E fl_RX10_33 (kC_68 b) (sC_68 b) rfl dX10_follow_80 ?_
        refine g_iconst E dX10_follow_83 ?_
        refine g_iadd E dX10_follow_84 ?_
        refine g_putI E fl_RX10_33 rfl rfl (kC_68 b) (sC_68 b) rfl dX10_follow_85 (g_nmS (fun σ10 eσ10 => ?_))
        replace h := h σ10 eσ10
        have hσ10 : CanS (shC b) (NC b) σ10 := by rw [eσ10]; exact uC_68_7 hσ9 (c32_w _)
        refine g_aload_0 E dX10_follow_88 ?_
        refine g_aload_0 E dX10_follow_89 ?_
        refine g_getI E fl_RX10_37 (kC_68 b) (sC_68 b) rfl dX10_follow_90 ?_
        refine g_iload_4 E dX10_follow_93 ?_
        refine g_mmax E ml_RX10_47 (fC_68_8 hσ10) cv8 (Nat.le_of_ble_eq_true rfl) (rm_1 3) ⟨Nat.zero_le _, Nat.zero_le _⟩ dX10_follow_95 ?_
        refine g_putI E fl_RX10_37 rfl rfl (kC_68 b) (sC_68 b) rfl dX10_follow_98 (g_nmS (fun σ11 eσ11 => ?_))
        replace h := h σ11 eσ11
        have hσ11 : CanS (shC b) (NC b) σ11 := by rw [eσ11]; exact uC_68_8 hσ10 (c32_max (fC_68_8 hσ10) cv8)
        refine g_aload_0 E dX10_follow_101 ?_
        refine g_aload_0 E dX10_follow_102 ?_
        refine g_getR E fl_RX10_19 (kC_68 b) (sC_68 b) rfl dX10_follow_103 ?_
        refine g_iload_3 E dX10_follow_106 ?_
        refine g_callvI E my_X3_rightTree mi_X3_rightTree msel_X3_rightTree ml_RX10_53 (rm_ok (by decide) (by decide)) ⟨Nat.zero_le _, Nat.zero_le _⟩ (kC_54 b) (sC_54 b) rfl (m_X3_rightTree E.2.2.1 cv7 hσ11 h) rfl rfl (Nat.le_of_ble_eq_true rfl) dX10_follow_107 (fun r12 σ13 cr12 hσ13 h => ?_)
        refine g_iload_4 E dX10_follow_110 ?_
        refine g_iconst E dX10_follow_112 ?_
        refine g_iadd E dX10_follow_113 ?_
        refine g_callvV E my_X10_pushTree mi_X10_pushTree msel_X10_pushTree ml_RX10_59 (rm_ok (by decide) (by decide)) ⟨Nat.zero_le _, Nat.zero_le _⟩ (kC_68 b) (sC_68 b) rfl (m_X10_pushTree E.2.2.1 cr12 (c32_w _) hσ13 h) rfl rfl (Nat.le_of_ble_eq_true rfl) dX10_follow_114 (fun σ15 r14 hσ15 h => ?_)
        refine g_aload_0 E dX10_follow_117 ?_
        refine g_aload_0 E dX10_follow_118 ?_
        refine g_getR E fl_RX10_19 (kC_68 b) (sC_68 b) rfl dX10_follow_119 ?_
        refine g_iload_3 E dX10_follow_122 ?_
        refine g_callvI E my_X3_leftTree mi_X3_leftTree msel_X3_leftTree ml_RX10_62 (rm_ok (by decide) (by decide)) ⟨Nat.zero_le _, Nat.zero_le _⟩ (kC_54 b) (sC_54 b) rfl (m_X3_leftTree E.2.2.1 cv7 hσ15 h) rfl rfl (Nat.le_of_ble_eq_true rfl) dX10_follow_123 (fun r16 σ17 cr16 hσ17 h => ?_)
        refine g_iload_4 E dX10_follow_126 ?_
        refine g_iconst E dX10_follow_128 ?_
        refine g_iadd E dX10_follow_129 ?_
        refine g_callvV E my_X10_pushTree mi_X10_pushTree msel_X10_pushTree ml_RX10_59 (rm_ok (by decide) (by decide)) ⟨Nat.zero_le _, Nat.zero_le _⟩ (kC_68 b) (sC_68 b) rfl (m_X10_pushTree E.2.2.1 cr16 (c32_w _) hσ17 h) rfl rfl (Nat.le_of_ble_eq_true rfl) dX10_follow_130 (fun σ19 r18 hσ19 h => ?_)
        refine g_iinc_2 E rfl (by decide) dX10_follow_133 (fun v20 ev20 => ?_)
        replace h := h v20 ev20
        have cv20 : C32 v20 := by rw [ev20]; exact c32_w _
        refine g_goto E djX10_follow_136 ?_
        exact (ih v20 σ19 cv20 hσ19 h).weak (w_k (w_d (w_k (w_d (w_d w_n)))))
set_option maxHeartbeats 4000000 in
set_option maxRecDepth 100000 in
theorem t_X10_follow (E : Ev p s m args meth c cX10_follow 5 RX10 A0 D cA ad (NC b) Z) (hr : meth.sig.returnType = none) (x1 : Int) (σ : St) (c1 : C32 x1) (hσ : CanS (shC b) (NC b) σ) (h : wp_X10_follow x1 σ Q) : G p l e (rmL 3 0 0) s m args below meth c 5 A0 D cA ad (shC b) (NC b) 0 0 (MQ below (QVc D cA ad (shC b) (NC b) Q A0) args s 0 0 A0) σ 0 [some (.ref (ad 68)), some (vI x1), none, none, none] [] := by
  unfold wp_X10_follow at h
  refine g_aload_0 E dX10_follow_0 ?_
  refine g_iconst E dX10_follow_1 ?_
  refine g_putI E fl_RX10_33 rfl rfl (kC_68 b) (sC_68 b) rfl dX10_follow_2 (g_nmS (fun σ1 eσ1 => ?_))
  replace h := h σ1 eσ1
  have hσ1 : CanS (shC b) (NC b) σ1 := by rw [eσ1]; exact uC_68_7 hσ cl_0
  refine g_aload_0 E dX10_follow_5 ?_
  refine g_iconst E dX10_follow_6 ?_
  refine g_putI E fl_RX10_37 rfl rfl (kC_68 b) (sC_68 b) rfl dX10_follow_7 (g_nmS (fun σ2 eσ2 => ?_))
  replace h := h σ2 eσ2
  have hσ2 : CanS (shC b) (NC b) σ2 := by rw [eσ2]; exact uC_68_8 hσ1 cl_0
  refine g_aload_0 E dX10_follow_10 ?_
  refine g_iconst E dX10_follow_11 ?_
  refine g_putI E fl_RX10_40 rfl rfl (kC_68 b) (sC_68 b) rfl dX10_follow_12 (g_nmS (fun σ3 eσ3 => ?_))
  replace h := h σ3 eσ3
  have hσ3 : CanS (shC b) (NC b) σ3 := by rw [eσ3]; exact uC_68_6 hσ2 cl_0
  refine g_aload_0 E dX10_follow_15 ?_
  refine g_iload_1 E dX10_follow_16 ?_
  refine g_iconst E dX10_follow_17 ?_
  refine g_callvV E my_X10_push mi_X10_push msel_X10_push ml_RX10_43 (rm_ok (by decide) (by decide)) ⟨Nat.zero_le _, Nat.zero_le _⟩ (kC_68 b) (sC_68 b) rfl (m_X10_push E.2.2.1 c1 cl_1 hσ3 h) rfl rfl (Nat.le_of_ble_eq_true rfl) dX10_follow_18 (fun σ5 r4 hσ5 h => ?_)
  refine g_iconst E dX10_follow_21 ?_
  refine g_istore_2 E rfl (by decide) dX10_follow_22 ?_
  exact (t_X10_follow_l23 E hr bigN 0 σ5 cl_0 hσ5 h).weak (w_k (w_d (w_k (w_d (w_d w_n)))))
end
theorem m_X10_follow {Z : (Nat → Nat) × (Nat → Nat)} {l : Launch} {D : va_G} {cA : Nat → ClassId} {ad : Nat → Nat} {b : Bool} {x1 : Int} {σ : St} {Q : Int → St → Prop} (hA : AdOk (NC b) ad) (c1 : C32 x1) (hσ : CanS (shC b) (NC b) σ) (h : wp_X10_follow x1 σ Q) : KtV Z l D cA ad (shC b) (NC b) yX10_follow cX10_follow 5 none 3 [.ref (ad 68), vI x1] σ Q :=
  KtV.of my_X10_follow hA [some (.ref (ad 68)), some (vI x1), none, none, none] (Nat.le_of_ble_eq_true rfl) rfl (fun p e s m args below meth c A0 E hr => t_X10_follow E hr x1 σ c1 hσ h)
theorem dX11_size_0 : Dc cX11_size 0 (.aload_n 0) 1 1 := ⟨by decide +kernel, rfl⟩
theorem dX11_size_1 : Dc cX11_size 1 (.iload_n 1) 1 2 := ⟨by decide +kernel, rfl⟩
theorem dX11_size_2 : Dc cX11_size 2 (.iload_n 2) 1 3 := ⟨by decide +kernel, rfl⟩
theorem dX11_size_3 : Dc cX11_size 3 (.iload_n 3) 1 4 := ⟨by decide +kernel, rfl⟩
theorem dX11_size_4 : Dc cX11_size 4 (.invokevirtual 223) 3 7 := ⟨by decide +kernel, rfl⟩
theorem dX11_size_7 : Dc cX11_size 7 (.istore 6) 2 9 := ⟨by decide +kernel, rfl⟩
theorem dX11_size_9 : Dc cX11_size 9 (.iload 6) 2 11 := ⟨by decide +kernel, rfl⟩
theorem djX11_size_11 : Dj cX11_size 11 (.ifCond .lt 22) 3 14 22 33 := ⟨by decide +kernel, rfl, by decide⟩
theorem dX11_size_14 : Dc cX11_size 14 (.iload 4) 2 16 := ⟨by decide +kernel, rfl⟩
theorem dX11_size_16 : Dc cX11_size 16 (.invokestatic 286) 3 19 := ⟨by decide +kernel, rfl⟩
theorem djX11_size_19 : Dj cX11_size 19 (.ifCond .eq 14) 3 22 14 33 := ⟨by decide +kernel, rfl, by decide⟩
theorem dX11_size_22 : Dc cX11_size 22 (.iload 5) 2 24 := ⟨by decide +kernel, rfl⟩
theorem djX11_size_24 : Dj cX11_size 24 (.ifCond .lt 9) 3 27 9 33 := ⟨by decide +kernel, rfl, by decide⟩
theorem dX11_size_27 : Dc cX11_size 27 (.iload 5) 2 29 := ⟨by decide +kernel, rfl⟩
theorem dX11_size_29 : Dc cX11_size 29 (.iconst 1) 1 30 := ⟨by decide +kernel, rfl⟩
theorem djX11_size_30 : Dj cX11_size 30 (.if_icmp .le 6) 3 33 6 36 := ⟨by decide +kernel, rfl, by decide⟩
theorem dX11_size_33 : Dc cX11_size 33 (.bipush (-2)) 2 35 := ⟨by decide +kernel, rfl⟩
theorem dX11_size_35 : Dc cX11_size 35 (.ireturn) 1 36 := ⟨by decide +kernel, rfl⟩
theorem dX11_size_36 : Dc cX11_size 36 (.aload_n 0) 1 37 := ⟨by decide +kernel, rfl⟩
theorem dX11_size_37 : Dc cX11_size 37 (.getfield 76) 3 40 := ⟨by decide +kernel, rfl⟩
theorem dX11_size_40 : Dc cX11_size 40 (.iload 6) 2 42 := ⟨by decide +kernel, rfl⟩
theorem dX11_size_42 : Dc cX11_size 42 (.iload 4) 2 44 := ⟨by decide +kernel, rfl⟩
theorem dX11_size_44 : Dc cX11_size 44 (.invokevirtual 289) 3 47 := ⟨by decide +kernel, rfl⟩
theorem dX11_size_47 : Dc cX11_size 47 (.istore 7) 2 49 := ⟨by decide +kernel, rfl⟩
theorem dX11_size_49 : Dc cX11_size 49 (.iload 7) 2 51 := ⟨by decide +kernel, rfl⟩
theorem djX11_size_51 : Dj cX11_size 51 (.ifCond .ge 5) 3 54 5 56 := ⟨by decide +kernel, rfl, by decide⟩
theorem dX11_size_54 : Dc cX11_size 54 (.iconst (-1)) 1 55 := ⟨by decide +kernel, rfl⟩
theorem dX11_size_55 : Dc cX11_size 55 (.ireturn) 1 56 := ⟨by decide +kernel, rfl⟩
theorem dX11_size_56 : Dc cX11_size 56 (.aload_n 0) 1 57 := ⟨by decide +kernel, rfl⟩
theorem dX11_size_57 : Dc cX11_size 57 (.getfield 85) 3 60 := ⟨by decide +kernel, rfl⟩
theorem dX11_size_60 : Dc cX11_size 60 (.iload 7) 2 62 := ⟨by decide +kernel, rfl⟩
theorem dX11_size_62 : Dc cX11_size 62 (.invokevirtual 295) 3 65 := ⟨by decide +kernel, rfl⟩
theorem dX11_size_65 : Dc cX11_size 65 (.iload 5) 2 67 := ⟨by decide +kernel, rfl⟩
theorem djX11_size_67 : Dj cX11_size 67 (.ifCond .ne 13) 3 70 13 80 := ⟨by decide +kernel, rfl, by decide⟩
theorem dX11_size_70 : Dc cX11_size 70 (.aload_n 0) 1 71 := ⟨by decide +kernel, rfl⟩
theorem dX11_size_71 : Dc cX11_size 71 (.getfield 85) 3 74 := ⟨by decide +kernel, rfl⟩
theorem dX11_size_74 : Dc cX11_size 74 (.getfield 298) 3 77 := ⟨by decide +kernel, rfl⟩
theorem djX11_size_77 : Dj cX11_size 77 (.goto 10) 3 80 10 87 := ⟨by decide +kernel, rfl, by decide⟩
theorem dX11_size_80 : Dc cX11_size 80 (.aload_n 0) 1 81 := ⟨by decide +kernel, rfl⟩
theorem dX11_size_81 : Dc cX11_size 81 (.getfield 85) 3 84 := ⟨by decide +kernel, rfl⟩
theorem dX11_size_84 : Dc cX11_size 84 (.getfield 301) 3 87 := ⟨by decide +kernel, rfl⟩
theorem dX11_size_87 : Dc cX11_size 87 (.ireturn) 1 88 := ⟨by decide +kernel, rfl⟩
section
variable {p : Program} {l : Launch} {e : Env} {s : State} {m : MethodId} {args : Array Value} {below : List Frame} {meth : Method} {c : Code} {A0 : Nat → Prop} {D : va_G} {cA : Nat → ClassId} {ad : Nat → Nat} {Z : (Nat → Nat) × (Nat → Nat)} {Q : Int → St → Prop} {b : Bool}
set_option maxHeartbeats 4000000 in
set_option maxRecDepth 100000 in
theorem t_X11_size (E : Ev p s m args meth c cX11_size 8 RX11 A0 D cA ad (NC b) Z) (hr : meth.sig.returnType = (some .int)) (x1 : Int) (x2 : Int) (x3 : Int) (x4 : Int) (x5 : Int) (σ : St) (c1 : C32 x1) (c2 : C32 x2) (c3 : C32 x3) (c4 : C32 x4) (c5 : C32 x5) (hσ : CanS (shC b) (NC b) σ) (h : wp_X11_size x1 x2 x3 x4 x5 σ Q) : G p l e (rmL 7 0 0) s m args below meth c 8 A0 D cA ad (shC b) (NC b) 0 0 (MQ below (QIc D cA ad (shC b) (NC b) Q A0) args s 0 0 A0) σ 0 [some (.ref (ad 0)), some (vI x1), some (vI x2), some (vI x3), some (vI x4), some (vI x5), none, none] [] := by
  unfold wp_X11_size at h
  refine g_aload_0 E dX11_size_0 ?_
  refine g_iload_1 E dX11_size_1 ?_
  refine g_iload_2 E dX11_size_2 ?_
  refine g_iload_3 E dX11_size_3 ?_
  refine g_callvI E my_X11_itemOf mi_X11_itemOf msel_X11_itemOf ml_RX11_223 (rm_ok (by decide) (by decide)) ⟨Nat.zero_le _, Nat.zero_le _⟩ (kC_0 b) (sC_0 b) rfl (m_X11_itemOf E.2.2.1 c1 c2 c3 hσ h) rfl rfl (Nat.le_of_ble_eq_true rfl) dX11_size_4 (fun r1 σ2 cr1 hσ2 h => ?_)
  refine g_istore_6 E rfl (by decide) dX11_size_7 ?_
  refine g_iload_6 E dX11_size_9 ?_
  refine g_if_lt E cr1 djX11_size_11 (fun hc => ?_) (fun hc => ?_)
  · replace h := h.1 hc
    refine g_bipush E (by decide) dX11_size_33 ?_
    exact g_iret E hr cl_m2 h hσ2 dX11_size_35
  · replace h := h.2 hc
    refine g_iload_4 E dX11_size_14 ?_
    refine g_callsI E my_X11_isPlace ms_X11_isPlace ml_RX11_286 (rm_ok (by decide) (by decide)) ⟨Nat.zero_le _, Nat.zero_le _⟩ (m_X11_isPlace E.2.2.1 c4 hσ2 h) rfl rfl (Nat.le_of_ble_eq_true rfl) dX11_size_16 (fun r3 σ4 cr3 hσ4 h => ?_)
    refine g_if_eq E cr3 djX11_size_19 (fun hc => ?_) (fun hc => ?_)
    · replace h := h.1 hc
      refine g_bipush E (by decide) dX11_size_33 ?_
      exact g_iret E hr cl_m2 h hσ4 dX11_size_35
    · replace h := h.2 hc
      refine g_iload_5 E dX11_size_22 ?_
      refine g_if_lt E c5 djX11_size_24 (fun hc => ?_) (fun hc => ?_)
      · replace h := h.1 hc
        refine g_bipush E (by decide) dX11_size_33 ?_
        exact g_iret E hr cl_m2 h hσ4 dX11_size_35
      · replace h := h.2 hc
        refine g_iload_5 E dX11_size_27 ?_
        refine g_iconst E dX11_size_29 ?_
        refine g_icmp_le E c5 cl_1 djX11_size_30 (fun hc => ?_) (fun hc => ?_)
        · replace h := h.1 hc
          refine g_aload_0 E dX11_size_36 ?_
          refine g_getR E fl_RX11_76 (kC_0 b) (sC_0 b) rfl dX11_size_37 ?_
          refine g_iload_6 E dX11_size_40 ?_
          refine g_iload_4 E dX11_size_42 ?_
          refine g_callvI E my_X3_treeOf mi_X3_treeOf msel_X3_treeOf ml_RX11_289 (rm_ok (by decide) (by decide)) ⟨Nat.zero_le _, Nat.zero_le _⟩ (kC_54 b) (sC_54 b) rfl (m_X3_treeOf E.2.2.1 cr1 c4 hσ4 h) rfl rfl (Nat.le_of_ble_eq_true rfl) dX11_size_44 (fun r5 σ6 cr5 hσ6 h => ?_)
          refine g_istore_7 E rfl (by decide) dX11_size_47 ?_
          refine g_iload_7 E dX11_size_49 ?_
          refine g_if_ge E cr5 djX11_size_51 (fun hc => ?_) (fun hc => ?_)
          · replace h := h.1 hc
            refine g_aload_0 E dX11_size_56 ?_
            refine g_getR E fl_RX11_85 (kC_0 b) (sC_0 b) rfl dX11_size_57 ?_
            refine g_iload_7 E dX11_size_60 ?_
            refine g_callvV E my_X10_follow mi_X10_follow msel_X10_follow ml_RX11_295 (rm_ok (by decide) (by decide)) ⟨Nat.zero_le _, Nat.zero_le _⟩ (kC_68 b) (sC_68 b) rfl (m_X10_follow E.2.2.1 cr5 hσ6 h) rfl rfl (Nat.le_of_ble_eq_true rfl) dX11_size_62 (fun σ8 r7 hσ8 h => ?_)
            refine g_iload_5 E dX11_size_65 ?_
            refine g_if_ne E c5 djX11_size_67 (fun hc => ?_) (fun hc => ?_)
            · replace h := h.1 hc
              refine g_aload_0 E dX11_size_80 ?_
              refine g_getR E fl_RX11_85 (kC_0 b) (sC_0 b) rfl dX11_size_81 ?_
              refine g_getI E fl_RX11_301 (kC_68 b) (sC_68 b) rfl dX11_size_84 ?_
              exact g_iret E hr (fC_68_8 hσ8) h hσ8 dX11_size_87
            · replace h := h.2 hc
              refine g_aload_0 E dX11_size_70 ?_
              refine g_getR E fl_RX11_85 (kC_0 b) (sC_0 b) rfl dX11_size_71 ?_
              refine g_getI E fl_RX11_298 (kC_68 b) (sC_68 b) rfl dX11_size_74 ?_
              refine g_goto E djX11_size_77 ?_
              exact g_iret E hr (fC_68_7 hσ8) h hσ8 dX11_size_87
          · replace h := h.2 hc
            refine g_iconst E dX11_size_54 ?_
            exact g_iret E hr cl_m1 h hσ6 dX11_size_55
        · replace h := h.2 hc
          refine g_bipush E (by decide) dX11_size_33 ?_
          exact g_iret E hr cl_m2 h hσ4 dX11_size_35
end
theorem m_X11_size {Z : (Nat → Nat) × (Nat → Nat)} {l : Launch} {D : va_G} {cA : Nat → ClassId} {ad : Nat → Nat} {b : Bool} {x1 x2 x3 x4 x5 : Int} {σ : St} {Q : Int → St → Prop} (hA : AdOk (NC b) ad) (c1 : C32 x1) (c2 : C32 x2) (c3 : C32 x3) (c4 : C32 x4) (c5 : C32 x5) (hσ : CanS (shC b) (NC b) σ) (h : wp_X11_size x1 x2 x3 x4 x5 σ Q) : KtI Z l D cA ad (shC b) (NC b) yX11_size cX11_size 8 (some .int) 7 [.ref (ad 0), vI x1, vI x2, vI x3, vI x4, vI x5] σ Q :=
  KtI.of my_X11_size hA [some (.ref (ad 0)), some (vI x1), some (vI x2), some (vI x3), some (vI x4), some (vI x5), none, none] (Nat.le_of_ble_eq_true rfl) rfl (fun p e s m args below meth c A0 E hr => t_X11_size E hr x1 x2 x3 x4 x5 σ c1 c2 c3 c4 c5 hσ h)
theorem dX10_caseAt_0 : Dc cX10_caseAt 0 (.aload_n 0) 1 1 := ⟨by decide +kernel, rfl⟩
theorem dX10_caseAt_1 : Dc cX10_caseAt 1 (.getfield 19) 3 4 := ⟨by decide +kernel, rfl⟩
theorem dX10_caseAt_4 : Dc cX10_caseAt 4 (.getfield 65) 3 7 := ⟨by decide +kernel, rfl⟩
theorem dX10_caseAt_7 : Dc cX10_caseAt 7 (.aload_n 0) 1 8 := ⟨by decide +kernel, rfl⟩
theorem dX10_caseAt_8 : Dc cX10_caseAt 8 (.getfield 30) 3 11 := ⟨by decide +kernel, rfl⟩
theorem dX10_caseAt_11 : Dc cX10_caseAt 11 (.iload_n 1) 1 12 := ⟨by decide +kernel, rfl⟩
theorem dX10_caseAt_12 : Dc cX10_caseAt 12 (.iaload) 1 13 := ⟨by decide +kernel, rfl⟩
theorem dX10_caseAt_13 : Dc cX10_caseAt 13 (.iaload) 1 14 := ⟨by decide +kernel, rfl⟩
theorem dX10_caseAt_14 : Dc cX10_caseAt 14 (.ireturn) 1 15 := ⟨by decide +kernel, rfl⟩
section
variable {p : Program} {l : Launch} {e : Env} {s : State} {m : MethodId} {args : Array Value} {below : List Frame} {meth : Method} {c : Code} {A0 : Nat → Prop} {D : va_G} {cA : Nat → ClassId} {ad : Nat → Nat} {Z : (Nat → Nat) × (Nat → Nat)} {Q : Int → St → Prop} {b : Bool}
set_option maxHeartbeats 4000000 in
set_option maxRecDepth 100000 in
theorem t_X10_caseAt (E : Ev p s m args meth c cX10_caseAt 2 RX10 A0 D cA ad (NC b) Z) (hr : meth.sig.returnType = (some .int)) (x1 : Int) (σ : St) (c1 : C32 x1) (hσ : CanS (shC b) (NC b) σ) (h : wp_X10_caseAt x1 σ Q) : G p l e (rmL 1 0 0) s m args below meth c 2 A0 D cA ad (shC b) (NC b) 0 0 (MQ below (QIc D cA ad (shC b) (NC b) Q A0) args s 0 0 A0) σ 0 [some (.ref (ad 68)), some (vI x1)] [] := by
  unfold wp_X10_caseAt at h
  refine g_aload_0 E dX10_caseAt_0 ?_
  refine g_getR E fl_RX10_19 (kC_68 b) (sC_68 b) rfl dX10_caseAt_1 ?_
  refine g_getR E fl_RX10_65 (kC_54 b) (sC_54 b) rfl dX10_caseAt_4 ?_
  refine g_aload_0 E dX10_caseAt_7 ?_
  refine g_getR E fl_RX10_30 (kC_68 b) (sC_68 b) rfl dX10_caseAt_8 ?_
  refine g_iload_1 E dX10_caseAt_11 ?_
  refine g_iald E (kC_71 b) (sC_71 b) (by decide) h.1 dX10_caseAt_12 ?_
  replace h := h.2
  refine g_iald E (kC_56 b) (sC_56 b) (by decide) h.1 dX10_caseAt_13 ?_
  replace h := h.2
  exact g_iret E hr (aC_56 hσ _) h hσ dX10_caseAt_14
end
theorem m_X10_caseAt {Z : (Nat → Nat) × (Nat → Nat)} {l : Launch} {D : va_G} {cA : Nat → ClassId} {ad : Nat → Nat} {b : Bool} {x1 : Int} {σ : St} {Q : Int → St → Prop} (hA : AdOk (NC b) ad) (c1 : C32 x1) (hσ : CanS (shC b) (NC b) σ) (h : wp_X10_caseAt x1 σ Q) : KtI Z l D cA ad (shC b) (NC b) yX10_caseAt cX10_caseAt 2 (some .int) 1 [.ref (ad 68), vI x1] σ Q :=
  KtI.of my_X10_caseAt hA [some (.ref (ad 68)), some (vI x1)] (Nat.le_of_ble_eq_true rfl) rfl (fun p e s m args below meth c A0 E hr => t_X10_caseAt E hr x1 σ c1 hσ h)
theorem dX10_ruleOf_0 : Dc cX10_ruleOf 0 (.iload_n 1) 1 1 := ⟨by decide +kernel, rfl⟩
theorem djX10_ruleOf_1 : Dj cX10_ruleOf 1 (.ifCond .lt 11) 3 4 11 12 := ⟨by decide +kernel, rfl, by decide⟩
theorem dX10_ruleOf_4 : Dc cX10_ruleOf 4 (.iload_n 1) 1 5 := ⟨by decide +kernel, rfl⟩
theorem dX10_ruleOf_5 : Dc cX10_ruleOf 5 (.aload_n 0) 1 6 := ⟨by decide +kernel, rfl⟩
theorem dX10_ruleOf_6 : Dc cX10_ruleOf 6 (.getfield 33) 3 9 := ⟨by decide +kernel, rfl⟩
theorem djX10_ruleOf_9 : Dj cX10_ruleOf 9 (.if_icmp .lt 7) 3 12 7 16 := ⟨by decide +kernel, rfl, by decide⟩
theorem dX10_ruleOf_12 : Dc cX10_ruleOf 12 (.iconst (-1)) 1 13 := ⟨by decide +kernel, rfl⟩
theorem djX10_ruleOf_13 : Dj cX10_ruleOf 13 (.goto 16) 3 16 16 29 := ⟨by decide +kernel, rfl, by decide⟩
theorem dX10_ruleOf_16 : Dc cX10_ruleOf 16 (.aload_n 0) 1 17 := ⟨by decide +kernel, rfl⟩
theorem dX10_ruleOf_17 : Dc cX10_ruleOf 17 (.getfield 15) 3 20 := ⟨by decide +kernel, rfl⟩
theorem dX10_ruleOf_20 : Dc cX10_ruleOf 20 (.getfield 68) 3 23 := ⟨by decide +kernel, rfl⟩
theorem dX10_ruleOf_23 : Dc cX10_ruleOf 23 (.aload_n 0) 1 24 := ⟨by decide +kernel, rfl⟩
theorem dX10_ruleOf_24 : Dc cX10_ruleOf 24 (.iload_n 1) 1 25 := ⟨by decide +kernel, rfl⟩
theorem dX10_ruleOf_25 : Dc cX10_ruleOf 25 (.invokevirtual 73) 3 28 := ⟨by decide +kernel, rfl⟩
theorem dX10_ruleOf_28 : Dc cX10_ruleOf 28 (.iaload) 1 29 := ⟨by decide +kernel, rfl⟩
theorem dX10_ruleOf_29 : Dc cX10_ruleOf 29 (.ireturn) 1 30 := ⟨by decide +kernel, rfl⟩
section
variable {p : Program} {l : Launch} {e : Env} {s : State} {m : MethodId} {args : Array Value} {below : List Frame} {meth : Method} {c : Code} {A0 : Nat → Prop} {D : va_G} {cA : Nat → ClassId} {ad : Nat → Nat} {Z : (Nat → Nat) × (Nat → Nat)} {Q : Int → St → Prop} {b : Bool}
set_option maxHeartbeats 4000000 in
set_option maxRecDepth 100000 in
theorem t_X10_ruleOf_b12 (E : Ev p s m args meth c cX10_ruleOf 2 RX10 A0 D cA ad (NC b) Z) (hr : meth.sig.returnType = (some .int)) (σ : St) (hσ : CanS (shC b) (NC b) σ) (h : wp_X10_ruleOf_b12 Q  σ) : G p l e (rmL 2 0 0) s m args below meth c 2 A0 D cA ad (shC b) (NC b) 0 0 (MQ below (QIc D cA ad (shC b) (NC b) Q A0) args s 0 0 A0) σ 12 [none, none] [] := by
  unfold wp_X10_ruleOf_b12 at h
  refine g_iconst E dX10_ruleOf_12 ?_
  refine g_goto E djX10_ruleOf_13 ?_
  exact g_iret E hr cl_m1 h hσ dX10_ruleOf_29
set_option maxHeartbeats 4000000 in
set_option maxRecDepth 100000 in
theorem t_X10_ruleOf (E : Ev p s m args meth c cX10_ruleOf 2 RX10 A0 D cA ad (NC b) Z) (hr : meth.sig.returnType = (some .int)) (x1 : Int) (σ : St) (c1 : C32 x1) (hσ : CanS (shC b) (NC b) σ) (h : wp_X10_ruleOf x1 σ Q) : G p l e (rmL 2 0 0) s m args below meth c 2 A0 D cA ad (shC b) (NC b) 0 0 (MQ below (QIc D cA ad (shC b) (NC b) Q A0) args s 0 0 A0) σ 0 [some (.ref (ad 68)), some (vI x1)] [] := by
  unfold wp_X10_ruleOf at h
  refine g_iload_1 E dX10_ruleOf_0 ?_
  refine g_if_lt E c1 djX10_ruleOf_1 (fun hc => ?_) (fun hc => ?_)
  · replace h := h.1 hc
    exact (t_X10_ruleOf_b12 E hr σ hσ h).weak (w_d (w_d w_n))
  · replace h := h.2 hc
    refine g_iload_1 E dX10_ruleOf_4 ?_
    refine g_aload_0 E dX10_ruleOf_5 ?_
    refine g_getI E fl_RX10_33 (kC_68 b) (sC_68 b) rfl dX10_ruleOf_6 ?_
    refine g_icmp_lt E c1 (fC_68_7 hσ) djX10_ruleOf_9 (fun hc => ?_) (fun hc => ?_)
    · replace h := h.1 hc
      refine g_aload_0 E dX10_ruleOf_16 ?_
      refine g_getR E fl_RX10_15 (kC_68 b) (sC_68 b) rfl dX10_ruleOf_17 ?_
      refine g_getR E fl_RX10_68 (kC_24 b) (sC_24 b) rfl dX10_ruleOf_20 ?_
      refine g_aload_0 E dX10_ruleOf_23 ?_
      refine g_iload_1 E dX10_ruleOf_24 ?_
      refine g_callvI E my_X10_caseAt mi_X10_caseAt msel_X10_caseAt ml_RX10_73 (rm_ok (by decide) (by decide)) ⟨Nat.zero_le _, Nat.zero_le _⟩ (kC_68 b) (sC_68 b) rfl (m_X10_caseAt E.2.2.1 c1 hσ h) rfl rfl (Nat.le_of_ble_eq_true rfl) dX10_ruleOf_25 (fun r1 σ2 cr1 hσ2 h => ?_)
      refine g_iald E (kC_29 b) (sC_29 b) (by decide) h.1 dX10_ruleOf_28 ?_
      replace h := h.2
      exact g_iret E hr (aC_29 hσ2 _) h hσ2 dX10_ruleOf_29
    · replace h := h.2 hc
      exact (t_X10_ruleOf_b12 E hr σ hσ h).weak (w_d (w_d w_n))
end
theorem m_X10_ruleOf {Z : (Nat → Nat) × (Nat → Nat)} {l : Launch} {D : va_G} {cA : Nat → ClassId} {ad : Nat → Nat} {b : Bool} {x1 : Int} {σ : St} {Q : Int → St → Prop} (hA : AdOk (NC b) ad) (c1 : C32 x1) (hσ : CanS (shC b) (NC b) σ) (h : wp_X10_ruleOf x1 σ Q) : KtI Z l D cA ad (shC b) (NC b) yX10_ruleOf cX10_ruleOf 2 (some .int) 2 [.ref (ad 68), vI x1] σ Q :=
  KtI.of my_X10_ruleOf hA [some (.ref (ad 68)), some (vI x1)] (Nat.le_of_ble_eq_true rfl) rfl (fun p e s m args below meth c A0 E hr => t_X10_ruleOf E hr x1 σ c1 hσ h)
theorem dX11_step_0 : Dc cX11_step 0 (.aload_n 0) 1 1 := ⟨by decide +kernel, rfl⟩
theorem dX11_step_1 : Dc cX11_step 1 (.iload_n 1) 1 2 := ⟨by decide +kernel, rfl⟩
theorem dX11_step_2 : Dc cX11_step 2 (.iload_n 2) 1 3 := ⟨by decide +kernel, rfl⟩
theorem dX11_step_3 : Dc cX11_step 3 (.iload_n 3) 1 4 := ⟨by decide +kernel, rfl⟩
theorem dX11_step_4 : Dc cX11_step 4 (.invokevirtual 223) 3 7 := ⟨by decide +kernel, rfl⟩
theorem dX11_step_7 : Dc cX11_step 7 (.istore 6) 2 9 := ⟨by decide +kernel, rfl⟩
theorem dX11_step_9 : Dc cX11_step 9 (.iload 6) 2 11 := ⟨by decide +kernel, rfl⟩
theorem djX11_step_11 : Dj cX11_step 11 (.ifCond .lt 16) 3 14 16 27 := ⟨by decide +kernel, rfl, by decide⟩
theorem dX11_step_14 : Dc cX11_step 14 (.iload 4) 2 16 := ⟨by decide +kernel, rfl⟩
theorem dX11_step_16 : Dc cX11_step 16 (.invokestatic 286) 3 19 := ⟨by decide +kernel, rfl⟩
theorem djX11_step_19 : Dj cX11_step 19 (.ifCond .eq 8) 3 22 8 27 := ⟨by decide +kernel, rfl, by decide⟩
theorem dX11_step_22 : Dc cX11_step 22 (.iload 5) 2 24 := ⟨by decide +kernel, rfl⟩
theorem djX11_step_24 : Dj cX11_step 24 (.ifCond .ge 6) 3 27 6 30 := ⟨by decide +kernel, rfl, by decide⟩
theorem dX11_step_27 : Dc cX11_step 27 (.bipush (-2)) 2 29 := ⟨by decide +kernel, rfl⟩
theorem dX11_step_29 : Dc cX11_step 29 (.ireturn) 1 30 := ⟨by decide +kernel, rfl⟩
theorem dX11_step_30 : Dc cX11_step 30 (.aload_n 0) 1 31 := ⟨by decide +kernel, rfl⟩
theorem dX11_step_31 : Dc cX11_step 31 (.getfield 76) 3 34 := ⟨by decide +kernel, rfl⟩
theorem dX11_step_34 : Dc cX11_step 34 (.iload 6) 2 36 := ⟨by decide +kernel, rfl⟩
theorem dX11_step_36 : Dc cX11_step 36 (.iload 4) 2 38 := ⟨by decide +kernel, rfl⟩
theorem dX11_step_38 : Dc cX11_step 38 (.invokevirtual 289) 3 41 := ⟨by decide +kernel, rfl⟩
theorem dX11_step_41 : Dc cX11_step 41 (.istore 7) 2 43 := ⟨by decide +kernel, rfl⟩
theorem dX11_step_43 : Dc cX11_step 43 (.iload 7) 2 45 := ⟨by decide +kernel, rfl⟩
theorem djX11_step_45 : Dj cX11_step 45 (.ifCond .ge 5) 3 48 5 50 := ⟨by decide +kernel, rfl, by decide⟩
theorem dX11_step_48 : Dc cX11_step 48 (.iconst (-1)) 1 49 := ⟨by decide +kernel, rfl⟩
theorem dX11_step_49 : Dc cX11_step 49 (.ireturn) 1 50 := ⟨by decide +kernel, rfl⟩
theorem dX11_step_50 : Dc cX11_step 50 (.aload_n 0) 1 51 := ⟨by decide +kernel, rfl⟩
theorem dX11_step_51 : Dc cX11_step 51 (.getfield 85) 3 54 := ⟨by decide +kernel, rfl⟩
theorem dX11_step_54 : Dc cX11_step 54 (.iload 7) 2 56 := ⟨by decide +kernel, rfl⟩
theorem dX11_step_56 : Dc cX11_step 56 (.invokevirtual 295) 3 59 := ⟨by decide +kernel, rfl⟩
theorem dX11_step_59 : Dc cX11_step 59 (.aload_n 0) 1 60 := ⟨by decide +kernel, rfl⟩
theorem dX11_step_60 : Dc cX11_step 60 (.getfield 85) 3 63 := ⟨by decide +kernel, rfl⟩
theorem dX11_step_63 : Dc cX11_step 63 (.iload 5) 2 65 := ⟨by decide +kernel, rfl⟩
theorem dX11_step_65 : Dc cX11_step 65 (.invokevirtual 304) 3 68 := ⟨by decide +kernel, rfl⟩
theorem dX11_step_68 : Dc cX11_step 68 (.ireturn) 1 69 := ⟨by decide +kernel, rfl⟩
section
variable {p : Program} {l : Launch} {e : Env} {s : State} {m : MethodId} {args : Array Value} {below : List Frame} {meth : Method} {c : Code} {A0 : Nat → Prop} {D : va_G} {cA : Nat → ClassId} {ad : Nat → Nat} {Z : (Nat → Nat) × (Nat → Nat)} {Q : Int → St → Prop} {b : Bool}
set_option maxHeartbeats 4000000 in
set_option maxRecDepth 100000 in
theorem t_X11_step (E : Ev p s m args meth c cX11_step 8 RX11 A0 D cA ad (NC b) Z) (hr : meth.sig.returnType = (some .int)) (x1 : Int) (x2 : Int) (x3 : Int) (x4 : Int) (x5 : Int) (σ : St) (c1 : C32 x1) (c2 : C32 x2) (c3 : C32 x3) (c4 : C32 x4) (c5 : C32 x5) (hσ : CanS (shC b) (NC b) σ) (h : wp_X11_step x1 x2 x3 x4 x5 σ Q) : G p l e (rmL 7 0 0) s m args below meth c 8 A0 D cA ad (shC b) (NC b) 0 0 (MQ below (QIc D cA ad (shC b) (NC b) Q A0) args s 0 0 A0) σ 0 [some (.ref (ad 0)), some (vI x1), some (vI x2), some (vI x3), some (vI x4), some (vI x5), none, none] [] := by
  unfold wp_X11_step at h
  refine g_aload_0 E dX11_step_0 ?_
  refine g_iload_1 E dX11_step_1 ?_
  refine g_iload_2 E dX11_step_2 ?_
  refine g_iload_3 E dX11_step_3 ?_
  refine g_callvI E my_X11_itemOf mi_X11_itemOf msel_X11_itemOf ml_RX11_223 (rm_ok (by decide) (by decide)) ⟨Nat.zero_le _, Nat.zero_le _⟩ (kC_0 b) (sC_0 b) rfl (m_X11_itemOf E.2.2.1 c1 c2 c3 hσ h) rfl rfl (Nat.le_of_ble_eq_true rfl) dX11_step_4 (fun r1 σ2 cr1 hσ2 h => ?_)
  refine g_istore_6 E rfl (by decide) dX11_step_7 ?_
  refine g_iload_6 E dX11_step_9 ?_
  refine g_if_lt E cr1 djX11_step_11 (fun hc => ?_) (fun hc => ?_)
  · replace h := h.1 hc
    refine g_bipush E (by decide) dX11_step_27 ?_
    exact g_iret E hr cl_m2 h hσ2 dX11_step_29
  · replace h := h.2 hc
    refine g_iload_4 E dX11_step_14 ?_
    refine g_callsI E my_X11_isPlace ms_X11_isPlace ml_RX11_286 (rm_ok (by decide) (by decide)) ⟨Nat.zero_le _, Nat.zero_le _⟩ (m_X11_isPlace E.2.2.1 c4 hσ2 h) rfl rfl (Nat.le_of_ble_eq_true rfl) dX11_step_16 (fun r3 σ4 cr3 hσ4 h => ?_)
    refine g_if_eq E cr3 djX11_step_19 (fun hc => ?_) (fun hc => ?_)
    · replace h := h.1 hc
      refine g_bipush E (by decide) dX11_step_27 ?_
      exact g_iret E hr cl_m2 h hσ4 dX11_step_29
    · replace h := h.2 hc
      refine g_iload_5 E dX11_step_22 ?_
      refine g_if_ge E c5 djX11_step_24 (fun hc => ?_) (fun hc => ?_)
      · replace h := h.1 hc
        refine g_aload_0 E dX11_step_30 ?_
        refine g_getR E fl_RX11_76 (kC_0 b) (sC_0 b) rfl dX11_step_31 ?_
        refine g_iload_6 E dX11_step_34 ?_
        refine g_iload_4 E dX11_step_36 ?_
        refine g_callvI E my_X3_treeOf mi_X3_treeOf msel_X3_treeOf ml_RX11_289 (rm_ok (by decide) (by decide)) ⟨Nat.zero_le _, Nat.zero_le _⟩ (kC_54 b) (sC_54 b) rfl (m_X3_treeOf E.2.2.1 cr1 c4 hσ4 h) rfl rfl (Nat.le_of_ble_eq_true rfl) dX11_step_38 (fun r5 σ6 cr5 hσ6 h => ?_)
        refine g_istore_7 E rfl (by decide) dX11_step_41 ?_
        refine g_iload_7 E dX11_step_43 ?_
        refine g_if_ge E cr5 djX11_step_45 (fun hc => ?_) (fun hc => ?_)
        · replace h := h.1 hc
          refine g_aload_0 E dX11_step_50 ?_
          refine g_getR E fl_RX11_85 (kC_0 b) (sC_0 b) rfl dX11_step_51 ?_
          refine g_iload_7 E dX11_step_54 ?_
          refine g_callvV E my_X10_follow mi_X10_follow msel_X10_follow ml_RX11_295 (rm_ok (by decide) (by decide)) ⟨Nat.zero_le _, Nat.zero_le _⟩ (kC_68 b) (sC_68 b) rfl (m_X10_follow E.2.2.1 cr5 hσ6 h) rfl rfl (Nat.le_of_ble_eq_true rfl) dX11_step_56 (fun σ8 r7 hσ8 h => ?_)
          refine g_aload_0 E dX11_step_59 ?_
          refine g_getR E fl_RX11_85 (kC_0 b) (sC_0 b) rfl dX11_step_60 ?_
          refine g_iload_5 E dX11_step_63 ?_
          refine g_callvI E my_X10_ruleOf mi_X10_ruleOf msel_X10_ruleOf ml_RX11_304 (rm_ok (by decide) (by decide)) ⟨Nat.zero_le _, Nat.zero_le _⟩ (kC_68 b) (sC_68 b) rfl (m_X10_ruleOf E.2.2.1 c5 hσ8 h) rfl rfl (Nat.le_of_ble_eq_true rfl) dX11_step_65 (fun r9 σ10 cr9 hσ10 h => ?_)
          exact g_iret E hr cr9 h hσ10 dX11_step_68
        · replace h := h.2 hc
          refine g_iconst E dX11_step_48 ?_
          exact g_iret E hr cl_m1 h hσ6 dX11_step_49
      · replace h := h.2 hc
        refine g_bipush E (by decide) dX11_step_27 ?_
        exact g_iret E hr cl_m2 h hσ4 dX11_step_29
end
theorem m_X11_step {Z : (Nat → Nat) × (Nat → Nat)} {l : Launch} {D : va_G} {cA : Nat → ClassId} {ad : Nat → Nat} {b : Bool} {x1 x2 x3 x4 x5 : Int} {σ : St} {Q : Int → St → Prop} (hA : AdOk (NC b) ad) (c1 : C32 x1) (c2 : C32 x2) (c3 : C32 x3) (c4 : C32 x4) (c5 : C32 x5) (hσ : CanS (shC b) (NC b) σ) (h : wp_X11_step x1 x2 x3 x4 x5 σ Q) : KtI Z l D cA ad (shC b) (NC b) yX11_step cX11_step 8 (some .int) 7 [.ref (ad 0), vI x1, vI x2, vI x3, vI x4, vI x5] σ Q :=
  KtI.of my_X11_step hA [some (.ref (ad 0)), some (vI x1), some (vI x2), some (vI x3), some (vI x4), some (vI x5), none, none] (Nat.le_of_ble_eq_true rfl) rfl (fun p e s m args below meth c A0 E hr => t_X11_step E hr x1 x2 x3 x4 x5 σ c1 c2 c3 c4 c5 hσ h)
theorem dX11_wholeItem_0 : Dc cX11_wholeItem 0 (.aload_n 0) 1 1 := ⟨by decide +kernel, rfl⟩
theorem dX11_wholeItem_1 : Dc cX11_wholeItem 1 (.getfield 28) 3 4 := ⟨by decide +kernel, rfl⟩
theorem dX11_wholeItem_4 : Dc cX11_wholeItem 4 (.getfield 129) 3 7 := ⟨by decide +kernel, rfl⟩
theorem djX11_wholeItem_7 : Dj cX11_wholeItem 7 (.ifCond .ne 7) 3 10 7 14 := ⟨by decide +kernel, rfl, by decide⟩
theorem dX11_wholeItem_10 : Dc cX11_wholeItem 10 (.iconst (-1)) 1 11 := ⟨by decide +kernel, rfl⟩
theorem djX11_wholeItem_11 : Dj cX11_wholeItem 11 (.goto 22) 3 14 22 33 := ⟨by decide +kernel, rfl, by decide⟩
theorem dX11_wholeItem_14 : Dc cX11_wholeItem 14 (.aload_n 0) 1 15 := ⟨by decide +kernel, rfl⟩
theorem dX11_wholeItem_15 : Dc cX11_wholeItem 15 (.aload_n 0) 1 16 := ⟨by decide +kernel, rfl⟩
theorem dX11_wholeItem_16 : Dc cX11_wholeItem 16 (.getfield 28) 3 19 := ⟨by decide +kernel, rfl⟩
theorem dX11_wholeItem_19 : Dc cX11_wholeItem 19 (.invokevirtual 149) 3 22 := ⟨by decide +kernel, rfl⟩
theorem dX11_wholeItem_22 : Dc cX11_wholeItem 22 (.iconst 0) 1 23 := ⟨by decide +kernel, rfl⟩
theorem dX11_wholeItem_23 : Dc cX11_wholeItem 23 (.aload_n 0) 1 24 := ⟨by decide +kernel, rfl⟩
theorem dX11_wholeItem_24 : Dc cX11_wholeItem 24 (.getfield 37) 3 27 := ⟨by decide +kernel, rfl⟩
theorem dX11_wholeItem_27 : Dc cX11_wholeItem 27 (.getfield 146) 3 30 := ⟨by decide +kernel, rfl⟩
theorem dX11_wholeItem_30 : Dc cX11_wholeItem 30 (.invokevirtual 223) 3 33 := ⟨by decide +kernel, rfl⟩
theorem dX11_wholeItem_33 : Dc cX11_wholeItem 33 (.ireturn) 1 34 := ⟨by decide +kernel, rfl⟩
section
variable {p : Program} {l : Launch} {e : Env} {s : State} {m : MethodId} {args : Array Value} {below : List Frame} {meth : Method} {c : Code} {A0 : Nat → Prop} {D : va_G} {cA : Nat → ClassId} {ad : Nat → Nat} {Z : (Nat → Nat) × (Nat → Nat)} {Q : Int → St → Prop} {b : Bool}
set_option maxHeartbeats 4000000 in
set_option maxRecDepth 100000 in
theorem t_X11_wholeItem (E : Ev p s m args meth c cX11_wholeItem 1 RX11 A0 D cA ad (NC b) Z) (hr : meth.sig.returnType = (some .int)) (σ : St) (hσ : CanS (shC b) (NC b) σ) (h : wp_X11_wholeItem  σ Q) : G p l e (rmL 6 0 0) s m args below meth c 1 A0 D cA ad (shC b) (NC b) 0 0 (MQ below (QIc D cA ad (shC b) (NC b) Q A0) args s 0 0 A0) σ 0 [some (.ref (ad 0))] [] := by
  unfold wp_X11_wholeItem at h
  refine g_aload_0 E dX11_wholeItem_0 ?_
  refine g_getR E fl_RX11_28 (kC_0 b) (sC_0 b) rfl dX11_wholeItem_1 ?_
  refine g_getI E fl_RX11_129 (kC_14 b) (sC_14 b) rfl dX11_wholeItem_4 ?_
  refine g_if_ne E (fC_14_0 hσ) djX11_wholeItem_7 (fun hc => ?_) (fun hc => ?_)
  · replace h := h.1 hc
    refine g_aload_0 E dX11_wholeItem_14 ?_
    refine g_aload_0 E dX11_wholeItem_15 ?_
    refine g_getR E fl_RX11_28 (kC_0 b) (sC_0 b) rfl dX11_wholeItem_16 ?_
    refine g_callvI E my_X4_start mi_X4_start msel_X4_start ml_RX11_149 (rm_ok (by decide) (by decide)) ⟨Nat.zero_le _, Nat.zero_le _⟩ (kC_14 b) (sC_14 b) rfl (m_X4_start E.2.2.1 hσ h) rfl rfl (Nat.le_of_ble_eq_true rfl) dX11_wholeItem_19 (fun r1 σ2 cr1 hσ2 h => ?_)
    refine g_iconst E dX11_wholeItem_22 ?_
    refine g_aload_0 E dX11_wholeItem_23 ?_
    refine g_getR E fl_RX11_37 (kC_0 b) (sC_0 b) rfl dX11_wholeItem_24 ?_
    refine g_getI E fl_RX11_146 (kC_24 b) (sC_24 b) rfl dX11_wholeItem_27 ?_
    refine g_callvI E my_X11_itemOf mi_X11_itemOf msel_X11_itemOf ml_RX11_223 (rm_ok (by decide) (by decide)) ⟨Nat.zero_le _, Nat.zero_le _⟩ (kC_0 b) (sC_0 b) rfl (m_X11_itemOf E.2.2.1 cr1 cl_0 (fC_24_2 hσ2) hσ2 h) rfl rfl (Nat.le_of_ble_eq_true rfl) dX11_wholeItem_30 (fun r3 σ4 cr3 hσ4 h => ?_)
    exact g_iret E hr cr3 h hσ4 dX11_wholeItem_33
  · replace h := h.2 hc
    refine g_iconst E dX11_wholeItem_10 ?_
    refine g_goto E djX11_wholeItem_11 ?_
    exact g_iret E hr cl_m1 h hσ dX11_wholeItem_33
end
theorem m_X11_wholeItem {Z : (Nat → Nat) × (Nat → Nat)} {l : Launch} {D : va_G} {cA : Nat → ClassId} {ad : Nat → Nat} {b : Bool} {σ : St} {Q : Int → St → Prop} (hA : AdOk (NC b) ad) (hσ : CanS (shC b) (NC b) σ) (h : wp_X11_wholeItem  σ Q) : KtI Z l D cA ad (shC b) (NC b) yX11_wholeItem cX11_wholeItem 1 (some .int) 6 [.ref (ad 0)] σ Q :=
  KtI.of my_X11_wholeItem hA [some (.ref (ad 0))] (Nat.le_of_ble_eq_true rfl) rfl (fun p e s m args below meth c A0 E hr => t_X11_wholeItem E hr σ hσ h)
theorem dX10_beginOf_0 : Dc cX10_beginOf 0 (.iload_n 1) 1 1 := ⟨by decide +kernel, rfl⟩
theorem djX10_beginOf_1 : Dj cX10_beginOf 1 (.ifCond .lt 11) 3 4 11 12 := ⟨by decide +kernel, rfl, by decide⟩
theorem dX10_beginOf_4 : Dc cX10_beginOf 4 (.iload_n 1) 1 5 := ⟨by decide +kernel, rfl⟩
theorem dX10_beginOf_5 : Dc cX10_beginOf 5 (.aload_n 0) 1 6 := ⟨by decide +kernel, rfl⟩
theorem dX10_beginOf_6 : Dc cX10_beginOf 6 (.getfield 33) 3 9 := ⟨by decide +kernel, rfl⟩
theorem djX10_beginOf_9 : Dj cX10_beginOf 9 (.if_icmp .lt 7) 3 12 7 16 := ⟨by decide +kernel, rfl, by decide⟩
theorem dX10_beginOf_12 : Dc cX10_beginOf 12 (.iconst (-1)) 1 13 := ⟨by decide +kernel, rfl⟩
theorem djX10_beginOf_13 : Dj cX10_beginOf 13 (.goto 19) 3 16 19 32 := ⟨by decide +kernel, rfl, by decide⟩
theorem dX10_beginOf_16 : Dc cX10_beginOf 16 (.aload_n 0) 1 17 := ⟨by decide +kernel, rfl⟩
theorem dX10_beginOf_17 : Dc cX10_beginOf 17 (.getfield 15) 3 20 := ⟨by decide +kernel, rfl⟩
theorem dX10_beginOf_20 : Dc cX10_beginOf 20 (.aload_n 0) 1 21 := ⟨by decide +kernel, rfl⟩
theorem dX10_beginOf_21 : Dc cX10_beginOf 21 (.getfield 30) 3 24 := ⟨by decide +kernel, rfl⟩
theorem dX10_beginOf_24 : Dc cX10_beginOf 24 (.iload_n 1) 1 25 := ⟨by decide +kernel, rfl⟩
theorem dX10_beginOf_25 : Dc cX10_beginOf 25 (.iaload) 1 26 := ⟨by decide +kernel, rfl⟩
theorem dX10_beginOf_26 : Dc cX10_beginOf 26 (.bipush 16) 2 28 := ⟨by decide +kernel, rfl⟩
theorem dX10_beginOf_28 : Dc cX10_beginOf 28 (.idiv) 1 29 := ⟨by decide +kernel, rfl⟩
theorem dX10_beginOf_29 : Dc cX10_beginOf 29 (.invokevirtual 79) 3 32 := ⟨by decide +kernel, rfl⟩
theorem dX10_beginOf_32 : Dc cX10_beginOf 32 (.ireturn) 1 33 := ⟨by decide +kernel, rfl⟩
section
variable {p : Program} {l : Launch} {e : Env} {s : State} {m : MethodId} {args : Array Value} {below : List Frame} {meth : Method} {c : Code} {A0 : Nat → Prop} {D : va_G} {cA : Nat → ClassId} {ad : Nat → Nat} {Z : (Nat → Nat) × (Nat → Nat)} {Q : Int → St → Prop} {b : Bool}
set_option maxHeartbeats 4000000 in
set_option maxRecDepth 100000 in
theorem t_X10_beginOf_b12 (E : Ev p s m args meth c cX10_beginOf 2 RX10 A0 D cA ad (NC b) Z) (hr : meth.sig.returnType = (some .int)) (σ : St) (hσ : CanS (shC b) (NC b) σ) (h : wp_X10_beginOf_b12 Q  σ) : G p l e (rmL 2 0 0) s m args below meth c 2 A0 D cA ad (shC b) (NC b) 0 0 (MQ below (QIc D cA ad (shC b) (NC b) Q A0) args s 0 0 A0) σ 12 [none, none] [] := by
  unfold wp_X10_beginOf_b12 at h
  refine g_iconst E dX10_beginOf_12 ?_
  refine g_goto E djX10_beginOf_13 ?_
  exact g_iret E hr cl_m1 h hσ dX10_beginOf_32
set_option maxHeartbeats 4000000 in
set_option maxRecDepth 100000 in
theorem t_X10_beginOf (E : Ev p s m args meth c cX10_beginOf 2 RX10 A0 D cA ad (NC b) Z) (hr : meth.sig.returnType = (some .int)) (x1 : Int) (σ : St) (c1 : C32 x1) (hσ : CanS (shC b) (NC b) σ) (h : wp_X10_beginOf x1 σ Q) : G p l e (rmL 2 0 0) s m args below meth c 2 A0 D cA ad (shC b) (NC b) 0 0 (MQ below (QIc D cA ad (shC b) (NC b) Q A0) args s 0 0 A0) σ 0 [some (.ref (ad 68)), some (vI x1)] [] := by
  unfold wp_X10_beginOf at h
  refine g_iload_1 E dX10_beginOf_0 ?_
  refine g_if_lt E c1 djX10_beginOf_1 (fun hc => ?_) (fun hc => ?_)
  · replace h := h.1 hc
    exact (t_X10_beginOf_b12 E hr σ hσ h).weak (w_d (w_d w_n))
  · replace h := h.2 hc
    refine g_iload_1 E dX10_beginOf_4 ?_
    refine g_aload_0 E dX10_beginOf_5 ?_
    refine g_getI E fl_RX10_33 (kC_68 b) (sC_68 b) rfl dX10_beginOf_6 ?_
    refine g_icmp_lt E c1 (fC_68_7 hσ) djX10_beginOf_9 (fun hc => ?_) (fun hc => ?_)
    · replace h := h.1 hc
      refine g_aload_0 E dX10_beginOf_16 ?_
      refine g_getR E fl_RX10_15 (kC_68 b) (sC_68 b) rfl dX10_beginOf_17 ?_
      refine g_aload_0 E dX10_beginOf_20 ?_
      refine g_getR E fl_RX10_30 (kC_68 b) (sC_68 b) rfl dX10_beginOf_21 ?_
      refine g_iload_1 E dX10_beginOf_24 ?_
      refine g_iald E (kC_71 b) (sC_71 b) (by decide) h.1 dX10_beginOf_25 ?_
      replace h := h.2
      refine g_bipush E (by decide) dX10_beginOf_26 ?_
      refine g_idiv E cl_16 (by decide) dX10_beginOf_28 ?_
      refine g_callvI E my_X0_beginOf mi_X0_beginOf msel_X0_beginOf ml_RX10_79 (rm_ok (by decide) (by decide)) ⟨Nat.zero_le _, Nat.zero_le _⟩ (kC_24 b) (sC_24 b) rfl (m_X0_beginOf E.2.2.1 (c32_t _) hσ h) rfl rfl (Nat.le_of_ble_eq_true rfl) dX10_beginOf_29 (fun r1 σ2 cr1 hσ2 h => ?_)
      exact g_iret E hr cr1 h hσ2 dX10_beginOf_32
    · replace h := h.2 hc
      exact (t_X10_beginOf_b12 E hr σ hσ h).weak (w_d (w_d w_n))
end
theorem m_X10_beginOf {Z : (Nat → Nat) × (Nat → Nat)} {l : Launch} {D : va_G} {cA : Nat → ClassId} {ad : Nat → Nat} {b : Bool} {x1 : Int} {σ : St} {Q : Int → St → Prop} (hA : AdOk (NC b) ad) (c1 : C32 x1) (hσ : CanS (shC b) (NC b) σ) (h : wp_X10_beginOf x1 σ Q) : KtI Z l D cA ad (shC b) (NC b) yX10_beginOf cX10_beginOf 2 (some .int) 2 [.ref (ad 68), vI x1] σ Q :=
  KtI.of my_X10_beginOf hA [some (.ref (ad 68)), some (vI x1)] (Nat.le_of_ble_eq_true rfl) rfl (fun p e s m args below meth c A0 E hr => t_X10_beginOf E hr x1 σ c1 hσ h)
theorem dX10_middleOf_0 : Dc cX10_middleOf 0 (.iload_n 1) 1 1 := ⟨by decide +kernel, rfl⟩
theorem djX10_middleOf_1 : Dj cX10_middleOf 1 (.ifCond .lt 11) 3 4 11 12 := ⟨by decide +kernel, rfl, by decide⟩
theorem dX10_middleOf_4 : Dc cX10_middleOf 4 (.iload_n 1) 1 5 := ⟨by decide +kernel, rfl⟩
theorem dX10_middleOf_5 : Dc cX10_middleOf 5 (.aload_n 0) 1 6 := ⟨by decide +kernel, rfl⟩
theorem dX10_middleOf_6 : Dc cX10_middleOf 6 (.getfield 33) 3 9 := ⟨by decide +kernel, rfl⟩
theorem djX10_middleOf_9 : Dj cX10_middleOf 9 (.if_icmp .lt 7) 3 12 7 16 := ⟨by decide +kernel, rfl, by decide⟩
theorem dX10_middleOf_12 : Dc cX10_middleOf 12 (.iconst (-1)) 1 13 := ⟨by decide +kernel, rfl⟩
theorem djX10_middleOf_13 : Dj cX10_middleOf 13 (.goto 16) 3 16 16 29 := ⟨by decide +kernel, rfl, by decide⟩
theorem dX10_middleOf_16 : Dc cX10_middleOf 16 (.aload_n 0) 1 17 := ⟨by decide +kernel, rfl⟩
theorem dX10_middleOf_17 : Dc cX10_middleOf 17 (.getfield 15) 3 20 := ⟨by decide +kernel, rfl⟩
theorem dX10_middleOf_20 : Dc cX10_middleOf 20 (.getfield 76) 3 23 := ⟨by decide +kernel, rfl⟩
theorem dX10_middleOf_23 : Dc cX10_middleOf 23 (.aload_n 0) 1 24 := ⟨by decide +kernel, rfl⟩
theorem dX10_middleOf_24 : Dc cX10_middleOf 24 (.iload_n 1) 1 25 := ⟨by decide +kernel, rfl⟩
theorem dX10_middleOf_25 : Dc cX10_middleOf 25 (.invokevirtual 73) 3 28 := ⟨by decide +kernel, rfl⟩
theorem dX10_middleOf_28 : Dc cX10_middleOf 28 (.iaload) 1 29 := ⟨by decide +kernel, rfl⟩
theorem dX10_middleOf_29 : Dc cX10_middleOf 29 (.ireturn) 1 30 := ⟨by decide +kernel, rfl⟩
section
variable {p : Program} {l : Launch} {e : Env} {s : State} {m : MethodId} {args : Array Value} {below : List Frame} {meth : Method} {c : Code} {A0 : Nat → Prop} {D : va_G} {cA : Nat → ClassId} {ad : Nat → Nat} {Z : (Nat → Nat) × (Nat → Nat)} {Q : Int → St → Prop} {b : Bool}
set_option maxHeartbeats 4000000 in
set_option maxRecDepth 100000 in
theorem t_X10_middleOf_b12 (E : Ev p s m args meth c cX10_middleOf 2 RX10 A0 D cA ad (NC b) Z) (hr : meth.sig.returnType = (some .int)) (σ : St) (hσ : CanS (shC b) (NC b) σ) (h : wp_X10_middleOf_b12 Q  σ) : G p l e (rmL 2 0 0) s m args below meth c 2 A0 D cA ad (shC b) (NC b) 0 0 (MQ below (QIc D cA ad (shC b) (NC b) Q A0) args s 0 0 A0) σ 12 [none, none] [] := by
  unfold wp_X10_middleOf_b12 at h
  refine g_iconst E dX10_middleOf_12 ?_
  refine g_goto E djX10_middleOf_13 ?_
  exact g_iret E hr cl_m1 h hσ dX10_middleOf_29
set_option maxHeartbeats 4000000 in
set_option maxRecDepth 100000 in
theorem t_X10_middleOf (E : Ev p s m args meth c cX10_middleOf 2 RX10 A0 D cA ad (NC b) Z) (hr : meth.sig.returnType = (some .int)) (x1 : Int) (σ : St) (c1 : C32 x1) (hσ : CanS (shC b) (NC b) σ) (h : wp_X10_middleOf x1 σ Q) : G p l e (rmL 2 0 0) s m args below meth c 2 A0 D cA ad (shC b) (NC b) 0 0 (MQ below (QIc D cA ad (shC b) (NC b) Q A0) args s 0 0 A0) σ 0 [some (.ref (ad 68)), some (vI x1)] [] := by
  unfold wp_X10_middleOf at h
  refine g_iload_1 E dX10_middleOf_0 ?_
  refine g_if_lt E c1 djX10_middleOf_1 (fun hc => ?_) (fun hc => ?_)
  · replace h := h.1 hc
    exact (t_X10_middleOf_b12 E hr σ hσ h).weak (w_d (w_d w_n))
  · replace h := h.2 hc
    refine g_iload_1 E dX10_middleOf_4 ?_
    refine g_aload_0 E dX10_middleOf_5 ?_
    refine g_getI E fl_RX10_33 (kC_68 b) (sC_68 b) rfl dX10_middleOf_6 ?_
    refine g_icmp_lt E c1 (fC_68_7 hσ) djX10_middleOf_9 (fun hc => ?_) (fun hc => ?_)
    · replace h := h.1 hc
      refine g_aload_0 E dX10_middleOf_16 ?_
      refine g_getR E fl_RX10_15 (kC_68 b) (sC_68 b) rfl dX10_middleOf_17 ?_
      refine g_getR E fl_RX10_76 (kC_24 b) (sC_24 b) rfl dX10_middleOf_20 ?_
      refine g_aload_0 E dX10_middleOf_23 ?_
      refine g_iload_1 E dX10_middleOf_24 ?_
      refine g_callvI E my_X10_caseAt mi_X10_caseAt msel_X10_caseAt ml_RX10_73 (rm_ok (by decide) (by decide)) ⟨Nat.zero_le _, Nat.zero_le _⟩ (kC_68 b) (sC_68 b) rfl (m_X10_caseAt E.2.2.1 c1 hσ h) rfl rfl (Nat.le_of_ble_eq_true rfl) dX10_middleOf_25 (fun r1 σ2 cr1 hσ2 h => ?_)
      refine g_iald E (kC_30 b) (sC_30 b) (by decide) h.1 dX10_middleOf_28 ?_
      replace h := h.2
      exact g_iret E hr (aC_30 hσ2 _) h hσ2 dX10_middleOf_29
    · replace h := h.2 hc
      exact (t_X10_middleOf_b12 E hr σ hσ h).weak (w_d (w_d w_n))
end
theorem m_X10_middleOf {Z : (Nat → Nat) × (Nat → Nat)} {l : Launch} {D : va_G} {cA : Nat → ClassId} {ad : Nat → Nat} {b : Bool} {x1 : Int} {σ : St} {Q : Int → St → Prop} (hA : AdOk (NC b) ad) (c1 : C32 x1) (hσ : CanS (shC b) (NC b) σ) (h : wp_X10_middleOf x1 σ Q) : KtI Z l D cA ad (shC b) (NC b) yX10_middleOf cX10_middleOf 2 (some .int) 2 [.ref (ad 68), vI x1] σ Q :=
  KtI.of my_X10_middleOf hA [some (.ref (ad 68)), some (vI x1)] (Nat.le_of_ble_eq_true rfl) rfl (fun p e s m args below meth c A0 E hr => t_X10_middleOf E hr x1 σ c1 hσ h)
theorem dX10_finishOf_0 : Dc cX10_finishOf 0 (.iload_n 1) 1 1 := ⟨by decide +kernel, rfl⟩
theorem djX10_finishOf_1 : Dj cX10_finishOf 1 (.ifCond .lt 11) 3 4 11 12 := ⟨by decide +kernel, rfl, by decide⟩
theorem dX10_finishOf_4 : Dc cX10_finishOf 4 (.iload_n 1) 1 5 := ⟨by decide +kernel, rfl⟩
theorem dX10_finishOf_5 : Dc cX10_finishOf 5 (.aload_n 0) 1 6 := ⟨by decide +kernel, rfl⟩
theorem dX10_finishOf_6 : Dc cX10_finishOf 6 (.getfield 33) 3 9 := ⟨by decide +kernel, rfl⟩
theorem djX10_finishOf_9 : Dj cX10_finishOf 9 (.if_icmp .lt 7) 3 12 7 16 := ⟨by decide +kernel, rfl, by decide⟩
theorem dX10_finishOf_12 : Dc cX10_finishOf 12 (.iconst (-1)) 1 13 := ⟨by decide +kernel, rfl⟩
theorem djX10_finishOf_13 : Dj cX10_finishOf 13 (.goto 19) 3 16 19 32 := ⟨by decide +kernel, rfl, by decide⟩
theorem dX10_finishOf_16 : Dc cX10_finishOf 16 (.aload_n 0) 1 17 := ⟨by decide +kernel, rfl⟩
theorem dX10_finishOf_17 : Dc cX10_finishOf 17 (.getfield 15) 3 20 := ⟨by decide +kernel, rfl⟩
theorem dX10_finishOf_20 : Dc cX10_finishOf 20 (.aload_n 0) 1 21 := ⟨by decide +kernel, rfl⟩
theorem dX10_finishOf_21 : Dc cX10_finishOf 21 (.getfield 30) 3 24 := ⟨by decide +kernel, rfl⟩
theorem dX10_finishOf_24 : Dc cX10_finishOf 24 (.iload_n 1) 1 25 := ⟨by decide +kernel, rfl⟩
theorem dX10_finishOf_25 : Dc cX10_finishOf 25 (.iaload) 1 26 := ⟨by decide +kernel, rfl⟩
theorem dX10_finishOf_26 : Dc cX10_finishOf 26 (.bipush 16) 2 28 := ⟨by decide +kernel, rfl⟩
theorem dX10_finishOf_28 : Dc cX10_finishOf 28 (.idiv) 1 29 := ⟨by decide +kernel, rfl⟩
theorem dX10_finishOf_29 : Dc cX10_finishOf 29 (.invokevirtual 82) 3 32 := ⟨by decide +kernel, rfl⟩
theorem dX10_finishOf_32 : Dc cX10_finishOf 32 (.ireturn) 1 33 := ⟨by decide +kernel, rfl⟩
section
variable {p : Program} {l : Launch} {e : Env} {s : State} {m : MethodId} {args : Array Value} {below : List Frame} {meth : Method} {c : Code} {A0 : Nat → Prop} {D : va_G} {cA : Nat → ClassId} {ad : Nat → Nat} {Z : (Nat → Nat) × (Nat → Nat)} {Q : Int → St → Prop} {b : Bool}
set_option maxHeartbeats 4000000 in
set_option maxRecDepth 100000 in
theorem t_X10_finishOf_b12 (E : Ev p s m args meth c cX10_finishOf 2 RX10 A0 D cA ad (NC b) Z) (hr : meth.sig.returnType = (some .int)) (σ : St) (hσ : CanS (shC b) (NC b) σ) (h : wp_X10_finishOf_b12 Q  σ) : G p l e (rmL 2 0 0) s m args below meth c 2 A0 D cA ad (shC b) (NC b) 0 0 (MQ below (QIc D cA ad (shC b) (NC b) Q A0) args s 0 0 A0) σ 12 [none, none] [] := by
  unfold wp_X10_finishOf_b12 at h
  refine g_iconst E dX10_finishOf_12 ?_
  refine g_goto E djX10_finishOf_13 ?_
  exact g_iret E hr cl_m1 h hσ dX10_finishOf_32
set_option maxHeartbeats 4000000 in
set_option maxRecDepth 100000 in
theorem t_X10_finishOf (E : Ev p s m args meth c cX10_finishOf 2 RX10 A0 D cA ad (NC b) Z) (hr : meth.sig.returnType = (some .int)) (x1 : Int) (σ : St) (c1 : C32 x1) (hσ : CanS (shC b) (NC b) σ) (h : wp_X10_finishOf x1 σ Q) : G p l e (rmL 2 0 0) s m args below meth c 2 A0 D cA ad (shC b) (NC b) 0 0 (MQ below (QIc D cA ad (shC b) (NC b) Q A0) args s 0 0 A0) σ 0 [some (.ref (ad 68)), some (vI x1)] [] := by
  unfold wp_X10_finishOf at h
  refine g_iload_1 E dX10_finishOf_0 ?_
  refine g_if_lt E c1 djX10_finishOf_1 (fun hc => ?_) (fun hc => ?_)
  · replace h := h.1 hc
    exact (t_X10_finishOf_b12 E hr σ hσ h).weak (w_d (w_d w_n))
  · replace h := h.2 hc
    refine g_iload_1 E dX10_finishOf_4 ?_
    refine g_aload_0 E dX10_finishOf_5 ?_
    refine g_getI E fl_RX10_33 (kC_68 b) (sC_68 b) rfl dX10_finishOf_6 ?_
    refine g_icmp_lt E c1 (fC_68_7 hσ) djX10_finishOf_9 (fun hc => ?_) (fun hc => ?_)
    · replace h := h.1 hc
      refine g_aload_0 E dX10_finishOf_16 ?_
      refine g_getR E fl_RX10_15 (kC_68 b) (sC_68 b) rfl dX10_finishOf_17 ?_
      refine g_aload_0 E dX10_finishOf_20 ?_
      refine g_getR E fl_RX10_30 (kC_68 b) (sC_68 b) rfl dX10_finishOf_21 ?_
      refine g_iload_1 E dX10_finishOf_24 ?_
      refine g_iald E (kC_71 b) (sC_71 b) (by decide) h.1 dX10_finishOf_25 ?_
      replace h := h.2
      refine g_bipush E (by decide) dX10_finishOf_26 ?_
      refine g_idiv E cl_16 (by decide) dX10_finishOf_28 ?_
      refine g_callvI E my_X0_finishOf mi_X0_finishOf msel_X0_finishOf ml_RX10_82 (rm_ok (by decide) (by decide)) ⟨Nat.zero_le _, Nat.zero_le _⟩ (kC_24 b) (sC_24 b) rfl (m_X0_finishOf E.2.2.1 (c32_t _) hσ h) rfl rfl (Nat.le_of_ble_eq_true rfl) dX10_finishOf_29 (fun r1 σ2 cr1 hσ2 h => ?_)
      exact g_iret E hr cr1 h hσ2 dX10_finishOf_32
    · replace h := h.2 hc
      exact (t_X10_finishOf_b12 E hr σ hσ h).weak (w_d (w_d w_n))
end
theorem m_X10_finishOf {Z : (Nat → Nat) × (Nat → Nat)} {l : Launch} {D : va_G} {cA : Nat → ClassId} {ad : Nat → Nat} {b : Bool} {x1 : Int} {σ : St} {Q : Int → St → Prop} (hA : AdOk (NC b) ad) (c1 : C32 x1) (hσ : CanS (shC b) (NC b) σ) (h : wp_X10_finishOf x1 σ Q) : KtI Z l D cA ad (shC b) (NC b) yX10_finishOf cX10_finishOf 2 (some .int) 2 [.ref (ad 68), vI x1] σ Q :=
  KtI.of my_X10_finishOf hA [some (.ref (ad 68)), some (vI x1)] (Nat.le_of_ble_eq_true rfl) rfl (fun p e s m args below meth c A0 E hr => t_X10_finishOf E hr x1 σ c1 hσ h)
theorem dX11_bounds_0 : Dc cX11_bounds 0 (.iload_n 1) 1 1 := ⟨by decide +kernel, rfl⟩
theorem dX11_bounds_1 : Dc cX11_bounds 1 (.invokestatic 286) 3 4 := ⟨by decide +kernel, rfl⟩
theorem djX11_bounds_4 : Dj cX11_bounds 4 (.ifCond .eq 16) 3 7 16 20 := ⟨by decide +kernel, rfl, by decide⟩
theorem dX11_bounds_7 : Dc cX11_bounds 7 (.iload_n 2) 1 8 := ⟨by decide +kernel, rfl⟩
theorem djX11_bounds_8 : Dj cX11_bounds 8 (.ifCond .lt 12) 3 11 12 20 := ⟨by decide +kernel, rfl, by decide⟩
theorem dX11_bounds_11 : Dc cX11_bounds 11 (.iload_n 3) 1 12 := ⟨by decide +kernel, rfl⟩
theorem djX11_bounds_12 : Dj cX11_bounds 12 (.ifCond .lt 8) 3 15 8 20 := ⟨by decide +kernel, rfl, by decide⟩
theorem dX11_bounds_15 : Dc cX11_bounds 15 (.iload_n 3) 1 16 := ⟨by decide +kernel, rfl⟩
theorem dX11_bounds_16 : Dc cX11_bounds 16 (.iconst 2) 1 17 := ⟨by decide +kernel, rfl⟩
theorem djX11_bounds_17 : Dj cX11_bounds 17 (.if_icmp .le 6) 3 20 6 23 := ⟨by decide +kernel, rfl, by decide⟩
theorem dX11_bounds_20 : Dc cX11_bounds 20 (.bipush (-2)) 2 22 := ⟨by decide +kernel, rfl⟩
theorem dX11_bounds_22 : Dc cX11_bounds 22 (.ireturn) 1 23 := ⟨by decide +kernel, rfl⟩
theorem dX11_bounds_23 : Dc cX11_bounds 23 (.aload_n 0) 1 24 := ⟨by decide +kernel, rfl⟩
theorem dX11_bounds_24 : Dc cX11_bounds 24 (.invokevirtual 307) 3 27 := ⟨by decide +kernel, rfl⟩
theorem dX11_bounds_27 : Dc cX11_bounds 27 (.istore 4) 2 29 := ⟨by decide +kernel, rfl⟩
theorem dX11_bounds_29 : Dc cX11_bounds 29 (.iload 4) 2 31 := ⟨by decide +kernel, rfl⟩
theorem djX11_bounds_31 : Dj cX11_bounds 31 (.ifCond .ge 7) 3 34 7 38 := ⟨by decide +kernel, rfl, by decide⟩
theorem dX11_bounds_34 : Dc cX11_bounds 34 (.iconst (-1)) 1 35 := ⟨by decide +kernel, rfl⟩
theorem djX11_bounds_35 : Dj cX11_bounds 35 (.goto 13) 3 38 13 48 := ⟨by decide +kernel, rfl, by decide⟩
theorem dX11_bounds_38 : Dc cX11_bounds 38 (.aload_n 0) 1 39 := ⟨by decide +kernel, rfl⟩
theorem dX11_bounds_39 : Dc cX11_bounds 39 (.getfield 76) 3 42 := ⟨by decide +kernel, rfl⟩
theorem dX11_bounds_42 : Dc cX11_bounds 42 (.iload 4) 2 44 := ⟨by decide +kernel, rfl⟩
theorem dX11_bounds_44 : Dc cX11_bounds 44 (.iload_n 1) 1 45 := ⟨by decide +kernel, rfl⟩
theorem dX11_bounds_45 : Dc cX11_bounds 45 (.invokevirtual 289) 3 48 := ⟨by decide +kernel, rfl⟩
theorem dX11_bounds_48 : Dc cX11_bounds 48 (.istore 5) 2 50 := ⟨by decide +kernel, rfl⟩
theorem dX11_bounds_50 : Dc cX11_bounds 50 (.iload 5) 2 52 := ⟨by decide +kernel, rfl⟩
theorem djX11_bounds_52 : Dj cX11_bounds 52 (.ifCond .ge 5) 3 55 5 57 := ⟨by decide +kernel, rfl, by decide⟩
theorem dX11_bounds_55 : Dc cX11_bounds 55 (.iconst (-1)) 1 56 := ⟨by decide +kernel, rfl⟩
theorem dX11_bounds_56 : Dc cX11_bounds 56 (.ireturn) 1 57 := ⟨by decide +kernel, rfl⟩
theorem dX11_bounds_57 : Dc cX11_bounds 57 (.aload_n 0) 1 58 := ⟨by decide +kernel, rfl⟩
theorem dX11_bounds_58 : Dc cX11_bounds 58 (.getfield 85) 3 61 := ⟨by decide +kernel, rfl⟩
theorem dX11_bounds_61 : Dc cX11_bounds 61 (.iload 5) 2 63 := ⟨by decide +kernel, rfl⟩
theorem dX11_bounds_63 : Dc cX11_bounds 63 (.invokevirtual 295) 3 66 := ⟨by decide +kernel, rfl⟩
theorem dX11_bounds_66 : Dc cX11_bounds 66 (.iload_n 2) 1 67 := ⟨by decide +kernel, rfl⟩
theorem dX11_bounds_67 : Dc cX11_bounds 67 (.aload_n 0) 1 68 := ⟨by decide +kernel, rfl⟩
theorem dX11_bounds_68 : Dc cX11_bounds 68 (.getfield 85) 3 71 := ⟨by decide +kernel, rfl⟩
theorem dX11_bounds_71 : Dc cX11_bounds 71 (.getfield 298) 3 74 := ⟨by decide +kernel, rfl⟩
theorem djX11_bounds_74 : Dj cX11_bounds 74 (.if_icmp .lt 5) 3 77 5 79 := ⟨by decide +kernel, rfl, by decide⟩
theorem dX11_bounds_77 : Dc cX11_bounds 77 (.iconst (-1)) 1 78 := ⟨by decide +kernel, rfl⟩
theorem dX11_bounds_78 : Dc cX11_bounds 78 (.ireturn) 1 79 := ⟨by decide +kernel, rfl⟩
theorem dX11_bounds_79 : Dc cX11_bounds 79 (.iload_n 3) 1 80 := ⟨by decide +kernel, rfl⟩
theorem dX11_bounds_80 : Dc cX11_bounds 80 (.lookupswitch 46 #[(0, 28), (1, 37)]) 28 108 := ⟨by decide +kernel, rfl⟩
theorem dX11_bounds_108 : Dc cX11_bounds 108 (.aload_n 0) 1 109 := ⟨by decide +kernel, rfl⟩
theorem dX11_bounds_109 : Dc cX11_bounds 109 (.getfield 85) 3 112 := ⟨by decide +kernel, rfl⟩
theorem dX11_bounds_112 : Dc cX11_bounds 112 (.iload_n 2) 1 113 := ⟨by decide +kernel, rfl⟩
theorem dX11_bounds_113 : Dc cX11_bounds 113 (.invokevirtual 310) 3 116 := ⟨by decide +kernel, rfl⟩
theorem dX11_bounds_116 : Dc cX11_bounds 116 (.ireturn) 1 117 := ⟨by decide +kernel, rfl⟩
theorem dX11_bounds_117 : Dc cX11_bounds 117 (.aload_n 0) 1 118 := ⟨by decide +kernel, rfl⟩
theorem dX11_bounds_118 : Dc cX11_bounds 118 (.getfield 85) 3 121 := ⟨by decide +kernel, rfl⟩
theorem dX11_bounds_121 : Dc cX11_bounds 121 (.iload_n 2) 1 122 := ⟨by decide +kernel, rfl⟩
theorem dX11_bounds_122 : Dc cX11_bounds 122 (.invokevirtual 311) 3 125 := ⟨by decide +kernel, rfl⟩
theorem dX11_bounds_125 : Dc cX11_bounds 125 (.ireturn) 1 126 := ⟨by decide +kernel, rfl⟩
theorem dX11_bounds_126 : Dc cX11_bounds 126 (.aload_n 0) 1 127 := ⟨by decide +kernel, rfl⟩
theorem dX11_bounds_127 : Dc cX11_bounds 127 (.getfield 85) 3 130 := ⟨by decide +kernel, rfl⟩
theorem dX11_bounds_130 : Dc cX11_bounds 130 (.iload_n 2) 1 131 := ⟨by decide +kernel, rfl⟩
theorem dX11_bounds_131 : Dc cX11_bounds 131 (.invokevirtual 314) 3 134 := ⟨by decide +kernel, rfl⟩
theorem dX11_bounds_134 : Dc cX11_bounds 134 (.ireturn) 1 135 := ⟨by decide +kernel, rfl⟩
section
variable {p : Program} {l : Launch} {e : Env} {s : State} {m : MethodId} {args : Array Value} {below : List Frame} {meth : Method} {c : Code} {A0 : Nat → Prop} {D : va_G} {cA : Nat → ClassId} {ad : Nat → Nat} {Z : (Nat → Nat) × (Nat → Nat)} {Q : Int → St → Prop} {b : Bool}
set_option maxHeartbeats 4000000 in
set_option maxRecDepth 100000 in
theorem t_X11_bounds_b48 (E : Ev p s m args meth c cX11_bounds 6 RX11 A0 D cA ad (NC b) Z) (hr : meth.sig.returnType = (some .int)) (x2 : Int) (x3 : Int) (s0 : Int) (σ : St) (c2 : C32 x2) (c3 : C32 x3) (cs0 : C32 s0) (hσ : CanS (shC b) (NC b) σ) (h : wp_X11_bounds_b48 Q x2 x3 s0 σ) : G p l e (rmL 7 0 0) s m args below meth c 6 A0 D cA ad (shC b) (NC b) 0 0 (MQ below (QIc D cA ad (shC b) (NC b) Q A0) args s 0 0 A0) σ 48 [some (.ref (ad 0)), none, some (vI x2), some (vI x3), none, none] [vI s0] := by
  unfold wp_X11_bounds_b48 at h
  refine g_istore_5 E rfl (by decide) dX11_bounds_48 ?_
  refine g_iload_5 E dX11_bounds_50 ?_
  refine g_if_ge E cs0 djX11_bounds_52 (fun hc => ?_) (fun hc => ?_)
  · replace h := h.1 hc
    refine g_aload_0 E dX11_bounds_57 ?_
    refine g_getR E fl_RX11_85 (kC_0 b) (sC_0 b) rfl dX11_bounds_58 ?_
    refine g_iload_5 E dX11_bounds_61 ?_
    refine g_callvV E my_X10_follow mi_X10_follow msel_X10_follow ml_RX11_295 (rm_ok (by decide) (by decide)) ⟨Nat.zero_le _, Nat.zero_le _⟩ (kC_68 b) (sC_68 b) rfl (m_X10_follow E.2.2.1 cs0 hσ h) rfl rfl (Nat.le_of_ble_eq_true rfl) dX11_bounds_63 (fun σ8 r7 hσ8 h => ?_)
    refine g_iload_2 E dX11_bounds_66 ?_
    refine g_aload_0 E dX11_bounds_67 ?_
    refine g_getR E fl_RX11_85 (kC_0 b) (sC_0 b) rfl dX11_bounds_68 ?_
    refine g_getI E fl_RX11_298 (kC_68 b) (sC_68 b) rfl dX11_bounds_71 ?_
    refine g_icmp_lt E c2 (fC_68_7 hσ8) djX11_bounds_74 (fun hc => ?_) (fun hc => ?_)
    · replace h := h.1 hc
      refine g_iload_3 E dX11_bounds_79 ?_
      by_cases hs0 : x3 = 0
      · refine g_lookup (v := 0) E c3 hs0 dX11_bounds_80 rfl rfl (tgt := 108) (by decide) ?_
        replace h := h.1 hs0
        refine g_aload_0 E dX11_bounds_108 ?_
        refine g_getR E fl_RX11_85 (kC_0 b) (sC_0 b) rfl dX11_bounds_109 ?_
        refine g_iload_2 E dX11_bounds_112 ?_
        refine g_callvI E my_X10_beginOf mi_X10_beginOf msel_X10_beginOf ml_RX11_310 (rm_ok (by decide) (by decide)) ⟨Nat.zero_le _, Nat.zero_le _⟩ (kC_68 b) (sC_68 b) rfl (m_X10_beginOf E.2.2.1 c2 hσ8 h) rfl rfl (Nat.le_of_ble_eq_true rfl) dX11_bounds_113 (fun r9 σ10 cr9 hσ10 h => ?_)
        exact g_iret E hr cr9 h hσ10 dX11_bounds_116
      by_cases hs1 : x3 = 1
      · refine g_lookup (v := 1) E c3 hs1 dX11_bounds_80 rfl rfl (tgt := 117) (by decide) ?_
        replace h := h.2.1 hs1
        refine g_aload_0 E dX11_bounds_117 ?_
        refine g_getR E fl_RX11_85 (kC_0 b) (sC_0 b) rfl dX11_bounds_118 ?_
        refine g_iload_2 E dX11_bounds_121 ?_
        refine g_callvI E my_X10_middleOf mi_X10_middleOf msel_X10_middleOf ml_RX11_311 (rm_ok (by decide) (by decide)) ⟨Nat.zero_le _, Nat.zero_le _⟩ (kC_68 b) (sC_68 b) rfl (m_X10_middleOf E.2.2.1 c2 hσ8 h) rfl rfl (Nat.le_of_ble_eq_true rfl) dX11_bounds_122 (fun r11 σ12 cr11 hσ12 h => ?_)
        exact g_iret E hr cr11 h hσ12 dX11_bounds_125
      replace h := h.2.2 ⟨hs0, hs1⟩
      refine g_lookupD E c3 dX11_bounds_80 rfl (by intro q hq; simp only [List.mem_cons, List.not_mem_nil, or_false] at hq; rcases hq with rfl | rfl <;> omega) (tgt := 126) (by decide) ?_
      refine g_aload_0 E dX11_bounds_126 ?_
      refine g_getR E fl_RX11_85 (kC_0 b) (sC_0 b) rfl dX11_bounds_127 ?_
      refine g_iload_2 E dX11_bounds_130 ?_
      refine g_callvI E my_X10_finishOf mi_X10_finishOf msel_X10_finishOf ml_RX11_314 (rm_ok (by decide) (by decide)) ⟨Nat.zero_le _, Nat.zero_le _⟩ (kC_68 b) (sC_68 b) rfl (m_X10_finishOf E.2.2.1 c2 hσ8 h) rfl rfl (Nat.le_of_ble_eq_true rfl) dX11_bounds_131 (fun r13 σ14 cr13 hσ14 h => ?_)
      exact g_iret E hr cr13 h hσ14 dX11_bounds_134
    · replace h := h.2 hc
      refine g_iconst E dX11_bounds_77 ?_
      exact g_iret E hr cl_m1 h hσ8 dX11_bounds_78
  · replace h := h.2 hc
    refine g_iconst E dX11_bounds_55 ?_
    exact g_iret E hr cl_m1 h hσ dX11_bounds_56
set_option maxHeartbeats 4000000 in
set_option maxRecDepth 100000 in
theorem t_X11_bounds (E : Ev p s m args meth c cX11_bounds 6 RX11 A0 D cA ad (NC b) Z) (hr : meth.sig.returnType = (some .int)) (x1 : Int) (x2 : Int) (x3 : Int) (σ : St) (c1 : C32 x1) (c2 : C32 x2) (c3 : C32 x3) (hσ : CanS (shC b) (NC b) σ) (h : wp_X11_bounds x1 x2 x3 σ Q) : G p l e (rmL 7 0 0) s m args below meth c 6 A0 D cA ad (shC b) (NC b) 0 0 (MQ below (QIc D cA ad (shC b) (NC b) Q A0) args s 0 0 A0) σ 0 [some (.ref (ad 0)), some (vI x1), some (vI x2), some (vI x3), none, none] [] := by
  unfold wp_X11_bounds at h
  refine g_iload_1 E dX11_bounds_0 ?_
  refine g_callsI E my_X11_isPlace ms_X11_isPlace ml_RX11_286 (rm_ok (by decide) (by decide)) ⟨Nat.zero_le _, Nat.zero_le _⟩ (m_X11_isPlace E.2.2.1 c1 hσ h) rfl rfl (Nat.le_of_ble_eq_true rfl) dX11_bounds_1 (fun r1 σ2 cr1 hσ2 h => ?_)
  refine g_if_eq E cr1 djX11_bounds_4 (fun hc => ?_) (fun hc => ?_)
  · replace h := h.1 hc
    refine g_bipush E (by decide) dX11_bounds_20 ?_
    exact g_iret E hr cl_m2 h hσ2 dX11_bounds_22
  · replace h := h.2 hc
    refine g_iload_2 E dX11_bounds_7 ?_
    refine g_if_lt E c2 djX11_bounds_8 (fun hc => ?_) (fun hc => ?_)
    · replace h := h.1 hc
      refine g_bipush E (by decide) dX11_bounds_20 ?_
      exact g_iret E hr cl_m2 h hσ2 dX11_bounds_22
    · replace h := h.2 hc
      refine g_iload_3 E dX11_bounds_11 ?_
      refine g_if_lt E c3 djX11_bounds_12 (fun hc => ?_) (fun hc => ?_)
      · replace h := h.1 hc
        refine g_bipush E (by decide) dX11_bounds_20 ?_
        exact g_iret E hr cl_m2 h hσ2 dX11_bounds_22
      · replace h := h.2 hc
        refine g_iload_3 E dX11_bounds_15 ?_
        refine g_iconst E dX11_bounds_16 ?_
        refine g_icmp_le E c3 cl_2 djX11_bounds_17 (fun hc => ?_) (fun hc => ?_)
        · replace h := h.1 hc
          refine g_aload_0 E dX11_bounds_23 ?_
          refine g_callvI E my_X11_wholeItem mi_X11_wholeItem msel_X11_wholeItem ml_RX11_307 (rm_ok (by decide) (by decide)) ⟨Nat.zero_le _, Nat.zero_le _⟩ (kC_0 b) (sC_0 b) rfl (m_X11_wholeItem E.2.2.1 hσ2 h) rfl rfl (Nat.le_of_ble_eq_true rfl) dX11_bounds_24 (fun r3 σ4 cr3 hσ4 h => ?_)
          refine g_istore_4 E rfl (by decide) dX11_bounds_27 ?_
          refine g_iload_4 E dX11_bounds_29 ?_
          refine g_if_ge E cr3 djX11_bounds_31 (fun hc => ?_) (fun hc => ?_)
          · replace h := h.1 hc
            refine g_aload_0 E dX11_bounds_38 ?_
            refine g_getR E fl_RX11_76 (kC_0 b) (sC_0 b) rfl dX11_bounds_39 ?_
            refine g_iload_4 E dX11_bounds_42 ?_
            refine g_iload_1 E dX11_bounds_44 ?_
            refine g_callvI E my_X3_treeOf mi_X3_treeOf msel_X3_treeOf ml_RX11_289 (rm_ok (by decide) (by decide)) ⟨Nat.zero_le _, Nat.zero_le _⟩ (kC_54 b) (sC_54 b) rfl (m_X3_treeOf E.2.2.1 cr3 c1 hσ4 h) rfl rfl (Nat.le_of_ble_eq_true rfl) dX11_bounds_45 (fun r5 σ6 cr5 hσ6 h => ?_)
            exact (t_X11_bounds_b48 E hr x2 x3 r5 σ6 c2 c3 cr5 hσ6 h).weak (w_k (w_d (w_k (w_k (w_d (w_d w_n))))))
          · replace h := h.2 hc
            refine g_iconst E dX11_bounds_34 ?_
            refine g_goto E djX11_bounds_35 ?_
            exact (t_X11_bounds_b48 E hr x2 x3 ((-1)) σ4 c2 c3 cl_m1 hσ4 h).weak (w_k (w_d (w_k (w_k (w_d (w_d w_n))))))
        · replace h := h.2 hc
          refine g_bipush E (by decide) dX11_bounds_20 ?_
          exact g_iret E hr cl_m2 h hσ2 dX11_bounds_22
end
theorem m_X11_bounds {Z : (Nat → Nat) × (Nat → Nat)} {l : Launch} {D : va_G} {cA : Nat → ClassId} {ad : Nat → Nat} {b : Bool} {x1 x2 x3 : Int} {σ : St} {Q : Int → St → Prop} (hA : AdOk (NC b) ad) (c1 : C32 x1) (c2 : C32 x2) (c3 : C32 x3) (hσ : CanS (shC b) (NC b) σ) (h : wp_X11_bounds x1 x2 x3 σ Q) : KtI Z l D cA ad (shC b) (NC b) yX11_bounds cX11_bounds 6 (some .int) 7 [.ref (ad 0), vI x1, vI x2, vI x3] σ Q :=
  KtI.of my_X11_bounds hA [some (.ref (ad 0)), some (vI x1), some (vI x2), some (vI x3), none, none] (Nat.le_of_ble_eq_true rfl) rfl (fun p e s m args below meth c A0 E hr => t_X11_bounds E hr x1 x2 x3 σ c1 c2 c3 hσ h)
theorem dX10_put_0 : Dc cX10_put 0 (.aload_n 0) 1 1 := ⟨by decide +kernel, rfl⟩
theorem dX10_put_1 : Dc cX10_put 1 (.getfield 88) 3 4 := ⟨by decide +kernel, rfl⟩
theorem dX10_put_4 : Dc cX10_put 4 (.aload_n 1) 1 5 := ⟨by decide +kernel, rfl⟩
theorem dX10_put_5 : Dc cX10_put 5 (.arraylength) 1 6 := ⟨by decide +kernel, rfl⟩
theorem djX10_put_6 : Dj cX10_put 6 (.if_icmp .ge 20) 3 9 20 26 := ⟨by decide +kernel, rfl, by decide⟩
theorem dX10_put_9 : Dc cX10_put 9 (.aload_n 1) 1 10 := ⟨by decide +kernel, rfl⟩
theorem dX10_put_10 : Dc cX10_put 10 (.aload_n 0) 1 11 := ⟨by decide +kernel, rfl⟩
theorem dX10_put_11 : Dc cX10_put 11 (.getfield 88) 3 14 := ⟨by decide +kernel, rfl⟩
theorem dX10_put_14 : Dc cX10_put 14 (.iload_n 2) 1 15 := ⟨by decide +kernel, rfl⟩
theorem dX10_put_15 : Dc cX10_put 15 (.iastore) 1 16 := ⟨by decide +kernel, rfl⟩
theorem dX10_put_16 : Dc cX10_put 16 (.aload_n 0) 1 17 := ⟨by decide +kernel, rfl⟩
theorem dX10_put_17 : Dc cX10_put 17 (.dup) 1 18 := ⟨by decide +kernel, rfl⟩
theorem dX10_put_18 : Dc cX10_put 18 (.getfield 88) 3 21 := ⟨by decide +kernel, rfl⟩
theorem dX10_put_21 : Dc cX10_put 21 (.iconst 1) 1 22 := ⟨by decide +kernel, rfl⟩
theorem dX10_put_22 : Dc cX10_put 22 (.iadd) 1 23 := ⟨by decide +kernel, rfl⟩
theorem dX10_put_23 : Dc cX10_put 23 (.putfield 88) 3 26 := ⟨by decide +kernel, rfl⟩
theorem dX10_put_26 : Dc cX10_put 26 (.return_) 1 27 := ⟨by decide +kernel, rfl⟩
section
variable {p : Program} {l : Launch} {e : Env} {s : State} {m : MethodId} {args : Array Value} {below : List Frame} {meth : Method} {c : Code} {A0 : Nat → Prop} {D : va_G} {cA : Nat → ClassId} {ad : Nat → Nat} {Z : (Nat → Nat) × (Nat → Nat)} {Q : Int → St → Prop} {b : Bool}
set_option maxHeartbeats 4000000 in
set_option maxRecDepth 100000 in
theorem t_X10_put_c2 (E : Ev p s m args meth c cX10_put 3 RX10 A0 D cA ad (NC b) Z) (hr : meth.sig.returnType = none) (x2 : Int) (σ : St) (c2 : C32 x2) (hσ : CanS (shC b) (NC b) σ) (h : wp_X10_put_c2 x2 σ Q) : G p l e (rmL 1 0 0) s m args below meth c 3 A0 D cA ad (shC b) (NC b) 0 0 (MQ below (QVc D cA ad (shC b) (NC b) Q A0) args s 0 0 A0) σ 0 [some (.ref (ad 68)), some (.ref (ad 2)), some (vI x2)] [] := by
  unfold wp_X10_put_c2 at h
  refine g_aload_0 E dX10_put_0 ?_
  refine g_getI E fl_RX10_88 (kC_68 b) (sC_68 b) rfl dX10_put_1 ?_
  refine g_aload_1 E dX10_put_4 ?_
  refine g_alen E (kC_2 b) (sC_2 b) (by decide) (by decide) dX10_put_5 ?_
  refine g_icmp_ge E (fC_68_9 hσ) cl_2048 djX10_put_6 (fun hc => ?_) (fun hc => ?_)
  · replace h := h.1 hc
    exact g_vret E hr h hσ dX10_put_26
  · replace h := h.2 hc
    refine g_aload_1 E dX10_put_9 ?_
    refine g_aload_0 E dX10_put_10 ?_
    refine g_getI E fl_RX10_88 (kC_68 b) (sC_68 b) rfl dX10_put_11 ?_
    refine g_iload_2 E dX10_put_14 ?_
    refine g_iast E (kC_2 b) (sC_2 b) (by decide) h.1 dX10_put_15 (g_nmS (fun σ1 eσ1 => ?_))
    replace h := h.2 σ1 eσ1
    have hσ1 : CanS (shC b) (NC b) σ1 := by rw [eσ1]; exact wC_2 hσ c2
    refine g_aload_0 E dX10_put_16 ?_
    refine g_dup E rfl dX10_put_17 ?_
    refine g_getI E fl_RX10_88 (kC_68 b) (sC_68 b) rfl dX10_put_18 ?_
    refine g_iconst E dX10_put_21 ?_
    refine g_iadd E dX10_put_22 ?_
    refine g_putI E fl_RX10_88 rfl rfl (kC_68 b) (sC_68 b) rfl dX10_put_23 (g_nmS (fun σ2 eσ2 => ?_))
    replace h := h σ2 eσ2
    have hσ2 : CanS (shC b) (NC b) σ2 := by rw [eσ2]; exact uC_68_9 hσ1 (c32_w _)
    exact g_vret E hr h hσ2 dX10_put_26
end
theorem m_X10_put_c2 {Z : (Nat → Nat) × (Nat → Nat)} {l : Launch} {D : va_G} {cA : Nat → ClassId} {ad : Nat → Nat} {b : Bool} {x2 : Int} {σ : St} {Q : Int → St → Prop} (hA : AdOk (NC b) ad) (c2 : C32 x2) (hσ : CanS (shC b) (NC b) σ) (h : wp_X10_put_c2 x2 σ Q) : KtV Z l D cA ad (shC b) (NC b) yX10_put cX10_put 3 none 1 [.ref (ad 68), .ref (ad 2), vI x2] σ Q :=
  KtV.of my_X10_put hA [some (.ref (ad 68)), some (.ref (ad 2)), some (vI x2)] (Nat.le_of_ble_eq_true rfl) rfl (fun p e s m args below meth c A0 E hr => t_X10_put_c2 E hr x2 σ c2 hσ h)
theorem dX10_pushPart_0 : Dc cX10_pushPart 0 (.aload_n 0) 1 1 := ⟨by decide +kernel, rfl⟩
theorem dX10_pushPart_1 : Dc cX10_pushPart 1 (.iload_n 1) 1 2 := ⟨by decide +kernel, rfl⟩
theorem djX10_pushPart_2 : Dj cX10_pushPart 2 (.ifCond .lt 7) 3 5 7 9 := ⟨by decide +kernel, rfl, by decide⟩
theorem dX10_pushPart_5 : Dc cX10_pushPart 5 (.iload_n 1) 1 6 := ⟨by decide +kernel, rfl⟩
theorem djX10_pushPart_6 : Dj cX10_pushPart 6 (.goto 11) 3 9 11 17 := ⟨by decide +kernel, rfl, by decide⟩
theorem dX10_pushPart_9 : Dc cX10_pushPart 9 (.bipush 97) 2 11 := ⟨by decide +kernel, rfl⟩
theorem dX10_pushPart_11 : Dc cX10_pushPart 11 (.iload_n 2) 1 12 := ⟨by decide +kernel, rfl⟩
theorem dX10_pushPart_12 : Dc cX10_pushPart 12 (.iadd) 1 13 := ⟨by decide +kernel, rfl⟩
theorem dX10_pushPart_13 : Dc cX10_pushPart 13 (.bipush 100) 2 15 := ⟨by decide +kernel, rfl⟩
theorem dX10_pushPart_15 : Dc cX10_pushPart 15 (.isub) 1 16 := ⟨by decide +kernel, rfl⟩
theorem dX10_pushPart_16 : Dc cX10_pushPart 16 (.ineg) 1 17 := ⟨by decide +kernel, rfl⟩
theorem dX10_pushPart_17 : Dc cX10_pushPart 17 (.iconst 0) 1 18 := ⟨by decide +kernel, rfl⟩
theorem dX10_pushPart_18 : Dc cX10_pushPart 18 (.invokevirtual 43) 3 21 := ⟨by decide +kernel, rfl⟩
theorem dX10_pushPart_21 : Dc cX10_pushPart 21 (.aload_n 0) 1 22 := ⟨by decide +kernel, rfl⟩
theorem dX10_pushPart_22 : Dc cX10_pushPart 22 (.bipush (-32)) 2 24 := ⟨by decide +kernel, rfl⟩
theorem dX10_pushPart_24 : Dc cX10_pushPart 24 (.iconst 0) 1 25 := ⟨by decide +kernel, rfl⟩
theorem dX10_pushPart_25 : Dc cX10_pushPart 25 (.invokevirtual 43) 3 28 := ⟨by decide +kernel, rfl⟩
theorem dX10_pushPart_28 : Dc cX10_pushPart 28 (.return_) 1 29 := ⟨by decide +kernel, rfl⟩
section
variable {p : Program} {l : Launch} {e : Env} {s : State} {m : MethodId} {args : Array Value} {below : List Frame} {meth : Method} {c : Code} {A0 : Nat → Prop} {D : va_G} {cA : Nat → ClassId} {ad : Nat → Nat} {Z : (Nat → Nat) × (Nat → Nat)} {Q : Int → St → Prop} {b : Bool}
set_option maxHeartbeats 4000000 in
set_option maxRecDepth 100000 in
theorem t_X10_pushPart_b17 (E : Ev p s m args meth c cX10_pushPart 3 RX10 A0 D cA ad (NC b) Z) (hr : meth.sig.returnType = none) (s0 : Int) (σ : St) (cs0 : C32 s0) (hσ : CanS (shC b) (NC b) σ) (h : wp_X10_pushPart_b17 Q s0 σ) : G p l e (rmL 2 0 0) s m args below meth c 3 A0 D cA ad (shC b) (NC b) 0 0 (MQ below (QVc D cA ad (shC b) (NC b) Q A0) args s 0 0 A0) σ 17 [some (.ref (ad 68)), none, none] [vI s0, .ref (ad 68)] := by
  unfold wp_X10_pushPart_b17 at h
  refine g_iconst E dX10_pushPart_17 ?_
  refine g_callvV E my_X10_push mi_X10_push msel_X10_push ml_RX10_43 (rm_ok (by decide) (by decide)) ⟨Nat.zero_le _, Nat.zero_le _⟩ (kC_68 b) (sC_68 b) rfl (m_X10_push E.2.2.1 cs0 cl_0 hσ h) rfl rfl (Nat.le_of_ble_eq_true rfl) dX10_pushPart_18 (fun σ2 r1 hσ2 h => ?_)
  refine g_aload_0 E dX10_pushPart_21 ?_
  refine g_bipush E (by decide) dX10_pushPart_22 ?_
  refine g_iconst E dX10_pushPart_24 ?_
  refine g_callvV E my_X10_push mi_X10_push msel_X10_push ml_RX10_43 (rm_ok (by decide) (by decide)) ⟨Nat.zero_le _, Nat.zero_le _⟩ (kC_68 b) (sC_68 b) rfl (m_X10_push E.2.2.1 cl_m32 cl_0 hσ2 h) rfl rfl (Nat.le_of_ble_eq_true rfl) dX10_pushPart_25 (fun σ4 r3 hσ4 h => ?_)
  exact g_vret E hr h hσ4 dX10_pushPart_28
set_option maxHeartbeats 4000000 in
set_option maxRecDepth 100000 in
theorem t_X10_pushPart (E : Ev p s m args meth c cX10_pushPart 3 RX10 A0 D cA ad (NC b) Z) (hr : meth.sig.returnType = none) (x1 : Int) (x2 : Int) (σ : St) (c1 : C32 x1) (c2 : C32 x2) (hσ : CanS (shC b) (NC b) σ) (h : wp_X10_pushPart x1 x2 σ Q) : G p l e (rmL 2 0 0) s m args below meth c 3 A0 D cA ad (shC b) (NC b) 0 0 (MQ below (QVc D cA ad (shC b) (NC b) Q A0) args s 0 0 A0) σ 0 [some (.ref (ad 68)), some (vI x1), some (vI x2)] [] := by
  unfold wp_X10_pushPart at h
  refine g_aload_0 E dX10_pushPart_0 ?_
  refine g_iload_1 E dX10_pushPart_1 ?_
  refine g_if_lt E c1 djX10_pushPart_2 (fun hc => ?_) (fun hc => ?_)
  · replace h := h.1 hc
    refine g_bipush E (by decide) dX10_pushPart_9 ?_
    refine g_iload_2 E dX10_pushPart_11 ?_
    refine g_iadd E dX10_pushPart_12 ?_
    refine g_bipush E (by decide) dX10_pushPart_13 ?_
    refine g_isub E dX10_pushPart_15 ?_
    refine g_ineg E dX10_pushPart_16 ?_
    exact (t_X10_pushPart_b17 E hr (w32 (-(w32 ((w32 (97 + x2)) - 100)))) σ (c32_w _) hσ h).weak (w_k (w_d (w_d w_n)))
  · replace h := h.2 hc
    refine g_iload_1 E dX10_pushPart_5 ?_
    refine g_goto E djX10_pushPart_6 ?_
    exact (t_X10_pushPart_b17 E hr x1 σ c1 hσ h).weak (w_k (w_d (w_d w_n)))
end
theorem m_X10_pushPart {Z : (Nat → Nat) × (Nat → Nat)} {l : Launch} {D : va_G} {cA : Nat → ClassId} {ad : Nat → Nat} {b : Bool} {x1 x2 : Int} {σ : St} {Q : Int → St → Prop} (hA : AdOk (NC b) ad) (c1 : C32 x1) (c2 : C32 x2) (hσ : CanS (shC b) (NC b) σ) (h : wp_X10_pushPart x1 x2 σ Q) : KtV Z l D cA ad (shC b) (NC b) yX10_pushPart cX10_pushPart 3 none 2 [.ref (ad 68), vI x1, vI x2] σ Q :=
  KtV.of my_X10_pushPart hA [some (.ref (ad 68)), some (vI x1), some (vI x2)] (Nat.le_of_ble_eq_true rfl) rfl (fun p e s m args below meth c A0 E hr => t_X10_pushPart E hr x1 x2 σ c1 c2 hσ h)
theorem dX10_open_0 : Dc cX10_open 0 (.aload_n 0) 1 1 := ⟨by decide +kernel, rfl⟩
theorem dX10_open_1 : Dc cX10_open 1 (.getfield 15) 3 4 := ⟨by decide +kernel, rfl⟩
theorem dX10_open_4 : Dc cX10_open 4 (.getfield 68) 3 7 := ⟨by decide +kernel, rfl⟩
theorem dX10_open_7 : Dc cX10_open 7 (.aload_n 0) 1 8 := ⟨by decide +kernel, rfl⟩
theorem dX10_open_8 : Dc cX10_open 8 (.getfield 19) 3 11 := ⟨by decide +kernel, rfl⟩
theorem dX10_open_11 : Dc cX10_open 11 (.getfield 65) 3 14 := ⟨by decide +kernel, rfl⟩
theorem dX10_open_14 : Dc cX10_open 14 (.iload_n 2) 1 15 := ⟨by decide +kernel, rfl⟩
theorem dX10_open_15 : Dc cX10_open 15 (.iaload) 1 16 := ⟨by decide +kernel, rfl⟩
theorem dX10_open_16 : Dc cX10_open 16 (.iaload) 1 17 := ⟨by decide +kernel, rfl⟩
theorem dX10_open_17 : Dc cX10_open 17 (.istore_n 3) 1 18 := ⟨by decide +kernel, rfl⟩
theorem dX10_open_18 : Dc cX10_open 18 (.aload_n 0) 1 19 := ⟨by decide +kernel, rfl⟩
theorem dX10_open_19 : Dc cX10_open 19 (.aload_n 1) 1 20 := ⟨by decide +kernel, rfl⟩
theorem dX10_open_20 : Dc cX10_open 20 (.bipush 40) 2 22 := ⟨by decide +kernel, rfl⟩
theorem dX10_open_22 : Dc cX10_open 22 (.invokevirtual 91) 3 25 := ⟨by decide +kernel, rfl⟩
theorem dX10_open_25 : Dc cX10_open 25 (.aload_n 0) 1 26 := ⟨by decide +kernel, rfl⟩
theorem dX10_open_26 : Dc cX10_open 26 (.aload_n 1) 1 27 := ⟨by decide +kernel, rfl⟩
theorem dX10_open_27 : Dc cX10_open 27 (.bipush 65) 2 29 := ⟨by decide +kernel, rfl⟩
theorem dX10_open_29 : Dc cX10_open 29 (.aload_n 0) 1 30 := ⟨by decide +kernel, rfl⟩
theorem dX10_open_30 : Dc cX10_open 30 (.getfield 9) 3 33 := ⟨by decide +kernel, rfl⟩
theorem dX10_open_33 : Dc cX10_open 33 (.getfield 98) 3 36 := ⟨by decide +kernel, rfl⟩
theorem dX10_open_36 : Dc cX10_open 36 (.iload_n 3) 1 37 := ⟨by decide +kernel, rfl⟩
theorem dX10_open_37 : Dc cX10_open 37 (.iaload) 1 38 := ⟨by decide +kernel, rfl⟩
theorem dX10_open_38 : Dc cX10_open 38 (.iadd) 1 39 := ⟨by decide +kernel, rfl⟩
theorem dX10_open_39 : Dc cX10_open 39 (.invokevirtual 91) 3 42 := ⟨by decide +kernel, rfl⟩
theorem dX10_open_42 : Dc cX10_open 42 (.aload_n 0) 1 43 := ⟨by decide +kernel, rfl⟩
theorem dX10_open_43 : Dc cX10_open 43 (.bipush (-41)) 2 45 := ⟨by decide +kernel, rfl⟩
theorem dX10_open_45 : Dc cX10_open 45 (.iconst 0) 1 46 := ⟨by decide +kernel, rfl⟩
theorem dX10_open_46 : Dc cX10_open 46 (.invokevirtual 43) 3 49 := ⟨by decide +kernel, rfl⟩
theorem dX10_open_49 : Dc cX10_open 49 (.aload_n 0) 1 50 := ⟨by decide +kernel, rfl⟩
theorem dX10_open_50 : Dc cX10_open 50 (.getfield 9) 3 53 := ⟨by decide +kernel, rfl⟩
theorem dX10_open_53 : Dc cX10_open 53 (.getfield 103) 3 56 := ⟨by decide +kernel, rfl⟩
theorem dX10_open_56 : Dc cX10_open 56 (.iload_n 3) 1 57 := ⟨by decide +kernel, rfl⟩
theorem dX10_open_57 : Dc cX10_open 57 (.iaload) 1 58 := ⟨by decide +kernel, rfl⟩
theorem dX10_open_58 : Dc cX10_open 58 (.iconst (-1)) 1 59 := ⟨by decide +kernel, rfl⟩
theorem djX10_open_59 : Dj cX10_open 59 (.if_icmp .eq 24) 3 62 24 83 := ⟨by decide +kernel, rfl, by decide⟩
theorem dX10_open_62 : Dc cX10_open 62 (.aload_n 0) 1 63 := ⟨by decide +kernel, rfl⟩
theorem dX10_open_63 : Dc cX10_open 63 (.aload_n 0) 1 64 := ⟨by decide +kernel, rfl⟩
theorem dX10_open_64 : Dc cX10_open 64 (.getfield 19) 3 67 := ⟨by decide +kernel, rfl⟩
theorem dX10_open_67 : Dc cX10_open 67 (.iload_n 2) 1 68 := ⟨by decide +kernel, rfl⟩
theorem dX10_open_68 : Dc cX10_open 68 (.invokevirtual 53) 3 71 := ⟨by decide +kernel, rfl⟩
theorem dX10_open_71 : Dc cX10_open 71 (.aload_n 0) 1 72 := ⟨by decide +kernel, rfl⟩
theorem dX10_open_72 : Dc cX10_open 72 (.getfield 9) 3 75 := ⟨by decide +kernel, rfl⟩
theorem dX10_open_75 : Dc cX10_open 75 (.getfield 103) 3 78 := ⟨by decide +kernel, rfl⟩
theorem dX10_open_78 : Dc cX10_open 78 (.iload_n 3) 1 79 := ⟨by decide +kernel, rfl⟩
theorem dX10_open_79 : Dc cX10_open 79 (.iaload) 1 80 := ⟨by decide +kernel, rfl⟩
theorem dX10_open_80 : Dc cX10_open 80 (.invokevirtual 106) 3 83 := ⟨by decide +kernel, rfl⟩
theorem dX10_open_83 : Dc cX10_open 83 (.aload_n 0) 1 84 := ⟨by decide +kernel, rfl⟩
theorem dX10_open_84 : Dc cX10_open 84 (.aload_n 0) 1 85 := ⟨by decide +kernel, rfl⟩
theorem dX10_open_85 : Dc cX10_open 85 (.getfield 19) 3 88 := ⟨by decide +kernel, rfl⟩
theorem dX10_open_88 : Dc cX10_open 88 (.iload_n 2) 1 89 := ⟨by decide +kernel, rfl⟩
theorem dX10_open_89 : Dc cX10_open 89 (.invokevirtual 62) 3 92 := ⟨by decide +kernel, rfl⟩
theorem dX10_open_92 : Dc cX10_open 92 (.aload_n 0) 1 93 := ⟨by decide +kernel, rfl⟩
theorem dX10_open_93 : Dc cX10_open 93 (.getfield 9) 3 96 := ⟨by decide +kernel, rfl⟩
theorem dX10_open_96 : Dc cX10_open 96 (.getfield 109) 3 99 := ⟨by decide +kernel, rfl⟩
theorem dX10_open_99 : Dc cX10_open 99 (.iload_n 3) 1 100 := ⟨by decide +kernel, rfl⟩
theorem dX10_open_100 : Dc cX10_open 100 (.iaload) 1 101 := ⟨by decide +kernel, rfl⟩
theorem dX10_open_101 : Dc cX10_open 101 (.invokevirtual 106) 3 104 := ⟨by decide +kernel, rfl⟩
theorem dX10_open_104 : Dc cX10_open 104 (.return_) 1 105 := ⟨by decide +kernel, rfl⟩
section
variable {p : Program} {l : Launch} {e : Env} {s : State} {m : MethodId} {args : Array Value} {below : List Frame} {meth : Method} {c : Code} {A0 : Nat → Prop} {D : va_G} {cA : Nat → ClassId} {ad : Nat → Nat} {Z : (Nat → Nat) × (Nat → Nat)} {Q : Int → St → Prop} {b : Bool}
set_option maxHeartbeats 4000000 in
set_option maxRecDepth 100000 in
theorem t_X10_open_c2_b83 (E : Ev p s m args meth c cX10_open 4 RX10 A0 D cA ad (NC b) Z) (hr : meth.sig.returnType = none) (x2 : Int) (x3 : Int) (σ : St) (c2 : C32 x2) (c3 : C32 x3) (hσ : CanS (shC b) (NC b) σ) (h : wp_X10_open_c2_b83 Q x2 x3 σ) : G p l e (rmL 3 0 0) s m args below meth c 4 A0 D cA ad (shC b) (NC b) 0 0 (MQ below (QVc D cA ad (shC b) (NC b) Q A0) args s 0 0 A0) σ 83 [some (.ref (ad 68)), none, some (vI x2), some (vI x3)] [] := by
  unfold wp_X10_open_c2_b83 at h
  refine g_aload_0 E dX10_open_83 ?_
  refine g_aload_0 E dX10_open_84 ?_
  refine g_getR E fl_RX10_19 (kC_68 b) (sC_68 b) rfl dX10_open_85 ?_
  refine g_iload_2 E dX10_open_88 ?_
  refine g_callvI E my_X3_leftTree mi_X3_leftTree msel_X3_leftTree ml_RX10_62 (rm_ok (by decide) (by decide)) ⟨Nat.zero_le _, Nat.zero_le _⟩ (kC_54 b) (sC_54 b) rfl (m_X3_leftTree E.2.2.1 c2 hσ h) rfl rfl (Nat.le_of_ble_eq_true rfl) dX10_open_89 (fun r12 σ13 cr12 hσ13 h => ?_)
  refine g_aload_0 E dX10_open_92 ?_
  refine g_getR E fl_RX10_9 (kC_68 b) (sC_68 b) rfl dX10_open_93 ?_
  refine g_getR E fl_RX10_109 (kC_14 b) (sC_14 b) rfl dX10_open_96 ?_
  refine g_iload_3 E dX10_open_99 ?_
  refine g_iald E (kC_16 b) (sC_16 b) (by decide) h.1 dX10_open_100 ?_
  replace h := h.2
  refine g_callvV E my_X10_pushPart mi_X10_pushPart msel_X10_pushPart ml_RX10_106 (rm_ok (by decide) (by decide)) ⟨Nat.zero_le _, Nat.zero_le _⟩ (kC_68 b) (sC_68 b) rfl (m_X10_pushPart E.2.2.1 cr12 (aC_16 hσ13 _) hσ13 h) rfl rfl (Nat.le_of_ble_eq_true rfl) dX10_open_101 (fun σ15 r14 hσ15 h => ?_)
  exact g_vret E hr h hσ15 dX10_open_104
set_option maxHeartbeats 4000000 in
set_option maxRecDepth 100000 in
theorem t_X10_open_c2 (E : Ev p s m args meth c cX10_open 4 RX10 A0 D cA ad (NC b) Z) (hr : meth.sig.returnType = none) (x2 : Int) (σ : St) (c2 : C32 x2) (hσ : CanS (shC b) (NC b) σ) (h : wp_X10_open_c2 x2 σ Q) : G p l e (rmL 3 0 0) s m args below meth c 4 A0 D cA ad (shC b) (NC b) 0 0 (MQ below (QVc D cA ad (shC b) (NC b) Q A0) args s 0 0 A0) σ 0 [some (.ref (ad 68)), some (.ref (ad 2)), some (vI x2), none] [] := by
  unfold wp_X10_open_c2 at h
  refine g_aload_0 E dX10_open_0 ?_
  refine g_getR E fl_RX10_15 (kC_68 b) (sC_68 b) rfl dX10_open_1 ?_
  refine g_getR E fl_RX10_68 (kC_24 b) (sC_24 b) rfl dX10_open_4 ?_
  refine g_aload_0 E dX10_open_7 ?_
  refine g_getR E fl_RX10_19 (kC_68 b) (sC_68 b) rfl dX10_open_8 ?_
  refine g_getR E fl_RX10_65 (kC_54 b) (sC_54 b) rfl dX10_open_11 ?_
  refine g_iload_2 E dX10_open_14 ?_
  refine g_iald E (kC_56 b) (sC_56 b) (by decide) h.1 dX10_open_15 ?_
  replace h := h.2
  refine g_iald E (kC_29 b) (sC_29 b) (by decide) h.1 dX10_open_16 ?_
  replace h := h.2
  refine g_nmI (fun v1 ev1 => ?_)
  replace h := h v1 ev1
  have cv1 : C32 v1 := by rw [ev1]; exact (aC_29 hσ _)
  refine g_istore_3 E rfl (by decide) dX10_open_17 ?_
  refine g_aload_0 E dX10_open_18 ?_
  refine g_aload_1 E dX10_open_19 ?_
  refine g_bipush E (by decide) dX10_open_20 ?_
  refine g_callvV E my_X10_put mi_X10_put msel_X10_put ml_RX10_91 (rm_ok (by decide) (by decide)) ⟨Nat.zero_le _, Nat.zero_le _⟩ (kC_68 b) (sC_68 b) rfl (m_X10_put_c2 E.2.2.1 cl_40 hσ h) rfl rfl (Nat.le_of_ble_eq_true rfl) dX10_open_22 (fun σ3 r2 hσ3 h => ?_)
  refine g_aload_0 E dX10_open_25 ?_
  refine g_aload_1 E dX10_open_26 ?_
  refine g_bipush E (by decide) dX10_open_27 ?_
  refine g_aload_0 E dX10_open_29 ?_
  refine g_getR E fl_RX10_9 (kC_68 b) (sC_68 b) rfl dX10_open_30 ?_
  refine g_getR E fl_RX10_98 (kC_14 b) (sC_14 b) rfl dX10_open_33 ?_
  refine g_iload_3 E dX10_open_36 ?_
  refine g_iald E (kC_15 b) (sC_15 b) (by decide) h.1 dX10_open_37 ?_
  replace h := h.2
  refine g_iadd E dX10_open_38 ?_
  refine g_callvV E my_X10_put mi_X10_put msel_X10_put ml_RX10_91 (rm_ok (by decide) (by decide)) ⟨Nat.zero_le _, Nat.zero_le _⟩ (kC_68 b) (sC_68 b) rfl (m_X10_put_c2 E.2.2.1 (c32_w _) hσ3 h) rfl rfl (Nat.le_of_ble_eq_true rfl) dX10_open_39 (fun σ5 r4 hσ5 h => ?_)
  refine g_aload_0 E dX10_open_42 ?_
  refine g_bipush E (by decide) dX10_open_43 ?_
  refine g_iconst E dX10_open_45 ?_
  refine g_callvV E my_X10_push mi_X10_push msel_X10_push ml_RX10_43 (rm_ok (by decide) (by decide)) ⟨Nat.zero_le _, Nat.zero_le _⟩ (kC_68 b) (sC_68 b) rfl (m_X10_push E.2.2.1 cl_m41 cl_0 hσ5 h) rfl rfl (Nat.le_of_ble_eq_true rfl) dX10_open_46 (fun σ7 r6 hσ7 h => ?_)
  refine g_aload_0 E dX10_open_49 ?_
  refine g_getR E fl_RX10_9 (kC_68 b) (sC_68 b) rfl dX10_open_50 ?_
  refine g_getR E fl_RX10_103 (kC_14 b) (sC_14 b) rfl dX10_open_53 ?_
  refine g_iload_3 E dX10_open_56 ?_
  refine g_iald E (kC_17 b) (sC_17 b) (by decide) h.1 dX10_open_57 ?_
  replace h := h.2
  refine g_iconst E dX10_open_58 ?_
  refine g_icmp_eq E (aC_17 hσ7 _) cl_m1 djX10_open_59 (fun hc => ?_) (fun hc => ?_)
  · replace h := h.1 hc
    exact (t_X10_open_c2_b83 E hr x2 v1 σ7 c2 cv1 hσ7 h).weak (w_k (w_d (w_k (w_k w_n))))
  · replace h := h.2 hc
    refine g_aload_0 E dX10_open_62 ?_
    refine g_aload_0 E dX10_open_63 ?_
    refine g_getR E fl_RX10_19 (kC_68 b) (sC_68 b) rfl dX10_open_64 ?_
    refine g_iload_2 E dX10_open_67 ?_
    refine g_callvI E my_X3_rightTree mi_X3_rightTree msel_X3_rightTree ml_RX10_53 (rm_ok (by decide) (by decide)) ⟨Nat.zero_le _, Nat.zero_le _⟩ (kC_54 b) (sC_54 b) rfl (m_X3_rightTree E.2.2.1 c2 hσ7 h) rfl rfl (Nat.le_of_ble_eq_true rfl) dX10_open_68 (fun r8 σ9 cr8 hσ9 h => ?_)
    refine g_aload_0 E dX10_open_71 ?_
    refine g_getR E fl_RX10_9 (kC_68 b) (sC_68 b) rfl dX10_open_72 ?_
    refine g_getR E fl_RX10_103 (kC_14 b) (sC_14 b) rfl dX10_open_75 ?_
    refine g_iload_3 E dX10_open_78 ?_
    refine g_iald E (kC_17 b) (sC_17 b) (by decide) h.1 dX10_open_79 ?_
    replace h := h.2
    refine g_callvV E my_X10_pushPart mi_X10_pushPart msel_X10_pushPart ml_RX10_106 (rm_ok (by decide) (by decide)) ⟨Nat.zero_le _, Nat.zero_le _⟩ (kC_68 b) (sC_68 b) rfl (m_X10_pushPart E.2.2.1 cr8 (aC_17 hσ9 _) hσ9 h) rfl rfl (Nat.le_of_ble_eq_true rfl) dX10_open_80 (fun σ11 r10 hσ11 h => ?_)
    exact (t_X10_open_c2_b83 E hr x2 v1 σ11 c2 cv1 hσ11 h).weak (w_k (w_d (w_k (w_k w_n))))
end
theorem m_X10_open_c2 {Z : (Nat → Nat) × (Nat → Nat)} {l : Launch} {D : va_G} {cA : Nat → ClassId} {ad : Nat → Nat} {b : Bool} {x2 : Int} {σ : St} {Q : Int → St → Prop} (hA : AdOk (NC b) ad) (c2 : C32 x2) (hσ : CanS (shC b) (NC b) σ) (h : wp_X10_open_c2 x2 σ Q) : KtV Z l D cA ad (shC b) (NC b) yX10_open cX10_open 4 none 3 [.ref (ad 68), .ref (ad 2), vI x2] σ Q :=
  KtV.of my_X10_open hA [some (.ref (ad 68)), some (.ref (ad 2)), some (vI x2), none] (Nat.le_of_ble_eq_true rfl) rfl (fun p e s m args below meth c A0 E hr => t_X10_open_c2 E hr x2 σ c2 hσ h)
theorem dX10_write_0 : Dc cX10_write 0 (.aload_n 0) 1 1 := ⟨by decide +kernel, rfl⟩
theorem dX10_write_1 : Dc cX10_write 1 (.iconst 0) 1 2 := ⟨by decide +kernel, rfl⟩
theorem dX10_write_2 : Dc cX10_write 2 (.putfield 88) 3 5 := ⟨by decide +kernel, rfl⟩
theorem dX10_write_5 : Dc cX10_write 5 (.aload_n 0) 1 6 := ⟨by decide +kernel, rfl⟩
theorem dX10_write_6 : Dc cX10_write 6 (.iconst 0) 1 7 := ⟨by decide +kernel, rfl⟩
theorem dX10_write_7 : Dc cX10_write 7 (.putfield 40) 3 10 := ⟨by decide +kernel, rfl⟩
theorem dX10_write_10 : Dc cX10_write 10 (.aload_n 0) 1 11 := ⟨by decide +kernel, rfl⟩
theorem dX10_write_11 : Dc cX10_write 11 (.iload_n 1) 1 12 := ⟨by decide +kernel, rfl⟩
theorem dX10_write_12 : Dc cX10_write 12 (.iconst 0) 1 13 := ⟨by decide +kernel, rfl⟩
theorem dX10_write_13 : Dc cX10_write 13 (.invokevirtual 43) 3 16 := ⟨by decide +kernel, rfl⟩
theorem dX10_write_16 : Dc cX10_write 16 (.iconst 0) 1 17 := ⟨by decide +kernel, rfl⟩
theorem dX10_write_17 : Dc cX10_write 17 (.istore_n 3) 1 18 := ⟨by decide +kernel, rfl⟩
theorem dX10_write_18 : Dc cX10_write 18 (.iload_n 3) 1 19 := ⟨by decide +kernel, rfl⟩
theorem dX10_write_19 : Dc cX10_write 19 (.sipush 2560) 3 22 := ⟨by decide +kernel, rfl⟩
theorem djX10_write_22 : Dj cX10_write 22 (.if_icmp .ge 60) 3 25 60 82 := ⟨by decide +kernel, rfl, by decide⟩
theorem dX10_write_25 : Dc cX10_write 25 (.aload_n 0) 1 26 := ⟨by decide +kernel, rfl⟩
theorem dX10_write_26 : Dc cX10_write 26 (.getfield 40) 3 29 := ⟨by decide +kernel, rfl⟩
theorem djX10_write_29 : Dj cX10_write 29 (.ifCond .le 53) 3 32 53 82 := ⟨by decide +kernel, rfl, by decide⟩
theorem dX10_write_32 : Dc cX10_write 32 (.aload_n 0) 1 33 := ⟨by decide +kernel, rfl⟩
theorem dX10_write_33 : Dc cX10_write 33 (.dup) 1 34 := ⟨by decide +kernel, rfl⟩
theorem dX10_write_34 : Dc cX10_write 34 (.getfield 40) 3 37 := ⟨by decide +kernel, rfl⟩
theorem dX10_write_37 : Dc cX10_write 37 (.iconst 1) 1 38 := ⟨by decide +kernel, rfl⟩
theorem dX10_write_38 : Dc cX10_write 38 (.isub) 1 39 := ⟨by decide +kernel, rfl⟩
theorem dX10_write_39 : Dc cX10_write 39 (.putfield 40) 3 42 := ⟨by decide +kernel, rfl⟩
theorem dX10_write_42 : Dc cX10_write 42 (.aload_n 0) 1 43 := ⟨by decide +kernel, rfl⟩
theorem dX10_write_43 : Dc cX10_write 43 (.getfield 23) 3 46 := ⟨by decide +kernel, rfl⟩
theorem dX10_write_46 : Dc cX10_write 46 (.aload_n 0) 1 47 := ⟨by decide +kernel, rfl⟩
theorem dX10_write_47 : Dc cX10_write 47 (.getfield 40) 3 50 := ⟨by decide +kernel, rfl⟩
theorem dX10_write_50 : Dc cX10_write 50 (.iaload) 1 51 := ⟨by decide +kernel, rfl⟩
theorem dX10_write_51 : Dc cX10_write 51 (.istore 4) 2 53 := ⟨by decide +kernel, rfl⟩
theorem dX10_write_53 : Dc cX10_write 53 (.iload 4) 2 55 := ⟨by decide +kernel, rfl⟩
theorem djX10_write_55 : Dj cX10_write 55 (.ifCond .ge 14) 3 58 14 69 := ⟨by decide +kernel, rfl, by decide⟩
theorem dX10_write_58 : Dc cX10_write 58 (.aload_n 0) 1 59 := ⟨by decide +kernel, rfl⟩
theorem dX10_write_59 : Dc cX10_write 59 (.aload_n 2) 1 60 := ⟨by decide +kernel, rfl⟩
theorem dX10_write_60 : Dc cX10_write 60 (.iload 4) 2 62 := ⟨by decide +kernel, rfl⟩
theorem dX10_write_62 : Dc cX10_write 62 (.ineg) 1 63 := ⟨by decide +kernel, rfl⟩
theorem dX10_write_63 : Dc cX10_write 63 (.invokevirtual 91) 3 66 := ⟨by decide +kernel, rfl⟩
theorem djX10_write_66 : Dj cX10_write 66 (.goto 10) 3 69 10 76 := ⟨by decide +kernel, rfl, by decide⟩
theorem dX10_write_69 : Dc cX10_write 69 (.aload_n 0) 1 70 := ⟨by decide +kernel, rfl⟩
theorem dX10_write_70 : Dc cX10_write 70 (.aload_n 2) 1 71 := ⟨by decide +kernel, rfl⟩
theorem dX10_write_71 : Dc cX10_write 71 (.iload 4) 2 73 := ⟨by decide +kernel, rfl⟩
theorem dX10_write_73 : Dc cX10_write 73 (.invokevirtual 95) 3 76 := ⟨by decide +kernel, rfl⟩
theorem dX10_write_76 : Dc cX10_write 76 (.iinc 3 1) 3 79 := ⟨by decide +kernel, rfl⟩
theorem djX10_write_79 : Dj cX10_write 79 (.goto (-61)) 3 82 (-61) 18 := ⟨by decide +kernel, rfl, by decide⟩
theorem dX10_write_82 : Dc cX10_write 82 (.aload_n 0) 1 83 := ⟨by decide +kernel, rfl⟩
theorem dX10_write_83 : Dc cX10_write 83 (.getfield 88) 3 86 := ⟨by decide +kernel, rfl⟩
theorem dX10_write_86 : Dc cX10_write 86 (.ireturn) 1 87 := ⟨by decide +kernel, rfl⟩
section
variable {p : Program} {l : Launch} {e : Env} {s : State} {m : MethodId} {args : Array Value} {below : List Frame} {meth : Method} {c : Code} {A0 : Nat → Prop} {D : va_G} {cA : Nat → ClassId} {ad : Nat → Nat} {Z : (Nat → Nat) × (Nat → Nat)} {Q : Int → St → Prop} {b : Bool}
set_option maxHeartbeats 4000000 in
set_option maxRecDepth 100000 in
theorem t_X10_write_c2_b76 (E : Ev p s m args meth c cX10_write 5 RX10 A0 D cA ad (NC b) Z) (hr : meth.sig.returnType = (some .int)) {K18 : Int → St → Prop} (hK18 : ∀ (x3 : Int) (σ : St), C32 x3 → CanS (shC b) (NC b) σ → K18 x3 σ → G p l e (rmL 4 0 0) s m args below meth c 5 A0 D cA ad (shC b) (NC b) 0 0 (MQ below (QIc D cA ad (shC b) (NC b) Q A0) args s 0 0 A0) σ 18 [some (.ref (ad 68)), none, some (.ref (ad 2)), some (vI x3), none] []) (x3 : Int) (σ : St) (c3 : C32 x3) (hσ : CanS (shC b) (NC b) σ) (h : wp_X10_write_c2_b76 Q K18 x3 σ) : G p l e (rmL 4 0 0) s m args below meth c 5 A0 D cA ad (shC b) (NC b) 0 0 (MQ below (QIc D cA ad (shC b) (NC b) Q A0) args s 0 0 A0) σ 76 [some (.ref (ad 68)), none, some (.ref (ad 2)), some (vI x3), none] [] := by
  unfold wp_X10_write_c2_b76 at h
  refine g_iinc_3 E rfl (by decide) dX10_write_76 (fun v11 ev11 => ?_)
  replace h := h v11 ev11
  have cv11 : C32 v11 := by rw [ev11]; exact c32_w _
  refine g_goto E djX10_write_79 ?_
  exact (hK18 v11 σ cv11 hσ h).weak (w_k (w_d (w_k (w_k (w_d w_n)))))
set_option maxHeartbeats 4000000 in
set_option maxRecDepth 100000 in
theorem t_X10_write_c2_l18 (E : Ev p s m args meth c cX10_write 5 RX10 A0 D cA ad (NC b) Z) (hr : meth.sig.returnType = (some .int)) : ∀ (n : Nat) (x3 : Int) (σ : St), C32 x3 → CanS (shC b) (NC b) σ → wp_X10_write_c2_l18 Q n x3 σ → G p l e (rmL 4 0 0) s m args below meth c 5 A0 D cA ad (shC b) (NC b) 0 0 (MQ below (QIc D cA ad (shC b) (NC b) Q A0) args s 0 0 A0) σ 18 [some (.ref (ad 68)), none, some (.ref (ad 2)), some (vI x3), none] [] := by
  intro n
  induction n with
  | zero => intro _ _ _ _ h; exact h.elim
  | succ n ih =>
    intro x3 σ c3 hσ h
    unfold wp_X10_write_c2_l18 at h
    refine g_iload_3 E dX10_write_18 ?_
    refine g_sipush E (by decide) dX10_write_19 ?_
    refine g_icmp_ge E c3 cl_2560 djX10_write_22 (fun hc => ?_) (fun hc => ?_)
    · replace h := h.1 hc
      refine g_aload_0 E dX10_write_82 ?_
      refine g_getI E fl_RX10_88 (kC_68 b) (sC_68 b) rfl dX10_write_83 ?_
      exact g_iret E hr (fC_68_9 hσ) h hσ dX10_write_86
    · replace h := h.2 hc
      refine g_aload_0 E dX10_write_25 ?_
      refine g_getI E fl_RX10_40 (kC_68 b) (sC_68 b) rfl dX10_write_26 ?_
      refine g_if_le E (fC_68_6 hσ) djX10_write_29 (fun hc => ?_) (fun hc => ?_)
      · replace h := h.1 hc
        refine g_aload_0 E dX10_write_82 ?_
        refine g_getI E fl_RX10_88 (kC_68 b) (sC_68 b) rfl dX10_write_83 ?_
        exact g_iret E hr (fC_68_9 hσ) h hσ dX10_write_86
      · replace h := h.2 hc
        refine g_aload_0 E dX10_write_32 ?_
        refine g_dup E rfl dX10_write_33 ?_
        refine g_getI E fl_RX10_40 (kC_68 b) (sC_68 b) rfl dX10_write_34 ?_
        refine g_iconst E dX10_write_37 ?_
        refine g_isub E dX10_write_38 ?_
        refine g_putI E fl_RX10_40 rfl rfl (kC_68 b) (sC_68 b) rfl dX10_write_39 (g_nmS (fun σ5 eσ5 => ?_))
        replace h := h σ5 eσ5
        have hσ5 : CanS (shC b) (NC b) σ5 := by rw [eσ5]; exact uC_68_6 hσ (c32_w _)
        refine g_aload_0 E dX10_write_42 ?_
        refine g_getR E fl_RX10_23 (kC_68 b) (sC_68 b) rfl dX10_write_43 ?_
        refine g_aload_0 E dX10_write_46 ?_
        refine g_getI E fl_RX10_40 (kC_68 b) (sC_68 b) rfl dX10_write_47 ?_
        refine g_iald E (kC_69 b) (sC_69 b) (by decide) h.1 dX10_write_50 ?_
        replace h := h.2
        refine g_nmI (fun v6 ev6 => ?_)
        replace h := h v6 ev6
        have cv6 : C32 v6 := by rw [ev6]; exact (aC_69 hσ5 _)
        refine g_istore_4 E rfl (by decide) dX10_write_51 ?_
        refine g_iload_4 E dX10_write_53 ?_
        refine g_if_ge E cv6 djX10_write_55 (fun hc => ?_) (fun hc => ?_)
        · replace h := h.1 hc
          refine g_aload_0 E dX10_write_69 ?_
          refine g_aload_2 E dX10_write_70 ?_
          refine g_iload_4 E dX10_write_71 ?_
          refine g_callvV E my_X10_open mi_X10_open msel_X10_open ml_RX10_95 (rm_ok (by decide) (by decide)) ⟨Nat.zero_le _, Nat.zero_le _⟩ (kC_68 b) (sC_68 b) rfl (m_X10_open_c2 E.2.2.1 cv6 hσ5 h) rfl rfl (Nat.le_of_ble_eq_true rfl) dX10_write_73 (fun σ8 r7 hσ8 h => ?_)
          exact (t_X10_write_c2_b76 E hr ih x3 σ8 c3 hσ8 h).weak (w_k (w_d (w_k (w_k (w_d w_n)))))
        · replace h := h.2 hc
          refine g_aload_0 E dX10_write_58 ?_
          refine g_aload_2 E dX10_write_59 ?_
          refine g_iload_4 E dX10_write_60 ?_
          refine g_ineg E dX10_write_62 ?_
          refine g_callvV E my_X10_put mi_X10_put msel_X10_put ml_RX10_91 (rm_ok (by decide) (by decide)) ⟨Nat.zero_le _, Nat.zero_le _⟩ (kC_68 b) (sC_68 b) rfl (m_X10_put_c2 E.2.2.1 (c32_w _) hσ5 h) rfl rfl (Nat.le_of_ble_eq_true rfl) dX10_write_63 (fun σ10 r9 hσ10 h => ?_)
          refine g_goto E djX10_write_66 ?_
          exact (t_X10_write_c2_b76 E hr ih x3 σ10 c3 hσ10 h).weak (w_k (w_d (w_k (w_k (w_d w_n)))))
set_option maxHeartbeats 4000000 in
set_option maxRecDepth 100000 in
theorem t_X10_write_c2 (E : Ev p s m args meth c cX10_write 5 RX10 A0 D cA ad (NC b) Z) (hr : meth.sig.returnType = (some .int)) (x1 : Int) (σ : St) (c1 : C32 x1) (hσ : CanS (shC b) (NC b) σ) (h : wp_X10_write_c2 x1 σ Q) : G p l e (rmL 4 0 0) s m args below meth c 5 A0 D cA ad (shC b) (NC b) 0 0 (MQ below (QIc D cA ad (shC b) (NC b) Q A0) args s 0 0 A0) σ 0 [some (.ref (ad 68)), some (vI x1), some (.ref (ad 2)), none, none] [] := by
  unfold wp_X10_write_c2 at h
  refine g_aload_0 E dX10_write_0 ?_
  refine g_iconst E dX10_write_1 ?_
  refine g_putI E fl_RX10_88 rfl rfl (kC_68 b) (sC_68 b) rfl dX10_write_2 (g_nmS (fun σ1 eσ1 => ?_))
  replace h := h σ1 eσ1
  have hσ1 : CanS (shC b) (NC b) σ1 := by rw [eσ1]; exact uC_68_9 hσ cl_0
  refine g_aload_0 E dX10_write_5 ?_
  refine g_iconst E dX10_write_6 ?_
  refine g_putI E fl_RX10_40 rfl rfl (kC_68 b) (sC_68 b) rfl dX10_write_7 (g_nmS (fun σ2 eσ2 => ?_))
  replace h := h σ2 eσ2
  have hσ2 : CanS (shC b) (NC b) σ2 := by rw [eσ2]; exact uC_68_6 hσ1 cl_0
  refine g_aload_0 E dX10_write_10 ?_
  refine g_iload_1 E dX10_write_11 ?_
  refine g_iconst E dX10_write_12 ?_
  refine g_callvV E my_X10_push mi_X10_push msel_X10_push ml_RX10_43 (rm_ok (by decide) (by decide)) ⟨Nat.zero_le _, Nat.zero_le _⟩ (kC_68 b) (sC_68 b) rfl (m_X10_push E.2.2.1 c1 cl_0 hσ2 h) rfl rfl (Nat.le_of_ble_eq_true rfl) dX10_write_13 (fun σ4 r3 hσ4 h => ?_)
  refine g_iconst E dX10_write_16 ?_
  refine g_istore_3 E rfl (by decide) dX10_write_17 ?_
  exact (t_X10_write_c2_l18 E hr bigN 0 σ4 cl_0 hσ4 h).weak (w_k (w_d (w_k (w_k (w_d w_n)))))
end
theorem m_X10_write_c2 {Z : (Nat → Nat) × (Nat → Nat)} {l : Launch} {D : va_G} {cA : Nat → ClassId} {ad : Nat → Nat} {b : Bool} {x1 : Int} {σ : St} {Q : Int → St → Prop} (hA : AdOk (NC b) ad) (c1 : C32 x1) (hσ : CanS (shC b) (NC b) σ) (h : wp_X10_write_c2 x1 σ Q) : KtI Z l D cA ad (shC b) (NC b) yX10_write cX10_write 5 (some .int) 4 [.ref (ad 68), vI x1, .ref (ad 2)] σ Q :=
  KtI.of my_X10_write hA [some (.ref (ad 68)), some (vI x1), some (.ref (ad 2)), none, none] (Nat.le_of_ble_eq_true rfl) rfl (fun p e s m args below meth c A0 E hr => t_X10_write_c2 E hr x1 σ c1 hσ h)
theorem dX11_tell_0 : Dc cX11_tell 0 (.aload_n 0) 1 1 := ⟨by decide +kernel, rfl⟩
theorem dX11_tell_1 : Dc cX11_tell 1 (.iload_n 1) 1 2 := ⟨by decide +kernel, rfl⟩
theorem dX11_tell_2 : Dc cX11_tell 2 (.iload_n 2) 1 3 := ⟨by decide +kernel, rfl⟩
theorem dX11_tell_3 : Dc cX11_tell 3 (.iload_n 3) 1 4 := ⟨by decide +kernel, rfl⟩
theorem dX11_tell_4 : Dc cX11_tell 4 (.invokevirtual 223) 3 7 := ⟨by decide +kernel, rfl⟩
theorem dX11_tell_7 : Dc cX11_tell 7 (.istore 5) 2 9 := ⟨by decide +kernel, rfl⟩
theorem dX11_tell_9 : Dc cX11_tell 9 (.iload 5) 2 11 := ⟨by decide +kernel, rfl⟩
theorem djX11_tell_11 : Dj cX11_tell 11 (.ifCond .lt 11) 3 14 11 22 := ⟨by decide +kernel, rfl, by decide⟩
theorem dX11_tell_14 : Dc cX11_tell 14 (.iload 4) 2 16 := ⟨by decide +kernel, rfl⟩
theorem dX11_tell_16 : Dc cX11_tell 16 (.invokestatic 286) 3 19 := ⟨by decide +kernel, rfl⟩
theorem djX11_tell_19 : Dj cX11_tell 19 (.ifCond .ne 6) 3 22 6 25 := ⟨by decide +kernel, rfl, by decide⟩
theorem dX11_tell_22 : Dc cX11_tell 22 (.bipush (-2)) 2 24 := ⟨by decide +kernel, rfl⟩
theorem dX11_tell_24 : Dc cX11_tell 24 (.ireturn) 1 25 := ⟨by decide +kernel, rfl⟩
theorem dX11_tell_25 : Dc cX11_tell 25 (.aload_n 0) 1 26 := ⟨by decide +kernel, rfl⟩
theorem dX11_tell_26 : Dc cX11_tell 26 (.getfield 76) 3 29 := ⟨by decide +kernel, rfl⟩
theorem dX11_tell_29 : Dc cX11_tell 29 (.iload 5) 2 31 := ⟨by decide +kernel, rfl⟩
theorem dX11_tell_31 : Dc cX11_tell 31 (.iload 4) 2 33 := ⟨by decide +kernel, rfl⟩
theorem dX11_tell_33 : Dc cX11_tell 33 (.invokevirtual 289) 3 36 := ⟨by decide +kernel, rfl⟩
theorem dX11_tell_36 : Dc cX11_tell 36 (.istore 6) 2 38 := ⟨by decide +kernel, rfl⟩
theorem dX11_tell_38 : Dc cX11_tell 38 (.iload 6) 2 40 := ⟨by decide +kernel, rfl⟩
theorem djX11_tell_40 : Dj cX11_tell 40 (.ifCond .ge 5) 3 43 5 45 := ⟨by decide +kernel, rfl, by decide⟩
theorem dX11_tell_43 : Dc cX11_tell 43 (.iconst (-1)) 1 44 := ⟨by decide +kernel, rfl⟩
theorem dX11_tell_44 : Dc cX11_tell 44 (.ireturn) 1 45 := ⟨by decide +kernel, rfl⟩
theorem dX11_tell_45 : Dc cX11_tell 45 (.aload_n 0) 1 46 := ⟨by decide +kernel, rfl⟩
theorem dX11_tell_46 : Dc cX11_tell 46 (.aload_n 0) 1 47 := ⟨by decide +kernel, rfl⟩
theorem dX11_tell_47 : Dc cX11_tell 47 (.getfield 85) 3 50 := ⟨by decide +kernel, rfl⟩
theorem dX11_tell_50 : Dc cX11_tell 50 (.iload 6) 2 52 := ⟨by decide +kernel, rfl⟩
theorem dX11_tell_52 : Dc cX11_tell 52 (.aload_n 0) 1 53 := ⟨by decide +kernel, rfl⟩
theorem dX11_tell_53 : Dc cX11_tell 53 (.getfield 13) 3 56 := ⟨by decide +kernel, rfl⟩
theorem dX11_tell_56 : Dc cX11_tell 56 (.invokevirtual 315) 3 59 := ⟨by decide +kernel, rfl⟩
theorem dX11_tell_59 : Dc cX11_tell 59 (.putfield 165) 3 62 := ⟨by decide +kernel, rfl⟩
theorem dX11_tell_62 : Dc cX11_tell 62 (.aload_n 0) 1 63 := ⟨by decide +kernel, rfl⟩
theorem dX11_tell_63 : Dc cX11_tell 63 (.getfield 165) 3 66 := ⟨by decide +kernel, rfl⟩
theorem dX11_tell_66 : Dc cX11_tell 66 (.ireturn) 1 67 := ⟨by decide +kernel, rfl⟩
section
variable {p : Program} {l : Launch} {e : Env} {s : State} {m : MethodId} {args : Array Value} {below : List Frame} {meth : Method} {c : Code} {A0 : Nat → Prop} {D : va_G} {cA : Nat → ClassId} {ad : Nat → Nat} {Z : (Nat → Nat) × (Nat → Nat)} {Q : Int → St → Prop} {b : Bool}
set_option maxHeartbeats 4000000 in
set_option maxRecDepth 100000 in
theorem t_X11_tell (E : Ev p s m args meth c cX11_tell 7 RX11 A0 D cA ad (NC b) Z) (hr : meth.sig.returnType = (some .int)) (x1 : Int) (x2 : Int) (x3 : Int) (x4 : Int) (σ : St) (c1 : C32 x1) (c2 : C32 x2) (c3 : C32 x3) (c4 : C32 x4) (hσ : CanS (shC b) (NC b) σ) (h : wp_X11_tell x1 x2 x3 x4 σ Q) : G p l e (rmL 7 0 0) s m args below meth c 7 A0 D cA ad (shC b) (NC b) 0 0 (MQ below (QIc D cA ad (shC b) (NC b) Q A0) args s 0 0 A0) σ 0 [some (.ref (ad 0)), some (vI x1), some (vI x2), some (vI x3), some (vI x4), none, none] [] := by
  unfold wp_X11_tell at h
  refine g_aload_0 E dX11_tell_0 ?_
  refine g_iload_1 E dX11_tell_1 ?_
  refine g_iload_2 E dX11_tell_2 ?_
  refine g_iload_3 E dX11_tell_3 ?_
  refine g_callvI E my_X11_itemOf mi_X11_itemOf msel_X11_itemOf ml_RX11_223 (rm_ok (by decide) (by decide)) ⟨Nat.zero_le _, Nat.zero_le _⟩ (kC_0 b) (sC_0 b) rfl (m_X11_itemOf E.2.2.1 c1 c2 c3 hσ h) rfl rfl (Nat.le_of_ble_eq_true rfl) dX11_tell_4 (fun r1 σ2 cr1 hσ2 h => ?_)
  refine g_istore_5 E rfl (by decide) dX11_tell_7 ?_
  refine g_iload_5 E dX11_tell_9 ?_
  refine g_if_lt E cr1 djX11_tell_11 (fun hc => ?_) (fun hc => ?_)
  · replace h := h.1 hc
    refine g_bipush E (by decide) dX11_tell_22 ?_
    exact g_iret E hr cl_m2 h hσ2 dX11_tell_24
  · replace h := h.2 hc
    refine g_iload_4 E dX11_tell_14 ?_
    refine g_callsI E my_X11_isPlace ms_X11_isPlace ml_RX11_286 (rm_ok (by decide) (by decide)) ⟨Nat.zero_le _, Nat.zero_le _⟩ (m_X11_isPlace E.2.2.1 c4 hσ2 h) rfl rfl (Nat.le_of_ble_eq_true rfl) dX11_tell_16 (fun r3 σ4 cr3 hσ4 h => ?_)
    refine g_if_ne E cr3 djX11_tell_19 (fun hc => ?_) (fun hc => ?_)
    · replace h := h.1 hc
      refine g_aload_0 E dX11_tell_25 ?_
      refine g_getR E fl_RX11_76 (kC_0 b) (sC_0 b) rfl dX11_tell_26 ?_
      refine g_iload_5 E dX11_tell_29 ?_
      refine g_iload_4 E dX11_tell_31 ?_
      refine g_callvI E my_X3_treeOf mi_X3_treeOf msel_X3_treeOf ml_RX11_289 (rm_ok (by decide) (by decide)) ⟨Nat.zero_le _, Nat.zero_le _⟩ (kC_54 b) (sC_54 b) rfl (m_X3_treeOf E.2.2.1 cr1 c4 hσ4 h) rfl rfl (Nat.le_of_ble_eq_true rfl) dX11_tell_33 (fun r5 σ6 cr5 hσ6 h => ?_)
      refine g_istore_6 E rfl (by decide) dX11_tell_36 ?_
      refine g_iload_6 E dX11_tell_38 ?_
      refine g_if_ge E cr5 djX11_tell_40 (fun hc => ?_) (fun hc => ?_)
      · replace h := h.1 hc
        refine g_aload_0 E dX11_tell_45 ?_
        refine g_aload_0 E dX11_tell_46 ?_
        refine g_getR E fl_RX11_85 (kC_0 b) (sC_0 b) rfl dX11_tell_47 ?_
        refine g_iload_6 E dX11_tell_50 ?_
        refine g_aload_0 E dX11_tell_52 ?_
        refine g_getR E fl_RX11_13 (kC_0 b) (sC_0 b) rfl dX11_tell_53 ?_
        refine g_callvI E my_X10_write mi_X10_write msel_X10_write ml_RX11_315 (rm_ok (by decide) (by decide)) ⟨Nat.zero_le _, Nat.zero_le _⟩ (kC_68 b) (sC_68 b) rfl (m_X10_write_c2 E.2.2.1 cr5 hσ6 h) rfl rfl (Nat.le_of_ble_eq_true rfl) dX11_tell_56 (fun r7 σ8 cr7 hσ8 h => ?_)
        refine g_putI E fl_RX11_165 rfl rfl (kC_0 b) (sC_0 b) rfl dX11_tell_59 (g_nmS (fun σ9 eσ9 => ?_))
        replace h := h σ9 eσ9
        have hσ9 : CanS (shC b) (NC b) σ9 := by rw [eσ9]; exact uC_0_3 hσ8 cr7
        refine g_aload_0 E dX11_tell_62 ?_
        refine g_getI E fl_RX11_165 (kC_0 b) (sC_0 b) rfl dX11_tell_63 ?_
        exact g_iret E hr (fC_0_3 hσ9) h hσ9 dX11_tell_66
      · replace h := h.2 hc
        refine g_iconst E dX11_tell_43 ?_
        exact g_iret E hr cl_m1 h hσ6 dX11_tell_44
    · replace h := h.2 hc
      refine g_bipush E (by decide) dX11_tell_22 ?_
      exact g_iret E hr cl_m2 h hσ4 dX11_tell_24
end
theorem m_X11_tell {Z : (Nat → Nat) × (Nat → Nat)} {l : Launch} {D : va_G} {cA : Nat → ClassId} {ad : Nat → Nat} {b : Bool} {x1 x2 x3 x4 : Int} {σ : St} {Q : Int → St → Prop} (hA : AdOk (NC b) ad) (c1 : C32 x1) (c2 : C32 x2) (c3 : C32 x3) (c4 : C32 x4) (hσ : CanS (shC b) (NC b) σ) (h : wp_X11_tell x1 x2 x3 x4 σ Q) : KtI Z l D cA ad (shC b) (NC b) yX11_tell cX11_tell 7 (some .int) 7 [.ref (ad 0), vI x1, vI x2, vI x3, vI x4] σ Q :=
  KtI.of my_X11_tell hA [some (.ref (ad 0)), some (vI x1), some (vI x2), some (vI x3), some (vI x4), none, none] (Nat.le_of_ble_eq_true rfl) rfl (fun p e s m args below meth c A0 E hr => t_X11_tell E hr x1 x2 x3 x4 σ c1 c2 c3 c4 hσ h)
theorem dX11_octet_0 : Dc cX11_octet 0 (.iload_n 1) 1 1 := ⟨by decide +kernel, rfl⟩
theorem djX11_octet_1 : Dj cX11_octet 1 (.ifCond .lt 11) 3 4 11 12 := ⟨by decide +kernel, rfl, by decide⟩
theorem dX11_octet_4 : Dc cX11_octet 4 (.iload_n 1) 1 5 := ⟨by decide +kernel, rfl⟩
theorem dX11_octet_5 : Dc cX11_octet 5 (.aload_n 0) 1 6 := ⟨by decide +kernel, rfl⟩
theorem dX11_octet_6 : Dc cX11_octet 6 (.getfield 165) 3 9 := ⟨by decide +kernel, rfl⟩
theorem djX11_octet_9 : Dj cX11_octet 9 (.if_icmp .lt 7) 3 12 7 16 := ⟨by decide +kernel, rfl, by decide⟩
theorem dX11_octet_12 : Dc cX11_octet 12 (.iconst (-1)) 1 13 := ⟨by decide +kernel, rfl⟩
theorem djX11_octet_13 : Dj cX11_octet 13 (.goto 9) 3 16 9 22 := ⟨by decide +kernel, rfl, by decide⟩
theorem dX11_octet_16 : Dc cX11_octet 16 (.aload_n 0) 1 17 := ⟨by decide +kernel, rfl⟩
theorem dX11_octet_17 : Dc cX11_octet 17 (.getfield 13) 3 20 := ⟨by decide +kernel, rfl⟩
theorem dX11_octet_20 : Dc cX11_octet 20 (.iload_n 1) 1 21 := ⟨by decide +kernel, rfl⟩
theorem dX11_octet_21 : Dc cX11_octet 21 (.iaload) 1 22 := ⟨by decide +kernel, rfl⟩
theorem dX11_octet_22 : Dc cX11_octet 22 (.ireturn) 1 23 := ⟨by decide +kernel, rfl⟩
section
variable {p : Program} {l : Launch} {e : Env} {s : State} {m : MethodId} {args : Array Value} {below : List Frame} {meth : Method} {c : Code} {A0 : Nat → Prop} {D : va_G} {cA : Nat → ClassId} {ad : Nat → Nat} {Z : (Nat → Nat) × (Nat → Nat)} {Q : Int → St → Prop} {b : Bool}
set_option maxHeartbeats 4000000 in
set_option maxRecDepth 100000 in
theorem t_X11_octet_b12 (E : Ev p s m args meth c cX11_octet 2 RX11 A0 D cA ad (NC b) Z) (hr : meth.sig.returnType = (some .int)) (σ : St) (hσ : CanS (shC b) (NC b) σ) (h : wp_X11_octet_b12 Q  σ) : G p l e (rmL 1 0 0) s m args below meth c 2 A0 D cA ad (shC b) (NC b) 0 0 (MQ below (QIc D cA ad (shC b) (NC b) Q A0) args s 0 0 A0) σ 12 [none, none] [] := by
  unfold wp_X11_octet_b12 at h
  refine g_iconst E dX11_octet_12 ?_
  refine g_goto E djX11_octet_13 ?_
  exact g_iret E hr cl_m1 h hσ dX11_octet_22
set_option maxHeartbeats 4000000 in
set_option maxRecDepth 100000 in
theorem t_X11_octet (E : Ev p s m args meth c cX11_octet 2 RX11 A0 D cA ad (NC b) Z) (hr : meth.sig.returnType = (some .int)) (x1 : Int) (σ : St) (c1 : C32 x1) (hσ : CanS (shC b) (NC b) σ) (h : wp_X11_octet x1 σ Q) : G p l e (rmL 1 0 0) s m args below meth c 2 A0 D cA ad (shC b) (NC b) 0 0 (MQ below (QIc D cA ad (shC b) (NC b) Q A0) args s 0 0 A0) σ 0 [some (.ref (ad 0)), some (vI x1)] [] := by
  unfold wp_X11_octet at h
  refine g_iload_1 E dX11_octet_0 ?_
  refine g_if_lt E c1 djX11_octet_1 (fun hc => ?_) (fun hc => ?_)
  · replace h := h.1 hc
    exact (t_X11_octet_b12 E hr σ hσ h).weak (w_d (w_d w_n))
  · replace h := h.2 hc
    refine g_iload_1 E dX11_octet_4 ?_
    refine g_aload_0 E dX11_octet_5 ?_
    refine g_getI E fl_RX11_165 (kC_0 b) (sC_0 b) rfl dX11_octet_6 ?_
    refine g_icmp_lt E c1 (fC_0_3 hσ) djX11_octet_9 (fun hc => ?_) (fun hc => ?_)
    · replace h := h.1 hc
      refine g_aload_0 E dX11_octet_16 ?_
      refine g_getR E fl_RX11_13 (kC_0 b) (sC_0 b) rfl dX11_octet_17 ?_
      refine g_iload_1 E dX11_octet_20 ?_
      refine g_iald E (kC_2 b) (sC_2 b) (by decide) h.1 dX11_octet_21 ?_
      replace h := h.2
      exact g_iret E hr (aC_2 hσ _) h hσ dX11_octet_22
    · replace h := h.2 hc
      exact (t_X11_octet_b12 E hr σ hσ h).weak (w_d (w_d w_n))
end
theorem m_X11_octet {Z : (Nat → Nat) × (Nat → Nat)} {l : Launch} {D : va_G} {cA : Nat → ClassId} {ad : Nat → Nat} {b : Bool} {x1 : Int} {σ : St} {Q : Int → St → Prop} (hA : AdOk (NC b) ad) (c1 : C32 x1) (hσ : CanS (shC b) (NC b) σ) (h : wp_X11_octet x1 σ Q) : KtI Z l D cA ad (shC b) (NC b) yX11_octet cX11_octet 2 (some .int) 1 [.ref (ad 0), vI x1] σ Q :=
  KtI.of my_X11_octet hA [some (.ref (ad 0)), some (vI x1)] (Nat.le_of_ble_eq_true rfl) rfl (fun p e s m args below meth c A0 E hr => t_X11_octet E hr x1 σ c1 hσ h)
theorem dX8_countPairs_0 : Dc cX8_countPairs 0 (.aload_n 0) 1 1 := ⟨by decide +kernel, rfl⟩
theorem dX8_countPairs_1 : Dc cX8_countPairs 1 (.getfield 19) 3 4 := ⟨by decide +kernel, rfl⟩
theorem dX8_countPairs_4 : Dc cX8_countPairs 4 (.getfield 74) 3 7 := ⟨by decide +kernel, rfl⟩
theorem dX8_countPairs_7 : Dc cX8_countPairs 7 (.iload_n 1) 1 8 := ⟨by decide +kernel, rfl⟩
theorem dX8_countPairs_8 : Dc cX8_countPairs 8 (.iaload) 1 9 := ⟨by decide +kernel, rfl⟩
theorem dX8_countPairs_9 : Dc cX8_countPairs 9 (.iload_n 3) 1 10 := ⟨by decide +kernel, rfl⟩
theorem dX8_countPairs_10 : Dc cX8_countPairs 10 (.aload_n 0) 1 11 := ⟨by decide +kernel, rfl⟩
theorem dX8_countPairs_11 : Dc cX8_countPairs 11 (.getfield 27) 3 14 := ⟨by decide +kernel, rfl⟩
theorem dX8_countPairs_14 : Dc cX8_countPairs 14 (.iload_n 2) 1 15 := ⟨by decide +kernel, rfl⟩
theorem dX8_countPairs_15 : Dc cX8_countPairs 15 (.iaload) 1 16 := ⟨by decide +kernel, rfl⟩
theorem dX8_countPairs_16 : Dc cX8_countPairs 16 (.isub) 1 17 := ⟨by decide +kernel, rfl⟩
theorem dX8_countPairs_17 : Dc cX8_countPairs 17 (.invokestatic 106) 3 20 := ⟨by decide +kernel, rfl⟩
theorem dX8_countPairs_20 : Dc cX8_countPairs 20 (.istore 4) 2 22 := ⟨by decide +kernel, rfl⟩
theorem dX8_countPairs_22 : Dc cX8_countPairs 22 (.aload_n 0) 1 23 := ⟨by decide +kernel, rfl⟩
theorem dX8_countPairs_23 : Dc cX8_countPairs 23 (.getfield 27) 3 26 := ⟨by decide +kernel, rfl⟩
theorem dX8_countPairs_26 : Dc cX8_countPairs 26 (.iload_n 1) 1 27 := ⟨by decide +kernel, rfl⟩
theorem dX8_countPairs_27 : Dc cX8_countPairs 27 (.iaload) 1 28 := ⟨by decide +kernel, rfl⟩
theorem dX8_countPairs_28 : Dc cX8_countPairs 28 (.iload_n 3) 1 29 := ⟨by decide +kernel, rfl⟩
theorem dX8_countPairs_29 : Dc cX8_countPairs 29 (.aload_n 0) 1 30 := ⟨by decide +kernel, rfl⟩
theorem dX8_countPairs_30 : Dc cX8_countPairs 30 (.getfield 19) 3 33 := ⟨by decide +kernel, rfl⟩
theorem dX8_countPairs_33 : Dc cX8_countPairs 33 (.getfield 74) 3 36 := ⟨by decide +kernel, rfl⟩
theorem dX8_countPairs_36 : Dc cX8_countPairs 36 (.iload_n 2) 1 37 := ⟨by decide +kernel, rfl⟩
theorem dX8_countPairs_37 : Dc cX8_countPairs 37 (.iaload) 1 38 := ⟨by decide +kernel, rfl⟩
theorem dX8_countPairs_38 : Dc cX8_countPairs 38 (.isub) 1 39 := ⟨by decide +kernel, rfl⟩
theorem dX8_countPairs_39 : Dc cX8_countPairs 39 (.invokestatic 116) 3 42 := ⟨by decide +kernel, rfl⟩
theorem dX8_countPairs_42 : Dc cX8_countPairs 42 (.istore 5) 2 44 := ⟨by decide +kernel, rfl⟩
theorem dX8_countPairs_44 : Dc cX8_countPairs 44 (.lconst 0) 1 45 := ⟨by decide +kernel, rfl⟩
theorem dX8_countPairs_45 : Dc cX8_countPairs 45 (.lstore 6) 2 47 := ⟨by decide +kernel, rfl⟩
theorem dX8_countPairs_47 : Dc cX8_countPairs 47 (.iload 4) 2 49 := ⟨by decide +kernel, rfl⟩
theorem dX8_countPairs_49 : Dc cX8_countPairs 49 (.istore 8) 2 51 := ⟨by decide +kernel, rfl⟩
theorem dX8_countPairs_51 : Dc cX8_countPairs 51 (.iload 8) 2 53 := ⟨by decide +kernel, rfl⟩
theorem dX8_countPairs_53 : Dc cX8_countPairs 53 (.iload 5) 2 55 := ⟨by decide +kernel, rfl⟩
theorem djX8_countPairs_55 : Dj cX8_countPairs 55 (.if_icmp .gt 58) 3 58 58 113 := ⟨by decide +kernel, rfl, by decide⟩
theorem dX8_countPairs_58 : Dc cX8_countPairs 58 (.aload_n 0) 1 59 := ⟨by decide +kernel, rfl⟩
theorem dX8_countPairs_59 : Dc cX8_countPairs 59 (.getfield 48) 3 62 := ⟨by decide +kernel, rfl⟩
theorem dX8_countPairs_62 : Dc cX8_countPairs 62 (.iload_n 1) 1 63 := ⟨by decide +kernel, rfl⟩
theorem dX8_countPairs_63 : Dc cX8_countPairs 63 (.sipush 301) 3 66 := ⟨by decide +kernel, rfl⟩
theorem dX8_countPairs_66 : Dc cX8_countPairs 66 (.imul) 1 67 := ⟨by decide +kernel, rfl⟩
theorem dX8_countPairs_67 : Dc cX8_countPairs 67 (.iload 8) 2 69 := ⟨by decide +kernel, rfl⟩
theorem dX8_countPairs_69 : Dc cX8_countPairs 69 (.iadd) 1 70 := ⟨by decide +kernel, rfl⟩
theorem dX8_countPairs_70 : Dc cX8_countPairs 70 (.laload) 1 71 := ⟨by decide +kernel, rfl⟩
theorem dX8_countPairs_71 : Dc cX8_countPairs 71 (.lstore 9) 2 73 := ⟨by decide +kernel, rfl⟩
theorem dX8_countPairs_73 : Dc cX8_countPairs 73 (.lload 9) 2 75 := ⟨by decide +kernel, rfl⟩
theorem dX8_countPairs_75 : Dc cX8_countPairs 75 (.lconst 0) 1 76 := ⟨by decide +kernel, rfl⟩
theorem dX8_countPairs_76 : Dc cX8_countPairs 76 (.lcmp) 1 77 := ⟨by decide +kernel, rfl⟩
theorem djX8_countPairs_77 : Dj cX8_countPairs 77 (.ifCond .eq 30) 3 80 30 107 := ⟨by decide +kernel, rfl, by decide⟩
theorem dX8_countPairs_80 : Dc cX8_countPairs 80 (.lload 6) 2 82 := ⟨by decide +kernel, rfl⟩
theorem dX8_countPairs_82 : Dc cX8_countPairs 82 (.lload 9) 2 84 := ⟨by decide +kernel, rfl⟩
theorem dX8_countPairs_84 : Dc cX8_countPairs 84 (.aload_n 0) 1 85 := ⟨by decide +kernel, rfl⟩
theorem dX8_countPairs_85 : Dc cX8_countPairs 85 (.getfield 48) 3 88 := ⟨by decide +kernel, rfl⟩
theorem dX8_countPairs_88 : Dc cX8_countPairs 88 (.iload_n 2) 1 89 := ⟨by decide +kernel, rfl⟩
theorem dX8_countPairs_89 : Dc cX8_countPairs 89 (.sipush 301) 3 92 := ⟨by decide +kernel, rfl⟩
theorem dX8_countPairs_92 : Dc cX8_countPairs 92 (.imul) 1 93 := ⟨by decide +kernel, rfl⟩
theorem dX8_countPairs_93 : Dc cX8_countPairs 93 (.iload_n 3) 1 94 := ⟨by decide +kernel, rfl⟩
theorem dX8_countPairs_94 : Dc cX8_countPairs 94 (.iadd) 1 95 := ⟨by decide +kernel, rfl⟩
theorem dX8_countPairs_95 : Dc cX8_countPairs 95 (.iload 8) 2 97 := ⟨by decide +kernel, rfl⟩
theorem dX8_countPairs_97 : Dc cX8_countPairs 97 (.isub) 1 98 := ⟨by decide +kernel, rfl⟩
theorem dX8_countPairs_98 : Dc cX8_countPairs 98 (.laload) 1 99 := ⟨by decide +kernel, rfl⟩
theorem dX8_countPairs_99 : Dc cX8_countPairs 99 (.invokestatic 119) 3 102 := ⟨by decide +kernel, rfl⟩
theorem dX8_countPairs_102 : Dc cX8_countPairs 102 (.invokestatic 62) 3 105 := ⟨by decide +kernel, rfl⟩
theorem dX8_countPairs_105 : Dc cX8_countPairs 105 (.lstore 6) 2 107 := ⟨by decide +kernel, rfl⟩
theorem dX8_countPairs_107 : Dc cX8_countPairs 107 (.iinc 8 1) 3 110 := ⟨by decide +kernel, rfl⟩
theorem djX8_countPairs_110 : Dj cX8_countPairs 110 (.goto (-59)) 3 113 (-59) 51 := ⟨by decide +kernel, rfl, by decide⟩
theorem dX8_countPairs_113 : Dc cX8_countPairs 113 (.lload 6) 2 115 := ⟨by decide +kernel, rfl⟩
theorem dX8_countPairs_115 : Dc cX8_countPairs 115 (.lreturn) 1 116 := ⟨by decide +kernel, rfl⟩
section
variable {p : Program} {l : Launch} {e : Env} {s : State} {m : MethodId} {args : Array Value} {below : List Frame} {meth : Method} {c : Code} {A0 : Nat → Prop} {D : va_G} {cA : Nat → ClassId} {ad : Nat → Nat} {Z : (Nat → Nat) × (Nat → Nat)} {Q : Int → St → Prop}
set_option maxHeartbeats 4000000 in
set_option maxRecDepth 100000 in
theorem t_X8_countPairs_b107 (E : Ev p s m args meth c cX8_countPairs 11 RX8 A0 D cA ad (NC true) Z) (hr : meth.sig.returnType = (some .long)) {K51 : Int → Int → Int → Int → Int → Int → St → Prop} (hK51 : ∀ (x1 : Int) (x2 : Int) (x3 : Int) (x5 : Int) (x6 : Int) (x8 : Int) (σ : St), C32 x1 → C32 x2 → C32 x3 → C32 x5 → C64 x6 → C32 x8 → CanS (shC true) (NC true) σ → K51 x1 x2 x3 x5 x6 x8 σ → G p l e (rmL 2 0 0) s m args below meth c 11 A0 D cA ad (shC true) (NC true) 0 0 (MQ below (QLc D cA ad (shC true) (NC true) Q A0) args s 0 0 A0) σ 51 [some (.ref (ad 76)), some (vI x1), some (vI x2), some (vI x3), none, some (vI x5), some (vL x6), none, some (vI x8), none, none] []) (x1 : Int) (x2 : Int) (x3 : Int) (x5 : Int) (x6 : Int) (x8 : Int) (σ : St) (c1 : C32 x1) (c2 : C32 x2) (c3 : C32 x3) (c5 : C32 x5) (c6 : C64 x6) (c8 : C32 x8) (hσ : CanS (shC true) (NC true) σ) (h : wp_X8_countPairs_b107 Q K51 x1 x2 x3 x5 x6 x8 σ) : G p l e (rmL 2 0 0) s m args below meth c 11 A0 D cA ad (shC true) (NC true) 0 0 (MQ below (QLc D cA ad (shC true) (NC true) Q A0) args s 0 0 A0) σ 107 [some (.ref (ad 76)), some (vI x1), some (vI x2), some (vI x3), none, some (vI x5), some (vL x6), none, some (vI x8), none, none] [] := by
  unfold wp_X8_countPairs_b107 at h
  refine g_iinc_8 E rfl (by decide) dX8_countPairs_107 (fun v8 ev8 => ?_)
  replace h := h v8 ev8
  have cv8 : C32 v8 := by rw [ev8]; exact c32_w _
  refine g_goto E djX8_countPairs_110 ?_
  exact (hK51 x1 x2 x3 x5 x6 v8 σ c1 c2 c3 c5 c6 cv8 hσ h).weak (w_k (w_k (w_k (w_k (w_d (w_k (w_k (w_d (w_k (w_d (w_d w_n)))))))))))
set_option maxHeartbeats 4000000 in
set_option maxRecDepth 100000 in
theorem t_X8_countPairs_l51 (E : Ev p s m args meth c cX8_countPairs 11 RX8 A0 D cA ad (NC true) Z) (hr : meth.sig.returnType = (some .long)) : ∀ (n : Nat) (x1 : Int) (x2 : Int) (x3 : Int) (x5 : Int) (x6 : Int) (x8 : Int) (σ : St), C32 x1 → C32 x2 → C32 x3 → C32 x5 → C64 x6 → C32 x8 → CanS (shC true) (NC true) σ → wp_X8_countPairs_l51 Q n x1 x2 x3 x5 x6 x8 σ → G p l e (rmL 2 0 0) s m args below meth c 11 A0 D cA ad (shC true) (NC true) 0 0 (MQ below (QLc D cA ad (shC true) (NC true) Q A0) args s 0 0 A0) σ 51 [some (.ref (ad 76)), some (vI x1), some (vI x2), some (vI x3), none, some (vI x5), some (vL x6), none, some (vI x8), none, none] [] := by
  intro n
  induction n with
  | zero => intro _ _ _ _ _ _ _ _ _ _ _ _ _ _ h; exact h.elim
  | succ n ih =>
    intro x1 x2 x3 x5 x6 x8 σ c1 c2 c3 c5 c6 c8 hσ h
    unfold wp_X8_countPairs_l51 at h
    refine g_iload_8 E dX8_countPairs_51 ?_
    refine g_iload_5 E dX8_countPairs_53 ?_
    refine g_icmp_gt E c8 c5 djX8_countPairs_55 (fun hc => ?_) (fun hc => ?_)
    · replace h := h.1 hc
      refine g_lload_6 E dX8_countPairs_113 ?_
      exact g_lret E hr c6 h hσ dX8_countPairs_115
    · replace h := h.2 hc
      refine g_aload_0 E dX8_countPairs_58 ?_
      refine g_getR E fl_RX8_48 (kC_76 true) sC_76t rfl dX8_countPairs_59 ?_
      refine g_iload_1 E dX8_countPairs_62 ?_
      refine g_sipush E (by decide) dX8_countPairs_63 ?_
      refine g_imul E dX8_countPairs_66 ?_
      refine g_iload_8 E dX8_countPairs_67 ?_
      refine g_iadd E dX8_countPairs_69 ?_
      refine g_lald E (kC_83 true) (sC_83 true) (by decide) h.1 dX8_countPairs_70 ?_
      replace h := h.2
      refine g_nmL (fun v3 ev3 => ?_)
      replace h := h v3 ev3
      have cv3 : C64 v3 := by rw [ev3]; exact (aC_83 hσ _)
      refine g_lstore_9 E rfl (by decide) dX8_countPairs_71 ?_
      refine g_lload_9 E dX8_countPairs_73 ?_
      refine g_lconst (n := 0) E (by decide) dX8_countPairs_75 ?_
      refine g_lcmp_eq E cv3 cL_0 dX8_countPairs_76 djX8_countPairs_77 (fun hc => ?_) (fun hc => ?_)
      · replace h := h.1 hc
        exact (t_X8_countPairs_b107 E hr ih x1 x2 x3 x5 x6 x8 σ c1 c2 c3 c5 c6 c8 hσ h).weak (w_k (w_k (w_k (w_k (w_d (w_k (w_k (w_d (w_k (w_d (w_d w_n)))))))))))
      · replace h := h.2 hc
        refine g_lload_6 E dX8_countPairs_80 ?_
        refine g_lload_9 E dX8_countPairs_82 ?_
        refine g_aload_0 E dX8_countPairs_84 ?_
        refine g_getR E fl_RX8_48 (kC_76 true) sC_76t rfl dX8_countPairs_85 ?_
        refine g_iload_2 E dX8_countPairs_88 ?_
        refine g_sipush E (by decide) dX8_countPairs_89 ?_
        refine g_imul E dX8_countPairs_92 ?_
        refine g_iload_3 E dX8_countPairs_93 ?_
        refine g_iadd E dX8_countPairs_94 ?_
        refine g_iload_8 E dX8_countPairs_95 ?_
        refine g_isub E dX8_countPairs_97 ?_
        refine g_lald E (kC_83 true) (sC_83 true) (by decide) h.1 dX8_countPairs_98 ?_
        replace h := h.2
        refine g_callsL E my_X8_multiply ms_X8_multiply ml_RX8_119 (rm_ok (by decide) (by decide)) ⟨Nat.zero_le _, Nat.zero_le _⟩ (m_X8_multiply E.2.2.1 cv3 (aC_83 hσ _) hσ h) rfl rfl (Nat.le_of_ble_eq_true rfl) dX8_countPairs_99 (fun r4 σ5 cr4 hσ5 h => ?_)
        refine g_callsL E my_X8_add ms_X8_add ml_RX8_62 (rm_ok (by decide) (by decide)) ⟨Nat.zero_le _, Nat.zero_le _⟩ (m_X8_add E.2.2.1 c6 cr4 hσ5 h) rfl rfl (Nat.le_of_ble_eq_true rfl) dX8_countPairs_102 (fun r6 σ7 cr6 hσ7 h => ?_)
        refine g_lstore_6 E rfl (by decide) dX8_countPairs_105 ?_
        exact (t_X8_countPairs_b107 E hr ih x1 x2 x3 x5 r6 x8 σ7 c1 c2 c3 c5 cr6 c8 hσ7 h).weak (w_k (w_k (w_k (w_k (w_d (w_k (w_k (w_d (w_k (w_d (w_d w_n)))))))))))
set_option maxHeartbeats 4000000 in
set_option maxRecDepth 100000 in
theorem t_X8_countPairs (E : Ev p s m args meth c cX8_countPairs 11 RX8 A0 D cA ad (NC true) Z) (hr : meth.sig.returnType = (some .long)) (x1 : Int) (x2 : Int) (x3 : Int) (σ : St) (c1 : C32 x1) (c2 : C32 x2) (c3 : C32 x3) (hσ : CanS (shC true) (NC true) σ) (h : wp_X8_countPairs x1 x2 x3 σ Q) : G p l e (rmL 2 0 0) s m args below meth c 11 A0 D cA ad (shC true) (NC true) 0 0 (MQ below (QLc D cA ad (shC true) (NC true) Q A0) args s 0 0 A0) σ 0 [some (.ref (ad 76)), some (vI x1), some (vI x2), some (vI x3), none, none, none, none, none, none, none] [] := by
  unfold wp_X8_countPairs at h
  refine g_aload_0 E dX8_countPairs_0 ?_
  refine g_getR E fl_RX8_19 (kC_76 true) sC_76t rfl dX8_countPairs_1 ?_
  refine g_getR E fl_RX8_74 (kC_36 true) (sC_36 true) rfl dX8_countPairs_4 ?_
  refine g_iload_1 E dX8_countPairs_7 ?_
  refine g_iald E (kC_37 true) (sC_37 true) (by decide) h.1 dX8_countPairs_8 ?_
  replace h := h.2
  refine g_iload_3 E dX8_countPairs_9 ?_
  refine g_aload_0 E dX8_countPairs_10 ?_
  refine g_getR E fl_RX8_27 (kC_76 true) sC_76t rfl dX8_countPairs_11 ?_
  refine g_iload_2 E dX8_countPairs_14 ?_
  refine g_iald E (kC_78 true) (sC_78 true) (by decide) h.1 dX8_countPairs_15 ?_
  replace h := h.2
  refine g_isub E dX8_countPairs_16 ?_
  refine g_mmax E ml_RX8_106 (aC_37 hσ _) (c32_w _) (Nat.le_of_ble_eq_true rfl) (rm_1 2) ⟨Nat.zero_le _, Nat.zero_le _⟩ dX8_countPairs_17 ?_
  refine g_nmI (fun v1 ev1 => ?_)
  replace h := h v1 ev1
  have cv1 : C32 v1 := by rw [ev1]; exact (c32_max (aC_37 hσ _) (c32_w _))
  refine g_istore_4 E rfl (by decide) dX8_countPairs_20 ?_
  refine g_aload_0 E dX8_countPairs_22 ?_
  refine g_getR E fl_RX8_27 (kC_76 true) sC_76t rfl dX8_countPairs_23 ?_
  refine g_iload_1 E dX8_countPairs_26 ?_
  refine g_iald E (kC_78 true) (sC_78 true) (by decide) h.1 dX8_countPairs_27 ?_
  replace h := h.2
  refine g_iload_3 E dX8_countPairs_28 ?_
  refine g_aload_0 E dX8_countPairs_29 ?_
  refine g_getR E fl_RX8_19 (kC_76 true) sC_76t rfl dX8_countPairs_30 ?_
  refine g_getR E fl_RX8_74 (kC_36 true) (sC_36 true) rfl dX8_countPairs_33 ?_
  refine g_iload_2 E dX8_countPairs_36 ?_
  refine g_iald E (kC_37 true) (sC_37 true) (by decide) h.1 dX8_countPairs_37 ?_
  replace h := h.2
  refine g_isub E dX8_countPairs_38 ?_
  refine g_mmin E ml_RX8_116 (aC_78 hσ _) (c32_w _) (Nat.le_of_ble_eq_true rfl) (rm_1 2) ⟨Nat.zero_le _, Nat.zero_le _⟩ dX8_countPairs_39 ?_
  refine g_nmI (fun v2 ev2 => ?_)
  replace h := h v2 ev2
  have cv2 : C32 v2 := by rw [ev2]; exact (c32_min (aC_78 hσ _) (c32_w _))
  refine g_istore_5 E rfl (by decide) dX8_countPairs_42 ?_
  refine g_lconst (n := 0) E (by decide) dX8_countPairs_44 ?_
  refine g_lstore_6 E rfl (by decide) dX8_countPairs_45 ?_
  refine g_iload_4 E dX8_countPairs_47 ?_
  refine g_istore_8 E rfl (by decide) dX8_countPairs_49 ?_
  exact (t_X8_countPairs_l51 E hr bigN x1 x2 x3 v2 0 v1 σ c1 c2 c3 cv2 cL_0 cv1 hσ h).weak (w_k (w_k (w_k (w_k (w_d (w_k (w_k (w_d (w_k (w_d (w_d w_n)))))))))))
end
theorem m_X8_countPairs {Z : (Nat → Nat) × (Nat → Nat)} {l : Launch} {D : va_G} {cA : Nat → ClassId} {ad : Nat → Nat} {x1 x2 x3 : Int} {σ : St} {Q : Int → St → Prop} (hA : AdOk (NC true) ad) (c1 : C32 x1) (c2 : C32 x2) (c3 : C32 x3) (hσ : CanS (shC true) (NC true) σ) (h : wp_X8_countPairs x1 x2 x3 σ Q) : KtL Z l D cA ad (shC true) (NC true) yX8_countPairs cX8_countPairs 11 (some .long) 2 [.ref (ad 76), vI x1, vI x2, vI x3] σ Q :=
  KtL.of my_X8_countPairs hA [some (.ref (ad 76)), some (vI x1), some (vI x2), some (vI x3), none, none, none, none, none, none, none] (Nat.le_of_ble_eq_true rfl) rfl (fun p e s m args below meth c A0 E hr => t_X8_countPairs E hr x1 x2 x3 σ c1 c2 c3 hσ h)
