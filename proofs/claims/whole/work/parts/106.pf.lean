theorem dX11_rounds_0 : Dc cX11_rounds 0 (.aload_n 0) 1 1 := ⟨by decide +kernel, rfl⟩
theorem dX11_rounds_1 : Dc cX11_rounds 1 (.getfield 69) 3 4 := ⟨by decide +kernel, rfl⟩
theorem dX11_rounds_4 : Dc cX11_rounds 4 (.invokevirtual 259) 3 7 := ⟨by decide +kernel, rfl⟩
theorem dX11_rounds_7 : Dc cX11_rounds 7 (.ireturn) 1 8 := ⟨by decide +kernel, rfl⟩
section
variable {p : Program} {l : Launch} {e : Env} {s : State} {m : MethodId} {args : Array Value} {below : List Frame} {meth : Method} {c : Code} {A0 : Nat → Prop} {D : va_G} {cA : Nat → ClassId} {ad : Nat → Nat} {Z : (Nat → Nat) × (Nat → Nat)} {Q : Int → St → Prop} {b : Bool}
set_option maxHeartbeats 4000000 in
set_option maxRecDepth 100000 in
theorem t_X11_rounds (E : Ev p s m args meth c cX11_rounds 1 RX11 A0 D cA ad (NC b) Z) (hr : meth.sig.returnType = (some .int)) (σ : St) (hσ : CanS (shC b) (NC b) σ) (h : wp_X11_rounds  σ Q) : G p l e (rmL 6 0 0) s m args below meth c 1 A0 D cA ad (shC b) (NC b) 0 0 (MQ below (QIc D cA ad (shC b) (NC b) Q A0) args s 0 0 A0) σ 0 [some (.ref (ad 0))] [] := by
  unfold wp_X11_rounds at h
  refine g_aload_0 E dX11_rounds_0 ?_
  refine g_getR E fl_RX11_69 (kC_0 b) (sC_0 b) rfl dX11_rounds_1 ?_
  refine g_callvI E my_X9_roundsTaken mi_X9_roundsTaken msel_X9_roundsTaken ml_RX11_259 (rm_ok (by decide) (by decide)) ⟨Nat.zero_le _, Nat.zero_le _⟩ (kC_50 b) (sC_50 b) rfl (m_X9_roundsTaken E.2.2.1 hσ h) rfl rfl (Nat.le_of_ble_eq_true rfl) dX11_rounds_4 (fun r1 σ2 cr1 hσ2 h => ?_)
  exact g_iret E hr cr1 h hσ2 dX11_rounds_7
end
theorem m_X11_rounds {Z : (Nat → Nat) × (Nat → Nat)} {l : Launch} {D : va_G} {cA : Nat → ClassId} {ad : Nat → Nat} {b : Bool} {σ : St} {Q : Int → St → Prop} (hA : AdOk (NC b) ad) (hσ : CanS (shC b) (NC b) σ) (h : wp_X11_rounds  σ Q) : KtI Z l D cA ad (shC b) (NC b) yX11_rounds cX11_rounds 1 (some .int) 6 [.ref (ad 0)] σ Q :=
  KtI.of my_X11_rounds hA [some (.ref (ad 0))] (Nat.le_of_ble_eq_true rfl) rfl (fun p e s m args below meth c A0 E hr => t_X11_rounds E hr σ hσ h)
theorem dX9_meetAll_0 : Dc cX9_meetAll 0 (.iconst 0) 1 1 := ⟨by decide +kernel, rfl⟩
theorem dX9_meetAll_1 : Dc cX9_meetAll 1 (.istore_n 1) 1 2 := ⟨by decide +kernel, rfl⟩
theorem dX9_meetAll_2 : Dc cX9_meetAll 2 (.iload_n 1) 1 3 := ⟨by decide +kernel, rfl⟩
theorem dX9_meetAll_3 : Dc cX9_meetAll 3 (.iconst 5) 1 4 := ⟨by decide +kernel, rfl⟩
theorem djX9_meetAll_4 : Dj cX9_meetAll 4 (.if_icmp .ge 42) 3 7 42 46 := ⟨by decide +kernel, rfl, by decide⟩
theorem dX9_meetAll_7 : Dc cX9_meetAll 7 (.aload_n 0) 1 8 := ⟨by decide +kernel, rfl⟩
theorem dX9_meetAll_8 : Dc cX9_meetAll 8 (.getfield 26) 3 11 := ⟨by decide +kernel, rfl⟩
theorem dX9_meetAll_11 : Dc cX9_meetAll 11 (.iload_n 1) 1 12 := ⟨by decide +kernel, rfl⟩
theorem dX9_meetAll_12 : Dc cX9_meetAll 12 (.iload_n 1) 1 13 := ⟨by decide +kernel, rfl⟩
theorem dX9_meetAll_13 : Dc cX9_meetAll 13 (.aload_n 0) 1 14 := ⟨by decide +kernel, rfl⟩
theorem dX9_meetAll_14 : Dc cX9_meetAll 14 (.getfield 9) 3 17 := ⟨by decide +kernel, rfl⟩
theorem dX9_meetAll_17 : Dc cX9_meetAll 17 (.getfield 47) 3 20 := ⟨by decide +kernel, rfl⟩
theorem djX9_meetAll_20 : Dj cX9_meetAll 20 (.if_icmp .eq 14) 3 23 14 34 := ⟨by decide +kernel, rfl, by decide⟩
theorem dX9_meetAll_23 : Dc cX9_meetAll 23 (.iload_n 1) 1 24 := ⟨by decide +kernel, rfl⟩
theorem dX9_meetAll_24 : Dc cX9_meetAll 24 (.aload_n 0) 1 25 := ⟨by decide +kernel, rfl⟩
theorem dX9_meetAll_25 : Dc cX9_meetAll 25 (.getfield 9) 3 28 := ⟨by decide +kernel, rfl⟩
theorem dX9_meetAll_28 : Dc cX9_meetAll 28 (.getfield 106) 3 31 := ⟨by decide +kernel, rfl⟩
theorem djX9_meetAll_31 : Dj cX9_meetAll 31 (.if_icmp .ne 7) 3 34 7 38 := ⟨by decide +kernel, rfl, by decide⟩
theorem dX9_meetAll_34 : Dc cX9_meetAll 34 (.iconst 1) 1 35 := ⟨by decide +kernel, rfl⟩
theorem djX9_meetAll_35 : Dj cX9_meetAll 35 (.goto 4) 3 38 4 39 := ⟨by decide +kernel, rfl, by decide⟩
theorem dX9_meetAll_38 : Dc cX9_meetAll 38 (.iconst 0) 1 39 := ⟨by decide +kernel, rfl⟩
theorem dX9_meetAll_39 : Dc cX9_meetAll 39 (.bastore) 1 40 := ⟨by decide +kernel, rfl⟩
theorem dX9_meetAll_40 : Dc cX9_meetAll 40 (.iinc 1 1) 3 43 := ⟨by decide +kernel, rfl⟩
theorem djX9_meetAll_43 : Dj cX9_meetAll 43 (.goto (-41)) 3 46 (-41) 2 := ⟨by decide +kernel, rfl, by decide⟩
theorem dX9_meetAll_46 : Dc cX9_meetAll 46 (.iconst 0) 1 47 := ⟨by decide +kernel, rfl⟩
theorem dX9_meetAll_47 : Dc cX9_meetAll 47 (.istore_n 1) 1 48 := ⟨by decide +kernel, rfl⟩
theorem dX9_meetAll_48 : Dc cX9_meetAll 48 (.iload_n 1) 1 49 := ⟨by decide +kernel, rfl⟩
theorem dX9_meetAll_49 : Dc cX9_meetAll 49 (.aload_n 0) 1 50 := ⟨by decide +kernel, rfl⟩
theorem dX9_meetAll_50 : Dc cX9_meetAll 50 (.getfield 15) 3 53 := ⟨by decide +kernel, rfl⟩
theorem dX9_meetAll_53 : Dc cX9_meetAll 53 (.invokevirtual 62) 3 56 := ⟨by decide +kernel, rfl⟩
theorem djX9_meetAll_56 : Dj cX9_meetAll 56 (.if_icmp .ge 21) 3 59 21 77 := ⟨by decide +kernel, rfl, by decide⟩
theorem dX9_meetAll_59 : Dc cX9_meetAll 59 (.aload_n 0) 1 60 := ⟨by decide +kernel, rfl⟩
theorem dX9_meetAll_60 : Dc cX9_meetAll 60 (.getfield 26) 3 63 := ⟨by decide +kernel, rfl⟩
theorem dX9_meetAll_63 : Dc cX9_meetAll 63 (.aload_n 0) 1 64 := ⟨by decide +kernel, rfl⟩
theorem dX9_meetAll_64 : Dc cX9_meetAll 64 (.getfield 19) 3 67 := ⟨by decide +kernel, rfl⟩
theorem dX9_meetAll_67 : Dc cX9_meetAll 67 (.iload_n 1) 1 68 := ⟨by decide +kernel, rfl⟩
theorem dX9_meetAll_68 : Dc cX9_meetAll 68 (.iaload) 1 69 := ⟨by decide +kernel, rfl⟩
theorem dX9_meetAll_69 : Dc cX9_meetAll 69 (.iconst 1) 1 70 := ⟨by decide +kernel, rfl⟩
theorem dX9_meetAll_70 : Dc cX9_meetAll 70 (.bastore) 1 71 := ⟨by decide +kernel, rfl⟩
theorem dX9_meetAll_71 : Dc cX9_meetAll 71 (.iinc 1 1) 3 74 := ⟨by decide +kernel, rfl⟩
theorem djX9_meetAll_74 : Dj cX9_meetAll 74 (.goto (-26)) 3 77 (-26) 48 := ⟨by decide +kernel, rfl, by decide⟩
theorem dX9_meetAll_77 : Dc cX9_meetAll 77 (.iconst 0) 1 78 := ⟨by decide +kernel, rfl⟩
theorem dX9_meetAll_78 : Dc cX9_meetAll 78 (.istore_n 1) 1 79 := ⟨by decide +kernel, rfl⟩
theorem dX9_meetAll_79 : Dc cX9_meetAll 79 (.iload_n 1) 1 80 := ⟨by decide +kernel, rfl⟩
theorem dX9_meetAll_80 : Dc cX9_meetAll 80 (.aload_n 0) 1 81 := ⟨by decide +kernel, rfl⟩
theorem dX9_meetAll_81 : Dc cX9_meetAll 81 (.getfield 9) 3 84 := ⟨by decide +kernel, rfl⟩
theorem dX9_meetAll_84 : Dc cX9_meetAll 84 (.getfield 121) 3 87 := ⟨by decide +kernel, rfl⟩
theorem djX9_meetAll_87 : Dj cX9_meetAll 87 (.if_icmp .ge 36) 3 90 36 123 := ⟨by decide +kernel, rfl, by decide⟩
theorem dX9_meetAll_90 : Dc cX9_meetAll 90 (.aload_n 0) 1 91 := ⟨by decide +kernel, rfl⟩
theorem dX9_meetAll_91 : Dc cX9_meetAll 91 (.getfield 9) 3 94 := ⟨by decide +kernel, rfl⟩
theorem dX9_meetAll_94 : Dc cX9_meetAll 94 (.getfield 124) 3 97 := ⟨by decide +kernel, rfl⟩
theorem dX9_meetAll_97 : Dc cX9_meetAll 97 (.iload_n 1) 1 98 := ⟨by decide +kernel, rfl⟩
theorem dX9_meetAll_98 : Dc cX9_meetAll 98 (.baload) 1 99 := ⟨by decide +kernel, rfl⟩
theorem djX9_meetAll_99 : Dj cX9_meetAll 99 (.ifCond .ne 18) 3 102 18 117 := ⟨by decide +kernel, rfl, by decide⟩
theorem dX9_meetAll_102 : Dc cX9_meetAll 102 (.aload_n 0) 1 103 := ⟨by decide +kernel, rfl⟩
theorem dX9_meetAll_103 : Dc cX9_meetAll 103 (.getfield 26) 3 106 := ⟨by decide +kernel, rfl⟩
theorem dX9_meetAll_106 : Dc cX9_meetAll 106 (.aload_n 0) 1 107 := ⟨by decide +kernel, rfl⟩
theorem dX9_meetAll_107 : Dc cX9_meetAll 107 (.getfield 9) 3 110 := ⟨by decide +kernel, rfl⟩
theorem dX9_meetAll_110 : Dc cX9_meetAll 110 (.getfield 81) 3 113 := ⟨by decide +kernel, rfl⟩
theorem dX9_meetAll_113 : Dc cX9_meetAll 113 (.iload_n 1) 1 114 := ⟨by decide +kernel, rfl⟩
theorem dX9_meetAll_114 : Dc cX9_meetAll 114 (.iaload) 1 115 := ⟨by decide +kernel, rfl⟩
theorem dX9_meetAll_115 : Dc cX9_meetAll 115 (.iconst 1) 1 116 := ⟨by decide +kernel, rfl⟩
theorem dX9_meetAll_116 : Dc cX9_meetAll 116 (.bastore) 1 117 := ⟨by decide +kernel, rfl⟩
theorem dX9_meetAll_117 : Dc cX9_meetAll 117 (.iinc 1 1) 3 120 := ⟨by decide +kernel, rfl⟩
theorem djX9_meetAll_120 : Dj cX9_meetAll 120 (.goto (-41)) 3 123 (-41) 79 := ⟨by decide +kernel, rfl, by decide⟩
theorem dX9_meetAll_123 : Dc cX9_meetAll 123 (.return_) 1 124 := ⟨by decide +kernel, rfl⟩
section
variable {p : Program} {l : Launch} {e : Env} {s : State} {m : MethodId} {args : Array Value} {below : List Frame} {meth : Method} {c : Code} {A0 : Nat → Prop} {D : va_G} {cA : Nat → ClassId} {ad : Nat → Nat} {Z : (Nat → Nat) × (Nat → Nat)} {Q : Int → St → Prop} {b : Bool}
set_option maxHeartbeats 4000000 in
set_option maxRecDepth 100000 in
theorem t_X9_meetAll_b39 (E : Ev p s m args meth c cX9_meetAll 2 RX9 A0 D cA ad (NC b) Z) (hr : meth.sig.returnType = none) {K2 : Int → St → Prop} (hK2 : ∀ (x1 : Int) (σ : St), C32 x1 → CanS (shC b) (NC b) σ → K2 x1 σ → G p l e (rmL 2 0 0) s m args below meth c 2 A0 D cA ad (shC b) (NC b) 0 0 (MQ below (QVc D cA ad (shC b) (NC b) Q A0) args s 0 0 A0) σ 2 [some (.ref (ad 50)), some (vI x1)] []) (x1 : Int) (s0 : Int) (s1 : Int) (σ : St) (c1 : C32 x1) (cs0 : C32 s0) (cs1 : C32 s1) (hσ : CanS (shC b) (NC b) σ) (h : wp_X9_meetAll_b39 Q K2 x1 s0 s1 σ) : G p l e (rmL 2 0 0) s m args below meth c 2 A0 D cA ad (shC b) (NC b) 0 0 (MQ below (QVc D cA ad (shC b) (NC b) Q A0) args s 0 0 A0) σ 39 [some (.ref (ad 50)), some (vI x1)] [vI s0, vI s1, .ref (ad 53)] := by
  unfold wp_X9_meetAll_b39 at h
  refine g_zast E (kC_53 b) (sC_53 b) (by decide) h.1 dX9_meetAll_39 (g_nmS (fun σ5 eσ5 => ?_))
  replace h := h.2 σ5 eσ5
  have hσ5 : CanS (shC b) (NC b) σ5 := by rw [eσ5]; exact wC_53 hσ (c32_t _)
  refine g_iinc_1 E rfl (by decide) dX9_meetAll_40 (fun v6 ev6 => ?_)
  replace h := h v6 ev6
  have cv6 : C32 v6 := by rw [ev6]; exact c32_w _
  refine g_goto E djX9_meetAll_43 ?_
  exact (hK2 v6 σ5 cv6 hσ5 h).weak (w_k (w_k w_n))
set_option maxHeartbeats 4000000 in
set_option maxRecDepth 100000 in
theorem t_X9_meetAll_b34 (E : Ev p s m args meth c cX9_meetAll 2 RX9 A0 D cA ad (NC b) Z) (hr : meth.sig.returnType = none) {K2 : Int → St → Prop} (hK2 : ∀ (x1 : Int) (σ : St), C32 x1 → CanS (shC b) (NC b) σ → K2 x1 σ → G p l e (rmL 2 0 0) s m args below meth c 2 A0 D cA ad (shC b) (NC b) 0 0 (MQ below (QVc D cA ad (shC b) (NC b) Q A0) args s 0 0 A0) σ 2 [some (.ref (ad 50)), some (vI x1)] []) (x1 : Int) (s0 : Int) (σ : St) (c1 : C32 x1) (cs0 : C32 s0) (hσ : CanS (shC b) (NC b) σ) (h : wp_X9_meetAll_b34 Q K2 x1 s0 σ) : G p l e (rmL 2 0 0) s m args below meth c 2 A0 D cA ad (shC b) (NC b) 0 0 (MQ below (QVc D cA ad (shC b) (NC b) Q A0) args s 0 0 A0) σ 34 [some (.ref (ad 50)), some (vI x1)] [vI s0, .ref (ad 53)] := by
  unfold wp_X9_meetAll_b34 at h
  refine g_iconst E dX9_meetAll_34 ?_
  refine g_goto E djX9_meetAll_35 ?_
  exact (t_X9_meetAll_b39 E hr hK2 x1 1 s0 σ c1 cl_1 cs0 hσ h).weak (w_k (w_k w_n))
set_option maxHeartbeats 4000000 in
set_option maxRecDepth 100000 in
theorem t_X9_meetAll_b117 (E : Ev p s m args meth c cX9_meetAll 2 RX9 A0 D cA ad (NC b) Z) (hr : meth.sig.returnType = none) {K79 : Int → St → Prop} (hK79 : ∀ (x1 : Int) (σ : St), C32 x1 → CanS (shC b) (NC b) σ → K79 x1 σ → G p l e (rmL 2 0 0) s m args below meth c 2 A0 D cA ad (shC b) (NC b) 0 0 (MQ below (QVc D cA ad (shC b) (NC b) Q A0) args s 0 0 A0) σ 79 [some (.ref (ad 50)), some (vI x1)] []) (x1 : Int) (σ : St) (c1 : C32 x1) (hσ : CanS (shC b) (NC b) σ) (h : wp_X9_meetAll_b117 Q K79 x1 σ) : G p l e (rmL 2 0 0) s m args below meth c 2 A0 D cA ad (shC b) (NC b) 0 0 (MQ below (QVc D cA ad (shC b) (NC b) Q A0) args s 0 0 A0) σ 117 [some (.ref (ad 50)), some (vI x1)] [] := by
  unfold wp_X9_meetAll_b117 at h
  refine g_iinc_1 E rfl (by decide) dX9_meetAll_117 (fun v8 ev8 => ?_)
  replace h := h v8 ev8
  have cv8 : C32 v8 := by rw [ev8]; exact c32_w _
  refine g_goto E djX9_meetAll_120 ?_
  exact (hK79 v8 σ cv8 hσ h).weak (w_k (w_k w_n))
set_option maxHeartbeats 4000000 in
set_option maxRecDepth 100000 in
theorem t_X9_meetAll_l79 (E : Ev p s m args meth c cX9_meetAll 2 RX9 A0 D cA ad (NC b) Z) (hr : meth.sig.returnType = none) : ∀ (n : Nat) (x1 : Int) (σ : St), C32 x1 → CanS (shC b) (NC b) σ → wp_X9_meetAll_l79 Q n x1 σ → G p l e (rmL 2 0 0) s m args below meth c 2 A0 D cA ad (shC b) (NC b) 0 0 (MQ below (QVc D cA ad (shC b) (NC b) Q A0) args s 0 0 A0) σ 79 [some (.ref (ad 50)), some (vI x1)] [] := by
  intro n
  induction n with
  | zero => intro _ _ _ _ h; exact h.elim
  | succ n ih =>
    intro x1 σ c1 hσ h
    unfold wp_X9_meetAll_l79 at h
    refine g_iload_1 E dX9_meetAll_79 ?_
    refine g_aload_0 E dX9_meetAll_80 ?_
    refine g_getR E fl_RX9_9 (kC_50 b) (sC_50 b) rfl dX9_meetAll_81 ?_
    refine g_getI E fl_RX9_121 (kC_14 b) (sC_14 b) rfl dX9_meetAll_84 ?_
    refine g_icmp_ge E c1 (fC_14_0 hσ) djX9_meetAll_87 (fun hc => ?_) (fun hc => ?_)
    · replace h := h.1 hc
      exact g_vret E hr h hσ dX9_meetAll_123
    · replace h := h.2 hc
      refine g_aload_0 E dX9_meetAll_90 ?_
      refine g_getR E fl_RX9_9 (kC_50 b) (sC_50 b) rfl dX9_meetAll_91 ?_
      refine g_getR E fl_RX9_124 (kC_14 b) (sC_14 b) rfl dX9_meetAll_94 ?_
      refine g_iload_1 E dX9_meetAll_97 ?_
      refine g_zald E (kC_20 b) (sC_20 b) (by decide) h.1 dX9_meetAll_98 ?_
      replace h := h.2
      refine g_if_ne E (aC_20 hσ _) djX9_meetAll_99 (fun hc => ?_) (fun hc => ?_)
      · replace h := h.1 hc
        exact (t_X9_meetAll_b117 E hr ih x1 σ c1 hσ h).weak (w_k (w_k w_n))
      · replace h := h.2 hc
        refine g_aload_0 E dX9_meetAll_102 ?_
        refine g_getR E fl_RX9_26 (kC_50 b) (sC_50 b) rfl dX9_meetAll_103 ?_
        refine g_aload_0 E dX9_meetAll_106 ?_
        refine g_getR E fl_RX9_9 (kC_50 b) (sC_50 b) rfl dX9_meetAll_107 ?_
        refine g_getR E fl_RX9_81 (kC_14 b) (sC_14 b) rfl dX9_meetAll_110 ?_
        refine g_iload_1 E dX9_meetAll_113 ?_
        refine g_iald E (kC_19 b) (sC_19 b) (by decide) h.1 dX9_meetAll_114 ?_
        replace h := h.2
        refine g_iconst E dX9_meetAll_115 ?_
        refine g_zast E (kC_53 b) (sC_53 b) (by decide) h.1 dX9_meetAll_116 (g_nmS (fun σ7 eσ7 => ?_))
        replace h := h.2 σ7 eσ7
        have hσ7 : CanS (shC b) (NC b) σ7 := by rw [eσ7]; exact wC_53 hσ (c32_t _)
        exact (t_X9_meetAll_b117 E hr ih x1 σ7 c1 hσ7 h).weak (w_k (w_k w_n))
set_option maxHeartbeats 4000000 in
set_option maxRecDepth 100000 in
theorem t_X9_meetAll_l48 (E : Ev p s m args meth c cX9_meetAll 2 RX9 A0 D cA ad (NC b) Z) (hr : meth.sig.returnType = none) : ∀ (n : Nat) (x1 : Int) (σ : St), C32 x1 → CanS (shC b) (NC b) σ → wp_X9_meetAll_l48 Q n x1 σ → G p l e (rmL 2 0 0) s m args below meth c 2 A0 D cA ad (shC b) (NC b) 0 0 (MQ below (QVc D cA ad (shC b) (NC b) Q A0) args s 0 0 A0) σ 48 [some (.ref (ad 50)), some (vI x1)] [] := by
  intro n
  induction n with
  | zero => intro _ _ _ _ h; exact h.elim
  | succ n ih =>
    intro x1 σ c1 hσ h
    unfold wp_X9_meetAll_l48 at h
    refine g_iload_1 E dX9_meetAll_48 ?_
    refine g_aload_0 E dX9_meetAll_49 ?_
    refine g_getR E fl_RX9_15 (kC_50 b) (sC_50 b) rfl dX9_meetAll_50 ?_
    refine g_callvI E my_X0_itemCount mi_X0_itemCount msel_X0_itemCount ml_RX9_62 (rm_ok (by decide) (by decide)) ⟨Nat.zero_le _, Nat.zero_le _⟩ (kC_24 b) (sC_24 b) rfl (m_X0_itemCount E.2.2.1 hσ h) rfl rfl (Nat.le_of_ble_eq_true rfl) dX9_meetAll_53 (fun r1 σ2 cr1 hσ2 h => ?_)
    refine g_icmp_ge E c1 cr1 djX9_meetAll_56 (fun hc => ?_) (fun hc => ?_)
    · replace h := h.1 hc
      refine g_iconst E dX9_meetAll_77 ?_
      refine g_istore_1 E rfl (by decide) dX9_meetAll_78 ?_
      exact (t_X9_meetAll_l79 E hr bigN 0 σ2 cl_0 hσ2 h).weak (w_k (w_k w_n))
    · replace h := h.2 hc
      refine g_aload_0 E dX9_meetAll_59 ?_
      refine g_getR E fl_RX9_26 (kC_50 b) (sC_50 b) rfl dX9_meetAll_60 ?_
      refine g_aload_0 E dX9_meetAll_63 ?_
      refine g_getR E fl_RX9_19 (kC_50 b) (sC_50 b) rfl dX9_meetAll_64 ?_
      refine g_iload_1 E dX9_meetAll_67 ?_
      refine g_iald E (kC_51 b) (sC_51 b) (by decide) h.1 dX9_meetAll_68 ?_
      replace h := h.2
      refine g_iconst E dX9_meetAll_69 ?_
      refine g_zast E (kC_53 b) (sC_53 b) (by decide) h.1 dX9_meetAll_70 (g_nmS (fun σ3 eσ3 => ?_))
      replace h := h.2 σ3 eσ3
      have hσ3 : CanS (shC b) (NC b) σ3 := by rw [eσ3]; exact wC_53 hσ2 (c32_t _)
      refine g_iinc_1 E rfl (by decide) dX9_meetAll_71 (fun v4 ev4 => ?_)
      replace h := h v4 ev4
      have cv4 : C32 v4 := by rw [ev4]; exact c32_w _
      refine g_goto E djX9_meetAll_74 ?_
      exact (ih v4 σ3 cv4 hσ3 h).weak (w_k (w_k w_n))
set_option maxHeartbeats 4000000 in
set_option maxRecDepth 100000 in
theorem t_X9_meetAll_l2 (E : Ev p s m args meth c cX9_meetAll 2 RX9 A0 D cA ad (NC b) Z) (hr : meth.sig.returnType = none) : ∀ (n : Nat) (x1 : Int) (σ : St), C32 x1 → CanS (shC b) (NC b) σ → wp_X9_meetAll_l2 Q n x1 σ → G p l e (rmL 2 0 0) s m args below meth c 2 A0 D cA ad (shC b) (NC b) 0 0 (MQ below (QVc D cA ad (shC b) (NC b) Q A0) args s 0 0 A0) σ 2 [some (.ref (ad 50)), some (vI x1)] [] := by
  intro n
  induction n with
  | zero => intro _ _ _ _ h; exact h.elim
  | succ n ih =>
    intro x1 σ c1 hσ h
    unfold wp_X9_meetAll_l2 at h
    refine g_iload_1 E dX9_meetAll_2 ?_
    refine g_iconst E dX9_meetAll_3 ?_
    refine g_icmp_ge E c1 cl_5 djX9_meetAll_4 (fun hc => ?_) (fun hc => ?_)
    · replace h := h.1 hc
      refine g_iconst E dX9_meetAll_46 ?_
      refine g_istore_1 E rfl (by decide) dX9_meetAll_47 ?_
      exact (t_X9_meetAll_l48 E hr bigN 0 σ cl_0 hσ h).weak (w_k (w_k w_n))
    · replace h := h.2 hc
      refine g_aload_0 E dX9_meetAll_7 ?_
      refine g_getR E fl_RX9_26 (kC_50 b) (sC_50 b) rfl dX9_meetAll_8 ?_
      refine g_iload_1 E dX9_meetAll_11 ?_
      refine g_iload_1 E dX9_meetAll_12 ?_
      refine g_aload_0 E dX9_meetAll_13 ?_
      refine g_getR E fl_RX9_9 (kC_50 b) (sC_50 b) rfl dX9_meetAll_14 ?_
      refine g_getI E fl_RX9_47 (kC_14 b) (sC_14 b) rfl dX9_meetAll_17 ?_
      refine g_icmp_eq E c1 (fC_14_8 hσ) djX9_meetAll_20 (fun hc => ?_) (fun hc => ?_)
      · replace h := h.1 hc
        exact (t_X9_meetAll_b34 E hr ih x1 x1 σ c1 c1 hσ h).weak (w_k (w_k w_n))
      · replace h := h.2 hc
        refine g_iload_1 E dX9_meetAll_23 ?_
        refine g_aload_0 E dX9_meetAll_24 ?_
        refine g_getR E fl_RX9_9 (kC_50 b) (sC_50 b) rfl dX9_meetAll_25 ?_
        refine g_getI E fl_RX9_106 (kC_14 b) (sC_14 b) rfl dX9_meetAll_28 ?_
        refine g_icmp_ne E c1 (fC_14_9 hσ) djX9_meetAll_31 (fun hc => ?_) (fun hc => ?_)
        · replace h := h.1 hc
          refine g_iconst E dX9_meetAll_38 ?_
          exact (t_X9_meetAll_b39 E hr ih x1 0 x1 σ c1 cl_0 c1 hσ h).weak (w_k (w_k w_n))
        · replace h := h.2 hc
          exact (t_X9_meetAll_b34 E hr ih x1 x1 σ c1 c1 hσ h).weak (w_k (w_k w_n))
set_option maxHeartbeats 4000000 in
set_option maxRecDepth 100000 in
theorem t_X9_meetAll (E : Ev p s m args meth c cX9_meetAll 2 RX9 A0 D cA ad (NC b) Z) (hr : meth.sig.returnType = none) (σ : St) (hσ : CanS (shC b) (NC b) σ) (h : wp_X9_meetAll  σ Q) : G p l e (rmL 2 0 0) s m args below meth c 2 A0 D cA ad (shC b) (NC b) 0 0 (MQ below (QVc D cA ad (shC b) (NC b) Q A0) args s 0 0 A0) σ 0 [some (.ref (ad 50)), none] [] := by
  unfold wp_X9_meetAll at h
  refine g_iconst E dX9_meetAll_0 ?_
  refine g_istore_1 E rfl (by decide) dX9_meetAll_1 ?_
  exact (t_X9_meetAll_l2 E hr bigN 0 σ cl_0 hσ h).weak (w_k (w_k w_n))
end
theorem m_X9_meetAll {Z : (Nat → Nat) × (Nat → Nat)} {l : Launch} {D : va_G} {cA : Nat → ClassId} {ad : Nat → Nat} {b : Bool} {σ : St} {Q : Int → St → Prop} (hA : AdOk (NC b) ad) (hσ : CanS (shC b) (NC b) σ) (h : wp_X9_meetAll  σ Q) : KtV Z l D cA ad (shC b) (NC b) yX9_meetAll cX9_meetAll 2 none 2 [.ref (ad 50)] σ Q :=
  KtV.of my_X9_meetAll hA [some (.ref (ad 50)), none] (Nat.le_of_ble_eq_true rfl) rfl (fun p e s m args below meth c A0 E hr => t_X9_meetAll E hr σ hσ h)
theorem dX9_keep_0 : Dc cX9_keep 0 (.iload_n 2) 1 1 := ⟨by decide +kernel, rfl⟩
theorem dX9_keep_1 : Dc cX9_keep 1 (.iload_n 3) 1 2 := ⟨by decide +kernel, rfl⟩
theorem djX9_keep_2 : Dj cX9_keep 2 (.if_icmp .ne 7) 3 5 7 9 := ⟨by decide +kernel, rfl, by decide⟩
theorem dX9_keep_5 : Dc cX9_keep 5 (.iload_n 0) 1 6 := ⟨by decide +kernel, rfl⟩
theorem djX9_keep_6 : Dj cX9_keep 6 (.goto 10) 3 9 10 16 := ⟨by decide +kernel, rfl, by decide⟩
theorem dX9_keep_9 : Dc cX9_keep 9 (.iload_n 0) 1 10 := ⟨by decide +kernel, rfl⟩
theorem dX9_keep_10 : Dc cX9_keep 10 (.iconst 1) 1 11 := ⟨by decide +kernel, rfl⟩
theorem dX9_keep_11 : Dc cX9_keep 11 (.iload_n 1) 1 12 := ⟨by decide +kernel, rfl⟩
theorem dX9_keep_12 : Dc cX9_keep 12 (.ishl) 1 13 := ⟨by decide +kernel, rfl⟩
theorem dX9_keep_13 : Dc cX9_keep 13 (.iconst (-1)) 1 14 := ⟨by decide +kernel, rfl⟩
theorem dX9_keep_14 : Dc cX9_keep 14 (.ixor) 1 15 := ⟨by decide +kernel, rfl⟩
theorem dX9_keep_15 : Dc cX9_keep 15 (.iand) 1 16 := ⟨by decide +kernel, rfl⟩
theorem dX9_keep_16 : Dc cX9_keep 16 (.ireturn) 1 17 := ⟨by decide +kernel, rfl⟩
section
variable {p : Program} {l : Launch} {e : Env} {s : State} {m : MethodId} {args : Array Value} {below : List Frame} {meth : Method} {c : Code} {A0 : Nat → Prop} {D : va_G} {cA : Nat → ClassId} {ad : Nat → Nat} {Z : (Nat → Nat) × (Nat → Nat)} {Q : Int → St → Prop} {b : Bool}
set_option maxHeartbeats 4000000 in
set_option maxRecDepth 100000 in
theorem t_X9_keep (E : Ev p s m args meth c cX9_keep 4 RX9 A0 D cA ad (NC b) Z) (hr : meth.sig.returnType = (some .int)) (x0 : Int) (x1 : Int) (x2 : Int) (x3 : Int) (σ : St) (c0 : C32 x0) (c1 : C32 x1) (c2 : C32 x2) (c3 : C32 x3) (hσ : CanS (shC b) (NC b) σ) (h : wp_X9_keep x0 x1 x2 x3 σ Q) : G p l e (rmL 1 0 0) s m args below meth c 4 A0 D cA ad (shC b) (NC b) 0 0 (MQ below (QIc D cA ad (shC b) (NC b) Q A0) args s 0 0 A0) σ 0 [some (vI x0), some (vI x1), some (vI x2), some (vI x3)] [] := by
  unfold wp_X9_keep at h
  refine g_iload_2 E dX9_keep_0 ?_
  refine g_iload_3 E dX9_keep_1 ?_
  refine g_icmp_ne E c2 c3 djX9_keep_2 (fun hc => ?_) (fun hc => ?_)
  · replace h := h.1 hc
    refine g_iload_0 E dX9_keep_9 ?_
    refine g_iconst E dX9_keep_10 ?_
    refine g_iload_1 E dX9_keep_11 ?_
    refine g_ishl E dX9_keep_12 ?_
    refine g_iconst E dX9_keep_13 ?_
    refine g_ixor E dX9_keep_14 ?_
    refine g_iand E dX9_keep_15 ?_
    exact g_iret E hr (c32_t _) h hσ dX9_keep_16
  · replace h := h.2 hc
    refine g_iload_0 E dX9_keep_5 ?_
    refine g_goto E djX9_keep_6 ?_
    exact g_iret E hr c0 h hσ dX9_keep_16
end
theorem m_X9_keep {Z : (Nat → Nat) × (Nat → Nat)} {l : Launch} {D : va_G} {cA : Nat → ClassId} {ad : Nat → Nat} {b : Bool} {x0 x1 x2 x3 : Int} {σ : St} {Q : Int → St → Prop} (hA : AdOk (NC b) ad) (c0 : C32 x0) (c1 : C32 x1) (c2 : C32 x2) (c3 : C32 x3) (hσ : CanS (shC b) (NC b) σ) (h : wp_X9_keep x0 x1 x2 x3 σ Q) : KtI Z l D cA ad (shC b) (NC b) yX9_keep cX9_keep 4 (some .int) 1 [vI x0, vI x1, vI x2, vI x3] σ Q :=
  KtI.of my_X9_keep hA [some (vI x0), some (vI x1), some (vI x2), some (vI x3)] (Nat.le_of_ble_eq_true rfl) rfl (fun p e s m args below meth c A0 E hr => t_X9_keep E hr x0 x1 x2 x3 σ c0 c1 c2 c3 hσ h)
theorem dX9_lawsOfOne_0 : Dc cX9_lawsOfOne 0 (.aload_n 0) 1 1 := ⟨by decide +kernel, rfl⟩
theorem dX9_lawsOfOne_1 : Dc cX9_lawsOfOne 1 (.getfield 9) 3 4 := ⟨by decide +kernel, rfl⟩
theorem dX9_lawsOfOne_4 : Dc cX9_lawsOfOne 4 (.getfield 47) 3 7 := ⟨by decide +kernel, rfl⟩
theorem dX9_lawsOfOne_7 : Dc cX9_lawsOfOne 7 (.istore_n 2) 1 8 := ⟨by decide +kernel, rfl⟩
theorem dX9_lawsOfOne_8 : Dc cX9_lawsOfOne 8 (.aload_n 0) 1 9 := ⟨by decide +kernel, rfl⟩
theorem dX9_lawsOfOne_9 : Dc cX9_lawsOfOne 9 (.getfield 9) 3 12 := ⟨by decide +kernel, rfl⟩
theorem dX9_lawsOfOne_12 : Dc cX9_lawsOfOne 12 (.getfield 106) 3 15 := ⟨by decide +kernel, rfl⟩
theorem dX9_lawsOfOne_15 : Dc cX9_lawsOfOne 15 (.istore_n 3) 1 16 := ⟨by decide +kernel, rfl⟩
theorem dX9_lawsOfOne_16 : Dc cX9_lawsOfOne 16 (.sipush 511) 3 19 := ⟨by decide +kernel, rfl⟩
theorem dX9_lawsOfOne_19 : Dc cX9_lawsOfOne 19 (.istore 4) 2 21 := ⟨by decide +kernel, rfl⟩
theorem dX9_lawsOfOne_21 : Dc cX9_lawsOfOne 21 (.iload 4) 2 23 := ⟨by decide +kernel, rfl⟩
theorem dX9_lawsOfOne_23 : Dc cX9_lawsOfOne 23 (.iconst 2) 1 24 := ⟨by decide +kernel, rfl⟩
theorem dX9_lawsOfOne_24 : Dc cX9_lawsOfOne 24 (.aload_n 0) 1 25 := ⟨by decide +kernel, rfl⟩
theorem dX9_lawsOfOne_25 : Dc cX9_lawsOfOne 25 (.getfield 9) 3 28 := ⟨by decide +kernel, rfl⟩
theorem dX9_lawsOfOne_28 : Dc cX9_lawsOfOne 28 (.iload_n 1) 1 29 := ⟨by decide +kernel, rfl⟩
theorem dX9_lawsOfOne_29 : Dc cX9_lawsOfOne 29 (.iload_n 2) 1 30 := ⟨by decide +kernel, rfl⟩
theorem dX9_lawsOfOne_30 : Dc cX9_lawsOfOne 30 (.invokevirtual 103) 3 33 := ⟨by decide +kernel, rfl⟩
theorem dX9_lawsOfOne_33 : Dc cX9_lawsOfOne 33 (.iload_n 1) 1 34 := ⟨by decide +kernel, rfl⟩
theorem dX9_lawsOfOne_34 : Dc cX9_lawsOfOne 34 (.invokestatic 127) 3 37 := ⟨by decide +kernel, rfl⟩
theorem dX9_lawsOfOne_37 : Dc cX9_lawsOfOne 37 (.istore 4) 2 39 := ⟨by decide +kernel, rfl⟩
theorem dX9_lawsOfOne_39 : Dc cX9_lawsOfOne 39 (.iload 4) 2 41 := ⟨by decide +kernel, rfl⟩
theorem dX9_lawsOfOne_41 : Dc cX9_lawsOfOne 41 (.iconst 4) 1 42 := ⟨by decide +kernel, rfl⟩
theorem dX9_lawsOfOne_42 : Dc cX9_lawsOfOne 42 (.aload_n 0) 1 43 := ⟨by decide +kernel, rfl⟩
theorem dX9_lawsOfOne_43 : Dc cX9_lawsOfOne 43 (.getfield 9) 3 46 := ⟨by decide +kernel, rfl⟩
theorem dX9_lawsOfOne_46 : Dc cX9_lawsOfOne 46 (.iload_n 3) 1 47 := ⟨by decide +kernel, rfl⟩
theorem dX9_lawsOfOne_47 : Dc cX9_lawsOfOne 47 (.iload_n 1) 1 48 := ⟨by decide +kernel, rfl⟩
theorem dX9_lawsOfOne_48 : Dc cX9_lawsOfOne 48 (.invokevirtual 93) 3 51 := ⟨by decide +kernel, rfl⟩
theorem dX9_lawsOfOne_51 : Dc cX9_lawsOfOne 51 (.iload_n 1) 1 52 := ⟨by decide +kernel, rfl⟩
theorem dX9_lawsOfOne_52 : Dc cX9_lawsOfOne 52 (.invokestatic 127) 3 55 := ⟨by decide +kernel, rfl⟩
theorem dX9_lawsOfOne_55 : Dc cX9_lawsOfOne 55 (.istore 4) 2 57 := ⟨by decide +kernel, rfl⟩
theorem dX9_lawsOfOne_57 : Dc cX9_lawsOfOne 57 (.iload 4) 2 59 := ⟨by decide +kernel, rfl⟩
theorem dX9_lawsOfOne_59 : Dc cX9_lawsOfOne 59 (.iconst 4) 1 60 := ⟨by decide +kernel, rfl⟩
theorem dX9_lawsOfOne_60 : Dc cX9_lawsOfOne 60 (.aload_n 0) 1 61 := ⟨by decide +kernel, rfl⟩
theorem dX9_lawsOfOne_61 : Dc cX9_lawsOfOne 61 (.getfield 9) 3 64 := ⟨by decide +kernel, rfl⟩
theorem dX9_lawsOfOne_64 : Dc cX9_lawsOfOne 64 (.iload_n 1) 1 65 := ⟨by decide +kernel, rfl⟩
theorem dX9_lawsOfOne_65 : Dc cX9_lawsOfOne 65 (.iload_n 3) 1 66 := ⟨by decide +kernel, rfl⟩
theorem dX9_lawsOfOne_66 : Dc cX9_lawsOfOne 66 (.invokevirtual 93) 3 69 := ⟨by decide +kernel, rfl⟩
theorem dX9_lawsOfOne_69 : Dc cX9_lawsOfOne 69 (.iload_n 1) 1 70 := ⟨by decide +kernel, rfl⟩
theorem dX9_lawsOfOne_70 : Dc cX9_lawsOfOne 70 (.invokestatic 127) 3 73 := ⟨by decide +kernel, rfl⟩
theorem dX9_lawsOfOne_73 : Dc cX9_lawsOfOne 73 (.istore 4) 2 75 := ⟨by decide +kernel, rfl⟩
theorem dX9_lawsOfOne_75 : Dc cX9_lawsOfOne 75 (.iload 4) 2 77 := ⟨by decide +kernel, rfl⟩
theorem dX9_lawsOfOne_77 : Dc cX9_lawsOfOne 77 (.iconst 5) 1 78 := ⟨by decide +kernel, rfl⟩
theorem dX9_lawsOfOne_78 : Dc cX9_lawsOfOne 78 (.aload_n 0) 1 79 := ⟨by decide +kernel, rfl⟩
theorem dX9_lawsOfOne_79 : Dc cX9_lawsOfOne 79 (.getfield 9) 3 82 := ⟨by decide +kernel, rfl⟩
theorem dX9_lawsOfOne_82 : Dc cX9_lawsOfOne 82 (.iload_n 2) 1 83 := ⟨by decide +kernel, rfl⟩
theorem dX9_lawsOfOne_83 : Dc cX9_lawsOfOne 83 (.iload_n 1) 1 84 := ⟨by decide +kernel, rfl⟩
theorem dX9_lawsOfOne_84 : Dc cX9_lawsOfOne 84 (.invokevirtual 93) 3 87 := ⟨by decide +kernel, rfl⟩
theorem dX9_lawsOfOne_87 : Dc cX9_lawsOfOne 87 (.iload_n 2) 1 88 := ⟨by decide +kernel, rfl⟩
theorem dX9_lawsOfOne_88 : Dc cX9_lawsOfOne 88 (.invokestatic 127) 3 91 := ⟨by decide +kernel, rfl⟩
theorem dX9_lawsOfOne_91 : Dc cX9_lawsOfOne 91 (.istore 4) 2 93 := ⟨by decide +kernel, rfl⟩
theorem dX9_lawsOfOne_93 : Dc cX9_lawsOfOne 93 (.iload 4) 2 95 := ⟨by decide +kernel, rfl⟩
theorem dX9_lawsOfOne_95 : Dc cX9_lawsOfOne 95 (.iconst 5) 1 96 := ⟨by decide +kernel, rfl⟩
theorem dX9_lawsOfOne_96 : Dc cX9_lawsOfOne 96 (.aload_n 0) 1 97 := ⟨by decide +kernel, rfl⟩
theorem dX9_lawsOfOne_97 : Dc cX9_lawsOfOne 97 (.getfield 9) 3 100 := ⟨by decide +kernel, rfl⟩
theorem dX9_lawsOfOne_100 : Dc cX9_lawsOfOne 100 (.iload_n 1) 1 101 := ⟨by decide +kernel, rfl⟩
theorem dX9_lawsOfOne_101 : Dc cX9_lawsOfOne 101 (.iload_n 2) 1 102 := ⟨by decide +kernel, rfl⟩
theorem dX9_lawsOfOne_102 : Dc cX9_lawsOfOne 102 (.invokevirtual 93) 3 105 := ⟨by decide +kernel, rfl⟩
theorem dX9_lawsOfOne_105 : Dc cX9_lawsOfOne 105 (.iload_n 2) 1 106 := ⟨by decide +kernel, rfl⟩
theorem dX9_lawsOfOne_106 : Dc cX9_lawsOfOne 106 (.invokestatic 127) 3 109 := ⟨by decide +kernel, rfl⟩
theorem dX9_lawsOfOne_109 : Dc cX9_lawsOfOne 109 (.istore 4) 2 111 := ⟨by decide +kernel, rfl⟩
theorem dX9_lawsOfOne_111 : Dc cX9_lawsOfOne 111 (.iload 4) 2 113 := ⟨by decide +kernel, rfl⟩
theorem dX9_lawsOfOne_113 : Dc cX9_lawsOfOne 113 (.bipush 8) 2 115 := ⟨by decide +kernel, rfl⟩
theorem dX9_lawsOfOne_115 : Dc cX9_lawsOfOne 115 (.aload_n 0) 1 116 := ⟨by decide +kernel, rfl⟩
theorem dX9_lawsOfOne_116 : Dc cX9_lawsOfOne 116 (.getfield 9) 3 119 := ⟨by decide +kernel, rfl⟩
theorem dX9_lawsOfOne_119 : Dc cX9_lawsOfOne 119 (.iload_n 1) 1 120 := ⟨by decide +kernel, rfl⟩
theorem dX9_lawsOfOne_120 : Dc cX9_lawsOfOne 120 (.iload_n 1) 1 121 := ⟨by decide +kernel, rfl⟩
theorem dX9_lawsOfOne_121 : Dc cX9_lawsOfOne 121 (.invokevirtual 103) 3 124 := ⟨by decide +kernel, rfl⟩
theorem dX9_lawsOfOne_124 : Dc cX9_lawsOfOne 124 (.iload_n 1) 1 125 := ⟨by decide +kernel, rfl⟩
theorem dX9_lawsOfOne_125 : Dc cX9_lawsOfOne 125 (.invokestatic 127) 3 128 := ⟨by decide +kernel, rfl⟩
theorem dX9_lawsOfOne_128 : Dc cX9_lawsOfOne 128 (.ireturn) 1 129 := ⟨by decide +kernel, rfl⟩
section
variable {p : Program} {l : Launch} {e : Env} {s : State} {m : MethodId} {args : Array Value} {below : List Frame} {meth : Method} {c : Code} {A0 : Nat → Prop} {D : va_G} {cA : Nat → ClassId} {ad : Nat → Nat} {Z : (Nat → Nat) × (Nat → Nat)} {Q : Int → St → Prop} {b : Bool}
set_option maxHeartbeats 4000000 in
set_option maxRecDepth 100000 in
theorem t_X9_lawsOfOne (E : Ev p s m args meth c cX9_lawsOfOne 5 RX9 A0 D cA ad (NC b) Z) (hr : meth.sig.returnType = (some .int)) (x1 : Int) (σ : St) (c1 : C32 x1) (hσ : CanS (shC b) (NC b) σ) (h : wp_X9_lawsOfOne x1 σ Q) : G p l e (rmL 2 0 0) s m args below meth c 5 A0 D cA ad (shC b) (NC b) 0 0 (MQ below (QIc D cA ad (shC b) (NC b) Q A0) args s 0 0 A0) σ 0 [some (.ref (ad 50)), some (vI x1), none, none, none] [] := by
  unfold wp_X9_lawsOfOne at h
  refine g_aload_0 E dX9_lawsOfOne_0 ?_
  refine g_getR E fl_RX9_9 (kC_50 b) (sC_50 b) rfl dX9_lawsOfOne_1 ?_
  refine g_getI E fl_RX9_47 (kC_14 b) (sC_14 b) rfl dX9_lawsOfOne_4 ?_
  refine g_nmI (fun v1 ev1 => ?_)
  replace h := h v1 ev1
  have cv1 : C32 v1 := by rw [ev1]; exact (fC_14_8 hσ)
  refine g_istore_2 E rfl (by decide) dX9_lawsOfOne_7 ?_
  refine g_aload_0 E dX9_lawsOfOne_8 ?_
  refine g_getR E fl_RX9_9 (kC_50 b) (sC_50 b) rfl dX9_lawsOfOne_9 ?_
  refine g_getI E fl_RX9_106 (kC_14 b) (sC_14 b) rfl dX9_lawsOfOne_12 ?_
  refine g_nmI (fun v2 ev2 => ?_)
  replace h := h v2 ev2
  have cv2 : C32 v2 := by rw [ev2]; exact (fC_14_9 hσ)
  refine g_istore_3 E rfl (by decide) dX9_lawsOfOne_15 ?_
  refine g_sipush E (by decide) dX9_lawsOfOne_16 ?_
  refine g_istore_4 E rfl (by decide) dX9_lawsOfOne_19 ?_
  refine g_iload_4 E dX9_lawsOfOne_21 ?_
  refine g_iconst E dX9_lawsOfOne_23 ?_
  refine g_aload_0 E dX9_lawsOfOne_24 ?_
  refine g_getR E fl_RX9_9 (kC_50 b) (sC_50 b) rfl dX9_lawsOfOne_25 ?_
  refine g_iload_1 E dX9_lawsOfOne_28 ?_
  refine g_iload_2 E dX9_lawsOfOne_29 ?_
  refine g_callvI E my_X4_plus mi_X4_plus msel_X4_plus ml_RX9_103 (rm_ok (by decide) (by decide)) ⟨Nat.zero_le _, Nat.zero_le _⟩ (kC_14 b) (sC_14 b) rfl (m_X4_plus E.2.2.1 c1 cv1 hσ h) rfl rfl (Nat.le_of_ble_eq_true rfl) dX9_lawsOfOne_30 (fun r3 σ4 cr3 hσ4 h => ?_)
  refine g_iload_1 E dX9_lawsOfOne_33 ?_
  refine g_callsI E my_X9_keep ms_X9_keep ml_RX9_127 (rm_ok (by decide) (by decide)) ⟨Nat.zero_le _, Nat.zero_le _⟩ (m_X9_keep E.2.2.1 cl_511 cl_2 cr3 c1 hσ4 h) rfl rfl (Nat.le_of_ble_eq_true rfl) dX9_lawsOfOne_34 (fun r5 σ6 cr5 hσ6 h => ?_)
  refine g_istore_4 E rfl (by decide) dX9_lawsOfOne_37 ?_
  refine g_iload_4 E dX9_lawsOfOne_39 ?_
  refine g_iconst E dX9_lawsOfOne_41 ?_
  refine g_aload_0 E dX9_lawsOfOne_42 ?_
  refine g_getR E fl_RX9_9 (kC_50 b) (sC_50 b) rfl dX9_lawsOfOne_43 ?_
  refine g_iload_3 E dX9_lawsOfOne_46 ?_
  refine g_iload_1 E dX9_lawsOfOne_47 ?_
  refine g_callvI E my_X4_times mi_X4_times msel_X4_times ml_RX9_93 (rm_ok (by decide) (by decide)) ⟨Nat.zero_le _, Nat.zero_le _⟩ (kC_14 b) (sC_14 b) rfl (m_X4_times E.2.2.1 cv2 c1 hσ6 h) rfl rfl (Nat.le_of_ble_eq_true rfl) dX9_lawsOfOne_48 (fun r7 σ8 cr7 hσ8 h => ?_)
  refine g_iload_1 E dX9_lawsOfOne_51 ?_
  refine g_callsI E my_X9_keep ms_X9_keep ml_RX9_127 (rm_ok (by decide) (by decide)) ⟨Nat.zero_le _, Nat.zero_le _⟩ (m_X9_keep E.2.2.1 cr5 cl_4 cr7 c1 hσ8 h) rfl rfl (Nat.le_of_ble_eq_true rfl) dX9_lawsOfOne_52 (fun r9 σ10 cr9 hσ10 h => ?_)
  refine g_istore_4 E rfl (by decide) dX9_lawsOfOne_55 ?_
  refine g_iload_4 E dX9_lawsOfOne_57 ?_
  refine g_iconst E dX9_lawsOfOne_59 ?_
  refine g_aload_0 E dX9_lawsOfOne_60 ?_
  refine g_getR E fl_RX9_9 (kC_50 b) (sC_50 b) rfl dX9_lawsOfOne_61 ?_
  refine g_iload_1 E dX9_lawsOfOne_64 ?_
  refine g_iload_3 E dX9_lawsOfOne_65 ?_
  refine g_callvI E my_X4_times mi_X4_times msel_X4_times ml_RX9_93 (rm_ok (by decide) (by decide)) ⟨Nat.zero_le _, Nat.zero_le _⟩ (kC_14 b) (sC_14 b) rfl (m_X4_times E.2.2.1 c1 cv2 hσ10 h) rfl rfl (Nat.le_of_ble_eq_true rfl) dX9_lawsOfOne_66 (fun r11 σ12 cr11 hσ12 h => ?_)
  refine g_iload_1 E dX9_lawsOfOne_69 ?_
  refine g_callsI E my_X9_keep ms_X9_keep ml_RX9_127 (rm_ok (by decide) (by decide)) ⟨Nat.zero_le _, Nat.zero_le _⟩ (m_X9_keep E.2.2.1 cr9 cl_4 cr11 c1 hσ12 h) rfl rfl (Nat.le_of_ble_eq_true rfl) dX9_lawsOfOne_70 (fun r13 σ14 cr13 hσ14 h => ?_)
  refine g_istore_4 E rfl (by decide) dX9_lawsOfOne_73 ?_
  refine g_iload_4 E dX9_lawsOfOne_75 ?_
  refine g_iconst E dX9_lawsOfOne_77 ?_
  refine g_aload_0 E dX9_lawsOfOne_78 ?_
  refine g_getR E fl_RX9_9 (kC_50 b) (sC_50 b) rfl dX9_lawsOfOne_79 ?_
  refine g_iload_2 E dX9_lawsOfOne_82 ?_
  refine g_iload_1 E dX9_lawsOfOne_83 ?_
  refine g_callvI E my_X4_times mi_X4_times msel_X4_times ml_RX9_93 (rm_ok (by decide) (by decide)) ⟨Nat.zero_le _, Nat.zero_le _⟩ (kC_14 b) (sC_14 b) rfl (m_X4_times E.2.2.1 cv1 c1 hσ14 h) rfl rfl (Nat.le_of_ble_eq_true rfl) dX9_lawsOfOne_84 (fun r15 σ16 cr15 hσ16 h => ?_)
  refine g_iload_2 E dX9_lawsOfOne_87 ?_
  refine g_callsI E my_X9_keep ms_X9_keep ml_RX9_127 (rm_ok (by decide) (by decide)) ⟨Nat.zero_le _, Nat.zero_le _⟩ (m_X9_keep E.2.2.1 cr13 cl_5 cr15 cv1 hσ16 h) rfl rfl (Nat.le_of_ble_eq_true rfl) dX9_lawsOfOne_88 (fun r17 σ18 cr17 hσ18 h => ?_)
  refine g_istore_4 E rfl (by decide) dX9_lawsOfOne_91 ?_
  refine g_iload_4 E dX9_lawsOfOne_93 ?_
  refine g_iconst E dX9_lawsOfOne_95 ?_
  refine g_aload_0 E dX9_lawsOfOne_96 ?_
  refine g_getR E fl_RX9_9 (kC_50 b) (sC_50 b) rfl dX9_lawsOfOne_97 ?_
  refine g_iload_1 E dX9_lawsOfOne_100 ?_
  refine g_iload_2 E dX9_lawsOfOne_101 ?_
  refine g_callvI E my_X4_times mi_X4_times msel_X4_times ml_RX9_93 (rm_ok (by decide) (by decide)) ⟨Nat.zero_le _, Nat.zero_le _⟩ (kC_14 b) (sC_14 b) rfl (m_X4_times E.2.2.1 c1 cv1 hσ18 h) rfl rfl (Nat.le_of_ble_eq_true rfl) dX9_lawsOfOne_102 (fun r19 σ20 cr19 hσ20 h => ?_)
  refine g_iload_2 E dX9_lawsOfOne_105 ?_
  refine g_callsI E my_X9_keep ms_X9_keep ml_RX9_127 (rm_ok (by decide) (by decide)) ⟨Nat.zero_le _, Nat.zero_le _⟩ (m_X9_keep E.2.2.1 cr17 cl_5 cr19 cv1 hσ20 h) rfl rfl (Nat.le_of_ble_eq_true rfl) dX9_lawsOfOne_106 (fun r21 σ22 cr21 hσ22 h => ?_)
  refine g_istore_4 E rfl (by decide) dX9_lawsOfOne_109 ?_
  refine g_iload_4 E dX9_lawsOfOne_111 ?_
  refine g_bipush E (by decide) dX9_lawsOfOne_113 ?_
  refine g_aload_0 E dX9_lawsOfOne_115 ?_
  refine g_getR E fl_RX9_9 (kC_50 b) (sC_50 b) rfl dX9_lawsOfOne_116 ?_
  refine g_iload_1 E dX9_lawsOfOne_119 ?_
  refine g_iload_1 E dX9_lawsOfOne_120 ?_
  refine g_callvI E my_X4_plus mi_X4_plus msel_X4_plus ml_RX9_103 (rm_ok (by decide) (by decide)) ⟨Nat.zero_le _, Nat.zero_le _⟩ (kC_14 b) (sC_14 b) rfl (m_X4_plus E.2.2.1 c1 c1 hσ22 h) rfl rfl (Nat.le_of_ble_eq_true rfl) dX9_lawsOfOne_121 (fun r23 σ24 cr23 hσ24 h => ?_)
  refine g_iload_1 E dX9_lawsOfOne_124 ?_
  refine g_callsI E my_X9_keep ms_X9_keep ml_RX9_127 (rm_ok (by decide) (by decide)) ⟨Nat.zero_le _, Nat.zero_le _⟩ (m_X9_keep E.2.2.1 cr21 cl_8 cr23 c1 hσ24 h) rfl rfl (Nat.le_of_ble_eq_true rfl) dX9_lawsOfOne_125 (fun r25 σ26 cr25 hσ26 h => ?_)
  exact g_iret E hr cr25 h hσ26 dX9_lawsOfOne_128
end
theorem m_X9_lawsOfOne {Z : (Nat → Nat) × (Nat → Nat)} {l : Launch} {D : va_G} {cA : Nat → ClassId} {ad : Nat → Nat} {b : Bool} {x1 : Int} {σ : St} {Q : Int → St → Prop} (hA : AdOk (NC b) ad) (c1 : C32 x1) (hσ : CanS (shC b) (NC b) σ) (h : wp_X9_lawsOfOne x1 σ Q) : KtI Z l D cA ad (shC b) (NC b) yX9_lawsOfOne cX9_lawsOfOne 5 (some .int) 2 [.ref (ad 50), vI x1] σ Q :=
  KtI.of my_X9_lawsOfOne hA [some (.ref (ad 50)), some (vI x1), none, none, none] (Nat.le_of_ble_eq_true rfl) rfl (fun p e s m args below meth c A0 E hr => t_X9_lawsOfOne E hr x1 σ c1 hσ h)
theorem dX9_lawsOfMore_0 : Dc cX9_lawsOfMore 0 (.sipush 511) 3 3 := ⟨by decide +kernel, rfl⟩
theorem dX9_lawsOfMore_3 : Dc cX9_lawsOfMore 3 (.iconst 0) 1 4 := ⟨by decide +kernel, rfl⟩
theorem dX9_lawsOfMore_4 : Dc cX9_lawsOfMore 4 (.aload_n 0) 1 5 := ⟨by decide +kernel, rfl⟩
theorem dX9_lawsOfMore_5 : Dc cX9_lawsOfMore 5 (.getfield 9) 3 8 := ⟨by decide +kernel, rfl⟩
theorem dX9_lawsOfMore_8 : Dc cX9_lawsOfMore 8 (.iload_n 1) 1 9 := ⟨by decide +kernel, rfl⟩
theorem dX9_lawsOfMore_9 : Dc cX9_lawsOfMore 9 (.iload_n 2) 1 10 := ⟨by decide +kernel, rfl⟩
theorem dX9_lawsOfMore_10 : Dc cX9_lawsOfMore 10 (.invokevirtual 103) 3 13 := ⟨by decide +kernel, rfl⟩
theorem dX9_lawsOfMore_13 : Dc cX9_lawsOfMore 13 (.aload_n 0) 1 14 := ⟨by decide +kernel, rfl⟩
theorem dX9_lawsOfMore_14 : Dc cX9_lawsOfMore 14 (.getfield 9) 3 17 := ⟨by decide +kernel, rfl⟩
theorem dX9_lawsOfMore_17 : Dc cX9_lawsOfMore 17 (.iload_n 2) 1 18 := ⟨by decide +kernel, rfl⟩
theorem dX9_lawsOfMore_18 : Dc cX9_lawsOfMore 18 (.iload_n 1) 1 19 := ⟨by decide +kernel, rfl⟩
theorem dX9_lawsOfMore_19 : Dc cX9_lawsOfMore 19 (.invokevirtual 103) 3 22 := ⟨by decide +kernel, rfl⟩
theorem dX9_lawsOfMore_22 : Dc cX9_lawsOfMore 22 (.invokestatic 127) 3 25 := ⟨by decide +kernel, rfl⟩
theorem dX9_lawsOfMore_25 : Dc cX9_lawsOfMore 25 (.istore_n 3) 1 26 := ⟨by decide +kernel, rfl⟩
theorem dX9_lawsOfMore_26 : Dc cX9_lawsOfMore 26 (.iconst 0) 1 27 := ⟨by decide +kernel, rfl⟩
theorem dX9_lawsOfMore_27 : Dc cX9_lawsOfMore 27 (.istore 4) 2 29 := ⟨by decide +kernel, rfl⟩
theorem dX9_lawsOfMore_29 : Dc cX9_lawsOfMore 29 (.iload 4) 2 31 := ⟨by decide +kernel, rfl⟩
theorem dX9_lawsOfMore_31 : Dc cX9_lawsOfMore 31 (.aload_n 0) 1 32 := ⟨by decide +kernel, rfl⟩
theorem dX9_lawsOfMore_32 : Dc cX9_lawsOfMore 32 (.getfield 9) 3 35 := ⟨by decide +kernel, rfl⟩
theorem dX9_lawsOfMore_35 : Dc cX9_lawsOfMore 35 (.getfield 112) 3 38 := ⟨by decide +kernel, rfl⟩
theorem djX9_lawsOfMore_38 : Dj cX9_lawsOfMore 38 (.if_icmp .ge 214) 3 41 214 252 := ⟨by decide +kernel, rfl, by decide⟩
theorem dX9_lawsOfMore_41 : Dc cX9_lawsOfMore 41 (.aload_n 0) 1 42 := ⟨by decide +kernel, rfl⟩
theorem dX9_lawsOfMore_42 : Dc cX9_lawsOfMore 42 (.getfield 26) 3 45 := ⟨by decide +kernel, rfl⟩
theorem dX9_lawsOfMore_45 : Dc cX9_lawsOfMore 45 (.iload 4) 2 47 := ⟨by decide +kernel, rfl⟩
theorem dX9_lawsOfMore_47 : Dc cX9_lawsOfMore 47 (.baload) 1 48 := ⟨by decide +kernel, rfl⟩
theorem djX9_lawsOfMore_48 : Dj cX9_lawsOfMore 48 (.ifCond .eq 198) 3 51 198 246 := ⟨by decide +kernel, rfl, by decide⟩
theorem dX9_lawsOfMore_51 : Dc cX9_lawsOfMore 51 (.iload_n 3) 1 52 := ⟨by decide +kernel, rfl⟩
theorem dX9_lawsOfMore_52 : Dc cX9_lawsOfMore 52 (.iconst 1) 1 53 := ⟨by decide +kernel, rfl⟩
theorem dX9_lawsOfMore_53 : Dc cX9_lawsOfMore 53 (.aload_n 0) 1 54 := ⟨by decide +kernel, rfl⟩
theorem dX9_lawsOfMore_54 : Dc cX9_lawsOfMore 54 (.getfield 9) 3 57 := ⟨by decide +kernel, rfl⟩
theorem dX9_lawsOfMore_57 : Dc cX9_lawsOfMore 57 (.aload_n 0) 1 58 := ⟨by decide +kernel, rfl⟩
theorem dX9_lawsOfMore_58 : Dc cX9_lawsOfMore 58 (.getfield 9) 3 61 := ⟨by decide +kernel, rfl⟩
theorem dX9_lawsOfMore_61 : Dc cX9_lawsOfMore 61 (.iload_n 1) 1 62 := ⟨by decide +kernel, rfl⟩
theorem dX9_lawsOfMore_62 : Dc cX9_lawsOfMore 62 (.iload_n 2) 1 63 := ⟨by decide +kernel, rfl⟩
theorem dX9_lawsOfMore_63 : Dc cX9_lawsOfMore 63 (.invokevirtual 103) 3 66 := ⟨by decide +kernel, rfl⟩
theorem dX9_lawsOfMore_66 : Dc cX9_lawsOfMore 66 (.iload 4) 2 68 := ⟨by decide +kernel, rfl⟩
theorem dX9_lawsOfMore_68 : Dc cX9_lawsOfMore 68 (.invokevirtual 103) 3 71 := ⟨by decide +kernel, rfl⟩
theorem dX9_lawsOfMore_71 : Dc cX9_lawsOfMore 71 (.aload_n 0) 1 72 := ⟨by decide +kernel, rfl⟩
theorem dX9_lawsOfMore_72 : Dc cX9_lawsOfMore 72 (.getfield 9) 3 75 := ⟨by decide +kernel, rfl⟩
theorem dX9_lawsOfMore_75 : Dc cX9_lawsOfMore 75 (.iload_n 1) 1 76 := ⟨by decide +kernel, rfl⟩
theorem dX9_lawsOfMore_76 : Dc cX9_lawsOfMore 76 (.aload_n 0) 1 77 := ⟨by decide +kernel, rfl⟩
theorem dX9_lawsOfMore_77 : Dc cX9_lawsOfMore 77 (.getfield 9) 3 80 := ⟨by decide +kernel, rfl⟩
theorem dX9_lawsOfMore_80 : Dc cX9_lawsOfMore 80 (.iload_n 2) 1 81 := ⟨by decide +kernel, rfl⟩
theorem dX9_lawsOfMore_81 : Dc cX9_lawsOfMore 81 (.iload 4) 2 83 := ⟨by decide +kernel, rfl⟩
theorem dX9_lawsOfMore_83 : Dc cX9_lawsOfMore 83 (.invokevirtual 103) 3 86 := ⟨by decide +kernel, rfl⟩
theorem dX9_lawsOfMore_86 : Dc cX9_lawsOfMore 86 (.invokevirtual 103) 3 89 := ⟨by decide +kernel, rfl⟩
theorem dX9_lawsOfMore_89 : Dc cX9_lawsOfMore 89 (.invokestatic 127) 3 92 := ⟨by decide +kernel, rfl⟩
theorem dX9_lawsOfMore_92 : Dc cX9_lawsOfMore 92 (.istore_n 3) 1 93 := ⟨by decide +kernel, rfl⟩
theorem dX9_lawsOfMore_93 : Dc cX9_lawsOfMore 93 (.iload_n 3) 1 94 := ⟨by decide +kernel, rfl⟩
theorem dX9_lawsOfMore_94 : Dc cX9_lawsOfMore 94 (.iconst 3) 1 95 := ⟨by decide +kernel, rfl⟩
theorem dX9_lawsOfMore_95 : Dc cX9_lawsOfMore 95 (.aload_n 0) 1 96 := ⟨by decide +kernel, rfl⟩
theorem dX9_lawsOfMore_96 : Dc cX9_lawsOfMore 96 (.getfield 9) 3 99 := ⟨by decide +kernel, rfl⟩
theorem dX9_lawsOfMore_99 : Dc cX9_lawsOfMore 99 (.aload_n 0) 1 100 := ⟨by decide +kernel, rfl⟩
theorem dX9_lawsOfMore_100 : Dc cX9_lawsOfMore 100 (.getfield 9) 3 103 := ⟨by decide +kernel, rfl⟩
theorem dX9_lawsOfMore_103 : Dc cX9_lawsOfMore 103 (.iload_n 1) 1 104 := ⟨by decide +kernel, rfl⟩
theorem dX9_lawsOfMore_104 : Dc cX9_lawsOfMore 104 (.iload_n 2) 1 105 := ⟨by decide +kernel, rfl⟩
theorem dX9_lawsOfMore_105 : Dc cX9_lawsOfMore 105 (.invokevirtual 93) 3 108 := ⟨by decide +kernel, rfl⟩
theorem dX9_lawsOfMore_108 : Dc cX9_lawsOfMore 108 (.iload 4) 2 110 := ⟨by decide +kernel, rfl⟩
theorem dX9_lawsOfMore_110 : Dc cX9_lawsOfMore 110 (.invokevirtual 93) 3 113 := ⟨by decide +kernel, rfl⟩
theorem dX9_lawsOfMore_113 : Dc cX9_lawsOfMore 113 (.aload_n 0) 1 114 := ⟨by decide +kernel, rfl⟩
theorem dX9_lawsOfMore_114 : Dc cX9_lawsOfMore 114 (.getfield 9) 3 117 := ⟨by decide +kernel, rfl⟩
theorem dX9_lawsOfMore_117 : Dc cX9_lawsOfMore 117 (.iload_n 1) 1 118 := ⟨by decide +kernel, rfl⟩
theorem dX9_lawsOfMore_118 : Dc cX9_lawsOfMore 118 (.aload_n 0) 1 119 := ⟨by decide +kernel, rfl⟩
theorem dX9_lawsOfMore_119 : Dc cX9_lawsOfMore 119 (.getfield 9) 3 122 := ⟨by decide +kernel, rfl⟩
theorem dX9_lawsOfMore_122 : Dc cX9_lawsOfMore 122 (.iload_n 2) 1 123 := ⟨by decide +kernel, rfl⟩
theorem dX9_lawsOfMore_123 : Dc cX9_lawsOfMore 123 (.iload 4) 2 125 := ⟨by decide +kernel, rfl⟩
theorem dX9_lawsOfMore_125 : Dc cX9_lawsOfMore 125 (.invokevirtual 93) 3 128 := ⟨by decide +kernel, rfl⟩
theorem dX9_lawsOfMore_128 : Dc cX9_lawsOfMore 128 (.invokevirtual 93) 3 131 := ⟨by decide +kernel, rfl⟩
theorem dX9_lawsOfMore_131 : Dc cX9_lawsOfMore 131 (.invokestatic 127) 3 134 := ⟨by decide +kernel, rfl⟩
theorem dX9_lawsOfMore_134 : Dc cX9_lawsOfMore 134 (.istore_n 3) 1 135 := ⟨by decide +kernel, rfl⟩
theorem dX9_lawsOfMore_135 : Dc cX9_lawsOfMore 135 (.aload_n 0) 1 136 := ⟨by decide +kernel, rfl⟩
theorem dX9_lawsOfMore_136 : Dc cX9_lawsOfMore 136 (.getfield 9) 3 139 := ⟨by decide +kernel, rfl⟩
theorem dX9_lawsOfMore_139 : Dc cX9_lawsOfMore 139 (.aload_n 0) 1 140 := ⟨by decide +kernel, rfl⟩
theorem dX9_lawsOfMore_140 : Dc cX9_lawsOfMore 140 (.getfield 9) 3 143 := ⟨by decide +kernel, rfl⟩
theorem dX9_lawsOfMore_143 : Dc cX9_lawsOfMore 143 (.iload_n 1) 1 144 := ⟨by decide +kernel, rfl⟩
theorem dX9_lawsOfMore_144 : Dc cX9_lawsOfMore 144 (.iload_n 2) 1 145 := ⟨by decide +kernel, rfl⟩
theorem dX9_lawsOfMore_145 : Dc cX9_lawsOfMore 145 (.invokevirtual 93) 3 148 := ⟨by decide +kernel, rfl⟩
theorem dX9_lawsOfMore_148 : Dc cX9_lawsOfMore 148 (.aload_n 0) 1 149 := ⟨by decide +kernel, rfl⟩
theorem dX9_lawsOfMore_149 : Dc cX9_lawsOfMore 149 (.getfield 9) 3 152 := ⟨by decide +kernel, rfl⟩
theorem dX9_lawsOfMore_152 : Dc cX9_lawsOfMore 152 (.iload_n 1) 1 153 := ⟨by decide +kernel, rfl⟩
theorem dX9_lawsOfMore_153 : Dc cX9_lawsOfMore 153 (.iload 4) 2 155 := ⟨by decide +kernel, rfl⟩
theorem dX9_lawsOfMore_155 : Dc cX9_lawsOfMore 155 (.invokevirtual 93) 3 158 := ⟨by decide +kernel, rfl⟩
theorem dX9_lawsOfMore_158 : Dc cX9_lawsOfMore 158 (.invokevirtual 103) 3 161 := ⟨by decide +kernel, rfl⟩
theorem dX9_lawsOfMore_161 : Dc cX9_lawsOfMore 161 (.istore 5) 2 163 := ⟨by decide +kernel, rfl⟩
theorem dX9_lawsOfMore_163 : Dc cX9_lawsOfMore 163 (.iload_n 3) 1 164 := ⟨by decide +kernel, rfl⟩
theorem dX9_lawsOfMore_164 : Dc cX9_lawsOfMore 164 (.bipush 6) 2 166 := ⟨by decide +kernel, rfl⟩
theorem dX9_lawsOfMore_166 : Dc cX9_lawsOfMore 166 (.aload_n 0) 1 167 := ⟨by decide +kernel, rfl⟩
theorem dX9_lawsOfMore_167 : Dc cX9_lawsOfMore 167 (.getfield 9) 3 170 := ⟨by decide +kernel, rfl⟩
theorem dX9_lawsOfMore_170 : Dc cX9_lawsOfMore 170 (.iload_n 1) 1 171 := ⟨by decide +kernel, rfl⟩
theorem dX9_lawsOfMore_171 : Dc cX9_lawsOfMore 171 (.aload_n 0) 1 172 := ⟨by decide +kernel, rfl⟩
theorem dX9_lawsOfMore_172 : Dc cX9_lawsOfMore 172 (.getfield 9) 3 175 := ⟨by decide +kernel, rfl⟩
theorem dX9_lawsOfMore_175 : Dc cX9_lawsOfMore 175 (.iload_n 2) 1 176 := ⟨by decide +kernel, rfl⟩
theorem dX9_lawsOfMore_176 : Dc cX9_lawsOfMore 176 (.iload 4) 2 178 := ⟨by decide +kernel, rfl⟩
theorem dX9_lawsOfMore_178 : Dc cX9_lawsOfMore 178 (.invokevirtual 103) 3 181 := ⟨by decide +kernel, rfl⟩
theorem dX9_lawsOfMore_181 : Dc cX9_lawsOfMore 181 (.invokevirtual 93) 3 184 := ⟨by decide +kernel, rfl⟩
theorem dX9_lawsOfMore_184 : Dc cX9_lawsOfMore 184 (.iload 5) 2 186 := ⟨by decide +kernel, rfl⟩
theorem dX9_lawsOfMore_186 : Dc cX9_lawsOfMore 186 (.invokestatic 127) 3 189 := ⟨by decide +kernel, rfl⟩
theorem dX9_lawsOfMore_189 : Dc cX9_lawsOfMore 189 (.istore_n 3) 1 190 := ⟨by decide +kernel, rfl⟩
theorem dX9_lawsOfMore_190 : Dc cX9_lawsOfMore 190 (.aload_n 0) 1 191 := ⟨by decide +kernel, rfl⟩
theorem dX9_lawsOfMore_191 : Dc cX9_lawsOfMore 191 (.getfield 9) 3 194 := ⟨by decide +kernel, rfl⟩
theorem dX9_lawsOfMore_194 : Dc cX9_lawsOfMore 194 (.aload_n 0) 1 195 := ⟨by decide +kernel, rfl⟩
theorem dX9_lawsOfMore_195 : Dc cX9_lawsOfMore 195 (.getfield 9) 3 198 := ⟨by decide +kernel, rfl⟩
theorem dX9_lawsOfMore_198 : Dc cX9_lawsOfMore 198 (.iload_n 1) 1 199 := ⟨by decide +kernel, rfl⟩
theorem dX9_lawsOfMore_199 : Dc cX9_lawsOfMore 199 (.iload 4) 2 201 := ⟨by decide +kernel, rfl⟩
theorem dX9_lawsOfMore_201 : Dc cX9_lawsOfMore 201 (.invokevirtual 93) 3 204 := ⟨by decide +kernel, rfl⟩
theorem dX9_lawsOfMore_204 : Dc cX9_lawsOfMore 204 (.aload_n 0) 1 205 := ⟨by decide +kernel, rfl⟩
theorem dX9_lawsOfMore_205 : Dc cX9_lawsOfMore 205 (.getfield 9) 3 208 := ⟨by decide +kernel, rfl⟩
theorem dX9_lawsOfMore_208 : Dc cX9_lawsOfMore 208 (.iload_n 2) 1 209 := ⟨by decide +kernel, rfl⟩
theorem dX9_lawsOfMore_209 : Dc cX9_lawsOfMore 209 (.iload 4) 2 211 := ⟨by decide +kernel, rfl⟩
theorem dX9_lawsOfMore_211 : Dc cX9_lawsOfMore 211 (.invokevirtual 93) 3 214 := ⟨by decide +kernel, rfl⟩
theorem dX9_lawsOfMore_214 : Dc cX9_lawsOfMore 214 (.invokevirtual 103) 3 217 := ⟨by decide +kernel, rfl⟩
theorem dX9_lawsOfMore_217 : Dc cX9_lawsOfMore 217 (.istore 5) 2 219 := ⟨by decide +kernel, rfl⟩
theorem dX9_lawsOfMore_219 : Dc cX9_lawsOfMore 219 (.iload_n 3) 1 220 := ⟨by decide +kernel, rfl⟩
theorem dX9_lawsOfMore_220 : Dc cX9_lawsOfMore 220 (.bipush 7) 2 222 := ⟨by decide +kernel, rfl⟩
theorem dX9_lawsOfMore_222 : Dc cX9_lawsOfMore 222 (.aload_n 0) 1 223 := ⟨by decide +kernel, rfl⟩
theorem dX9_lawsOfMore_223 : Dc cX9_lawsOfMore 223 (.getfield 9) 3 226 := ⟨by decide +kernel, rfl⟩
theorem dX9_lawsOfMore_226 : Dc cX9_lawsOfMore 226 (.aload_n 0) 1 227 := ⟨by decide +kernel, rfl⟩
theorem dX9_lawsOfMore_227 : Dc cX9_lawsOfMore 227 (.getfield 9) 3 230 := ⟨by decide +kernel, rfl⟩
theorem dX9_lawsOfMore_230 : Dc cX9_lawsOfMore 230 (.iload_n 1) 1 231 := ⟨by decide +kernel, rfl⟩
theorem dX9_lawsOfMore_231 : Dc cX9_lawsOfMore 231 (.iload_n 2) 1 232 := ⟨by decide +kernel, rfl⟩
theorem dX9_lawsOfMore_232 : Dc cX9_lawsOfMore 232 (.invokevirtual 103) 3 235 := ⟨by decide +kernel, rfl⟩
theorem dX9_lawsOfMore_235 : Dc cX9_lawsOfMore 235 (.iload 4) 2 237 := ⟨by decide +kernel, rfl⟩
theorem dX9_lawsOfMore_237 : Dc cX9_lawsOfMore 237 (.invokevirtual 93) 3 240 := ⟨by decide +kernel, rfl⟩
theorem dX9_lawsOfMore_240 : Dc cX9_lawsOfMore 240 (.iload 5) 2 242 := ⟨by decide +kernel, rfl⟩
theorem dX9_lawsOfMore_242 : Dc cX9_lawsOfMore 242 (.invokestatic 127) 3 245 := ⟨by decide +kernel, rfl⟩
theorem dX9_lawsOfMore_245 : Dc cX9_lawsOfMore 245 (.istore_n 3) 1 246 := ⟨by decide +kernel, rfl⟩
theorem dX9_lawsOfMore_246 : Dc cX9_lawsOfMore 246 (.iinc 4 1) 3 249 := ⟨by decide +kernel, rfl⟩
theorem djX9_lawsOfMore_249 : Dj cX9_lawsOfMore 249 (.goto (-220)) 3 252 (-220) 29 := ⟨by decide +kernel, rfl, by decide⟩
theorem dX9_lawsOfMore_252 : Dc cX9_lawsOfMore 252 (.iload_n 3) 1 253 := ⟨by decide +kernel, rfl⟩
theorem dX9_lawsOfMore_253 : Dc cX9_lawsOfMore 253 (.ireturn) 1 254 := ⟨by decide +kernel, rfl⟩
section
variable {p : Program} {l : Launch} {e : Env} {s : State} {m : MethodId} {args : Array Value} {below : List Frame} {meth : Method} {c : Code} {A0 : Nat → Prop} {D : va_G} {cA : Nat → ClassId} {ad : Nat → Nat} {Z : (Nat → Nat) × (Nat → Nat)} {Q : Int → St → Prop} {b : Bool}
set_option maxHeartbeats 4000000 in
set_option maxRecDepth 100000 in
theorem t_X9_lawsOfMore_b246 (E : Ev p s m args meth c cX9_lawsOfMore 6 RX9 A0 D cA ad (NC b) Z) (hr : meth.sig.returnType = (some .int)) {K29 : Int → Int → Int → Int → St → Prop} (hK29 : ∀ (x1 : Int) (x2 : Int) (x3 : Int) (x4 : Int) (σ : St), C32 x1 → C32 x2 → C32 x3 → C32 x4 → CanS (shC b) (NC b) σ → K29 x1 x2 x3 x4 σ → G p l e (rmL 2 0 0) s m args below meth c 6 A0 D cA ad (shC b) (NC b) 0 0 (MQ below (QIc D cA ad (shC b) (NC b) Q A0) args s 0 0 A0) σ 29 [some (.ref (ad 50)), some (vI x1), some (vI x2), some (vI x3), some (vI x4), none] []) (x1 : Int) (x2 : Int) (x3 : Int) (x4 : Int) (σ : St) (c1 : C32 x1) (c2 : C32 x2) (c3 : C32 x3) (c4 : C32 x4) (hσ : CanS (shC b) (NC b) σ) (h : wp_X9_lawsOfMore_b246 Q K29 x1 x2 x3 x4 σ) : G p l e (rmL 2 0 0) s m args below meth c 6 A0 D cA ad (shC b) (NC b) 0 0 (MQ below (QIc D cA ad (shC b) (NC b) Q A0) args s 0 0 A0) σ 246 [some (.ref (ad 50)), some (vI x1), some (vI x2), some (vI x3), some (vI x4), none] [] := by
  unfold wp_X9_lawsOfMore_b246 at h
  refine g_iinc_4 E rfl (by decide) dX9_lawsOfMore_246 (fun v51 ev51 => ?_)
  replace h := h v51 ev51
  have cv51 : C32 v51 := by rw [ev51]; exact c32_w _
  refine g_goto E djX9_lawsOfMore_249 ?_
  exact (hK29 x1 x2 x3 v51 σ c1 c2 c3 cv51 hσ h).weak (w_k (w_k (w_k (w_k (w_k (w_d w_n))))))
set_option maxHeartbeats 4000000 in
set_option maxRecDepth 100000 in
theorem t_X9_lawsOfMore_l29 (E : Ev p s m args meth c cX9_lawsOfMore 6 RX9 A0 D cA ad (NC b) Z) (hr : meth.sig.returnType = (some .int)) : ∀ (n : Nat) (x1 : Int) (x2 : Int) (x3 : Int) (x4 : Int) (σ : St), C32 x1 → C32 x2 → C32 x3 → C32 x4 → CanS (shC b) (NC b) σ → wp_X9_lawsOfMore_l29 Q n x1 x2 x3 x4 σ → G p l e (rmL 2 0 0) s m args below meth c 6 A0 D cA ad (shC b) (NC b) 0 0 (MQ below (QIc D cA ad (shC b) (NC b) Q A0) args s 0 0 A0) σ 29 [some (.ref (ad 50)), some (vI x1), some (vI x2), some (vI x3), some (vI x4), none] [] := by
  intro n
  induction n with
  | zero => intro _ _ _ _ _ _ _ _ _ _ h; exact h.elim
  | succ n ih =>
    intro x1 x2 x3 x4 σ c1 c2 c3 c4 hσ h
    unfold wp_X9_lawsOfMore_l29 at h
    refine g_iload_4 E dX9_lawsOfMore_29 ?_
    refine g_aload_0 E dX9_lawsOfMore_31 ?_
    refine g_getR E fl_RX9_9 (kC_50 b) (sC_50 b) rfl dX9_lawsOfMore_32 ?_
    refine g_getI E fl_RX9_112 (kC_14 b) (sC_14 b) rfl dX9_lawsOfMore_35 ?_
    refine g_icmp_ge E c4 (fC_14_7 hσ) djX9_lawsOfMore_38 (fun hc => ?_) (fun hc => ?_)
    · replace h := h.1 hc
      refine g_iload_3 E dX9_lawsOfMore_252 ?_
      exact g_iret E hr c3 h hσ dX9_lawsOfMore_253
    · replace h := h.2 hc
      refine g_aload_0 E dX9_lawsOfMore_41 ?_
      refine g_getR E fl_RX9_26 (kC_50 b) (sC_50 b) rfl dX9_lawsOfMore_42 ?_
      refine g_iload_4 E dX9_lawsOfMore_45 ?_
      refine g_zald E (kC_53 b) (sC_53 b) (by decide) h.1 dX9_lawsOfMore_47 ?_
      replace h := h.2
      refine g_if_eq E (aC_53 hσ _) djX9_lawsOfMore_48 (fun hc => ?_) (fun hc => ?_)
      · replace h := h.1 hc
        exact (t_X9_lawsOfMore_b246 E hr ih x1 x2 x3 x4 σ c1 c2 c3 c4 hσ h).weak (w_k (w_k (w_k (w_k (w_k (w_d w_n))))))
      · replace h := h.2 hc
        refine g_iload_3 E dX9_lawsOfMore_51 ?_
        refine g_iconst E dX9_lawsOfMore_52 ?_
        refine g_aload_0 E dX9_lawsOfMore_53 ?_
        refine g_getR E fl_RX9_9 (kC_50 b) (sC_50 b) rfl dX9_lawsOfMore_54 ?_
        refine g_aload_0 E dX9_lawsOfMore_57 ?_
        refine g_getR E fl_RX9_9 (kC_50 b) (sC_50 b) rfl dX9_lawsOfMore_58 ?_
        refine g_iload_1 E dX9_lawsOfMore_61 ?_
        refine g_iload_2 E dX9_lawsOfMore_62 ?_
        refine g_callvI E my_X4_plus mi_X4_plus msel_X4_plus ml_RX9_103 (rm_ok (by decide) (by decide)) ⟨Nat.zero_le _, Nat.zero_le _⟩ (kC_14 b) (sC_14 b) rfl (m_X4_plus E.2.2.1 c1 c2 hσ h) rfl rfl (Nat.le_of_ble_eq_true rfl) dX9_lawsOfMore_63 (fun r7 σ8 cr7 hσ8 h => ?_)
        refine g_iload_4 E dX9_lawsOfMore_66 ?_
        refine g_callvI E my_X4_plus mi_X4_plus msel_X4_plus ml_RX9_103 (rm_ok (by decide) (by decide)) ⟨Nat.zero_le _, Nat.zero_le _⟩ (kC_14 b) (sC_14 b) rfl (m_X4_plus E.2.2.1 cr7 c4 hσ8 h) rfl rfl (Nat.le_of_ble_eq_true rfl) dX9_lawsOfMore_68 (fun r9 σ10 cr9 hσ10 h => ?_)
        refine g_aload_0 E dX9_lawsOfMore_71 ?_
        refine g_getR E fl_RX9_9 (kC_50 b) (sC_50 b) rfl dX9_lawsOfMore_72 ?_
        refine g_iload_1 E dX9_lawsOfMore_75 ?_
        refine g_aload_0 E dX9_lawsOfMore_76 ?_
        refine g_getR E fl_RX9_9 (kC_50 b) (sC_50 b) rfl dX9_lawsOfMore_77 ?_
        refine g_iload_2 E dX9_lawsOfMore_80 ?_
        refine g_iload_4 E dX9_lawsOfMore_81 ?_
        refine g_callvI E my_X4_plus mi_X4_plus msel_X4_plus ml_RX9_103 (rm_ok (by decide) (by decide)) ⟨Nat.zero_le _, Nat.zero_le _⟩ (kC_14 b) (sC_14 b) rfl (m_X4_plus E.2.2.1 c2 c4 hσ10 h) rfl rfl (Nat.le_of_ble_eq_true rfl) dX9_lawsOfMore_83 (fun r11 σ12 cr11 hσ12 h => ?_)
        refine g_callvI E my_X4_plus mi_X4_plus msel_X4_plus ml_RX9_103 (rm_ok (by decide) (by decide)) ⟨Nat.zero_le _, Nat.zero_le _⟩ (kC_14 b) (sC_14 b) rfl (m_X4_plus E.2.2.1 c1 cr11 hσ12 h) rfl rfl (Nat.le_of_ble_eq_true rfl) dX9_lawsOfMore_86 (fun r13 σ14 cr13 hσ14 h => ?_)
        refine g_callsI E my_X9_keep ms_X9_keep ml_RX9_127 (rm_ok (by decide) (by decide)) ⟨Nat.zero_le _, Nat.zero_le _⟩ (m_X9_keep E.2.2.1 c3 cl_1 cr9 cr13 hσ14 h) rfl rfl (Nat.le_of_ble_eq_true rfl) dX9_lawsOfMore_89 (fun r15 σ16 cr15 hσ16 h => ?_)
        refine g_istore_3 E rfl (by decide) dX9_lawsOfMore_92 ?_
        refine g_iload_3 E dX9_lawsOfMore_93 ?_
        refine g_iconst E dX9_lawsOfMore_94 ?_
        refine g_aload_0 E dX9_lawsOfMore_95 ?_
        refine g_getR E fl_RX9_9 (kC_50 b) (sC_50 b) rfl dX9_lawsOfMore_96 ?_
        refine g_aload_0 E dX9_lawsOfMore_99 ?_
        refine g_getR E fl_RX9_9 (kC_50 b) (sC_50 b) rfl dX9_lawsOfMore_100 ?_
        refine g_iload_1 E dX9_lawsOfMore_103 ?_
        refine g_iload_2 E dX9_lawsOfMore_104 ?_
        refine g_callvI E my_X4_times mi_X4_times msel_X4_times ml_RX9_93 (rm_ok (by decide) (by decide)) ⟨Nat.zero_le _, Nat.zero_le _⟩ (kC_14 b) (sC_14 b) rfl (m_X4_times E.2.2.1 c1 c2 hσ16 h) rfl rfl (Nat.le_of_ble_eq_true rfl) dX9_lawsOfMore_105 (fun r17 σ18 cr17 hσ18 h => ?_)
        refine g_iload_4 E dX9_lawsOfMore_108 ?_
        refine g_callvI E my_X4_times mi_X4_times msel_X4_times ml_RX9_93 (rm_ok (by decide) (by decide)) ⟨Nat.zero_le _, Nat.zero_le _⟩ (kC_14 b) (sC_14 b) rfl (m_X4_times E.2.2.1 cr17 c4 hσ18 h) rfl rfl (Nat.le_of_ble_eq_true rfl) dX9_lawsOfMore_110 (fun r19 σ20 cr19 hσ20 h => ?_)
        refine g_aload_0 E dX9_lawsOfMore_113 ?_
        refine g_getR E fl_RX9_9 (kC_50 b) (sC_50 b) rfl dX9_lawsOfMore_114 ?_
        refine g_iload_1 E dX9_lawsOfMore_117 ?_
        refine g_aload_0 E dX9_lawsOfMore_118 ?_
        refine g_getR E fl_RX9_9 (kC_50 b) (sC_50 b) rfl dX9_lawsOfMore_119 ?_
        refine g_iload_2 E dX9_lawsOfMore_122 ?_
        refine g_iload_4 E dX9_lawsOfMore_123 ?_
        refine g_callvI E my_X4_times mi_X4_times msel_X4_times ml_RX9_93 (rm_ok (by decide) (by decide)) ⟨Nat.zero_le _, Nat.zero_le _⟩ (kC_14 b) (sC_14 b) rfl (m_X4_times E.2.2.1 c2 c4 hσ20 h) rfl rfl (Nat.le_of_ble_eq_true rfl) dX9_lawsOfMore_125 (fun r21 σ22 cr21 hσ22 h => ?_)
        refine g_callvI E my_X4_times mi_X4_times msel_X4_times ml_RX9_93 (rm_ok (by decide) (by decide)) ⟨Nat.zero_le _, Nat.zero_le _⟩ (kC_14 b) (sC_14 b) rfl (m_X4_times E.2.2.1 c1 cr21 hσ22 h) rfl rfl (Nat.le_of_ble_eq_true rfl) dX9_lawsOfMore_128 (fun r23 σ24 cr23 hσ24 h => ?_)
        refine g_callsI E my_X9_keep ms_X9_keep ml_RX9_127 (rm_ok (by decide) (by decide)) ⟨Nat.zero_le _, Nat.zero_le _⟩ (m_X9_keep E.2.2.1 cr15 cl_3 cr19 cr23 hσ24 h) rfl rfl (Nat.le_of_ble_eq_true rfl) dX9_lawsOfMore_131 (fun r25 σ26 cr25 hσ26 h => ?_)
        refine g_istore_3 E rfl (by decide) dX9_lawsOfMore_134 ?_
        refine g_aload_0 E dX9_lawsOfMore_135 ?_
        refine g_getR E fl_RX9_9 (kC_50 b) (sC_50 b) rfl dX9_lawsOfMore_136 ?_
        refine g_aload_0 E dX9_lawsOfMore_139 ?_
        refine g_getR E fl_RX9_9 (kC_50 b) (sC_50 b) rfl dX9_lawsOfMore_140 ?_
        refine g_iload_1 E dX9_lawsOfMore_143 ?_
        refine g_iload_2 E dX9_lawsOfMore_144 ?_
        refine g_callvI E my_X4_times mi_X4_times msel_X4_times ml_RX9_93 (rm_ok (by decide) (by decide)) ⟨Nat.zero_le _, Nat.zero_le _⟩ (kC_14 b) (sC_14 b) rfl (m_X4_times E.2.2.1 c1 c2 hσ26 h) rfl rfl (Nat.le_of_ble_eq_true rfl) dX9_lawsOfMore_145 (fun r27 σ28 cr27 hσ28 h => ?_)
        refine g_aload_0 E dX9_lawsOfMore_148 ?_
        refine g_getR E fl_RX9_9 (kC_50 b) (sC_50 b) rfl dX9_lawsOfMore_149 ?_
        refine g_iload_1 E dX9_lawsOfMore_152 ?_
        refine g_iload_4 E dX9_lawsOfMore_153 ?_
        refine g_callvI E my_X4_times mi_X4_times msel_X4_times ml_RX9_93 (rm_ok (by decide) (by decide)) ⟨Nat.zero_le _, Nat.zero_le _⟩ (kC_14 b) (sC_14 b) rfl (m_X4_times E.2.2.1 c1 c4 hσ28 h) rfl rfl (Nat.le_of_ble_eq_true rfl) dX9_lawsOfMore_155 (fun r29 σ30 cr29 hσ30 h => ?_)
        refine g_callvI E my_X4_plus mi_X4_plus msel_X4_plus ml_RX9_103 (rm_ok (by decide) (by decide)) ⟨Nat.zero_le _, Nat.zero_le _⟩ (kC_14 b) (sC_14 b) rfl (m_X4_plus E.2.2.1 cr27 cr29 hσ30 h) rfl rfl (Nat.le_of_ble_eq_true rfl) dX9_lawsOfMore_158 (fun r31 σ32 cr31 hσ32 h => ?_)
        refine g_istore_5 E rfl (by decide) dX9_lawsOfMore_161 ?_
        refine g_iload_3 E dX9_lawsOfMore_163 ?_
        refine g_bipush E (by decide) dX9_lawsOfMore_164 ?_
        refine g_aload_0 E dX9_lawsOfMore_166 ?_
        refine g_getR E fl_RX9_9 (kC_50 b) (sC_50 b) rfl dX9_lawsOfMore_167 ?_
        refine g_iload_1 E dX9_lawsOfMore_170 ?_
        refine g_aload_0 E dX9_lawsOfMore_171 ?_
        refine g_getR E fl_RX9_9 (kC_50 b) (sC_50 b) rfl dX9_lawsOfMore_172 ?_
        refine g_iload_2 E dX9_lawsOfMore_175 ?_
        refine g_iload_4 E dX9_lawsOfMore_176 ?_
        refine g_callvI E my_X4_plus mi_X4_plus msel_X4_plus ml_RX9_103 (rm_ok (by decide) (by decide)) ⟨Nat.zero_le _, Nat.zero_le _⟩ (kC_14 b) (sC_14 b) rfl (m_X4_plus E.2.2.1 c2 c4 hσ32 h) rfl rfl (Nat.le_of_ble_eq_true rfl) dX9_lawsOfMore_178 (fun r33 σ34 cr33 hσ34 h => ?_)
        refine g_callvI E my_X4_times mi_X4_times msel_X4_times ml_RX9_93 (rm_ok (by decide) (by decide)) ⟨Nat.zero_le _, Nat.zero_le _⟩ (kC_14 b) (sC_14 b) rfl (m_X4_times E.2.2.1 c1 cr33 hσ34 h) rfl rfl (Nat.le_of_ble_eq_true rfl) dX9_lawsOfMore_181 (fun r35 σ36 cr35 hσ36 h => ?_)
        refine g_iload_5 E dX9_lawsOfMore_184 ?_
        refine g_callsI E my_X9_keep ms_X9_keep ml_RX9_127 (rm_ok (by decide) (by decide)) ⟨Nat.zero_le _, Nat.zero_le _⟩ (m_X9_keep E.2.2.1 cr25 cl_6 cr35 cr31 hσ36 h) rfl rfl (Nat.le_of_ble_eq_true rfl) dX9_lawsOfMore_186 (fun r37 σ38 cr37 hσ38 h => ?_)
        refine g_istore_3 E rfl (by decide) dX9_lawsOfMore_189 ?_
        refine g_aload_0 E dX9_lawsOfMore_190 ?_
        refine g_getR E fl_RX9_9 (kC_50 b) (sC_50 b) rfl dX9_lawsOfMore_191 ?_
        refine g_aload_0 E dX9_lawsOfMore_194 ?_
        refine g_getR E fl_RX9_9 (kC_50 b) (sC_50 b) rfl dX9_lawsOfMore_195 ?_
        refine g_iload_1 E dX9_lawsOfMore_198 ?_
        refine g_iload_4 E dX9_lawsOfMore_199 ?_
        refine g_callvI E my_X4_times mi_X4_times msel_X4_times ml_RX9_93 (rm_ok (by decide) (by decide)) ⟨Nat.zero_le _, Nat.zero_le _⟩ (kC_14 b) (sC_14 b) rfl (m_X4_times E.2.2.1 c1 c4 hσ38 h) rfl rfl (Nat.le_of_ble_eq_true rfl) dX9_lawsOfMore_201 (fun r39 σ40 cr39 hσ40 h => ?_)
        refine g_aload_0 E dX9_lawsOfMore_204 ?_
        refine g_getR E fl_RX9_9 (kC_50 b) (sC_50 b) rfl dX9_lawsOfMore_205 ?_
        refine g_iload_2 E dX9_lawsOfMore_208 ?_
        refine g_iload_4 E dX9_lawsOfMore_209 ?_
        refine g_callvI E my_X4_times mi_X4_times msel_X4_times ml_RX9_93 (rm_ok (by decide) (by decide)) ⟨Nat.zero_le _, Nat.zero_le _⟩ (kC_14 b) (sC_14 b) rfl (m_X4_times E.2.2.1 c2 c4 hσ40 h) rfl rfl (Nat.le_of_ble_eq_true rfl) dX9_lawsOfMore_211 (fun r41 σ42 cr41 hσ42 h => ?_)
        refine g_callvI E my_X4_plus mi_X4_plus msel_X4_plus ml_RX9_103 (rm_ok (by decide) (by decide)) ⟨Nat.zero_le _, Nat.zero_le _⟩ (kC_14 b) (sC_14 b) rfl (m_X4_plus E.2.2.1 cr39 cr41 hσ42 h) rfl rfl (Nat.le_of_ble_eq_true rfl) dX9_lawsOfMore_214 (fun r43 σ44 cr43 hσ44 h => ?_)
        refine g_istore_5 E rfl (by decide) dX9_lawsOfMore_217 ?_
        refine g_iload_3 E dX9_lawsOfMore_219 ?_
        refine g_bipush E (by decide) dX9_lawsOfMore_220 ?_
        refine g_aload_0 E dX9_lawsOfMore_222 ?_
        refine g_getR E fl_RX9_9 (kC_50 b) (sC_50 b) rfl dX9_lawsOfMore_223 ?_
        refine g_aload_0 E dX9_lawsOfMore_226 ?_
        refine g_getR E fl_RX9_9 (kC_50 b) (sC_50 b) rfl dX9_lawsOfMore_227 ?_
        refine g_iload_1 E dX9_lawsOfMore_230 ?_
        refine g_iload_2 E dX9_lawsOfMore_231 ?_
        refine g_callvI E my_X4_plus mi_X4_plus msel_X4_plus ml_RX9_103 (rm_ok (by decide) (by decide)) ⟨Nat.zero_le _, Nat.zero_le _⟩ (kC_14 b) (sC_14 b) rfl (m_X4_plus E.2.2.1 c1 c2 hσ44 h) rfl rfl (Nat.le_of_ble_eq_true rfl) dX9_lawsOfMore_232 (fun r45 σ46 cr45 hσ46 h => ?_)
        refine g_iload_4 E dX9_lawsOfMore_235 ?_
        refine g_callvI E my_X4_times mi_X4_times msel_X4_times ml_RX9_93 (rm_ok (by decide) (by decide)) ⟨Nat.zero_le _, Nat.zero_le _⟩ (kC_14 b) (sC_14 b) rfl (m_X4_times E.2.2.1 cr45 c4 hσ46 h) rfl rfl (Nat.le_of_ble_eq_true rfl) dX9_lawsOfMore_237 (fun r47 σ48 cr47 hσ48 h => ?_)
        refine g_iload_5 E dX9_lawsOfMore_240 ?_
        refine g_callsI E my_X9_keep ms_X9_keep ml_RX9_127 (rm_ok (by decide) (by decide)) ⟨Nat.zero_le _, Nat.zero_le _⟩ (m_X9_keep E.2.2.1 cr37 cl_7 cr47 cr43 hσ48 h) rfl rfl (Nat.le_of_ble_eq_true rfl) dX9_lawsOfMore_242 (fun r49 σ50 cr49 hσ50 h => ?_)
        refine g_istore_3 E rfl (by decide) dX9_lawsOfMore_245 ?_
        exact (t_X9_lawsOfMore_b246 E hr ih x1 x2 r49 x4 σ50 c1 c2 cr49 c4 hσ50 h).weak (w_k (w_k (w_k (w_k (w_k (w_d w_n))))))
set_option maxHeartbeats 4000000 in
set_option maxRecDepth 100000 in
theorem t_X9_lawsOfMore (E : Ev p s m args meth c cX9_lawsOfMore 6 RX9 A0 D cA ad (NC b) Z) (hr : meth.sig.returnType = (some .int)) (x1 : Int) (x2 : Int) (σ : St) (c1 : C32 x1) (c2 : C32 x2) (hσ : CanS (shC b) (NC b) σ) (h : wp_X9_lawsOfMore x1 x2 σ Q) : G p l e (rmL 2 0 0) s m args below meth c 6 A0 D cA ad (shC b) (NC b) 0 0 (MQ below (QIc D cA ad (shC b) (NC b) Q A0) args s 0 0 A0) σ 0 [some (.ref (ad 50)), some (vI x1), some (vI x2), none, none, none] [] := by
  unfold wp_X9_lawsOfMore at h
  refine g_sipush E (by decide) dX9_lawsOfMore_0 ?_
  refine g_iconst E dX9_lawsOfMore_3 ?_
  refine g_aload_0 E dX9_lawsOfMore_4 ?_
  refine g_getR E fl_RX9_9 (kC_50 b) (sC_50 b) rfl dX9_lawsOfMore_5 ?_
  refine g_iload_1 E dX9_lawsOfMore_8 ?_
  refine g_iload_2 E dX9_lawsOfMore_9 ?_
  refine g_callvI E my_X4_plus mi_X4_plus msel_X4_plus ml_RX9_103 (rm_ok (by decide) (by decide)) ⟨Nat.zero_le _, Nat.zero_le _⟩ (kC_14 b) (sC_14 b) rfl (m_X4_plus E.2.2.1 c1 c2 hσ h) rfl rfl (Nat.le_of_ble_eq_true rfl) dX9_lawsOfMore_10 (fun r1 σ2 cr1 hσ2 h => ?_)
  refine g_aload_0 E dX9_lawsOfMore_13 ?_
  refine g_getR E fl_RX9_9 (kC_50 b) (sC_50 b) rfl dX9_lawsOfMore_14 ?_
  refine g_iload_2 E dX9_lawsOfMore_17 ?_
  refine g_iload_1 E dX9_lawsOfMore_18 ?_
  refine g_callvI E my_X4_plus mi_X4_plus msel_X4_plus ml_RX9_103 (rm_ok (by decide) (by decide)) ⟨Nat.zero_le _, Nat.zero_le _⟩ (kC_14 b) (sC_14 b) rfl (m_X4_plus E.2.2.1 c2 c1 hσ2 h) rfl rfl (Nat.le_of_ble_eq_true rfl) dX9_lawsOfMore_19 (fun r3 σ4 cr3 hσ4 h => ?_)
  refine g_callsI E my_X9_keep ms_X9_keep ml_RX9_127 (rm_ok (by decide) (by decide)) ⟨Nat.zero_le _, Nat.zero_le _⟩ (m_X9_keep E.2.2.1 cl_511 cl_0 cr1 cr3 hσ4 h) rfl rfl (Nat.le_of_ble_eq_true rfl) dX9_lawsOfMore_22 (fun r5 σ6 cr5 hσ6 h => ?_)
  refine g_istore_3 E rfl (by decide) dX9_lawsOfMore_25 ?_
  refine g_iconst E dX9_lawsOfMore_26 ?_
  refine g_istore_4 E rfl (by decide) dX9_lawsOfMore_27 ?_
  exact (t_X9_lawsOfMore_l29 E hr bigN x1 x2 r5 0 σ6 c1 c2 cr5 cl_0 hσ6 h).weak (w_k (w_k (w_k (w_k (w_k (w_d w_n))))))
end
theorem m_X9_lawsOfMore {Z : (Nat → Nat) × (Nat → Nat)} {l : Launch} {D : va_G} {cA : Nat → ClassId} {ad : Nat → Nat} {b : Bool} {x1 x2 : Int} {σ : St} {Q : Int → St → Prop} (hA : AdOk (NC b) ad) (c1 : C32 x1) (c2 : C32 x2) (hσ : CanS (shC b) (NC b) σ) (h : wp_X9_lawsOfMore x1 x2 σ Q) : KtI Z l D cA ad (shC b) (NC b) yX9_lawsOfMore cX9_lawsOfMore 6 (some .int) 2 [.ref (ad 50), vI x1, vI x2] σ Q :=
  KtI.of my_X9_lawsOfMore hA [some (.ref (ad 50)), some (vI x1), some (vI x2), none, none, none] (Nat.le_of_ble_eq_true rfl) rfl (fun p e s m args below meth c A0 E hr => t_X9_lawsOfMore E hr x1 x2 σ c1 c2 hσ h)
theorem dX9_lawsKept_0 : Dc cX9_lawsKept 0 (.aload_n 0) 1 1 := ⟨by decide +kernel, rfl⟩
theorem dX9_lawsKept_1 : Dc cX9_lawsKept 1 (.invokevirtual 34) 3 4 := ⟨by decide +kernel, rfl⟩
theorem dX9_lawsKept_4 : Dc cX9_lawsKept 4 (.bipush (-6)) 2 6 := ⟨by decide +kernel, rfl⟩
theorem djX9_lawsKept_6 : Dj cX9_lawsKept 6 (.if_icmp .ne 6) 3 9 6 12 := ⟨by decide +kernel, rfl, by decide⟩
theorem dX9_lawsKept_9 : Dc cX9_lawsKept 9 (.bipush (-6)) 2 11 := ⟨by decide +kernel, rfl⟩
theorem dX9_lawsKept_11 : Dc cX9_lawsKept 11 (.ireturn) 1 12 := ⟨by decide +kernel, rfl⟩
theorem dX9_lawsKept_12 : Dc cX9_lawsKept 12 (.aload_n 0) 1 13 := ⟨by decide +kernel, rfl⟩
theorem dX9_lawsKept_13 : Dc cX9_lawsKept 13 (.invokevirtual 109) 3 16 := ⟨by decide +kernel, rfl⟩
theorem dX9_lawsKept_16 : Dc cX9_lawsKept 16 (.sipush 511) 3 19 := ⟨by decide +kernel, rfl⟩
theorem dX9_lawsKept_19 : Dc cX9_lawsKept 19 (.istore_n 1) 1 20 := ⟨by decide +kernel, rfl⟩
theorem dX9_lawsKept_20 : Dc cX9_lawsKept 20 (.iconst 0) 1 21 := ⟨by decide +kernel, rfl⟩
theorem dX9_lawsKept_21 : Dc cX9_lawsKept 21 (.istore_n 2) 1 22 := ⟨by decide +kernel, rfl⟩
theorem dX9_lawsKept_22 : Dc cX9_lawsKept 22 (.iload_n 2) 1 23 := ⟨by decide +kernel, rfl⟩
theorem dX9_lawsKept_23 : Dc cX9_lawsKept 23 (.aload_n 0) 1 24 := ⟨by decide +kernel, rfl⟩
theorem dX9_lawsKept_24 : Dc cX9_lawsKept 24 (.getfield 9) 3 27 := ⟨by decide +kernel, rfl⟩
theorem dX9_lawsKept_27 : Dc cX9_lawsKept 27 (.getfield 112) 3 30 := ⟨by decide +kernel, rfl⟩
theorem djX9_lawsKept_30 : Dj cX9_lawsKept 30 (.if_icmp .ge 63) 3 33 63 93 := ⟨by decide +kernel, rfl, by decide⟩
theorem dX9_lawsKept_33 : Dc cX9_lawsKept 33 (.aload_n 0) 1 34 := ⟨by decide +kernel, rfl⟩
theorem dX9_lawsKept_34 : Dc cX9_lawsKept 34 (.getfield 26) 3 37 := ⟨by decide +kernel, rfl⟩
theorem dX9_lawsKept_37 : Dc cX9_lawsKept 37 (.iload_n 2) 1 38 := ⟨by decide +kernel, rfl⟩
theorem dX9_lawsKept_38 : Dc cX9_lawsKept 38 (.baload) 1 39 := ⟨by decide +kernel, rfl⟩
theorem djX9_lawsKept_39 : Dj cX9_lawsKept 39 (.ifCond .eq 48) 3 42 48 87 := ⟨by decide +kernel, rfl, by decide⟩
theorem dX9_lawsKept_42 : Dc cX9_lawsKept 42 (.iload_n 1) 1 43 := ⟨by decide +kernel, rfl⟩
theorem dX9_lawsKept_43 : Dc cX9_lawsKept 43 (.aload_n 0) 1 44 := ⟨by decide +kernel, rfl⟩
theorem dX9_lawsKept_44 : Dc cX9_lawsKept 44 (.iload_n 2) 1 45 := ⟨by decide +kernel, rfl⟩
theorem dX9_lawsKept_45 : Dc cX9_lawsKept 45 (.invokevirtual 115) 3 48 := ⟨by decide +kernel, rfl⟩
theorem dX9_lawsKept_48 : Dc cX9_lawsKept 48 (.iand) 1 49 := ⟨by decide +kernel, rfl⟩
theorem dX9_lawsKept_49 : Dc cX9_lawsKept 49 (.istore_n 1) 1 50 := ⟨by decide +kernel, rfl⟩
theorem dX9_lawsKept_50 : Dc cX9_lawsKept 50 (.iconst 0) 1 51 := ⟨by decide +kernel, rfl⟩
theorem dX9_lawsKept_51 : Dc cX9_lawsKept 51 (.istore_n 3) 1 52 := ⟨by decide +kernel, rfl⟩
theorem dX9_lawsKept_52 : Dc cX9_lawsKept 52 (.iload_n 3) 1 53 := ⟨by decide +kernel, rfl⟩
theorem dX9_lawsKept_53 : Dc cX9_lawsKept 53 (.aload_n 0) 1 54 := ⟨by decide +kernel, rfl⟩
theorem dX9_lawsKept_54 : Dc cX9_lawsKept 54 (.getfield 9) 3 57 := ⟨by decide +kernel, rfl⟩
theorem dX9_lawsKept_57 : Dc cX9_lawsKept 57 (.getfield 112) 3 60 := ⟨by decide +kernel, rfl⟩
theorem djX9_lawsKept_60 : Dj cX9_lawsKept 60 (.if_icmp .ge 27) 3 63 27 87 := ⟨by decide +kernel, rfl, by decide⟩
theorem dX9_lawsKept_63 : Dc cX9_lawsKept 63 (.aload_n 0) 1 64 := ⟨by decide +kernel, rfl⟩
theorem dX9_lawsKept_64 : Dc cX9_lawsKept 64 (.getfield 26) 3 67 := ⟨by decide +kernel, rfl⟩
theorem dX9_lawsKept_67 : Dc cX9_lawsKept 67 (.iload_n 3) 1 68 := ⟨by decide +kernel, rfl⟩
theorem dX9_lawsKept_68 : Dc cX9_lawsKept 68 (.baload) 1 69 := ⟨by decide +kernel, rfl⟩
theorem djX9_lawsKept_69 : Dj cX9_lawsKept 69 (.ifCond .eq 12) 3 72 12 81 := ⟨by decide +kernel, rfl, by decide⟩
theorem dX9_lawsKept_72 : Dc cX9_lawsKept 72 (.iload_n 1) 1 73 := ⟨by decide +kernel, rfl⟩
theorem dX9_lawsKept_73 : Dc cX9_lawsKept 73 (.aload_n 0) 1 74 := ⟨by decide +kernel, rfl⟩
theorem dX9_lawsKept_74 : Dc cX9_lawsKept 74 (.iload_n 2) 1 75 := ⟨by decide +kernel, rfl⟩
theorem dX9_lawsKept_75 : Dc cX9_lawsKept 75 (.iload_n 3) 1 76 := ⟨by decide +kernel, rfl⟩
theorem dX9_lawsKept_76 : Dc cX9_lawsKept 76 (.invokevirtual 118) 3 79 := ⟨by decide +kernel, rfl⟩
theorem dX9_lawsKept_79 : Dc cX9_lawsKept 79 (.iand) 1 80 := ⟨by decide +kernel, rfl⟩
theorem dX9_lawsKept_80 : Dc cX9_lawsKept 80 (.istore_n 1) 1 81 := ⟨by decide +kernel, rfl⟩
theorem dX9_lawsKept_81 : Dc cX9_lawsKept 81 (.iinc 3 1) 3 84 := ⟨by decide +kernel, rfl⟩
theorem djX9_lawsKept_84 : Dj cX9_lawsKept 84 (.goto (-32)) 3 87 (-32) 52 := ⟨by decide +kernel, rfl, by decide⟩
theorem dX9_lawsKept_87 : Dc cX9_lawsKept 87 (.iinc 2 1) 3 90 := ⟨by decide +kernel, rfl⟩
theorem djX9_lawsKept_90 : Dj cX9_lawsKept 90 (.goto (-68)) 3 93 (-68) 22 := ⟨by decide +kernel, rfl, by decide⟩
theorem dX9_lawsKept_93 : Dc cX9_lawsKept 93 (.iload_n 1) 1 94 := ⟨by decide +kernel, rfl⟩
theorem dX9_lawsKept_94 : Dc cX9_lawsKept 94 (.ireturn) 1 95 := ⟨by decide +kernel, rfl⟩
section
variable {p : Program} {l : Launch} {e : Env} {s : State} {m : MethodId} {args : Array Value} {below : List Frame} {meth : Method} {c : Code} {A0 : Nat → Prop} {D : va_G} {cA : Nat → ClassId} {ad : Nat → Nat} {Z : (Nat → Nat) × (Nat → Nat)} {Q : Int → St → Prop} {b : Bool}
set_option maxHeartbeats 4000000 in
set_option maxRecDepth 100000 in
theorem t_X9_lawsKept_b81 (E : Ev p s m args meth c cX9_lawsKept 4 RX9 A0 D cA ad (NC b) Z) (hr : meth.sig.returnType = (some .int)) {K22 : Int → Int → St → Prop} (hK22 : ∀ (x1 : Int) (x2 : Int) (σ : St), C32 x1 → C32 x2 → CanS (shC b) (NC b) σ → K22 x1 x2 σ → G p l e (rmL 6 0 0) s m args below meth c 4 A0 D cA ad (shC b) (NC b) 0 0 (MQ below (QIc D cA ad (shC b) (NC b) Q A0) args s 0 0 A0) σ 22 [some (.ref (ad 50)), some (vI x1), some (vI x2), none] []) {K52 : Int → Int → Int → St → Prop} (hK52 : ∀ (x1 : Int) (x2 : Int) (x3 : Int) (σ : St), C32 x1 → C32 x2 → C32 x3 → CanS (shC b) (NC b) σ → K52 x1 x2 x3 σ → G p l e (rmL 6 0 0) s m args below meth c 4 A0 D cA ad (shC b) (NC b) 0 0 (MQ below (QIc D cA ad (shC b) (NC b) Q A0) args s 0 0 A0) σ 52 [some (.ref (ad 50)), some (vI x1), some (vI x2), some (vI x3)] []) (x1 : Int) (x2 : Int) (x3 : Int) (σ : St) (c1 : C32 x1) (c2 : C32 x2) (c3 : C32 x3) (hσ : CanS (shC b) (NC b) σ) (h : wp_X9_lawsKept_b81 Q K22 K52 x1 x2 x3 σ) : G p l e (rmL 6 0 0) s m args below meth c 4 A0 D cA ad (shC b) (NC b) 0 0 (MQ below (QIc D cA ad (shC b) (NC b) Q A0) args s 0 0 A0) σ 81 [some (.ref (ad 50)), some (vI x1), some (vI x2), some (vI x3)] [] := by
  unfold wp_X9_lawsKept_b81 at h
  refine g_iinc_3 E rfl (by decide) dX9_lawsKept_81 (fun v12 ev12 => ?_)
  replace h := h v12 ev12
  have cv12 : C32 v12 := by rw [ev12]; exact c32_w _
  refine g_goto E djX9_lawsKept_84 ?_
  exact (hK52 x1 x2 v12 σ c1 c2 cv12 hσ h).weak (w_k (w_k (w_k (w_k w_n))))
set_option maxHeartbeats 4000000 in
set_option maxRecDepth 100000 in
theorem t_X9_lawsKept_b87 (E : Ev p s m args meth c cX9_lawsKept 4 RX9 A0 D cA ad (NC b) Z) (hr : meth.sig.returnType = (some .int)) {K22 : Int → Int → St → Prop} (hK22 : ∀ (x1 : Int) (x2 : Int) (σ : St), C32 x1 → C32 x2 → CanS (shC b) (NC b) σ → K22 x1 x2 σ → G p l e (rmL 6 0 0) s m args below meth c 4 A0 D cA ad (shC b) (NC b) 0 0 (MQ below (QIc D cA ad (shC b) (NC b) Q A0) args s 0 0 A0) σ 22 [some (.ref (ad 50)), some (vI x1), some (vI x2), none] []) (x1 : Int) (x2 : Int) (σ : St) (c1 : C32 x1) (c2 : C32 x2) (hσ : CanS (shC b) (NC b) σ) (h : wp_X9_lawsKept_b87 Q K22 x1 x2 σ) : G p l e (rmL 6 0 0) s m args below meth c 4 A0 D cA ad (shC b) (NC b) 0 0 (MQ below (QIc D cA ad (shC b) (NC b) Q A0) args s 0 0 A0) σ 87 [some (.ref (ad 50)), some (vI x1), some (vI x2), none] [] := by
  unfold wp_X9_lawsKept_b87 at h
  refine g_iinc_2 E rfl (by decide) dX9_lawsKept_87 (fun v8 ev8 => ?_)
  replace h := h v8 ev8
  have cv8 : C32 v8 := by rw [ev8]; exact c32_w _
  refine g_goto E djX9_lawsKept_90 ?_
  exact (hK22 x1 v8 σ c1 cv8 hσ h).weak (w_k (w_k (w_k (w_d w_n))))
set_option maxHeartbeats 4000000 in
set_option maxRecDepth 100000 in
theorem t_X9_lawsKept_l52 (E : Ev p s m args meth c cX9_lawsKept 4 RX9 A0 D cA ad (NC b) Z) (hr : meth.sig.returnType = (some .int)) {K22 : Int → Int → St → Prop} (hK22 : ∀ (x1 : Int) (x2 : Int) (σ : St), C32 x1 → C32 x2 → CanS (shC b) (NC b) σ → K22 x1 x2 σ → G p l e (rmL 6 0 0) s m args below meth c 4 A0 D cA ad (shC b) (NC b) 0 0 (MQ below (QIc D cA ad (shC b) (NC b) Q A0) args s 0 0 A0) σ 22 [some (.ref (ad 50)), some (vI x1), some (vI x2), none] []) : ∀ (n : Nat) (x1 : Int) (x2 : Int) (x3 : Int) (σ : St), C32 x1 → C32 x2 → C32 x3 → CanS (shC b) (NC b) σ → wp_X9_lawsKept_l52 Q K22 n x1 x2 x3 σ → G p l e (rmL 6 0 0) s m args below meth c 4 A0 D cA ad (shC b) (NC b) 0 0 (MQ below (QIc D cA ad (shC b) (NC b) Q A0) args s 0 0 A0) σ 52 [some (.ref (ad 50)), some (vI x1), some (vI x2), some (vI x3)] [] := by
  intro n
  induction n with
  | zero => intro _ _ _ _ _ _ _ _ h; exact h.elim
  | succ n ih =>
    intro x1 x2 x3 σ c1 c2 c3 hσ h
    unfold wp_X9_lawsKept_l52 at h
    refine g_iload_3 E dX9_lawsKept_52 ?_
    refine g_aload_0 E dX9_lawsKept_53 ?_
    refine g_getR E fl_RX9_9 (kC_50 b) (sC_50 b) rfl dX9_lawsKept_54 ?_
    refine g_getI E fl_RX9_112 (kC_14 b) (sC_14 b) rfl dX9_lawsKept_57 ?_
    refine g_icmp_ge E c3 (fC_14_7 hσ) djX9_lawsKept_60 (fun hc => ?_) (fun hc => ?_)
    · replace h := h.1 hc
      exact (t_X9_lawsKept_b87 E hr hK22 x1 x2 σ c1 c2 hσ h).weak (w_k (w_k (w_k (w_d w_n))))
    · replace h := h.2 hc
      refine g_aload_0 E dX9_lawsKept_63 ?_
      refine g_getR E fl_RX9_26 (kC_50 b) (sC_50 b) rfl dX9_lawsKept_64 ?_
      refine g_iload_3 E dX9_lawsKept_67 ?_
      refine g_zald E (kC_53 b) (sC_53 b) (by decide) h.1 dX9_lawsKept_68 ?_
      replace h := h.2
      refine g_if_eq E (aC_53 hσ _) djX9_lawsKept_69 (fun hc => ?_) (fun hc => ?_)
      · replace h := h.1 hc
        exact (t_X9_lawsKept_b81 E hr hK22 ih x1 x2 x3 σ c1 c2 c3 hσ h).weak (w_k (w_k (w_k (w_k w_n))))
      · replace h := h.2 hc
        refine g_iload_1 E dX9_lawsKept_72 ?_
        refine g_aload_0 E dX9_lawsKept_73 ?_
        refine g_iload_2 E dX9_lawsKept_74 ?_
        refine g_iload_3 E dX9_lawsKept_75 ?_
        refine g_callvI E my_X9_lawsOfMore mi_X9_lawsOfMore msel_X9_lawsOfMore ml_RX9_118 (rm_ok (by decide) (by decide)) ⟨Nat.zero_le _, Nat.zero_le _⟩ (kC_50 b) (sC_50 b) rfl (m_X9_lawsOfMore E.2.2.1 c2 c3 hσ h) rfl rfl (Nat.le_of_ble_eq_true rfl) dX9_lawsKept_76 (fun r9 σ10 cr9 hσ10 h => ?_)
        refine g_iand E dX9_lawsKept_79 ?_
        refine g_nmI (fun v11 ev11 => ?_)
        replace h := h v11 ev11
        have cv11 : C32 v11 := by rw [ev11]; exact (c32_t _)
        refine g_istore_1 E rfl (by decide) dX9_lawsKept_80 ?_
        exact (t_X9_lawsKept_b81 E hr hK22 ih v11 x2 x3 σ10 cv11 c2 c3 hσ10 h).weak (w_k (w_k (w_k (w_k w_n))))
set_option maxHeartbeats 4000000 in
set_option maxRecDepth 100000 in
theorem t_X9_lawsKept_l22 (E : Ev p s m args meth c cX9_lawsKept 4 RX9 A0 D cA ad (NC b) Z) (hr : meth.sig.returnType = (some .int)) : ∀ (n : Nat) (x1 : Int) (x2 : Int) (σ : St), C32 x1 → C32 x2 → CanS (shC b) (NC b) σ → wp_X9_lawsKept_l22 Q n x1 x2 σ → G p l e (rmL 6 0 0) s m args below meth c 4 A0 D cA ad (shC b) (NC b) 0 0 (MQ below (QIc D cA ad (shC b) (NC b) Q A0) args s 0 0 A0) σ 22 [some (.ref (ad 50)), some (vI x1), some (vI x2), none] [] := by
  intro n
  induction n with
  | zero => intro _ _ _ _ _ _ h; exact h.elim
  | succ n ih =>
    intro x1 x2 σ c1 c2 hσ h
    unfold wp_X9_lawsKept_l22 at h
    refine g_iload_2 E dX9_lawsKept_22 ?_
    refine g_aload_0 E dX9_lawsKept_23 ?_
    refine g_getR E fl_RX9_9 (kC_50 b) (sC_50 b) rfl dX9_lawsKept_24 ?_
    refine g_getI E fl_RX9_112 (kC_14 b) (sC_14 b) rfl dX9_lawsKept_27 ?_
    refine g_icmp_ge E c2 (fC_14_7 hσ) djX9_lawsKept_30 (fun hc => ?_) (fun hc => ?_)
    · replace h := h.1 hc
      refine g_iload_1 E dX9_lawsKept_93 ?_
      exact g_iret E hr c1 h hσ dX9_lawsKept_94
    · replace h := h.2 hc
      refine g_aload_0 E dX9_lawsKept_33 ?_
      refine g_getR E fl_RX9_26 (kC_50 b) (sC_50 b) rfl dX9_lawsKept_34 ?_
      refine g_iload_2 E dX9_lawsKept_37 ?_
      refine g_zald E (kC_53 b) (sC_53 b) (by decide) h.1 dX9_lawsKept_38 ?_
      replace h := h.2
      refine g_if_eq E (aC_53 hσ _) djX9_lawsKept_39 (fun hc => ?_) (fun hc => ?_)
      · replace h := h.1 hc
        exact (t_X9_lawsKept_b87 E hr ih x1 x2 σ c1 c2 hσ h).weak (w_k (w_k (w_k (w_d w_n))))
      · replace h := h.2 hc
        refine g_iload_1 E dX9_lawsKept_42 ?_
        refine g_aload_0 E dX9_lawsKept_43 ?_
        refine g_iload_2 E dX9_lawsKept_44 ?_
        refine g_callvI E my_X9_lawsOfOne mi_X9_lawsOfOne msel_X9_lawsOfOne ml_RX9_115 (rm_ok (by decide) (by decide)) ⟨Nat.zero_le _, Nat.zero_le _⟩ (kC_50 b) (sC_50 b) rfl (m_X9_lawsOfOne E.2.2.1 c2 hσ h) rfl rfl (Nat.le_of_ble_eq_true rfl) dX9_lawsKept_45 (fun r5 σ6 cr5 hσ6 h => ?_)
        refine g_iand E dX9_lawsKept_48 ?_
        refine g_nmI (fun v7 ev7 => ?_)
        replace h := h v7 ev7
        have cv7 : C32 v7 := by rw [ev7]; exact (c32_t _)
        refine g_istore_1 E rfl (by decide) dX9_lawsKept_49 ?_
        refine g_iconst E dX9_lawsKept_50 ?_
        refine g_istore_3 E rfl (by decide) dX9_lawsKept_51 ?_
        exact (t_X9_lawsKept_l52 E hr ih bigN v7 x2 0 σ6 cv7 c2 cl_0 hσ6 h).weak (w_k (w_k (w_k (w_k w_n))))
set_option maxHeartbeats 4000000 in
set_option maxRecDepth 100000 in
theorem t_X9_lawsKept (E : Ev p s m args meth c cX9_lawsKept 4 RX9 A0 D cA ad (NC b) Z) (hr : meth.sig.returnType = (some .int)) (σ : St) (hσ : CanS (shC b) (NC b) σ) (h : wp_X9_lawsKept  σ Q) : G p l e (rmL 6 0 0) s m args below meth c 4 A0 D cA ad (shC b) (NC b) 0 0 (MQ below (QIc D cA ad (shC b) (NC b) Q A0) args s 0 0 A0) σ 0 [some (.ref (ad 50)), none, none, none] [] := by
  unfold wp_X9_lawsKept at h
  refine g_aload_0 E dX9_lawsKept_0 ?_
  refine g_callvI E my_X9_roundsTaken mi_X9_roundsTaken msel_X9_roundsTaken ml_RX9_34 (rm_ok (by decide) (by decide)) ⟨Nat.zero_le _, Nat.zero_le _⟩ (kC_50 b) (sC_50 b) rfl (m_X9_roundsTaken E.2.2.1 hσ h) rfl rfl (Nat.le_of_ble_eq_true rfl) dX9_lawsKept_1 (fun r1 σ2 cr1 hσ2 h => ?_)
  refine g_bipush E (by decide) dX9_lawsKept_4 ?_
  refine g_icmp_ne E cr1 cl_m6 djX9_lawsKept_6 (fun hc => ?_) (fun hc => ?_)
  · replace h := h.1 hc
    refine g_aload_0 E dX9_lawsKept_12 ?_
    refine g_callvV E my_X9_meetAll mi_X9_meetAll msel_X9_meetAll ml_RX9_109 (rm_ok (by decide) (by decide)) ⟨Nat.zero_le _, Nat.zero_le _⟩ (kC_50 b) (sC_50 b) rfl (m_X9_meetAll E.2.2.1 hσ2 h) rfl rfl (Nat.le_of_ble_eq_true rfl) dX9_lawsKept_13 (fun σ4 r3 hσ4 h => ?_)
    refine g_sipush E (by decide) dX9_lawsKept_16 ?_
    refine g_istore_1 E rfl (by decide) dX9_lawsKept_19 ?_
    refine g_iconst E dX9_lawsKept_20 ?_
    refine g_istore_2 E rfl (by decide) dX9_lawsKept_21 ?_
    exact (t_X9_lawsKept_l22 E hr bigN 511 0 σ4 cl_511 cl_0 hσ4 h).weak (w_k (w_k (w_k (w_d w_n))))
  · replace h := h.2 hc
    refine g_bipush E (by decide) dX9_lawsKept_9 ?_
    exact g_iret E hr cl_m6 h hσ2 dX9_lawsKept_11
end
theorem m_X9_lawsKept {Z : (Nat → Nat) × (Nat → Nat)} {l : Launch} {D : va_G} {cA : Nat → ClassId} {ad : Nat → Nat} {b : Bool} {σ : St} {Q : Int → St → Prop} (hA : AdOk (NC b) ad) (hσ : CanS (shC b) (NC b) σ) (h : wp_X9_lawsKept  σ Q) : KtI Z l D cA ad (shC b) (NC b) yX9_lawsKept cX9_lawsKept 4 (some .int) 6 [.ref (ad 50)] σ Q :=
  KtI.of my_X9_lawsKept hA [some (.ref (ad 50)), none, none, none] (Nat.le_of_ble_eq_true rfl) rfl (fun p e s m args below meth c A0 E hr => t_X9_lawsKept E hr σ hσ h)
theorem dX11_laws_0 : Dc cX11_laws 0 (.aload_n 0) 1 1 := ⟨by decide +kernel, rfl⟩
theorem dX11_laws_1 : Dc cX11_laws 1 (.getfield 69) 3 4 := ⟨by decide +kernel, rfl⟩
theorem dX11_laws_4 : Dc cX11_laws 4 (.invokevirtual 262) 3 7 := ⟨by decide +kernel, rfl⟩
theorem dX11_laws_7 : Dc cX11_laws 7 (.ireturn) 1 8 := ⟨by decide +kernel, rfl⟩
section
variable {p : Program} {l : Launch} {e : Env} {s : State} {m : MethodId} {args : Array Value} {below : List Frame} {meth : Method} {c : Code} {A0 : Nat → Prop} {D : va_G} {cA : Nat → ClassId} {ad : Nat → Nat} {Z : (Nat → Nat) × (Nat → Nat)} {Q : Int → St → Prop} {b : Bool}
set_option maxHeartbeats 4000000 in
set_option maxRecDepth 100000 in
theorem t_X11_laws (E : Ev p s m args meth c cX11_laws 1 RX11 A0 D cA ad (NC b) Z) (hr : meth.sig.returnType = (some .int)) (σ : St) (hσ : CanS (shC b) (NC b) σ) (h : wp_X11_laws  σ Q) : G p l e (rmL 7 0 0) s m args below meth c 1 A0 D cA ad (shC b) (NC b) 0 0 (MQ below (QIc D cA ad (shC b) (NC b) Q A0) args s 0 0 A0) σ 0 [some (.ref (ad 0))] [] := by
  unfold wp_X11_laws at h
  refine g_aload_0 E dX11_laws_0 ?_
  refine g_getR E fl_RX11_69 (kC_0 b) (sC_0 b) rfl dX11_laws_1 ?_
  refine g_callvI E my_X9_lawsKept mi_X9_lawsKept msel_X9_lawsKept ml_RX11_262 (rm_ok (by decide) (by decide)) ⟨Nat.zero_le _, Nat.zero_le _⟩ (kC_50 b) (sC_50 b) rfl (m_X9_lawsKept E.2.2.1 hσ h) rfl rfl (Nat.le_of_ble_eq_true rfl) dX11_laws_4 (fun r1 σ2 cr1 hσ2 h => ?_)
  exact g_iret E hr cr1 h hσ2 dX11_laws_7
end
theorem m_X11_laws {Z : (Nat → Nat) × (Nat → Nat)} {l : Launch} {D : va_G} {cA : Nat → ClassId} {ad : Nat → Nat} {b : Bool} {σ : St} {Q : Int → St → Prop} (hA : AdOk (NC b) ad) (hσ : CanS (shC b) (NC b) σ) (h : wp_X11_laws  σ Q) : KtI Z l D cA ad (shC b) (NC b) yX11_laws cX11_laws 1 (some .int) 7 [.ref (ad 0)] σ Q :=
  KtI.of my_X11_laws hA [some (.ref (ad 0))] (Nat.le_of_ble_eq_true rfl) rfl (fun p e s m args below meth c A0 E hr => t_X11_laws E hr σ hσ h)
theorem dX1_fullCases_0 : Dc cX1_fullCases 0 (.aload_n 0) 1 1 := ⟨by decide +kernel, rfl⟩
theorem dX1_fullCases_1 : Dc cX1_fullCases 1 (.invokevirtual 51) 3 4 := ⟨by decide +kernel, rfl⟩
theorem dX1_fullCases_4 : Dc cX1_fullCases 4 (.iconst 0) 1 5 := ⟨by decide +kernel, rfl⟩
theorem dX1_fullCases_5 : Dc cX1_fullCases 5 (.istore_n 2) 1 6 := ⟨by decide +kernel, rfl⟩
theorem dX1_fullCases_6 : Dc cX1_fullCases 6 (.aload_n 0) 1 7 := ⟨by decide +kernel, rfl⟩
theorem dX1_fullCases_7 : Dc cX1_fullCases 7 (.getfield 15) 3 10 := ⟨by decide +kernel, rfl⟩
theorem dX1_fullCases_10 : Dc cX1_fullCases 10 (.iload_n 1) 1 11 := ⟨by decide +kernel, rfl⟩
theorem dX1_fullCases_11 : Dc cX1_fullCases 11 (.invokevirtual 66) 3 14 := ⟨by decide +kernel, rfl⟩
theorem dX1_fullCases_14 : Dc cX1_fullCases 14 (.istore_n 3) 1 15 := ⟨by decide +kernel, rfl⟩
theorem dX1_fullCases_15 : Dc cX1_fullCases 15 (.iload_n 3) 1 16 := ⟨by decide +kernel, rfl⟩
theorem dX1_fullCases_16 : Dc cX1_fullCases 16 (.aload_n 0) 1 17 := ⟨by decide +kernel, rfl⟩
theorem dX1_fullCases_17 : Dc cX1_fullCases 17 (.getfield 15) 3 20 := ⟨by decide +kernel, rfl⟩
theorem dX1_fullCases_20 : Dc cX1_fullCases 20 (.iload_n 1) 1 21 := ⟨by decide +kernel, rfl⟩
theorem dX1_fullCases_21 : Dc cX1_fullCases 21 (.invokevirtual 70) 3 24 := ⟨by decide +kernel, rfl⟩
theorem djX1_fullCases_24 : Dj cX1_fullCases 24 (.if_icmp .ge 20) 3 27 20 44 := ⟨by decide +kernel, rfl, by decide⟩
theorem dX1_fullCases_27 : Dc cX1_fullCases 27 (.aload_n 0) 1 28 := ⟨by decide +kernel, rfl⟩
theorem dX1_fullCases_28 : Dc cX1_fullCases 28 (.iload_n 3) 1 29 := ⟨by decide +kernel, rfl⟩
theorem dX1_fullCases_29 : Dc cX1_fullCases 29 (.invokevirtual 117) 3 32 := ⟨by decide +kernel, rfl⟩
theorem djX1_fullCases_32 : Dj cX1_fullCases 32 (.ifCond .eq 6) 3 35 6 38 := ⟨by decide +kernel, rfl, by decide⟩
theorem dX1_fullCases_35 : Dc cX1_fullCases 35 (.iinc 2 1) 3 38 := ⟨by decide +kernel, rfl⟩
theorem dX1_fullCases_38 : Dc cX1_fullCases 38 (.iinc 3 1) 3 41 := ⟨by decide +kernel, rfl⟩
theorem djX1_fullCases_41 : Dj cX1_fullCases 41 (.goto (-26)) 3 44 (-26) 15 := ⟨by decide +kernel, rfl, by decide⟩
theorem dX1_fullCases_44 : Dc cX1_fullCases 44 (.iload_n 2) 1 45 := ⟨by decide +kernel, rfl⟩
theorem dX1_fullCases_45 : Dc cX1_fullCases 45 (.ireturn) 1 46 := ⟨by decide +kernel, rfl⟩
section
variable {p : Program} {l : Launch} {e : Env} {s : State} {m : MethodId} {args : Array Value} {below : List Frame} {meth : Method} {c : Code} {A0 : Nat → Prop} {D : va_G} {cA : Nat → ClassId} {ad : Nat → Nat} {Z : (Nat → Nat) × (Nat → Nat)} {Q : Int → St → Prop} {b : Bool}
set_option maxHeartbeats 4000000 in
set_option maxRecDepth 100000 in
theorem t_X1_fullCases_b38 (E : Ev p s m args meth c cX1_fullCases 4 RX1 A0 D cA ad (NC b) Z) (hr : meth.sig.returnType = (some .int)) {K15 : Int → Int → Int → St → Prop} (hK15 : ∀ (x1 : Int) (x2 : Int) (x3 : Int) (σ : St), C32 x1 → C32 x2 → C32 x3 → CanS (shC b) (NC b) σ → K15 x1 x2 x3 σ → G p l e (rmL 6 0 0) s m args below meth c 4 A0 D cA ad (shC b) (NC b) 0 0 (MQ below (QIc D cA ad (shC b) (NC b) Q A0) args s 0 0 A0) σ 15 [some (.ref (ad 36)), some (vI x1), some (vI x2), some (vI x3)] []) (x1 : Int) (x2 : Int) (x3 : Int) (σ : St) (c1 : C32 x1) (c2 : C32 x2) (c3 : C32 x3) (hσ : CanS (shC b) (NC b) σ) (h : wp_X1_fullCases_b38 Q K15 x1 x2 x3 σ) : G p l e (rmL 6 0 0) s m args below meth c 4 A0 D cA ad (shC b) (NC b) 0 0 (MQ below (QIc D cA ad (shC b) (NC b) Q A0) args s 0 0 A0) σ 38 [some (.ref (ad 36)), some (vI x1), some (vI x2), some (vI x3)] [] := by
  unfold wp_X1_fullCases_b38 at h
  refine g_iinc_3 E rfl (by decide) dX1_fullCases_38 (fun v10 ev10 => ?_)
  replace h := h v10 ev10
  have cv10 : C32 v10 := by rw [ev10]; exact c32_w _
  refine g_goto E djX1_fullCases_41 ?_
  exact (hK15 x1 x2 v10 σ c1 c2 cv10 hσ h).weak (w_k (w_k (w_k (w_k w_n))))
set_option maxHeartbeats 4000000 in
set_option maxRecDepth 100000 in
theorem t_X1_fullCases_l15 (E : Ev p s m args meth c cX1_fullCases 4 RX1 A0 D cA ad (NC b) Z) (hr : meth.sig.returnType = (some .int)) : ∀ (n : Nat) (x1 : Int) (x2 : Int) (x3 : Int) (σ : St), C32 x1 → C32 x2 → C32 x3 → CanS (shC b) (NC b) σ → wp_X1_fullCases_l15 Q n x1 x2 x3 σ → G p l e (rmL 6 0 0) s m args below meth c 4 A0 D cA ad (shC b) (NC b) 0 0 (MQ below (QIc D cA ad (shC b) (NC b) Q A0) args s 0 0 A0) σ 15 [some (.ref (ad 36)), some (vI x1), some (vI x2), some (vI x3)] [] := by
  intro n
  induction n with
  | zero => intro _ _ _ _ _ _ _ _ h; exact h.elim
  | succ n ih =>
    intro x1 x2 x3 σ c1 c2 c3 hσ h
    unfold wp_X1_fullCases_l15 at h
    refine g_iload_3 E dX1_fullCases_15 ?_
    refine g_aload_0 E dX1_fullCases_16 ?_
    refine g_getR E fl_RX1_15 (kC_36 b) (sC_36 b) rfl dX1_fullCases_17 ?_
    refine g_iload_1 E dX1_fullCases_20 ?_
    refine g_callvI E my_X0_caseEnd mi_X0_caseEnd msel_X0_caseEnd ml_RX1_70 (rm_ok (by decide) (by decide)) ⟨Nat.zero_le _, Nat.zero_le _⟩ (kC_24 b) (sC_24 b) rfl (m_X0_caseEnd E.2.2.1 c1 hσ h) rfl rfl (Nat.le_of_ble_eq_true rfl) dX1_fullCases_21 (fun r5 σ6 cr5 hσ6 h => ?_)
    refine g_icmp_ge E c3 cr5 djX1_fullCases_24 (fun hc => ?_) (fun hc => ?_)
    · replace h := h.1 hc
      refine g_iload_2 E dX1_fullCases_44 ?_
      exact g_iret E hr c2 h hσ6 dX1_fullCases_45
    · replace h := h.2 hc
      refine g_aload_0 E dX1_fullCases_27 ?_
      refine g_iload_3 E dX1_fullCases_28 ?_
      refine g_callvI E my_X1_isFull mi_X1_isFull msel_X1_isFull ml_RX1_117 (rm_ok (by decide) (by decide)) ⟨Nat.zero_le _, Nat.zero_le _⟩ (kC_36 b) (sC_36 b) rfl (m_X1_isFull E.2.2.1 c3 hσ6 h) rfl rfl (Nat.le_of_ble_eq_true rfl) dX1_fullCases_29 (fun r7 σ8 cr7 hσ8 h => ?_)
      refine g_if_eq E cr7 djX1_fullCases_32 (fun hc => ?_) (fun hc => ?_)
      · replace h := h.1 hc
        exact (t_X1_fullCases_b38 E hr ih x1 x2 x3 σ8 c1 c2 c3 hσ8 h).weak (w_k (w_k (w_k (w_k w_n))))
      · replace h := h.2 hc
        refine g_iinc_2 E rfl (by decide) dX1_fullCases_35 (fun v9 ev9 => ?_)
        replace h := h v9 ev9
        have cv9 : C32 v9 := by rw [ev9]; exact c32_w _
        exact (t_X1_fullCases_b38 E hr ih x1 v9 x3 σ8 c1 cv9 c3 hσ8 h).weak (w_k (w_k (w_k (w_k w_n))))
set_option maxHeartbeats 4000000 in
set_option maxRecDepth 100000 in
theorem t_X1_fullCases (E : Ev p s m args meth c cX1_fullCases 4 RX1 A0 D cA ad (NC b) Z) (hr : meth.sig.returnType = (some .int)) (x1 : Int) (σ : St) (c1 : C32 x1) (hσ : CanS (shC b) (NC b) σ) (h : wp_X1_fullCases x1 σ Q) : G p l e (rmL 6 0 0) s m args below meth c 4 A0 D cA ad (shC b) (NC b) 0 0 (MQ below (QIc D cA ad (shC b) (NC b) Q A0) args s 0 0 A0) σ 0 [some (.ref (ad 36)), some (vI x1), none, none] [] := by
  unfold wp_X1_fullCases at h
  refine g_aload_0 E dX1_fullCases_0 ?_
  refine g_callvV E my_X1_prepare mi_X1_prepare msel_X1_prepare ml_RX1_51 (rm_ok (by decide) (by decide)) ⟨Nat.zero_le _, Nat.zero_le _⟩ (kC_36 b) (sC_36 b) rfl (m_X1_prepare E.2.2.1 hσ h) rfl rfl (Nat.le_of_ble_eq_true rfl) dX1_fullCases_1 (fun σ2 r1 hσ2 h => ?_)
  refine g_iconst E dX1_fullCases_4 ?_
  refine g_istore_2 E rfl (by decide) dX1_fullCases_5 ?_
  refine g_aload_0 E dX1_fullCases_6 ?_
  refine g_getR E fl_RX1_15 (kC_36 b) (sC_36 b) rfl dX1_fullCases_7 ?_
  refine g_iload_1 E dX1_fullCases_10 ?_
  refine g_callvI E my_X0_caseStart mi_X0_caseStart msel_X0_caseStart ml_RX1_66 (rm_ok (by decide) (by decide)) ⟨Nat.zero_le _, Nat.zero_le _⟩ (kC_24 b) (sC_24 b) rfl (m_X0_caseStart E.2.2.1 c1 hσ2 h) rfl rfl (Nat.le_of_ble_eq_true rfl) dX1_fullCases_11 (fun r3 σ4 cr3 hσ4 h => ?_)
  refine g_istore_3 E rfl (by decide) dX1_fullCases_14 ?_
  exact (t_X1_fullCases_l15 E hr bigN x1 0 r3 σ4 c1 cl_0 cr3 hσ4 h).weak (w_k (w_k (w_k (w_k w_n))))
end
theorem m_X1_fullCases {Z : (Nat → Nat) × (Nat → Nat)} {l : Launch} {D : va_G} {cA : Nat → ClassId} {ad : Nat → Nat} {b : Bool} {x1 : Int} {σ : St} {Q : Int → St → Prop} (hA : AdOk (NC b) ad) (c1 : C32 x1) (hσ : CanS (shC b) (NC b) σ) (h : wp_X1_fullCases x1 σ Q) : KtI Z l D cA ad (shC b) (NC b) yX1_fullCases cX1_fullCases 4 (some .int) 6 [.ref (ad 36), vI x1] σ Q :=
  KtI.of my_X1_fullCases hA [some (.ref (ad 36)), some (vI x1), none, none] (Nat.le_of_ble_eq_true rfl) rfl (fun p e s m args below meth c A0 E hr => t_X1_fullCases E hr x1 σ c1 hσ h)
theorem dX1_casesAround_0 : Dc cX1_casesAround 0 (.aload_n 0) 1 1 := ⟨by decide +kernel, rfl⟩
theorem dX1_casesAround_1 : Dc cX1_casesAround 1 (.invokevirtual 51) 3 4 := ⟨by decide +kernel, rfl⟩
theorem dX1_casesAround_4 : Dc cX1_casesAround 4 (.iconst 0) 1 5 := ⟨by decide +kernel, rfl⟩
theorem dX1_casesAround_5 : Dc cX1_casesAround 5 (.istore_n 2) 1 6 := ⟨by decide +kernel, rfl⟩
theorem dX1_casesAround_6 : Dc cX1_casesAround 6 (.iconst 0) 1 7 := ⟨by decide +kernel, rfl⟩
theorem dX1_casesAround_7 : Dc cX1_casesAround 7 (.istore_n 3) 1 8 := ⟨by decide +kernel, rfl⟩
theorem dX1_casesAround_8 : Dc cX1_casesAround 8 (.iload_n 3) 1 9 := ⟨by decide +kernel, rfl⟩
theorem dX1_casesAround_9 : Dc cX1_casesAround 9 (.aload_n 0) 1 10 := ⟨by decide +kernel, rfl⟩
theorem dX1_casesAround_10 : Dc cX1_casesAround 10 (.getfield 15) 3 13 := ⟨by decide +kernel, rfl⟩
theorem dX1_casesAround_13 : Dc cX1_casesAround 13 (.getfield 120) 3 16 := ⟨by decide +kernel, rfl⟩
theorem djX1_casesAround_16 : Dj cX1_casesAround 16 (.if_icmp .ge 46) 3 19 46 62 := ⟨by decide +kernel, rfl, by decide⟩
theorem dX1_casesAround_19 : Dc cX1_casesAround 19 (.aload_n 0) 1 20 := ⟨by decide +kernel, rfl⟩
theorem dX1_casesAround_20 : Dc cX1_casesAround 20 (.getfield 15) 3 23 := ⟨by decide +kernel, rfl⟩
theorem dX1_casesAround_23 : Dc cX1_casesAround 23 (.getfield 80) 3 26 := ⟨by decide +kernel, rfl⟩
theorem dX1_casesAround_26 : Dc cX1_casesAround 26 (.iload_n 3) 1 27 := ⟨by decide +kernel, rfl⟩
theorem dX1_casesAround_27 : Dc cX1_casesAround 27 (.iaload) 1 28 := ⟨by decide +kernel, rfl⟩
theorem dX1_casesAround_28 : Dc cX1_casesAround 28 (.iload_n 1) 1 29 := ⟨by decide +kernel, rfl⟩
theorem djX1_casesAround_29 : Dj cX1_casesAround 29 (.if_icmp .eq 16) 3 32 16 45 := ⟨by decide +kernel, rfl, by decide⟩
theorem dX1_casesAround_32 : Dc cX1_casesAround 32 (.aload_n 0) 1 33 := ⟨by decide +kernel, rfl⟩
theorem dX1_casesAround_33 : Dc cX1_casesAround 33 (.getfield 15) 3 36 := ⟨by decide +kernel, rfl⟩
theorem dX1_casesAround_36 : Dc cX1_casesAround 36 (.getfield 83) 3 39 := ⟨by decide +kernel, rfl⟩
theorem dX1_casesAround_39 : Dc cX1_casesAround 39 (.iload_n 3) 1 40 := ⟨by decide +kernel, rfl⟩
theorem dX1_casesAround_40 : Dc cX1_casesAround 40 (.iaload) 1 41 := ⟨by decide +kernel, rfl⟩
theorem dX1_casesAround_41 : Dc cX1_casesAround 41 (.iload_n 1) 1 42 := ⟨by decide +kernel, rfl⟩
theorem djX1_casesAround_42 : Dj cX1_casesAround 42 (.if_icmp .ne 14) 3 45 14 56 := ⟨by decide +kernel, rfl, by decide⟩
theorem dX1_casesAround_45 : Dc cX1_casesAround 45 (.aload_n 0) 1 46 := ⟨by decide +kernel, rfl⟩
theorem dX1_casesAround_46 : Dc cX1_casesAround 46 (.iload_n 3) 1 47 := ⟨by decide +kernel, rfl⟩
theorem dX1_casesAround_47 : Dc cX1_casesAround 47 (.invokevirtual 117) 3 50 := ⟨by decide +kernel, rfl⟩
theorem djX1_casesAround_50 : Dj cX1_casesAround 50 (.ifCond .eq 6) 3 53 6 56 := ⟨by decide +kernel, rfl, by decide⟩
theorem dX1_casesAround_53 : Dc cX1_casesAround 53 (.iinc 2 1) 3 56 := ⟨by decide +kernel, rfl⟩
theorem dX1_casesAround_56 : Dc cX1_casesAround 56 (.iinc 3 1) 3 59 := ⟨by decide +kernel, rfl⟩
theorem djX1_casesAround_59 : Dj cX1_casesAround 59 (.goto (-51)) 3 62 (-51) 8 := ⟨by decide +kernel, rfl, by decide⟩
theorem dX1_casesAround_62 : Dc cX1_casesAround 62 (.iload_n 2) 1 63 := ⟨by decide +kernel, rfl⟩
theorem dX1_casesAround_63 : Dc cX1_casesAround 63 (.ireturn) 1 64 := ⟨by decide +kernel, rfl⟩
section
variable {p : Program} {l : Launch} {e : Env} {s : State} {m : MethodId} {args : Array Value} {below : List Frame} {meth : Method} {c : Code} {A0 : Nat → Prop} {D : va_G} {cA : Nat → ClassId} {ad : Nat → Nat} {Z : (Nat → Nat) × (Nat → Nat)} {Q : Int → St → Prop} {b : Bool}
set_option maxHeartbeats 4000000 in
set_option maxRecDepth 100000 in
theorem t_X1_casesAround_b56 (E : Ev p s m args meth c cX1_casesAround 4 RX1 A0 D cA ad (NC b) Z) (hr : meth.sig.returnType = (some .int)) {K8 : Int → Int → Int → St → Prop} (hK8 : ∀ (x1 : Int) (x2 : Int) (x3 : Int) (σ : St), C32 x1 → C32 x2 → C32 x3 → CanS (shC b) (NC b) σ → K8 x1 x2 x3 σ → G p l e (rmL 6 0 0) s m args below meth c 4 A0 D cA ad (shC b) (NC b) 0 0 (MQ below (QIc D cA ad (shC b) (NC b) Q A0) args s 0 0 A0) σ 8 [some (.ref (ad 36)), some (vI x1), some (vI x2), some (vI x3)] []) (x1 : Int) (x2 : Int) (x3 : Int) (σ : St) (c1 : C32 x1) (c2 : C32 x2) (c3 : C32 x3) (hσ : CanS (shC b) (NC b) σ) (h : wp_X1_casesAround_b56 Q K8 x1 x2 x3 σ) : G p l e (rmL 6 0 0) s m args below meth c 4 A0 D cA ad (shC b) (NC b) 0 0 (MQ below (QIc D cA ad (shC b) (NC b) Q A0) args s 0 0 A0) σ 56 [some (.ref (ad 36)), some (vI x1), some (vI x2), some (vI x3)] [] := by
  unfold wp_X1_casesAround_b56 at h
  refine g_iinc_3 E rfl (by decide) dX1_casesAround_56 (fun v6 ev6 => ?_)
  replace h := h v6 ev6
  have cv6 : C32 v6 := by rw [ev6]; exact c32_w _
  refine g_goto E djX1_casesAround_59 ?_
  exact (hK8 x1 x2 v6 σ c1 c2 cv6 hσ h).weak (w_k (w_k (w_k (w_k w_n))))
set_option maxHeartbeats 4000000 in
set_option maxRecDepth 100000 in
theorem t_X1_casesAround_b45 (E : Ev p s m args meth c cX1_casesAround 4 RX1 A0 D cA ad (NC b) Z) (hr : meth.sig.returnType = (some .int)) {K8 : Int → Int → Int → St → Prop} (hK8 : ∀ (x1 : Int) (x2 : Int) (x3 : Int) (σ : St), C32 x1 → C32 x2 → C32 x3 → CanS (shC b) (NC b) σ → K8 x1 x2 x3 σ → G p l e (rmL 6 0 0) s m args below meth c 4 A0 D cA ad (shC b) (NC b) 0 0 (MQ below (QIc D cA ad (shC b) (NC b) Q A0) args s 0 0 A0) σ 8 [some (.ref (ad 36)), some (vI x1), some (vI x2), some (vI x3)] []) (x1 : Int) (x2 : Int) (x3 : Int) (σ : St) (c1 : C32 x1) (c2 : C32 x2) (c3 : C32 x3) (hσ : CanS (shC b) (NC b) σ) (h : wp_X1_casesAround_b45 Q K8 x1 x2 x3 σ) : G p l e (rmL 6 0 0) s m args below meth c 4 A0 D cA ad (shC b) (NC b) 0 0 (MQ below (QIc D cA ad (shC b) (NC b) Q A0) args s 0 0 A0) σ 45 [some (.ref (ad 36)), some (vI x1), some (vI x2), some (vI x3)] [] := by
  unfold wp_X1_casesAround_b45 at h
  refine g_aload_0 E dX1_casesAround_45 ?_
  refine g_iload_3 E dX1_casesAround_46 ?_
  refine g_callvI E my_X1_isFull mi_X1_isFull msel_X1_isFull ml_RX1_117 (rm_ok (by decide) (by decide)) ⟨Nat.zero_le _, Nat.zero_le _⟩ (kC_36 b) (sC_36 b) rfl (m_X1_isFull E.2.2.1 c3 hσ h) rfl rfl (Nat.le_of_ble_eq_true rfl) dX1_casesAround_47 (fun r3 σ4 cr3 hσ4 h => ?_)
  refine g_if_eq E cr3 djX1_casesAround_50 (fun hc => ?_) (fun hc => ?_)
  · replace h := h.1 hc
    exact (t_X1_casesAround_b56 E hr hK8 x1 x2 x3 σ4 c1 c2 c3 hσ4 h).weak (w_k (w_k (w_k (w_k w_n))))
  · replace h := h.2 hc
    refine g_iinc_2 E rfl (by decide) dX1_casesAround_53 (fun v5 ev5 => ?_)
    replace h := h v5 ev5
    have cv5 : C32 v5 := by rw [ev5]; exact c32_w _
    exact (t_X1_casesAround_b56 E hr hK8 x1 v5 x3 σ4 c1 cv5 c3 hσ4 h).weak (w_k (w_k (w_k (w_k w_n))))
set_option maxHeartbeats 4000000 in
set_option maxRecDepth 100000 in
theorem t_X1_casesAround_l8 (E : Ev p s m args meth c cX1_casesAround 4 RX1 A0 D cA ad (NC b) Z) (hr : meth.sig.returnType = (some .int)) : ∀ (n : Nat) (x1 : Int) (x2 : Int) (x3 : Int) (σ : St), C32 x1 → C32 x2 → C32 x3 → CanS (shC b) (NC b) σ → wp_X1_casesAround_l8 Q n x1 x2 x3 σ → G p l e (rmL 6 0 0) s m args below meth c 4 A0 D cA ad (shC b) (NC b) 0 0 (MQ below (QIc D cA ad (shC b) (NC b) Q A0) args s 0 0 A0) σ 8 [some (.ref (ad 36)), some (vI x1), some (vI x2), some (vI x3)] [] := by
  intro n
  induction n with
  | zero => intro _ _ _ _ _ _ _ _ h; exact h.elim
  | succ n ih =>
    intro x1 x2 x3 σ c1 c2 c3 hσ h
    unfold wp_X1_casesAround_l8 at h
    refine g_iload_3 E dX1_casesAround_8 ?_
    refine g_aload_0 E dX1_casesAround_9 ?_
    refine g_getR E fl_RX1_15 (kC_36 b) (sC_36 b) rfl dX1_casesAround_10 ?_
    refine g_getI E fl_RX1_120 (kC_24 b) (sC_24 b) rfl dX1_casesAround_13 ?_
    refine g_icmp_ge E c3 (fC_24_16 hσ) djX1_casesAround_16 (fun hc => ?_) (fun hc => ?_)
    · replace h := h.1 hc
      refine g_iload_2 E dX1_casesAround_62 ?_
      exact g_iret E hr c2 h hσ dX1_casesAround_63
    · replace h := h.2 hc
      refine g_aload_0 E dX1_casesAround_19 ?_
      refine g_getR E fl_RX1_15 (kC_36 b) (sC_36 b) rfl dX1_casesAround_20 ?_
      refine g_getR E fl_RX1_80 (kC_24 b) (sC_24 b) rfl dX1_casesAround_23 ?_
      refine g_iload_3 E dX1_casesAround_26 ?_
      refine g_iald E (kC_31 b) (sC_31 b) (by decide) h.1 dX1_casesAround_27 ?_
      replace h := h.2
      refine g_iload_1 E dX1_casesAround_28 ?_
      refine g_icmp_eq E (aC_31 hσ _) c1 djX1_casesAround_29 (fun hc => ?_) (fun hc => ?_)
      · replace h := h.1 hc
        exact (t_X1_casesAround_b45 E hr ih x1 x2 x3 σ c1 c2 c3 hσ h).weak (w_k (w_k (w_k (w_k w_n))))
      · replace h := h.2 hc
        refine g_aload_0 E dX1_casesAround_32 ?_
        refine g_getR E fl_RX1_15 (kC_36 b) (sC_36 b) rfl dX1_casesAround_33 ?_
        refine g_getR E fl_RX1_83 (kC_24 b) (sC_24 b) rfl dX1_casesAround_36 ?_
        refine g_iload_3 E dX1_casesAround_39 ?_
        refine g_iald E (kC_32 b) (sC_32 b) (by decide) h.1 dX1_casesAround_40 ?_
        replace h := h.2
        refine g_iload_1 E dX1_casesAround_41 ?_
        refine g_icmp_ne E (aC_32 hσ _) c1 djX1_casesAround_42 (fun hc => ?_) (fun hc => ?_)
        · replace h := h.1 hc
          exact (t_X1_casesAround_b56 E hr ih x1 x2 x3 σ c1 c2 c3 hσ h).weak (w_k (w_k (w_k (w_k w_n))))
        · replace h := h.2 hc
          exact (t_X1_casesAround_b45 E hr ih x1 x2 x3 σ c1 c2 c3 hσ h).weak (w_k (w_k (w_k (w_k w_n))))
set_option maxHeartbeats 4000000 in
set_option maxRecDepth 100000 in
theorem t_X1_casesAround (E : Ev p s m args meth c cX1_casesAround 4 RX1 A0 D cA ad (NC b) Z) (hr : meth.sig.returnType = (some .int)) (x1 : Int) (σ : St) (c1 : C32 x1) (hσ : CanS (shC b) (NC b) σ) (h : wp_X1_casesAround x1 σ Q) : G p l e (rmL 6 0 0) s m args below meth c 4 A0 D cA ad (shC b) (NC b) 0 0 (MQ below (QIc D cA ad (shC b) (NC b) Q A0) args s 0 0 A0) σ 0 [some (.ref (ad 36)), some (vI x1), none, none] [] := by
  unfold wp_X1_casesAround at h
  refine g_aload_0 E dX1_casesAround_0 ?_
  refine g_callvV E my_X1_prepare mi_X1_prepare msel_X1_prepare ml_RX1_51 (rm_ok (by decide) (by decide)) ⟨Nat.zero_le _, Nat.zero_le _⟩ (kC_36 b) (sC_36 b) rfl (m_X1_prepare E.2.2.1 hσ h) rfl rfl (Nat.le_of_ble_eq_true rfl) dX1_casesAround_1 (fun σ2 r1 hσ2 h => ?_)
  refine g_iconst E dX1_casesAround_4 ?_
  refine g_istore_2 E rfl (by decide) dX1_casesAround_5 ?_
  refine g_iconst E dX1_casesAround_6 ?_
  refine g_istore_3 E rfl (by decide) dX1_casesAround_7 ?_
  exact (t_X1_casesAround_l8 E hr bigN x1 0 0 σ2 c1 cl_0 cl_0 hσ2 h).weak (w_k (w_k (w_k (w_k w_n))))
end
theorem m_X1_casesAround {Z : (Nat → Nat) × (Nat → Nat)} {l : Launch} {D : va_G} {cA : Nat → ClassId} {ad : Nat → Nat} {b : Bool} {x1 : Int} {σ : St} {Q : Int → St → Prop} (hA : AdOk (NC b) ad) (c1 : C32 x1) (hσ : CanS (shC b) (NC b) σ) (h : wp_X1_casesAround x1 σ Q) : KtI Z l D cA ad (shC b) (NC b) yX1_casesAround cX1_casesAround 4 (some .int) 6 [.ref (ad 36), vI x1] σ Q :=
  KtI.of my_X1_casesAround hA [some (.ref (ad 36)), some (vI x1), none, none] (Nat.le_of_ble_eq_true rfl) rfl (fun p e s m args below meth c A0 E hr => t_X1_casesAround E hr x1 σ c1 hσ h)
theorem dX11_cases_0 : Dc cX11_cases 0 (.aload_n 0) 1 1 := ⟨by decide +kernel, rfl⟩
theorem dX11_cases_1 : Dc cX11_cases 1 (.iload_n 1) 1 2 := ⟨by decide +kernel, rfl⟩
theorem dX11_cases_2 : Dc cX11_cases 2 (.iload_n 2) 1 3 := ⟨by decide +kernel, rfl⟩
theorem dX11_cases_3 : Dc cX11_cases 3 (.iload_n 3) 1 4 := ⟨by decide +kernel, rfl⟩
theorem dX11_cases_4 : Dc cX11_cases 4 (.invokevirtual 223) 3 7 := ⟨by decide +kernel, rfl⟩
theorem dX11_cases_7 : Dc cX11_cases 7 (.istore 5) 2 9 := ⟨by decide +kernel, rfl⟩
theorem dX11_cases_9 : Dc cX11_cases 9 (.iload 5) 2 11 := ⟨by decide +kernel, rfl⟩
theorem djX11_cases_11 : Dj cX11_cases 11 (.ifCond .ge 6) 3 14 6 17 := ⟨by decide +kernel, rfl, by decide⟩
theorem dX11_cases_14 : Dc cX11_cases 14 (.bipush (-2)) 2 16 := ⟨by decide +kernel, rfl⟩
theorem dX11_cases_16 : Dc cX11_cases 16 (.ireturn) 1 17 := ⟨by decide +kernel, rfl⟩
theorem dX11_cases_17 : Dc cX11_cases 17 (.iload 4) 2 19 := ⟨by decide +kernel, rfl⟩
theorem dX11_cases_19 : Dc cX11_cases 19 (.tableswitch 65 0 2 #[25, 45, 55]) 25 44 := ⟨by decide +kernel, rfl⟩
theorem dX11_cases_44 : Dc cX11_cases 44 (.aload_n 0) 1 45 := ⟨by decide +kernel, rfl⟩
theorem dX11_cases_45 : Dc cX11_cases 45 (.getfield 37) 3 48 := ⟨by decide +kernel, rfl⟩
theorem dX11_cases_48 : Dc cX11_cases 48 (.iload 5) 2 50 := ⟨by decide +kernel, rfl⟩
theorem dX11_cases_50 : Dc cX11_cases 50 (.invokevirtual 265) 3 53 := ⟨by decide +kernel, rfl⟩
theorem dX11_cases_53 : Dc cX11_cases 53 (.aload_n 0) 1 54 := ⟨by decide +kernel, rfl⟩
theorem dX11_cases_54 : Dc cX11_cases 54 (.getfield 37) 3 57 := ⟨by decide +kernel, rfl⟩
theorem dX11_cases_57 : Dc cX11_cases 57 (.iload 5) 2 59 := ⟨by decide +kernel, rfl⟩
theorem dX11_cases_59 : Dc cX11_cases 59 (.invokevirtual 268) 3 62 := ⟨by decide +kernel, rfl⟩
theorem dX11_cases_62 : Dc cX11_cases 62 (.isub) 1 63 := ⟨by decide +kernel, rfl⟩
theorem dX11_cases_63 : Dc cX11_cases 63 (.ireturn) 1 64 := ⟨by decide +kernel, rfl⟩
theorem dX11_cases_64 : Dc cX11_cases 64 (.aload_n 0) 1 65 := ⟨by decide +kernel, rfl⟩
theorem dX11_cases_65 : Dc cX11_cases 65 (.getfield 46) 3 68 := ⟨by decide +kernel, rfl⟩
theorem dX11_cases_68 : Dc cX11_cases 68 (.iload 5) 2 70 := ⟨by decide +kernel, rfl⟩
theorem dX11_cases_70 : Dc cX11_cases 70 (.invokevirtual 271) 3 73 := ⟨by decide +kernel, rfl⟩
theorem dX11_cases_73 : Dc cX11_cases 73 (.ireturn) 1 74 := ⟨by decide +kernel, rfl⟩
theorem dX11_cases_74 : Dc cX11_cases 74 (.aload_n 0) 1 75 := ⟨by decide +kernel, rfl⟩
theorem dX11_cases_75 : Dc cX11_cases 75 (.getfield 46) 3 78 := ⟨by decide +kernel, rfl⟩
theorem dX11_cases_78 : Dc cX11_cases 78 (.iload 5) 2 80 := ⟨by decide +kernel, rfl⟩
theorem dX11_cases_80 : Dc cX11_cases 80 (.invokevirtual 274) 3 83 := ⟨by decide +kernel, rfl⟩
theorem dX11_cases_83 : Dc cX11_cases 83 (.ireturn) 1 84 := ⟨by decide +kernel, rfl⟩
theorem dX11_cases_84 : Dc cX11_cases 84 (.bipush (-2)) 2 86 := ⟨by decide +kernel, rfl⟩
theorem dX11_cases_86 : Dc cX11_cases 86 (.ireturn) 1 87 := ⟨by decide +kernel, rfl⟩
section
variable {p : Program} {l : Launch} {e : Env} {s : State} {m : MethodId} {args : Array Value} {below : List Frame} {meth : Method} {c : Code} {A0 : Nat → Prop} {D : va_G} {cA : Nat → ClassId} {ad : Nat → Nat} {Z : (Nat → Nat) × (Nat → Nat)} {Q : Int → St → Prop} {b : Bool}
set_option maxHeartbeats 4000000 in
set_option maxRecDepth 100000 in
theorem t_X11_cases (E : Ev p s m args meth c cX11_cases 6 RX11 A0 D cA ad (NC b) Z) (hr : meth.sig.returnType = (some .int)) (x1 : Int) (x2 : Int) (x3 : Int) (x4 : Int) (σ : St) (c1 : C32 x1) (c2 : C32 x2) (c3 : C32 x3) (c4 : C32 x4) (hσ : CanS (shC b) (NC b) σ) (h : wp_X11_cases x1 x2 x3 x4 σ Q) : G p l e (rmL 7 0 0) s m args below meth c 6 A0 D cA ad (shC b) (NC b) 0 0 (MQ below (QIc D cA ad (shC b) (NC b) Q A0) args s 0 0 A0) σ 0 [some (.ref (ad 0)), some (vI x1), some (vI x2), some (vI x3), some (vI x4), none] [] := by
  unfold wp_X11_cases at h
  refine g_aload_0 E dX11_cases_0 ?_
  refine g_iload_1 E dX11_cases_1 ?_
  refine g_iload_2 E dX11_cases_2 ?_
  refine g_iload_3 E dX11_cases_3 ?_
  refine g_callvI E my_X11_itemOf mi_X11_itemOf msel_X11_itemOf ml_RX11_223 (rm_ok (by decide) (by decide)) ⟨Nat.zero_le _, Nat.zero_le _⟩ (kC_0 b) (sC_0 b) rfl (m_X11_itemOf E.2.2.1 c1 c2 c3 hσ h) rfl rfl (Nat.le_of_ble_eq_true rfl) dX11_cases_4 (fun r1 σ2 cr1 hσ2 h => ?_)
  refine g_istore_5 E rfl (by decide) dX11_cases_7 ?_
  refine g_iload_5 E dX11_cases_9 ?_
  refine g_if_ge E cr1 djX11_cases_11 (fun hc => ?_) (fun hc => ?_)
  · replace h := h.1 hc
    refine g_iload_4 E dX11_cases_17 ?_
    by_cases hs0 : x4 = 0
    · refine g_tableIn (v := 0) (i := 0) E c4 hs0 (by decide) (by decide) dX11_cases_19 rfl (tgt := 44) (by decide) ?_
      replace h := h.1 hs0
      refine g_aload_0 E dX11_cases_44 ?_
      refine g_getR E fl_RX11_37 (kC_0 b) (sC_0 b) rfl dX11_cases_45 ?_
      refine g_iload_5 E dX11_cases_48 ?_
      refine g_callvI E my_X0_caseEnd mi_X0_caseEnd msel_X0_caseEnd ml_RX11_265 (rm_ok (by decide) (by decide)) ⟨Nat.zero_le _, Nat.zero_le _⟩ (kC_24 b) (sC_24 b) rfl (m_X0_caseEnd E.2.2.1 cr1 hσ2 h) rfl rfl (Nat.le_of_ble_eq_true rfl) dX11_cases_50 (fun r3 σ4 cr3 hσ4 h => ?_)
      refine g_aload_0 E dX11_cases_53 ?_
      refine g_getR E fl_RX11_37 (kC_0 b) (sC_0 b) rfl dX11_cases_54 ?_
      refine g_iload_5 E dX11_cases_57 ?_
      refine g_callvI E my_X0_caseStart mi_X0_caseStart msel_X0_caseStart ml_RX11_268 (rm_ok (by decide) (by decide)) ⟨Nat.zero_le _, Nat.zero_le _⟩ (kC_24 b) (sC_24 b) rfl (m_X0_caseStart E.2.2.1 cr1 hσ4 h) rfl rfl (Nat.le_of_ble_eq_true rfl) dX11_cases_59 (fun r5 σ6 cr5 hσ6 h => ?_)
      refine g_isub E dX11_cases_62 ?_
      exact g_iret E hr (c32_w _) h hσ6 dX11_cases_63
    by_cases hs1 : x4 = 1
    · refine g_tableIn (v := 1) (i := 1) E c4 hs1 (by decide) (by decide) dX11_cases_19 rfl (tgt := 64) (by decide) ?_
      replace h := h.2.1 hs1
      refine g_aload_0 E dX11_cases_64 ?_
      refine g_getR E fl_RX11_46 (kC_0 b) (sC_0 b) rfl dX11_cases_65 ?_
      refine g_iload_5 E dX11_cases_68 ?_
      refine g_callvI E my_X1_fullCases mi_X1_fullCases msel_X1_fullCases ml_RX11_271 (rm_ok (by decide) (by decide)) ⟨Nat.zero_le _, Nat.zero_le _⟩ (kC_36 b) (sC_36 b) rfl (m_X1_fullCases E.2.2.1 cr1 hσ2 h) rfl rfl (Nat.le_of_ble_eq_true rfl) dX11_cases_70 (fun r7 σ8 cr7 hσ8 h => ?_)
      exact g_iret E hr cr7 h hσ8 dX11_cases_73
    by_cases hs2 : x4 = 2
    · refine g_tableIn (v := 2) (i := 2) E c4 hs2 (by decide) (by decide) dX11_cases_19 rfl (tgt := 74) (by decide) ?_
      replace h := h.2.2.1 hs2
      refine g_aload_0 E dX11_cases_74 ?_
      refine g_getR E fl_RX11_46 (kC_0 b) (sC_0 b) rfl dX11_cases_75 ?_
      refine g_iload_5 E dX11_cases_78 ?_
      refine g_callvI E my_X1_casesAround mi_X1_casesAround msel_X1_casesAround ml_RX11_274 (rm_ok (by decide) (by decide)) ⟨Nat.zero_le _, Nat.zero_le _⟩ (kC_36 b) (sC_36 b) rfl (m_X1_casesAround E.2.2.1 cr1 hσ2 h) rfl rfl (Nat.le_of_ble_eq_true rfl) dX11_cases_80 (fun r9 σ10 cr9 hσ10 h => ?_)
      exact g_iret E hr cr9 h hσ10 dX11_cases_83
    replace h := h.2.2.2 ⟨hs0, hs1, hs2⟩
    refine g_tableOut E c4 (by omega) dX11_cases_19 (tgt := 84) (by decide) ?_
    refine g_bipush E (by decide) dX11_cases_84 ?_
    exact g_iret E hr cl_m2 h hσ2 dX11_cases_86
  · replace h := h.2 hc
    refine g_bipush E (by decide) dX11_cases_14 ?_
    exact g_iret E hr cl_m2 h hσ2 dX11_cases_16
end
theorem m_X11_cases {Z : (Nat → Nat) × (Nat → Nat)} {l : Launch} {D : va_G} {cA : Nat → ClassId} {ad : Nat → Nat} {b : Bool} {x1 x2 x3 x4 : Int} {σ : St} {Q : Int → St → Prop} (hA : AdOk (NC b) ad) (c1 : C32 x1) (c2 : C32 x2) (c3 : C32 x3) (c4 : C32 x4) (hσ : CanS (shC b) (NC b) σ) (h : wp_X11_cases x1 x2 x3 x4 σ Q) : KtI Z l D cA ad (shC b) (NC b) yX11_cases cX11_cases 6 (some .int) 7 [.ref (ad 0), vI x1, vI x2, vI x3, vI x4] σ Q :=
  KtI.of my_X11_cases hA [some (.ref (ad 0)), some (vI x1), some (vI x2), some (vI x3), some (vI x4), none] (Nat.le_of_ble_eq_true rfl) rfl (fun p e s m args below meth c A0 E hr => t_X11_cases E hr x1 x2 x3 x4 σ c1 c2 c3 c4 hσ h)
theorem dX1_putInOrder_0 : Dc cX1_putInOrder 0 (.iconst 0) 1 1 := ⟨by decide +kernel, rfl⟩
theorem dX1_putInOrder_1 : Dc cX1_putInOrder 1 (.istore_n 2) 1 2 := ⟨by decide +kernel, rfl⟩
theorem dX1_putInOrder_2 : Dc cX1_putInOrder 2 (.aload_n 0) 1 3 := ⟨by decide +kernel, rfl⟩
theorem dX1_putInOrder_3 : Dc cX1_putInOrder 3 (.getfield 127) 3 6 := ⟨by decide +kernel, rfl⟩
theorem dX1_putInOrder_6 : Dc cX1_putInOrder 6 (.istore_n 3) 1 7 := ⟨by decide +kernel, rfl⟩
theorem dX1_putInOrder_7 : Dc cX1_putInOrder 7 (.iconst 0) 1 8 := ⟨by decide +kernel, rfl⟩
theorem dX1_putInOrder_8 : Dc cX1_putInOrder 8 (.istore 4) 2 10 := ⟨by decide +kernel, rfl⟩
theorem dX1_putInOrder_10 : Dc cX1_putInOrder 10 (.iload 4) 2 12 := ⟨by decide +kernel, rfl⟩
theorem dX1_putInOrder_12 : Dc cX1_putInOrder 12 (.sipush 432) 3 15 := ⟨by decide +kernel, rfl⟩
theorem djX1_putInOrder_15 : Dj cX1_putInOrder 15 (.if_icmp .ge 53) 3 18 53 68 := ⟨by decide +kernel, rfl, by decide⟩
theorem dX1_putInOrder_18 : Dc cX1_putInOrder 18 (.iload_n 2) 1 19 := ⟨by decide +kernel, rfl⟩
theorem dX1_putInOrder_19 : Dc cX1_putInOrder 19 (.iload_n 3) 1 20 := ⟨by decide +kernel, rfl⟩
theorem djX1_putInOrder_20 : Dj cX1_putInOrder 20 (.if_icmp .ge 48) 3 23 48 68 := ⟨by decide +kernel, rfl, by decide⟩
theorem dX1_putInOrder_23 : Dc cX1_putInOrder 23 (.iload_n 2) 1 24 := ⟨by decide +kernel, rfl⟩
theorem dX1_putInOrder_24 : Dc cX1_putInOrder 24 (.iload_n 3) 1 25 := ⟨by decide +kernel, rfl⟩
theorem dX1_putInOrder_25 : Dc cX1_putInOrder 25 (.iadd) 1 26 := ⟨by decide +kernel, rfl⟩
theorem dX1_putInOrder_26 : Dc cX1_putInOrder 26 (.iconst 2) 1 27 := ⟨by decide +kernel, rfl⟩
theorem dX1_putInOrder_27 : Dc cX1_putInOrder 27 (.idiv) 1 28 := ⟨by decide +kernel, rfl⟩
theorem dX1_putInOrder_28 : Dc cX1_putInOrder 28 (.istore 5) 2 30 := ⟨by decide +kernel, rfl⟩
theorem dX1_putInOrder_30 : Dc cX1_putInOrder 30 (.aload_n 0) 1 31 := ⟨by decide +kernel, rfl⟩
theorem dX1_putInOrder_31 : Dc cX1_putInOrder 31 (.getfield 19) 3 34 := ⟨by decide +kernel, rfl⟩
theorem dX1_putInOrder_34 : Dc cX1_putInOrder 34 (.aload_n 0) 1 35 := ⟨by decide +kernel, rfl⟩
theorem dX1_putInOrder_35 : Dc cX1_putInOrder 35 (.getfield 29) 3 38 := ⟨by decide +kernel, rfl⟩
theorem dX1_putInOrder_38 : Dc cX1_putInOrder 38 (.iload 5) 2 40 := ⟨by decide +kernel, rfl⟩
theorem dX1_putInOrder_40 : Dc cX1_putInOrder 40 (.iaload) 1 41 := ⟨by decide +kernel, rfl⟩
theorem dX1_putInOrder_41 : Dc cX1_putInOrder 41 (.iaload) 1 42 := ⟨by decide +kernel, rfl⟩
theorem dX1_putInOrder_42 : Dc cX1_putInOrder 42 (.aload_n 0) 1 43 := ⟨by decide +kernel, rfl⟩
theorem dX1_putInOrder_43 : Dc cX1_putInOrder 43 (.getfield 19) 3 46 := ⟨by decide +kernel, rfl⟩
theorem dX1_putInOrder_46 : Dc cX1_putInOrder 46 (.iload_n 1) 1 47 := ⟨by decide +kernel, rfl⟩
theorem dX1_putInOrder_47 : Dc cX1_putInOrder 47 (.iaload) 1 48 := ⟨by decide +kernel, rfl⟩
theorem djX1_putInOrder_48 : Dj cX1_putInOrder 48 (.if_icmp .gt 11) 3 51 11 59 := ⟨by decide +kernel, rfl, by decide⟩
theorem dX1_putInOrder_51 : Dc cX1_putInOrder 51 (.iload 5) 2 53 := ⟨by decide +kernel, rfl⟩
theorem dX1_putInOrder_53 : Dc cX1_putInOrder 53 (.iconst 1) 1 54 := ⟨by decide +kernel, rfl⟩
theorem dX1_putInOrder_54 : Dc cX1_putInOrder 54 (.iadd) 1 55 := ⟨by decide +kernel, rfl⟩
theorem dX1_putInOrder_55 : Dc cX1_putInOrder 55 (.istore_n 2) 1 56 := ⟨by decide +kernel, rfl⟩
theorem djX1_putInOrder_56 : Dj cX1_putInOrder 56 (.goto 6) 3 59 6 62 := ⟨by decide +kernel, rfl, by decide⟩
theorem dX1_putInOrder_59 : Dc cX1_putInOrder 59 (.iload 5) 2 61 := ⟨by decide +kernel, rfl⟩
theorem dX1_putInOrder_61 : Dc cX1_putInOrder 61 (.istore_n 3) 1 62 := ⟨by decide +kernel, rfl⟩
theorem dX1_putInOrder_62 : Dc cX1_putInOrder 62 (.iinc 4 1) 3 65 := ⟨by decide +kernel, rfl⟩
theorem djX1_putInOrder_65 : Dj cX1_putInOrder 65 (.goto (-55)) 3 68 (-55) 10 := ⟨by decide +kernel, rfl, by decide⟩
theorem dX1_putInOrder_68 : Dc cX1_putInOrder 68 (.aload_n 0) 1 69 := ⟨by decide +kernel, rfl⟩
theorem dX1_putInOrder_69 : Dc cX1_putInOrder 69 (.getfield 127) 3 72 := ⟨by decide +kernel, rfl⟩
theorem dX1_putInOrder_72 : Dc cX1_putInOrder 72 (.istore 4) 2 74 := ⟨by decide +kernel, rfl⟩
theorem dX1_putInOrder_74 : Dc cX1_putInOrder 74 (.iload 4) 2 76 := ⟨by decide +kernel, rfl⟩
theorem dX1_putInOrder_76 : Dc cX1_putInOrder 76 (.iload_n 2) 1 77 := ⟨by decide +kernel, rfl⟩
theorem djX1_putInOrder_77 : Dj cX1_putInOrder 77 (.if_icmp .le 25) 3 80 25 102 := ⟨by decide +kernel, rfl, by decide⟩
theorem dX1_putInOrder_80 : Dc cX1_putInOrder 80 (.aload_n 0) 1 81 := ⟨by decide +kernel, rfl⟩
theorem dX1_putInOrder_81 : Dc cX1_putInOrder 81 (.getfield 29) 3 84 := ⟨by decide +kernel, rfl⟩
theorem dX1_putInOrder_84 : Dc cX1_putInOrder 84 (.iload 4) 2 86 := ⟨by decide +kernel, rfl⟩
theorem dX1_putInOrder_86 : Dc cX1_putInOrder 86 (.aload_n 0) 1 87 := ⟨by decide +kernel, rfl⟩
theorem dX1_putInOrder_87 : Dc cX1_putInOrder 87 (.getfield 29) 3 90 := ⟨by decide +kernel, rfl⟩
theorem dX1_putInOrder_90 : Dc cX1_putInOrder 90 (.iload 4) 2 92 := ⟨by decide +kernel, rfl⟩
theorem dX1_putInOrder_92 : Dc cX1_putInOrder 92 (.iconst 1) 1 93 := ⟨by decide +kernel, rfl⟩
theorem dX1_putInOrder_93 : Dc cX1_putInOrder 93 (.isub) 1 94 := ⟨by decide +kernel, rfl⟩
theorem dX1_putInOrder_94 : Dc cX1_putInOrder 94 (.iaload) 1 95 := ⟨by decide +kernel, rfl⟩
theorem dX1_putInOrder_95 : Dc cX1_putInOrder 95 (.iastore) 1 96 := ⟨by decide +kernel, rfl⟩
theorem dX1_putInOrder_96 : Dc cX1_putInOrder 96 (.iinc 4 (-1)) 3 99 := ⟨by decide +kernel, rfl⟩
theorem djX1_putInOrder_99 : Dj cX1_putInOrder 99 (.goto (-25)) 3 102 (-25) 74 := ⟨by decide +kernel, rfl, by decide⟩
theorem dX1_putInOrder_102 : Dc cX1_putInOrder 102 (.aload_n 0) 1 103 := ⟨by decide +kernel, rfl⟩
theorem dX1_putInOrder_103 : Dc cX1_putInOrder 103 (.getfield 29) 3 106 := ⟨by decide +kernel, rfl⟩
theorem dX1_putInOrder_106 : Dc cX1_putInOrder 106 (.iload_n 2) 1 107 := ⟨by decide +kernel, rfl⟩
theorem dX1_putInOrder_107 : Dc cX1_putInOrder 107 (.iload_n 1) 1 108 := ⟨by decide +kernel, rfl⟩
theorem dX1_putInOrder_108 : Dc cX1_putInOrder 108 (.iastore) 1 109 := ⟨by decide +kernel, rfl⟩
theorem dX1_putInOrder_109 : Dc cX1_putInOrder 109 (.aload_n 0) 1 110 := ⟨by decide +kernel, rfl⟩
theorem dX1_putInOrder_110 : Dc cX1_putInOrder 110 (.dup) 1 111 := ⟨by decide +kernel, rfl⟩
theorem dX1_putInOrder_111 : Dc cX1_putInOrder 111 (.getfield 127) 3 114 := ⟨by decide +kernel, rfl⟩
theorem dX1_putInOrder_114 : Dc cX1_putInOrder 114 (.iconst 1) 1 115 := ⟨by decide +kernel, rfl⟩
theorem dX1_putInOrder_115 : Dc cX1_putInOrder 115 (.iadd) 1 116 := ⟨by decide +kernel, rfl⟩
theorem dX1_putInOrder_116 : Dc cX1_putInOrder 116 (.putfield 127) 3 119 := ⟨by decide +kernel, rfl⟩
theorem dX1_putInOrder_119 : Dc cX1_putInOrder 119 (.return_) 1 120 := ⟨by decide +kernel, rfl⟩
section
variable {p : Program} {l : Launch} {e : Env} {s : State} {m : MethodId} {args : Array Value} {below : List Frame} {meth : Method} {c : Code} {A0 : Nat → Prop} {D : va_G} {cA : Nat → ClassId} {ad : Nat → Nat} {Z : (Nat → Nat) × (Nat → Nat)} {Q : Int → St → Prop} {b : Bool}
set_option maxHeartbeats 4000000 in
set_option maxRecDepth 100000 in
theorem t_X1_putInOrder_b62 (E : Ev p s m args meth c cX1_putInOrder 6 RX1 A0 D cA ad (NC b) Z) (hr : meth.sig.returnType = none) {K10 : Int → Int → Int → Int → St → Prop} (hK10 : ∀ (x1 : Int) (x2 : Int) (x3 : Int) (x4 : Int) (σ : St), C32 x1 → C32 x2 → C32 x3 → C32 x4 → CanS (shC b) (NC b) σ → K10 x1 x2 x3 x4 σ → G p l e (rmL 1 0 0) s m args below meth c 6 A0 D cA ad (shC b) (NC b) 0 0 (MQ below (QVc D cA ad (shC b) (NC b) Q A0) args s 0 0 A0) σ 10 [some (.ref (ad 36)), some (vI x1), some (vI x2), some (vI x3), some (vI x4), none] []) (x1 : Int) (x2 : Int) (x3 : Int) (x4 : Int) (σ : St) (c1 : C32 x1) (c2 : C32 x2) (c3 : C32 x3) (c4 : C32 x4) (hσ : CanS (shC b) (NC b) σ) (h : wp_X1_putInOrder_b62 Q K10 x1 x2 x3 x4 σ) : G p l e (rmL 1 0 0) s m args below meth c 6 A0 D cA ad (shC b) (NC b) 0 0 (MQ below (QVc D cA ad (shC b) (NC b) Q A0) args s 0 0 A0) σ 62 [some (.ref (ad 36)), some (vI x1), some (vI x2), some (vI x3), some (vI x4), none] [] := by
  unfold wp_X1_putInOrder_b62 at h
  refine g_iinc_4 E rfl (by decide) dX1_putInOrder_62 (fun v5 ev5 => ?_)
  replace h := h v5 ev5
  have cv5 : C32 v5 := by rw [ev5]; exact c32_w _
  refine g_goto E djX1_putInOrder_65 ?_
  exact (hK10 x1 x2 x3 v5 σ c1 c2 c3 cv5 hσ h).weak (w_k (w_k (w_k (w_k (w_k (w_d w_n))))))
set_option maxHeartbeats 4000000 in
set_option maxRecDepth 100000 in
theorem t_X1_putInOrder_l74 (E : Ev p s m args meth c cX1_putInOrder 6 RX1 A0 D cA ad (NC b) Z) (hr : meth.sig.returnType = none) : ∀ (n : Nat) (x1 : Int) (x2 : Int) (x4 : Int) (σ : St), C32 x1 → C32 x2 → C32 x4 → CanS (shC b) (NC b) σ → wp_X1_putInOrder_l74 Q n x1 x2 x4 σ → G p l e (rmL 1 0 0) s m args below meth c 6 A0 D cA ad (shC b) (NC b) 0 0 (MQ below (QVc D cA ad (shC b) (NC b) Q A0) args s 0 0 A0) σ 74 [some (.ref (ad 36)), some (vI x1), some (vI x2), none, some (vI x4), none] [] := by
  intro n
  induction n with
  | zero => intro _ _ _ _ _ _ _ _ h; exact h.elim
  | succ n ih =>
    intro x1 x2 x4 σ c1 c2 c4 hσ h
    unfold wp_X1_putInOrder_l74 at h
    refine g_iload_4 E dX1_putInOrder_74 ?_
    refine g_iload_2 E dX1_putInOrder_76 ?_
    refine g_icmp_le E c4 c2 djX1_putInOrder_77 (fun hc => ?_) (fun hc => ?_)
    · replace h := h.1 hc
      refine g_aload_0 E dX1_putInOrder_102 ?_
      refine g_getR E fl_RX1_29 (kC_36 b) (sC_36 b) rfl dX1_putInOrder_103 ?_
      refine g_iload_2 E dX1_putInOrder_106 ?_
      refine g_iload_1 E dX1_putInOrder_107 ?_
      refine g_iast E (kC_40 b) (sC_40 b) (by decide) h.1 dX1_putInOrder_108 (g_nmS (fun σ6 eσ6 => ?_))
      replace h := h.2 σ6 eσ6
      have hσ6 : CanS (shC b) (NC b) σ6 := by rw [eσ6]; exact wC_40 hσ c1
      refine g_aload_0 E dX1_putInOrder_109 ?_
      refine g_dup E rfl dX1_putInOrder_110 ?_
      refine g_getI E fl_RX1_127 (kC_36 b) (sC_36 b) rfl dX1_putInOrder_111 ?_
      refine g_iconst E dX1_putInOrder_114 ?_
      refine g_iadd E dX1_putInOrder_115 ?_
      refine g_putI E fl_RX1_127 rfl rfl (kC_36 b) (sC_36 b) rfl dX1_putInOrder_116 (g_nmS (fun σ7 eσ7 => ?_))
      replace h := h σ7 eσ7
      have hσ7 : CanS (shC b) (NC b) σ7 := by rw [eσ7]; exact uC_36_6 hσ6 (c32_w _)
      exact g_vret E hr h hσ7 dX1_putInOrder_119
    · replace h := h.2 hc
      refine g_aload_0 E dX1_putInOrder_80 ?_
      refine g_getR E fl_RX1_29 (kC_36 b) (sC_36 b) rfl dX1_putInOrder_81 ?_
      refine g_iload_4 E dX1_putInOrder_84 ?_
      refine g_aload_0 E dX1_putInOrder_86 ?_
      refine g_getR E fl_RX1_29 (kC_36 b) (sC_36 b) rfl dX1_putInOrder_87 ?_
      refine g_iload_4 E dX1_putInOrder_90 ?_
      refine g_iconst E dX1_putInOrder_92 ?_
      refine g_isub E dX1_putInOrder_93 ?_
      refine g_iald E (kC_40 b) (sC_40 b) (by decide) h.1 dX1_putInOrder_94 ?_
      replace h := h.2
      refine g_iast E (kC_40 b) (sC_40 b) (by decide) h.1 dX1_putInOrder_95 (g_nmS (fun σ8 eσ8 => ?_))
      replace h := h.2 σ8 eσ8
      have hσ8 : CanS (shC b) (NC b) σ8 := by rw [eσ8]; exact wC_40 hσ (aC_40 hσ _)
      refine g_iinc_4 E rfl (by decide) dX1_putInOrder_96 (fun v9 ev9 => ?_)
      replace h := h v9 ev9
      have cv9 : C32 v9 := by rw [ev9]; exact c32_w _
      refine g_goto E djX1_putInOrder_99 ?_
      exact (ih x1 x2 v9 σ8 c1 c2 cv9 hσ8 h).weak (w_k (w_k (w_k (w_d (w_k (w_d w_n))))))
set_option maxHeartbeats 4000000 in
set_option maxRecDepth 100000 in
theorem t_X1_putInOrder_b68 (E : Ev p s m args meth c cX1_putInOrder 6 RX1 A0 D cA ad (NC b) Z) (hr : meth.sig.returnType = none) (x1 : Int) (x2 : Int) (σ : St) (c1 : C32 x1) (c2 : C32 x2) (hσ : CanS (shC b) (NC b) σ) (h : wp_X1_putInOrder_b68 Q x1 x2 σ) : G p l e (rmL 1 0 0) s m args below meth c 6 A0 D cA ad (shC b) (NC b) 0 0 (MQ below (QVc D cA ad (shC b) (NC b) Q A0) args s 0 0 A0) σ 68 [some (.ref (ad 36)), some (vI x1), some (vI x2), none, none, none] [] := by
  unfold wp_X1_putInOrder_b68 at h
  refine g_aload_0 E dX1_putInOrder_68 ?_
  refine g_getI E fl_RX1_127 (kC_36 b) (sC_36 b) rfl dX1_putInOrder_69 ?_
  refine g_nmI (fun v4 ev4 => ?_)
  replace h := h v4 ev4
  have cv4 : C32 v4 := by rw [ev4]; exact (fC_36_6 hσ)
  refine g_istore_4 E rfl (by decide) dX1_putInOrder_72 ?_
  exact (t_X1_putInOrder_l74 E hr bigN x1 x2 v4 σ c1 c2 cv4 hσ h).weak (w_k (w_k (w_k (w_d (w_k (w_d w_n))))))
set_option maxHeartbeats 4000000 in
set_option maxRecDepth 100000 in
theorem t_X1_putInOrder_l10 (E : Ev p s m args meth c cX1_putInOrder 6 RX1 A0 D cA ad (NC b) Z) (hr : meth.sig.returnType = none) : ∀ (n : Nat) (x1 : Int) (x2 : Int) (x3 : Int) (x4 : Int) (σ : St), C32 x1 → C32 x2 → C32 x3 → C32 x4 → CanS (shC b) (NC b) σ → wp_X1_putInOrder_l10 Q n x1 x2 x3 x4 σ → G p l e (rmL 1 0 0) s m args below meth c 6 A0 D cA ad (shC b) (NC b) 0 0 (MQ below (QVc D cA ad (shC b) (NC b) Q A0) args s 0 0 A0) σ 10 [some (.ref (ad 36)), some (vI x1), some (vI x2), some (vI x3), some (vI x4), none] [] := by
  intro n
  induction n with
  | zero => intro _ _ _ _ _ _ _ _ _ _ h; exact h.elim
  | succ n ih =>
    intro x1 x2 x3 x4 σ c1 c2 c3 c4 hσ h
    unfold wp_X1_putInOrder_l10 at h
    refine g_iload_4 E dX1_putInOrder_10 ?_
    refine g_sipush E (by decide) dX1_putInOrder_12 ?_
    refine g_icmp_ge E c4 cl_432 djX1_putInOrder_15 (fun hc => ?_) (fun hc => ?_)
    · replace h := h.1 hc
      exact (t_X1_putInOrder_b68 E hr x1 x2 σ c1 c2 hσ h).weak (w_k (w_k (w_k (w_d (w_d (w_d w_n))))))
    · replace h := h.2 hc
      refine g_iload_2 E dX1_putInOrder_18 ?_
      refine g_iload_3 E dX1_putInOrder_19 ?_
      refine g_icmp_ge E c2 c3 djX1_putInOrder_20 (fun hc => ?_) (fun hc => ?_)
      · replace h := h.1 hc
        exact (t_X1_putInOrder_b68 E hr x1 x2 σ c1 c2 hσ h).weak (w_k (w_k (w_k (w_d (w_d (w_d w_n))))))
      · replace h := h.2 hc
        refine g_iload_2 E dX1_putInOrder_23 ?_
        refine g_iload_3 E dX1_putInOrder_24 ?_
        refine g_iadd E dX1_putInOrder_25 ?_
        refine g_iconst E dX1_putInOrder_26 ?_
        refine g_idiv E cl_2 (by decide) dX1_putInOrder_27 ?_
        refine g_nmI (fun v2 ev2 => ?_)
        replace h := h v2 ev2
        have cv2 : C32 v2 := by rw [ev2]; exact (c32_t _)
        refine g_istore_5 E rfl (by decide) dX1_putInOrder_28 ?_
        refine g_aload_0 E dX1_putInOrder_30 ?_
        refine g_getR E fl_RX1_19 (kC_36 b) (sC_36 b) rfl dX1_putInOrder_31 ?_
        refine g_aload_0 E dX1_putInOrder_34 ?_
        refine g_getR E fl_RX1_29 (kC_36 b) (sC_36 b) rfl dX1_putInOrder_35 ?_
        refine g_iload_5 E dX1_putInOrder_38 ?_
        refine g_iald E (kC_40 b) (sC_40 b) (by decide) h.1 dX1_putInOrder_40 ?_
        replace h := h.2
        refine g_iald E (kC_37 b) (sC_37 b) (by decide) h.1 dX1_putInOrder_41 ?_
        replace h := h.2
        refine g_aload_0 E dX1_putInOrder_42 ?_
        refine g_getR E fl_RX1_19 (kC_36 b) (sC_36 b) rfl dX1_putInOrder_43 ?_
        refine g_iload_1 E dX1_putInOrder_46 ?_
        refine g_iald E (kC_37 b) (sC_37 b) (by decide) h.1 dX1_putInOrder_47 ?_
        replace h := h.2
        refine g_icmp_gt E (aC_37 hσ _) (aC_37 hσ _) djX1_putInOrder_48 (fun hc => ?_) (fun hc => ?_)
        · replace h := h.1 hc
          refine g_iload_5 E dX1_putInOrder_59 ?_
          refine g_istore_3 E rfl (by decide) dX1_putInOrder_61 ?_
          exact (t_X1_putInOrder_b62 E hr ih x1 x2 v2 x4 σ c1 c2 cv2 c4 hσ h).weak (w_k (w_k (w_k (w_k (w_k (w_d w_n))))))
        · replace h := h.2 hc
          refine g_iload_5 E dX1_putInOrder_51 ?_
          refine g_iconst E dX1_putInOrder_53 ?_
          refine g_iadd E dX1_putInOrder_54 ?_
          refine g_nmI (fun v3 ev3 => ?_)
          replace h := h v3 ev3
          have cv3 : C32 v3 := by rw [ev3]; exact (c32_w _)
          refine g_istore_2 E rfl (by decide) dX1_putInOrder_55 ?_
          refine g_goto E djX1_putInOrder_56 ?_
          exact (t_X1_putInOrder_b62 E hr ih x1 v3 x3 x4 σ c1 cv3 c3 c4 hσ h).weak (w_k (w_k (w_k (w_k (w_k (w_d w_n))))))
set_option maxHeartbeats 4000000 in
set_option maxRecDepth 100000 in
theorem t_X1_putInOrder (E : Ev p s m args meth c cX1_putInOrder 6 RX1 A0 D cA ad (NC b) Z) (hr : meth.sig.returnType = none) (x1 : Int) (σ : St) (c1 : C32 x1) (hσ : CanS (shC b) (NC b) σ) (h : wp_X1_putInOrder x1 σ Q) : G p l e (rmL 1 0 0) s m args below meth c 6 A0 D cA ad (shC b) (NC b) 0 0 (MQ below (QVc D cA ad (shC b) (NC b) Q A0) args s 0 0 A0) σ 0 [some (.ref (ad 36)), some (vI x1), none, none, none, none] [] := by
  unfold wp_X1_putInOrder at h
  refine g_iconst E dX1_putInOrder_0 ?_
  refine g_istore_2 E rfl (by decide) dX1_putInOrder_1 ?_
  refine g_aload_0 E dX1_putInOrder_2 ?_
  refine g_getI E fl_RX1_127 (kC_36 b) (sC_36 b) rfl dX1_putInOrder_3 ?_
  refine g_nmI (fun v1 ev1 => ?_)
  replace h := h v1 ev1
  have cv1 : C32 v1 := by rw [ev1]; exact (fC_36_6 hσ)
  refine g_istore_3 E rfl (by decide) dX1_putInOrder_6 ?_
  refine g_iconst E dX1_putInOrder_7 ?_
  refine g_istore_4 E rfl (by decide) dX1_putInOrder_8 ?_
  exact (t_X1_putInOrder_l10 E hr bigN x1 0 v1 0 σ c1 cl_0 cv1 cl_0 hσ h).weak (w_k (w_k (w_k (w_k (w_k (w_d w_n))))))
end
theorem m_X1_putInOrder {Z : (Nat → Nat) × (Nat → Nat)} {l : Launch} {D : va_G} {cA : Nat → ClassId} {ad : Nat → Nat} {b : Bool} {x1 : Int} {σ : St} {Q : Int → St → Prop} (hA : AdOk (NC b) ad) (c1 : C32 x1) (hσ : CanS (shC b) (NC b) σ) (h : wp_X1_putInOrder x1 σ Q) : KtV Z l D cA ad (shC b) (NC b) yX1_putInOrder cX1_putInOrder 6 none 1 [.ref (ad 36), vI x1] σ Q :=
  KtV.of my_X1_putInOrder hA [some (.ref (ad 36)), some (vI x1), none, none, none, none] (Nat.le_of_ble_eq_true rfl) rfl (fun p e s m args below meth c A0 E hr => t_X1_putInOrder E hr x1 σ c1 hσ h)
theorem dX1_itemInOrder_0 : Dc cX1_itemInOrder 0 (.aload_n 0) 1 1 := ⟨by decide +kernel, rfl⟩
theorem dX1_itemInOrder_1 : Dc cX1_itemInOrder 1 (.invokevirtual 51) 3 4 := ⟨by decide +kernel, rfl⟩
theorem dX1_itemInOrder_4 : Dc cX1_itemInOrder 4 (.aload_n 0) 1 5 := ⟨by decide +kernel, rfl⟩
theorem dX1_itemInOrder_5 : Dc cX1_itemInOrder 5 (.getfield 39) 3 8 := ⟨by decide +kernel, rfl⟩
theorem djX1_itemInOrder_8 : Dj cX1_itemInOrder 8 (.ifCond .ne 45) 3 11 45 53 := ⟨by decide +kernel, rfl, by decide⟩
theorem dX1_itemInOrder_11 : Dc cX1_itemInOrder 11 (.aload_n 0) 1 12 := ⟨by decide +kernel, rfl⟩
theorem dX1_itemInOrder_12 : Dc cX1_itemInOrder 12 (.iconst 1) 1 13 := ⟨by decide +kernel, rfl⟩
theorem dX1_itemInOrder_13 : Dc cX1_itemInOrder 13 (.putfield 39) 3 16 := ⟨by decide +kernel, rfl⟩
theorem dX1_itemInOrder_16 : Dc cX1_itemInOrder 16 (.aload_n 0) 1 17 := ⟨by decide +kernel, rfl⟩
theorem dX1_itemInOrder_17 : Dc cX1_itemInOrder 17 (.iconst 0) 1 18 := ⟨by decide +kernel, rfl⟩
theorem dX1_itemInOrder_18 : Dc cX1_itemInOrder 18 (.putfield 127) 3 21 := ⟨by decide +kernel, rfl⟩
theorem dX1_itemInOrder_21 : Dc cX1_itemInOrder 21 (.iconst 0) 1 22 := ⟨by decide +kernel, rfl⟩
theorem dX1_itemInOrder_22 : Dc cX1_itemInOrder 22 (.istore_n 2) 1 23 := ⟨by decide +kernel, rfl⟩
theorem dX1_itemInOrder_23 : Dc cX1_itemInOrder 23 (.iload_n 2) 1 24 := ⟨by decide +kernel, rfl⟩
theorem dX1_itemInOrder_24 : Dc cX1_itemInOrder 24 (.aload_n 0) 1 25 := ⟨by decide +kernel, rfl⟩
theorem dX1_itemInOrder_25 : Dc cX1_itemInOrder 25 (.getfield 15) 3 28 := ⟨by decide +kernel, rfl⟩
theorem dX1_itemInOrder_28 : Dc cX1_itemInOrder 28 (.invokevirtual 123) 3 31 := ⟨by decide +kernel, rfl⟩
theorem djX1_itemInOrder_31 : Dj cX1_itemInOrder 31 (.if_icmp .ge 22) 3 34 22 53 := ⟨by decide +kernel, rfl, by decide⟩
theorem dX1_itemInOrder_34 : Dc cX1_itemInOrder 34 (.aload_n 0) 1 35 := ⟨by decide +kernel, rfl⟩
theorem dX1_itemInOrder_35 : Dc cX1_itemInOrder 35 (.iload_n 2) 1 36 := ⟨by decide +kernel, rfl⟩
theorem dX1_itemInOrder_36 : Dc cX1_itemInOrder 36 (.invokevirtual 114) 3 39 := ⟨by decide +kernel, rfl⟩
theorem djX1_itemInOrder_39 : Dj cX1_itemInOrder 39 (.ifCond .eq 8) 3 42 8 47 := ⟨by decide +kernel, rfl, by decide⟩
theorem dX1_itemInOrder_42 : Dc cX1_itemInOrder 42 (.aload_n 0) 1 43 := ⟨by decide +kernel, rfl⟩
theorem dX1_itemInOrder_43 : Dc cX1_itemInOrder 43 (.iload_n 2) 1 44 := ⟨by decide +kernel, rfl⟩
theorem dX1_itemInOrder_44 : Dc cX1_itemInOrder 44 (.invokevirtual 130) 3 47 := ⟨by decide +kernel, rfl⟩
theorem dX1_itemInOrder_47 : Dc cX1_itemInOrder 47 (.iinc 2 1) 3 50 := ⟨by decide +kernel, rfl⟩
theorem djX1_itemInOrder_50 : Dj cX1_itemInOrder 50 (.goto (-27)) 3 53 (-27) 23 := ⟨by decide +kernel, rfl, by decide⟩
theorem dX1_itemInOrder_53 : Dc cX1_itemInOrder 53 (.iload_n 1) 1 54 := ⟨by decide +kernel, rfl⟩
theorem djX1_itemInOrder_54 : Dj cX1_itemInOrder 54 (.ifCond .lt 11) 3 57 11 65 := ⟨by decide +kernel, rfl, by decide⟩
theorem dX1_itemInOrder_57 : Dc cX1_itemInOrder 57 (.iload_n 1) 1 58 := ⟨by decide +kernel, rfl⟩
theorem dX1_itemInOrder_58 : Dc cX1_itemInOrder 58 (.aload_n 0) 1 59 := ⟨by decide +kernel, rfl⟩
theorem dX1_itemInOrder_59 : Dc cX1_itemInOrder 59 (.getfield 127) 3 62 := ⟨by decide +kernel, rfl⟩
theorem djX1_itemInOrder_62 : Dj cX1_itemInOrder 62 (.if_icmp .lt 7) 3 65 7 69 := ⟨by decide +kernel, rfl, by decide⟩
theorem dX1_itemInOrder_65 : Dc cX1_itemInOrder 65 (.iconst (-1)) 1 66 := ⟨by decide +kernel, rfl⟩
theorem djX1_itemInOrder_66 : Dj cX1_itemInOrder 66 (.goto 9) 3 69 9 75 := ⟨by decide +kernel, rfl, by decide⟩
theorem dX1_itemInOrder_69 : Dc cX1_itemInOrder 69 (.aload_n 0) 1 70 := ⟨by decide +kernel, rfl⟩
theorem dX1_itemInOrder_70 : Dc cX1_itemInOrder 70 (.getfield 29) 3 73 := ⟨by decide +kernel, rfl⟩
theorem dX1_itemInOrder_73 : Dc cX1_itemInOrder 73 (.iload_n 1) 1 74 := ⟨by decide +kernel, rfl⟩
theorem dX1_itemInOrder_74 : Dc cX1_itemInOrder 74 (.iaload) 1 75 := ⟨by decide +kernel, rfl⟩
theorem dX1_itemInOrder_75 : Dc cX1_itemInOrder 75 (.ireturn) 1 76 := ⟨by decide +kernel, rfl⟩
section
variable {p : Program} {l : Launch} {e : Env} {s : State} {m : MethodId} {args : Array Value} {below : List Frame} {meth : Method} {c : Code} {A0 : Nat → Prop} {D : va_G} {cA : Nat → ClassId} {ad : Nat → Nat} {Z : (Nat → Nat) × (Nat → Nat)} {Q : Int → St → Prop} {b : Bool}
set_option maxHeartbeats 4000000 in
set_option maxRecDepth 100000 in
theorem t_X1_itemInOrder_b47 (E : Ev p s m args meth c cX1_itemInOrder 3 RX1 A0 D cA ad (NC b) Z) (hr : meth.sig.returnType = (some .int)) {K23 : Int → Int → St → Prop} (hK23 : ∀ (x1 : Int) (x2 : Int) (σ : St), C32 x1 → C32 x2 → CanS (shC b) (NC b) σ → K23 x1 x2 σ → G p l e (rmL 6 0 0) s m args below meth c 3 A0 D cA ad (shC b) (NC b) 0 0 (MQ below (QIc D cA ad (shC b) (NC b) Q A0) args s 0 0 A0) σ 23 [some (.ref (ad 36)), some (vI x1), some (vI x2)] []) (x1 : Int) (x2 : Int) (σ : St) (c1 : C32 x1) (c2 : C32 x2) (hσ : CanS (shC b) (NC b) σ) (h : wp_X1_itemInOrder_b47 Q K23 x1 x2 σ) : G p l e (rmL 6 0 0) s m args below meth c 3 A0 D cA ad (shC b) (NC b) 0 0 (MQ below (QIc D cA ad (shC b) (NC b) Q A0) args s 0 0 A0) σ 47 [some (.ref (ad 36)), some (vI x1), some (vI x2)] [] := by
  unfold wp_X1_itemInOrder_b47 at h
  refine g_iinc_2 E rfl (by decide) dX1_itemInOrder_47 (fun v11 ev11 => ?_)
  replace h := h v11 ev11
  have cv11 : C32 v11 := by rw [ev11]; exact c32_w _
  refine g_goto E djX1_itemInOrder_50 ?_
  exact (hK23 x1 v11 σ c1 cv11 hσ h).weak (w_k (w_k (w_k w_n)))
set_option maxHeartbeats 4000000 in
set_option maxRecDepth 100000 in
theorem t_X1_itemInOrder_b65 (E : Ev p s m args meth c cX1_itemInOrder 3 RX1 A0 D cA ad (NC b) Z) (hr : meth.sig.returnType = (some .int)) (σ : St) (hσ : CanS (shC b) (NC b) σ) (h : wp_X1_itemInOrder_b65 Q  σ) : G p l e (rmL 6 0 0) s m args below meth c 3 A0 D cA ad (shC b) (NC b) 0 0 (MQ below (QIc D cA ad (shC b) (NC b) Q A0) args s 0 0 A0) σ 65 [none, none, none] [] := by
  unfold wp_X1_itemInOrder_b65 at h
  refine g_iconst E dX1_itemInOrder_65 ?_
  refine g_goto E djX1_itemInOrder_66 ?_
  exact g_iret E hr cl_m1 h hσ dX1_itemInOrder_75
set_option maxHeartbeats 4000000 in
set_option maxRecDepth 100000 in
theorem t_X1_itemInOrder_b53 (E : Ev p s m args meth c cX1_itemInOrder 3 RX1 A0 D cA ad (NC b) Z) (hr : meth.sig.returnType = (some .int)) (x1 : Int) (σ : St) (c1 : C32 x1) (hσ : CanS (shC b) (NC b) σ) (h : wp_X1_itemInOrder_b53 Q x1 σ) : G p l e (rmL 6 0 0) s m args below meth c 3 A0 D cA ad (shC b) (NC b) 0 0 (MQ below (QIc D cA ad (shC b) (NC b) Q A0) args s 0 0 A0) σ 53 [some (.ref (ad 36)), some (vI x1), none] [] := by
  unfold wp_X1_itemInOrder_b53 at h
  refine g_iload_1 E dX1_itemInOrder_53 ?_
  refine g_if_lt E c1 djX1_itemInOrder_54 (fun hc => ?_) (fun hc => ?_)
  · replace h := h.1 hc
    exact (t_X1_itemInOrder_b65 E hr σ hσ h).weak (w_d (w_d (w_d w_n)))
  · replace h := h.2 hc
    refine g_iload_1 E dX1_itemInOrder_57 ?_
    refine g_aload_0 E dX1_itemInOrder_58 ?_
    refine g_getI E fl_RX1_127 (kC_36 b) (sC_36 b) rfl dX1_itemInOrder_59 ?_
    refine g_icmp_lt E c1 (fC_36_6 hσ) djX1_itemInOrder_62 (fun hc => ?_) (fun hc => ?_)
    · replace h := h.1 hc
      refine g_aload_0 E dX1_itemInOrder_69 ?_
      refine g_getR E fl_RX1_29 (kC_36 b) (sC_36 b) rfl dX1_itemInOrder_70 ?_
      refine g_iload_1 E dX1_itemInOrder_73 ?_
      refine g_iald E (kC_40 b) (sC_40 b) (by decide) h.1 dX1_itemInOrder_74 ?_
      replace h := h.2
      exact g_iret E hr (aC_40 hσ _) h hσ dX1_itemInOrder_75
    · replace h := h.2 hc
      exact (t_X1_itemInOrder_b65 E hr σ hσ h).weak (w_d (w_d (w_d w_n)))
set_option maxHeartbeats 4000000 in
set_option maxRecDepth 100000 in
theorem t_X1_itemInOrder_l23 (E : Ev p s m args meth c cX1_itemInOrder 3 RX1 A0 D cA ad (NC b) Z) (hr : meth.sig.returnType = (some .int)) : ∀ (n : Nat) (x1 : Int) (x2 : Int) (σ : St), C32 x1 → C32 x2 → CanS (shC b) (NC b) σ → wp_X1_itemInOrder_l23 Q n x1 x2 σ → G p l e (rmL 6 0 0) s m args below meth c 3 A0 D cA ad (shC b) (NC b) 0 0 (MQ below (QIc D cA ad (shC b) (NC b) Q A0) args s 0 0 A0) σ 23 [some (.ref (ad 36)), some (vI x1), some (vI x2)] [] := by
  intro n
  induction n with
  | zero => intro _ _ _ _ _ _ h; exact h.elim
  | succ n ih =>
    intro x1 x2 σ c1 c2 hσ h
    unfold wp_X1_itemInOrder_l23 at h
    refine g_iload_2 E dX1_itemInOrder_23 ?_
    refine g_aload_0 E dX1_itemInOrder_24 ?_
    refine g_getR E fl_RX1_15 (kC_36 b) (sC_36 b) rfl dX1_itemInOrder_25 ?_
    refine g_callvI E my_X0_itemCount mi_X0_itemCount msel_X0_itemCount ml_RX1_123 (rm_ok (by decide) (by decide)) ⟨Nat.zero_le _, Nat.zero_le _⟩ (kC_24 b) (sC_24 b) rfl (m_X0_itemCount E.2.2.1 hσ h) rfl rfl (Nat.le_of_ble_eq_true rfl) dX1_itemInOrder_28 (fun r5 σ6 cr5 hσ6 h => ?_)
    refine g_icmp_ge E c2 cr5 djX1_itemInOrder_31 (fun hc => ?_) (fun hc => ?_)
    · replace h := h.1 hc
      exact (t_X1_itemInOrder_b53 E hr x1 σ6 c1 hσ6 h).weak (w_k (w_k (w_d w_n)))
    · replace h := h.2 hc
      refine g_aload_0 E dX1_itemInOrder_34 ?_
      refine g_iload_2 E dX1_itemInOrder_35 ?_
      refine g_callvI E my_X1_has mi_X1_has msel_X1_has ml_RX1_114 (rm_ok (by decide) (by decide)) ⟨Nat.zero_le _, Nat.zero_le _⟩ (kC_36 b) (sC_36 b) rfl (m_X1_has E.2.2.1 c2 hσ6 h) rfl rfl (Nat.le_of_ble_eq_true rfl) dX1_itemInOrder_36 (fun r7 σ8 cr7 hσ8 h => ?_)
      refine g_if_eq E cr7 djX1_itemInOrder_39 (fun hc => ?_) (fun hc => ?_)
      · replace h := h.1 hc
        exact (t_X1_itemInOrder_b47 E hr ih x1 x2 σ8 c1 c2 hσ8 h).weak (w_k (w_k (w_k w_n)))
      · replace h := h.2 hc
        refine g_aload_0 E dX1_itemInOrder_42 ?_
        refine g_iload_2 E dX1_itemInOrder_43 ?_
        refine g_callvV E my_X1_putInOrder mi_X1_putInOrder msel_X1_putInOrder ml_RX1_130 (rm_ok (by decide) (by decide)) ⟨Nat.zero_le _, Nat.zero_le _⟩ (kC_36 b) (sC_36 b) rfl (m_X1_putInOrder E.2.2.1 c2 hσ8 h) rfl rfl (Nat.le_of_ble_eq_true rfl) dX1_itemInOrder_44 (fun σ10 r9 hσ10 h => ?_)
        exact (t_X1_itemInOrder_b47 E hr ih x1 x2 σ10 c1 c2 hσ10 h).weak (w_k (w_k (w_k w_n)))
set_option maxHeartbeats 4000000 in
set_option maxRecDepth 100000 in
theorem t_X1_itemInOrder (E : Ev p s m args meth c cX1_itemInOrder 3 RX1 A0 D cA ad (NC b) Z) (hr : meth.sig.returnType = (some .int)) (x1 : Int) (σ : St) (c1 : C32 x1) (hσ : CanS (shC b) (NC b) σ) (h : wp_X1_itemInOrder x1 σ Q) : G p l e (rmL 6 0 0) s m args below meth c 3 A0 D cA ad (shC b) (NC b) 0 0 (MQ below (QIc D cA ad (shC b) (NC b) Q A0) args s 0 0 A0) σ 0 [some (.ref (ad 36)), some (vI x1), none] [] := by
  unfold wp_X1_itemInOrder at h
  refine g_aload_0 E dX1_itemInOrder_0 ?_
  refine g_callvV E my_X1_prepare mi_X1_prepare msel_X1_prepare ml_RX1_51 (rm_ok (by decide) (by decide)) ⟨Nat.zero_le _, Nat.zero_le _⟩ (kC_36 b) (sC_36 b) rfl (m_X1_prepare E.2.2.1 hσ h) rfl rfl (Nat.le_of_ble_eq_true rfl) dX1_itemInOrder_1 (fun σ2 r1 hσ2 h => ?_)
  refine g_aload_0 E dX1_itemInOrder_4 ?_
  refine g_getI E fl_RX1_39 (kC_36 b) (sC_36 b) rfl dX1_itemInOrder_5 ?_
  refine g_if_ne E (fC_36_9 hσ2) djX1_itemInOrder_8 (fun hc => ?_) (fun hc => ?_)
  · replace h := h.1 hc
    exact (t_X1_itemInOrder_b53 E hr x1 σ2 c1 hσ2 h).weak (w_k (w_k (w_d w_n)))
  · replace h := h.2 hc
    refine g_aload_0 E dX1_itemInOrder_11 ?_
    refine g_iconst E dX1_itemInOrder_12 ?_
    refine g_putZ E fl_RX1_39 rfl rfl (Or.inr rfl) (kC_36 b) (sC_36 b) rfl dX1_itemInOrder_13 (g_nmS (fun σ3 eσ3 => ?_))
    replace h := h σ3 eσ3
    have hσ3 : CanS (shC b) (NC b) σ3 := by rw [eσ3]; exact uC_36_9 hσ2 cl_1
    refine g_aload_0 E dX1_itemInOrder_16 ?_
    refine g_iconst E dX1_itemInOrder_17 ?_
    refine g_putI E fl_RX1_127 rfl rfl (kC_36 b) (sC_36 b) rfl dX1_itemInOrder_18 (g_nmS (fun σ4 eσ4 => ?_))
    replace h := h σ4 eσ4
    have hσ4 : CanS (shC b) (NC b) σ4 := by rw [eσ4]; exact uC_36_6 hσ3 cl_0
    refine g_iconst E dX1_itemInOrder_21 ?_
    refine g_istore_2 E rfl (by decide) dX1_itemInOrder_22 ?_
    exact (t_X1_itemInOrder_l23 E hr bigN x1 0 σ4 c1 cl_0 hσ4 h).weak (w_k (w_k (w_k w_n)))
end
theorem m_X1_itemInOrder {Z : (Nat → Nat) × (Nat → Nat)} {l : Launch} {D : va_G} {cA : Nat → ClassId} {ad : Nat → Nat} {b : Bool} {x1 : Int} {σ : St} {Q : Int → St → Prop} (hA : AdOk (NC b) ad) (c1 : C32 x1) (hσ : CanS (shC b) (NC b) σ) (h : wp_X1_itemInOrder x1 σ Q) : KtI Z l D cA ad (shC b) (NC b) yX1_itemInOrder cX1_itemInOrder 3 (some .int) 6 [.ref (ad 36), vI x1] σ Q :=
  KtI.of my_X1_itemInOrder hA [some (.ref (ad 36)), some (vI x1), none] (Nat.le_of_ble_eq_true rfl) rfl (fun p e s m args below meth c A0 E hr => t_X1_itemInOrder E hr x1 σ c1 hσ h)
theorem dX0_beginOf_0 : Dc cX0_beginOf 0 (.aload_n 0) 1 1 := ⟨by decide +kernel, rfl⟩
theorem dX0_beginOf_1 : Dc cX0_beginOf 1 (.getfield 19) 3 4 := ⟨by decide +kernel, rfl⟩
theorem dX0_beginOf_4 : Dc cX0_beginOf 4 (.iload_n 1) 1 5 := ⟨by decide +kernel, rfl⟩
theorem dX0_beginOf_5 : Dc cX0_beginOf 5 (.bipush 12) 2 7 := ⟨by decide +kernel, rfl⟩
theorem dX0_beginOf_7 : Dc cX0_beginOf 7 (.idiv) 1 8 := ⟨by decide +kernel, rfl⟩
theorem dX0_beginOf_8 : Dc cX0_beginOf 8 (.iaload) 1 9 := ⟨by decide +kernel, rfl⟩
theorem dX0_beginOf_9 : Dc cX0_beginOf 9 (.ireturn) 1 10 := ⟨by decide +kernel, rfl⟩
section
variable {p : Program} {l : Launch} {e : Env} {s : State} {m : MethodId} {args : Array Value} {below : List Frame} {meth : Method} {c : Code} {A0 : Nat → Prop} {D : va_G} {cA : Nat → ClassId} {ad : Nat → Nat} {Z : (Nat → Nat) × (Nat → Nat)} {Q : Int → St → Prop} {b : Bool}
set_option maxHeartbeats 4000000 in
set_option maxRecDepth 100000 in
theorem t_X0_beginOf (E : Ev p s m args meth c cX0_beginOf 2 RX0 A0 D cA ad (NC b) Z) (hr : meth.sig.returnType = (some .int)) (x1 : Int) (σ : St) (c1 : C32 x1) (hσ : CanS (shC b) (NC b) σ) (h : wp_X0_beginOf x1 σ Q) : G p l e (rmL 1 0 0) s m args below meth c 2 A0 D cA ad (shC b) (NC b) 0 0 (MQ below (QIc D cA ad (shC b) (NC b) Q A0) args s 0 0 A0) σ 0 [some (.ref (ad 24)), some (vI x1)] [] := by
  unfold wp_X0_beginOf at h
  refine g_aload_0 E dX0_beginOf_0 ?_
  refine g_getR E fl_RX0_19 (kC_24 b) (sC_24 b) rfl dX0_beginOf_1 ?_
  refine g_iload_1 E dX0_beginOf_4 ?_
  refine g_bipush E (by decide) dX0_beginOf_5 ?_
  refine g_idiv E cl_12 (by decide) dX0_beginOf_7 ?_
  refine g_iald E (kC_26 b) (sC_26 b) (by decide) h.1 dX0_beginOf_8 ?_
  replace h := h.2
  exact g_iret E hr (aC_26 hσ _) h hσ dX0_beginOf_9
end
theorem m_X0_beginOf {Z : (Nat → Nat) × (Nat → Nat)} {l : Launch} {D : va_G} {cA : Nat → ClassId} {ad : Nat → Nat} {b : Bool} {x1 : Int} {σ : St} {Q : Int → St → Prop} (hA : AdOk (NC b) ad) (c1 : C32 x1) (hσ : CanS (shC b) (NC b) σ) (h : wp_X0_beginOf x1 σ Q) : KtI Z l D cA ad (shC b) (NC b) yX0_beginOf cX0_beginOf 2 (some .int) 1 [.ref (ad 24), vI x1] σ Q :=
  KtI.of my_X0_beginOf hA [some (.ref (ad 24)), some (vI x1)] (Nat.le_of_ble_eq_true rfl) rfl (fun p e s m args below meth c A0 E hr => t_X0_beginOf E hr x1 σ c1 hσ h)
theorem dX0_finishOf_0 : Dc cX0_finishOf 0 (.aload_n 0) 1 1 := ⟨by decide +kernel, rfl⟩
theorem dX0_finishOf_1 : Dc cX0_finishOf 1 (.getfield 22) 3 4 := ⟨by decide +kernel, rfl⟩
theorem dX0_finishOf_4 : Dc cX0_finishOf 4 (.iload_n 1) 1 5 := ⟨by decide +kernel, rfl⟩
theorem dX0_finishOf_5 : Dc cX0_finishOf 5 (.bipush 12) 2 7 := ⟨by decide +kernel, rfl⟩
theorem dX0_finishOf_7 : Dc cX0_finishOf 7 (.idiv) 1 8 := ⟨by decide +kernel, rfl⟩
theorem dX0_finishOf_8 : Dc cX0_finishOf 8 (.iaload) 1 9 := ⟨by decide +kernel, rfl⟩
theorem dX0_finishOf_9 : Dc cX0_finishOf 9 (.ireturn) 1 10 := ⟨by decide +kernel, rfl⟩
section
variable {p : Program} {l : Launch} {e : Env} {s : State} {m : MethodId} {args : Array Value} {below : List Frame} {meth : Method} {c : Code} {A0 : Nat → Prop} {D : va_G} {cA : Nat → ClassId} {ad : Nat → Nat} {Z : (Nat → Nat) × (Nat → Nat)} {Q : Int → St → Prop} {b : Bool}
set_option maxHeartbeats 4000000 in
set_option maxRecDepth 100000 in
theorem t_X0_finishOf (E : Ev p s m args meth c cX0_finishOf 2 RX0 A0 D cA ad (NC b) Z) (hr : meth.sig.returnType = (some .int)) (x1 : Int) (σ : St) (c1 : C32 x1) (hσ : CanS (shC b) (NC b) σ) (h : wp_X0_finishOf x1 σ Q) : G p l e (rmL 1 0 0) s m args below meth c 2 A0 D cA ad (shC b) (NC b) 0 0 (MQ below (QIc D cA ad (shC b) (NC b) Q A0) args s 0 0 A0) σ 0 [some (.ref (ad 24)), some (vI x1)] [] := by
  unfold wp_X0_finishOf at h
  refine g_aload_0 E dX0_finishOf_0 ?_
  refine g_getR E fl_RX0_22 (kC_24 b) (sC_24 b) rfl dX0_finishOf_1 ?_
  refine g_iload_1 E dX0_finishOf_4 ?_
  refine g_bipush E (by decide) dX0_finishOf_5 ?_
  refine g_idiv E cl_12 (by decide) dX0_finishOf_7 ?_
  refine g_iald E (kC_27 b) (sC_27 b) (by decide) h.1 dX0_finishOf_8 ?_
  replace h := h.2
  exact g_iret E hr (aC_27 hσ _) h hσ dX0_finishOf_9
end
theorem m_X0_finishOf {Z : (Nat → Nat) × (Nat → Nat)} {l : Launch} {D : va_G} {cA : Nat → ClassId} {ad : Nat → Nat} {b : Bool} {x1 : Int} {σ : St} {Q : Int → St → Prop} (hA : AdOk (NC b) ad) (c1 : C32 x1) (hσ : CanS (shC b) (NC b) σ) (h : wp_X0_finishOf x1 σ Q) : KtI Z l D cA ad (shC b) (NC b) yX0_finishOf cX0_finishOf 2 (some .int) 1 [.ref (ad 24), vI x1] σ Q :=
  KtI.of my_X0_finishOf hA [some (.ref (ad 24)), some (vI x1)] (Nat.le_of_ble_eq_true rfl) rfl (fun p e s m args below meth c A0 E hr => t_X0_finishOf E hr x1 σ c1 hσ h)
theorem dX11_settled_0 : Dc cX11_settled 0 (.iload_n 1) 1 1 := ⟨by decide +kernel, rfl⟩
theorem djX11_settled_1 : Dj cX11_settled 1 (.ifCond .lt 12) 3 4 12 13 := ⟨by decide +kernel, rfl, by decide⟩
theorem dX11_settled_4 : Dc cX11_settled 4 (.iload_n 2) 1 5 := ⟨by decide +kernel, rfl⟩
theorem djX11_settled_5 : Dj cX11_settled 5 (.ifCond .lt 8) 3 8 8 13 := ⟨by decide +kernel, rfl, by decide⟩
theorem dX11_settled_8 : Dc cX11_settled 8 (.iload_n 2) 1 9 := ⟨by decide +kernel, rfl⟩
theorem dX11_settled_9 : Dc cX11_settled 9 (.iconst 3) 1 10 := ⟨by decide +kernel, rfl⟩
theorem djX11_settled_10 : Dj cX11_settled 10 (.if_icmp .le 6) 3 13 6 16 := ⟨by decide +kernel, rfl, by decide⟩
theorem dX11_settled_13 : Dc cX11_settled 13 (.bipush (-2)) 2 15 := ⟨by decide +kernel, rfl⟩
theorem dX11_settled_15 : Dc cX11_settled 15 (.ireturn) 1 16 := ⟨by decide +kernel, rfl⟩
theorem dX11_settled_16 : Dc cX11_settled 16 (.aload_n 0) 1 17 := ⟨by decide +kernel, rfl⟩
theorem dX11_settled_17 : Dc cX11_settled 17 (.getfield 46) 3 20 := ⟨by decide +kernel, rfl⟩
theorem dX11_settled_20 : Dc cX11_settled 20 (.iload_n 1) 1 21 := ⟨by decide +kernel, rfl⟩
theorem dX11_settled_21 : Dc cX11_settled 21 (.invokevirtual 277) 3 24 := ⟨by decide +kernel, rfl⟩
theorem dX11_settled_24 : Dc cX11_settled 24 (.istore_n 3) 1 25 := ⟨by decide +kernel, rfl⟩
theorem dX11_settled_25 : Dc cX11_settled 25 (.iload_n 3) 1 26 := ⟨by decide +kernel, rfl⟩
theorem djX11_settled_26 : Dj cX11_settled 26 (.ifCond .ge 5) 3 29 5 31 := ⟨by decide +kernel, rfl, by decide⟩
theorem dX11_settled_29 : Dc cX11_settled 29 (.iconst (-1)) 1 30 := ⟨by decide +kernel, rfl⟩
theorem dX11_settled_30 : Dc cX11_settled 30 (.ireturn) 1 31 := ⟨by decide +kernel, rfl⟩
theorem dX11_settled_31 : Dc cX11_settled 31 (.iload_n 2) 1 32 := ⟨by decide +kernel, rfl⟩
theorem dX11_settled_32 : Dc cX11_settled 32 (.tableswitch 51 0 2 #[28, 33, 42]) 28 60 := ⟨by decide +kernel, rfl⟩
theorem dX11_settled_60 : Dc cX11_settled 60 (.iload_n 3) 1 61 := ⟨by decide +kernel, rfl⟩
theorem dX11_settled_61 : Dc cX11_settled 61 (.bipush 12) 2 63 := ⟨by decide +kernel, rfl⟩
theorem dX11_settled_63 : Dc cX11_settled 63 (.irem) 1 64 := ⟨by decide +kernel, rfl⟩
theorem dX11_settled_64 : Dc cX11_settled 64 (.ireturn) 1 65 := ⟨by decide +kernel, rfl⟩
theorem dX11_settled_65 : Dc cX11_settled 65 (.aload_n 0) 1 66 := ⟨by decide +kernel, rfl⟩
theorem dX11_settled_66 : Dc cX11_settled 66 (.getfield 37) 3 69 := ⟨by decide +kernel, rfl⟩
theorem dX11_settled_69 : Dc cX11_settled 69 (.iload_n 3) 1 70 := ⟨by decide +kernel, rfl⟩
theorem dX11_settled_70 : Dc cX11_settled 70 (.invokevirtual 280) 3 73 := ⟨by decide +kernel, rfl⟩
theorem dX11_settled_73 : Dc cX11_settled 73 (.ireturn) 1 74 := ⟨by decide +kernel, rfl⟩
theorem dX11_settled_74 : Dc cX11_settled 74 (.aload_n 0) 1 75 := ⟨by decide +kernel, rfl⟩
theorem dX11_settled_75 : Dc cX11_settled 75 (.getfield 37) 3 78 := ⟨by decide +kernel, rfl⟩
theorem dX11_settled_78 : Dc cX11_settled 78 (.iload_n 3) 1 79 := ⟨by decide +kernel, rfl⟩
theorem dX11_settled_79 : Dc cX11_settled 79 (.invokevirtual 283) 3 82 := ⟨by decide +kernel, rfl⟩
theorem dX11_settled_82 : Dc cX11_settled 82 (.ireturn) 1 83 := ⟨by decide +kernel, rfl⟩
theorem dX11_settled_83 : Dc cX11_settled 83 (.aload_n 0) 1 84 := ⟨by decide +kernel, rfl⟩
theorem dX11_settled_84 : Dc cX11_settled 84 (.getfield 46) 3 87 := ⟨by decide +kernel, rfl⟩
theorem dX11_settled_87 : Dc cX11_settled 87 (.iload_n 3) 1 88 := ⟨by decide +kernel, rfl⟩
theorem dX11_settled_88 : Dc cX11_settled 88 (.invokevirtual 226) 3 91 := ⟨by decide +kernel, rfl⟩
theorem dX11_settled_91 : Dc cX11_settled 91 (.ireturn) 1 92 := ⟨by decide +kernel, rfl⟩
section
variable {p : Program} {l : Launch} {e : Env} {s : State} {m : MethodId} {args : Array Value} {below : List Frame} {meth : Method} {c : Code} {A0 : Nat → Prop} {D : va_G} {cA : Nat → ClassId} {ad : Nat → Nat} {Z : (Nat → Nat) × (Nat → Nat)} {Q : Int → St → Prop} {b : Bool}
set_option maxHeartbeats 4000000 in
set_option maxRecDepth 100000 in
theorem t_X11_settled (E : Ev p s m args meth c cX11_settled 4 RX11 A0 D cA ad (NC b) Z) (hr : meth.sig.returnType = (some .int)) (x1 : Int) (x2 : Int) (σ : St) (c1 : C32 x1) (c2 : C32 x2) (hσ : CanS (shC b) (NC b) σ) (h : wp_X11_settled x1 x2 σ Q) : G p l e (rmL 7 0 0) s m args below meth c 4 A0 D cA ad (shC b) (NC b) 0 0 (MQ below (QIc D cA ad (shC b) (NC b) Q A0) args s 0 0 A0) σ 0 [some (.ref (ad 0)), some (vI x1), some (vI x2), none] [] := by
  unfold wp_X11_settled at h
  refine g_iload_1 E dX11_settled_0 ?_
  refine g_if_lt E c1 djX11_settled_1 (fun hc => ?_) (fun hc => ?_)
  · replace h := h.1 hc
    refine g_bipush E (by decide) dX11_settled_13 ?_
    exact g_iret E hr cl_m2 h hσ dX11_settled_15
  · replace h := h.2 hc
    refine g_iload_2 E dX11_settled_4 ?_
    refine g_if_lt E c2 djX11_settled_5 (fun hc => ?_) (fun hc => ?_)
    · replace h := h.1 hc
      refine g_bipush E (by decide) dX11_settled_13 ?_
      exact g_iret E hr cl_m2 h hσ dX11_settled_15
    · replace h := h.2 hc
      refine g_iload_2 E dX11_settled_8 ?_
      refine g_iconst E dX11_settled_9 ?_
      refine g_icmp_le E c2 cl_3 djX11_settled_10 (fun hc => ?_) (fun hc => ?_)
      · replace h := h.1 hc
        refine g_aload_0 E dX11_settled_16 ?_
        refine g_getR E fl_RX11_46 (kC_0 b) (sC_0 b) rfl dX11_settled_17 ?_
        refine g_iload_1 E dX11_settled_20 ?_
        refine g_callvI E my_X1_itemInOrder mi_X1_itemInOrder msel_X1_itemInOrder ml_RX11_277 (rm_ok (by decide) (by decide)) ⟨Nat.zero_le _, Nat.zero_le _⟩ (kC_36 b) (sC_36 b) rfl (m_X1_itemInOrder E.2.2.1 c1 hσ h) rfl rfl (Nat.le_of_ble_eq_true rfl) dX11_settled_21 (fun r1 σ2 cr1 hσ2 h => ?_)
        refine g_istore_3 E rfl (by decide) dX11_settled_24 ?_
        refine g_iload_3 E dX11_settled_25 ?_
        refine g_if_ge E cr1 djX11_settled_26 (fun hc => ?_) (fun hc => ?_)
        · replace h := h.1 hc
          refine g_iload_2 E dX11_settled_31 ?_
          by_cases hs0 : x2 = 0
          · refine g_tableIn (v := 0) (i := 0) E c2 hs0 (by decide) (by decide) dX11_settled_32 rfl (tgt := 60) (by decide) ?_
            replace h := h.1 hs0
            refine g_iload_3 E dX11_settled_60 ?_
            refine g_bipush E (by decide) dX11_settled_61 ?_
            refine g_irem E cl_12 (by decide) dX11_settled_63 ?_
            exact g_iret E hr (c32_t _) h hσ2 dX11_settled_64
          by_cases hs1 : x2 = 1
          · refine g_tableIn (v := 1) (i := 1) E c2 hs1 (by decide) (by decide) dX11_settled_32 rfl (tgt := 65) (by decide) ?_
            replace h := h.2.1 hs1
            refine g_aload_0 E dX11_settled_65 ?_
            refine g_getR E fl_RX11_37 (kC_0 b) (sC_0 b) rfl dX11_settled_66 ?_
            refine g_iload_3 E dX11_settled_69 ?_
            refine g_callvI E my_X0_beginOf mi_X0_beginOf msel_X0_beginOf ml_RX11_280 (rm_ok (by decide) (by decide)) ⟨Nat.zero_le _, Nat.zero_le _⟩ (kC_24 b) (sC_24 b) rfl (m_X0_beginOf E.2.2.1 cr1 hσ2 h) rfl rfl (Nat.le_of_ble_eq_true rfl) dX11_settled_70 (fun r3 σ4 cr3 hσ4 h => ?_)
            exact g_iret E hr cr3 h hσ4 dX11_settled_73
          by_cases hs2 : x2 = 2
          · refine g_tableIn (v := 2) (i := 2) E c2 hs2 (by decide) (by decide) dX11_settled_32 rfl (tgt := 74) (by decide) ?_
            replace h := h.2.2.1 hs2
            refine g_aload_0 E dX11_settled_74 ?_
            refine g_getR E fl_RX11_37 (kC_0 b) (sC_0 b) rfl dX11_settled_75 ?_
            refine g_iload_3 E dX11_settled_78 ?_
            refine g_callvI E my_X0_finishOf mi_X0_finishOf msel_X0_finishOf ml_RX11_283 (rm_ok (by decide) (by decide)) ⟨Nat.zero_le _, Nat.zero_le _⟩ (kC_24 b) (sC_24 b) rfl (m_X0_finishOf E.2.2.1 cr1 hσ2 h) rfl rfl (Nat.le_of_ble_eq_true rfl) dX11_settled_79 (fun r5 σ6 cr5 hσ6 h => ?_)
            exact g_iret E hr cr5 h hσ6 dX11_settled_82
          replace h := h.2.2.2 ⟨hs0, hs1, hs2⟩
          refine g_tableOut E c2 (by omega) dX11_settled_32 (tgt := 83) (by decide) ?_
          refine g_aload_0 E dX11_settled_83 ?_
          refine g_getR E fl_RX11_46 (kC_0 b) (sC_0 b) rfl dX11_settled_84 ?_
          refine g_iload_3 E dX11_settled_87 ?_
          refine g_callvI E my_X1_lowestOf mi_X1_lowestOf msel_X1_lowestOf ml_RX11_226 (rm_ok (by decide) (by decide)) ⟨Nat.zero_le _, Nat.zero_le _⟩ (kC_36 b) (sC_36 b) rfl (m_X1_lowestOf E.2.2.1 cr1 hσ2 h) rfl rfl (Nat.le_of_ble_eq_true rfl) dX11_settled_88 (fun r7 σ8 cr7 hσ8 h => ?_)
          exact g_iret E hr cr7 h hσ8 dX11_settled_91
        · replace h := h.2 hc
          refine g_iconst E dX11_settled_29 ?_
          exact g_iret E hr cl_m1 h hσ2 dX11_settled_30
      · replace h := h.2 hc
        refine g_bipush E (by decide) dX11_settled_13 ?_
        exact g_iret E hr cl_m2 h hσ dX11_settled_15
end
theorem m_X11_settled {Z : (Nat → Nat) × (Nat → Nat)} {l : Launch} {D : va_G} {cA : Nat → ClassId} {ad : Nat → Nat} {b : Bool} {x1 x2 : Int} {σ : St} {Q : Int → St → Prop} (hA : AdOk (NC b) ad) (c1 : C32 x1) (c2 : C32 x2) (hσ : CanS (shC b) (NC b) σ) (h : wp_X11_settled x1 x2 σ Q) : KtI Z l D cA ad (shC b) (NC b) yX11_settled cX11_settled 4 (some .int) 7 [.ref (ad 0), vI x1, vI x2] σ Q :=
  KtI.of my_X11_settled hA [some (.ref (ad 0)), some (vI x1), some (vI x2), none] (Nat.le_of_ble_eq_true rfl) rfl (fun p e s m args below meth c A0 E hr => t_X11_settled E hr x1 x2 σ c1 c2 hσ h)
theorem dX11_isPlace_0 : Dc cX11_isPlace 0 (.iload_n 0) 1 1 := ⟨by decide +kernel, rfl⟩
theorem djX11_isPlace_1 : Dj cX11_isPlace 1 (.ifCond .lt 13) 3 4 13 14 := ⟨by decide +kernel, rfl, by decide⟩
theorem dX11_isPlace_4 : Dc cX11_isPlace 4 (.iload_n 0) 1 5 := ⟨by decide +kernel, rfl⟩
theorem dX11_isPlace_5 : Dc cX11_isPlace 5 (.bipush 16) 2 7 := ⟨by decide +kernel, rfl⟩
theorem djX11_isPlace_7 : Dj cX11_isPlace 7 (.if_icmp .ge 7) 3 10 7 14 := ⟨by decide +kernel, rfl, by decide⟩
theorem dX11_isPlace_10 : Dc cX11_isPlace 10 (.iconst 1) 1 11 := ⟨by decide +kernel, rfl⟩
theorem djX11_isPlace_11 : Dj cX11_isPlace 11 (.goto 4) 3 14 4 15 := ⟨by decide +kernel, rfl, by decide⟩
theorem dX11_isPlace_14 : Dc cX11_isPlace 14 (.iconst 0) 1 15 := ⟨by decide +kernel, rfl⟩
theorem dX11_isPlace_15 : Dc cX11_isPlace 15 (.ireturn) 1 16 := ⟨by decide +kernel, rfl⟩
section
variable {p : Program} {l : Launch} {e : Env} {s : State} {m : MethodId} {args : Array Value} {below : List Frame} {meth : Method} {c : Code} {A0 : Nat → Prop} {D : va_G} {cA : Nat → ClassId} {ad : Nat → Nat} {Z : (Nat → Nat) × (Nat → Nat)} {Q : Int → St → Prop} {b : Bool}
set_option maxHeartbeats 4000000 in
set_option maxRecDepth 100000 in
theorem t_X11_isPlace_b14 (E : Ev p s m args meth c cX11_isPlace 1 RX11 A0 D cA ad (NC b) Z) (hr : meth.sig.returnType = (some .boolean)) (σ : St) (hσ : CanS (shC b) (NC b) σ) (h : wp_X11_isPlace_b14 Q  σ) : G p l e (rmL 1 0 0) s m args below meth c 1 A0 D cA ad (shC b) (NC b) 0 0 (MQ below (QIc D cA ad (shC b) (NC b) Q A0) args s 0 0 A0) σ 14 [none] [] := by
  unfold wp_X11_isPlace_b14 at h
  refine g_iconst E dX11_isPlace_14 ?_
  exact g_zret E hr (Or.inl rfl) h hσ dX11_isPlace_15
set_option maxHeartbeats 4000000 in
set_option maxRecDepth 100000 in
theorem t_X11_isPlace (E : Ev p s m args meth c cX11_isPlace 1 RX11 A0 D cA ad (NC b) Z) (hr : meth.sig.returnType = (some .boolean)) (x0 : Int) (σ : St) (c0 : C32 x0) (hσ : CanS (shC b) (NC b) σ) (h : wp_X11_isPlace x0 σ Q) : G p l e (rmL 1 0 0) s m args below meth c 1 A0 D cA ad (shC b) (NC b) 0 0 (MQ below (QIc D cA ad (shC b) (NC b) Q A0) args s 0 0 A0) σ 0 [some (vI x0)] [] := by
  unfold wp_X11_isPlace at h
  refine g_iload_0 E dX11_isPlace_0 ?_
  refine g_if_lt E c0 djX11_isPlace_1 (fun hc => ?_) (fun hc => ?_)
  · replace h := h.1 hc
    exact (t_X11_isPlace_b14 E hr σ hσ h).weak (w_d w_n)
  · replace h := h.2 hc
    refine g_iload_0 E dX11_isPlace_4 ?_
    refine g_bipush E (by decide) dX11_isPlace_5 ?_
    refine g_icmp_ge E c0 cl_16 djX11_isPlace_7 (fun hc => ?_) (fun hc => ?_)
    · replace h := h.1 hc
      exact (t_X11_isPlace_b14 E hr σ hσ h).weak (w_d w_n)
    · replace h := h.2 hc
      refine g_iconst E dX11_isPlace_10 ?_
      refine g_goto E djX11_isPlace_11 ?_
      exact g_zret E hr (Or.inr rfl) h hσ dX11_isPlace_15
end
theorem m_X11_isPlace {Z : (Nat → Nat) × (Nat → Nat)} {l : Launch} {D : va_G} {cA : Nat → ClassId} {ad : Nat → Nat} {b : Bool} {x0 : Int} {σ : St} {Q : Int → St → Prop} (hA : AdOk (NC b) ad) (c0 : C32 x0) (hσ : CanS (shC b) (NC b) σ) (h : wp_X11_isPlace x0 σ Q) : KtI Z l D cA ad (shC b) (NC b) yX11_isPlace cX11_isPlace 1 (some .boolean) 1 [vI x0] σ Q :=
  KtI.of my_X11_isPlace hA [some (vI x0)] (Nat.le_of_ble_eq_true rfl) rfl (fun p e s m args below meth c A0 E hr => t_X11_isPlace E hr x0 σ c0 hσ h)
theorem dX0_isInside_0 : Dc cX0_isInside 0 (.aload_n 0) 1 1 := ⟨by decide +kernel, rfl⟩
theorem dX0_isInside_1 : Dc cX0_isInside 1 (.getfield 19) 3 4 := ⟨by decide +kernel, rfl⟩
theorem dX0_isInside_4 : Dc cX0_isInside 4 (.iload_n 1) 1 5 := ⟨by decide +kernel, rfl⟩
theorem dX0_isInside_5 : Dc cX0_isInside 5 (.iaload) 1 6 := ⟨by decide +kernel, rfl⟩
theorem dX0_isInside_6 : Dc cX0_isInside 6 (.aload_n 0) 1 7 := ⟨by decide +kernel, rfl⟩
theorem dX0_isInside_7 : Dc cX0_isInside 7 (.getfield 19) 3 10 := ⟨by decide +kernel, rfl⟩
theorem dX0_isInside_10 : Dc cX0_isInside 10 (.iload_n 2) 1 11 := ⟨by decide +kernel, rfl⟩
theorem dX0_isInside_11 : Dc cX0_isInside 11 (.iaload) 1 12 := ⟨by decide +kernel, rfl⟩
theorem djX0_isInside_12 : Dj cX0_isInside 12 (.if_icmp .lt 22) 3 15 22 34 := ⟨by decide +kernel, rfl, by decide⟩
theorem dX0_isInside_15 : Dc cX0_isInside 15 (.aload_n 0) 1 16 := ⟨by decide +kernel, rfl⟩
theorem dX0_isInside_16 : Dc cX0_isInside 16 (.getfield 22) 3 19 := ⟨by decide +kernel, rfl⟩
theorem dX0_isInside_19 : Dc cX0_isInside 19 (.iload_n 1) 1 20 := ⟨by decide +kernel, rfl⟩
theorem dX0_isInside_20 : Dc cX0_isInside 20 (.iaload) 1 21 := ⟨by decide +kernel, rfl⟩
theorem dX0_isInside_21 : Dc cX0_isInside 21 (.aload_n 0) 1 22 := ⟨by decide +kernel, rfl⟩
theorem dX0_isInside_22 : Dc cX0_isInside 22 (.getfield 22) 3 25 := ⟨by decide +kernel, rfl⟩
theorem dX0_isInside_25 : Dc cX0_isInside 25 (.iload_n 2) 1 26 := ⟨by decide +kernel, rfl⟩
theorem dX0_isInside_26 : Dc cX0_isInside 26 (.iaload) 1 27 := ⟨by decide +kernel, rfl⟩
theorem djX0_isInside_27 : Dj cX0_isInside 27 (.if_icmp .gt 7) 3 30 7 34 := ⟨by decide +kernel, rfl, by decide⟩
theorem dX0_isInside_30 : Dc cX0_isInside 30 (.iconst 1) 1 31 := ⟨by decide +kernel, rfl⟩
theorem djX0_isInside_31 : Dj cX0_isInside 31 (.goto 4) 3 34 4 35 := ⟨by decide +kernel, rfl, by decide⟩
theorem dX0_isInside_34 : Dc cX0_isInside 34 (.iconst 0) 1 35 := ⟨by decide +kernel, rfl⟩
theorem dX0_isInside_35 : Dc cX0_isInside 35 (.ireturn) 1 36 := ⟨by decide +kernel, rfl⟩
section
variable {p : Program} {l : Launch} {e : Env} {s : State} {m : MethodId} {args : Array Value} {below : List Frame} {meth : Method} {c : Code} {A0 : Nat → Prop} {D : va_G} {cA : Nat → ClassId} {ad : Nat → Nat} {Z : (Nat → Nat) × (Nat → Nat)} {Q : Int → St → Prop} {b : Bool}
set_option maxHeartbeats 4000000 in
set_option maxRecDepth 100000 in
theorem t_X0_isInside_b34 (E : Ev p s m args meth c cX0_isInside 3 RX0 A0 D cA ad (NC b) Z) (hr : meth.sig.returnType = (some .boolean)) (σ : St) (hσ : CanS (shC b) (NC b) σ) (h : wp_X0_isInside_b34 Q  σ) : G p l e (rmL 1 0 0) s m args below meth c 3 A0 D cA ad (shC b) (NC b) 0 0 (MQ below (QIc D cA ad (shC b) (NC b) Q A0) args s 0 0 A0) σ 34 [none, none, none] [] := by
  unfold wp_X0_isInside_b34 at h
  refine g_iconst E dX0_isInside_34 ?_
  exact g_zret E hr (Or.inl rfl) h hσ dX0_isInside_35
set_option maxHeartbeats 4000000 in
set_option maxRecDepth 100000 in
theorem t_X0_isInside (E : Ev p s m args meth c cX0_isInside 3 RX0 A0 D cA ad (NC b) Z) (hr : meth.sig.returnType = (some .boolean)) (x1 : Int) (x2 : Int) (σ : St) (c1 : C32 x1) (c2 : C32 x2) (hσ : CanS (shC b) (NC b) σ) (h : wp_X0_isInside x1 x2 σ Q) : G p l e (rmL 1 0 0) s m args below meth c 3 A0 D cA ad (shC b) (NC b) 0 0 (MQ below (QIc D cA ad (shC b) (NC b) Q A0) args s 0 0 A0) σ 0 [some (.ref (ad 24)), some (vI x1), some (vI x2)] [] := by
  unfold wp_X0_isInside at h
  refine g_aload_0 E dX0_isInside_0 ?_
  refine g_getR E fl_RX0_19 (kC_24 b) (sC_24 b) rfl dX0_isInside_1 ?_
  refine g_iload_1 E dX0_isInside_4 ?_
  refine g_iald E (kC_26 b) (sC_26 b) (by decide) h.1 dX0_isInside_5 ?_
  replace h := h.2
  refine g_aload_0 E dX0_isInside_6 ?_
  refine g_getR E fl_RX0_19 (kC_24 b) (sC_24 b) rfl dX0_isInside_7 ?_
  refine g_iload_2 E dX0_isInside_10 ?_
  refine g_iald E (kC_26 b) (sC_26 b) (by decide) h.1 dX0_isInside_11 ?_
  replace h := h.2
  refine g_icmp_lt E (aC_26 hσ _) (aC_26 hσ _) djX0_isInside_12 (fun hc => ?_) (fun hc => ?_)
  · replace h := h.1 hc
    exact (t_X0_isInside_b34 E hr σ hσ h).weak (w_d (w_d (w_d w_n)))
  · replace h := h.2 hc
    refine g_aload_0 E dX0_isInside_15 ?_
    refine g_getR E fl_RX0_22 (kC_24 b) (sC_24 b) rfl dX0_isInside_16 ?_
    refine g_iload_1 E dX0_isInside_19 ?_
    refine g_iald E (kC_27 b) (sC_27 b) (by decide) h.1 dX0_isInside_20 ?_
    replace h := h.2
    refine g_aload_0 E dX0_isInside_21 ?_
    refine g_getR E fl_RX0_22 (kC_24 b) (sC_24 b) rfl dX0_isInside_22 ?_
    refine g_iload_2 E dX0_isInside_25 ?_
    refine g_iald E (kC_27 b) (sC_27 b) (by decide) h.1 dX0_isInside_26 ?_
    replace h := h.2
    refine g_icmp_gt E (aC_27 hσ _) (aC_27 hσ _) djX0_isInside_27 (fun hc => ?_) (fun hc => ?_)
    · replace h := h.1 hc
      exact (t_X0_isInside_b34 E hr σ hσ h).weak (w_d (w_d (w_d w_n)))
    · replace h := h.2 hc
      refine g_iconst E dX0_isInside_30 ?_
      refine g_goto E djX0_isInside_31 ?_
      exact g_zret E hr (Or.inr rfl) h hσ dX0_isInside_35
end
theorem m_X0_isInside {Z : (Nat → Nat) × (Nat → Nat)} {l : Launch} {D : va_G} {cA : Nat → ClassId} {ad : Nat → Nat} {b : Bool} {x1 x2 : Int} {σ : St} {Q : Int → St → Prop} (hA : AdOk (NC b) ad) (c1 : C32 x1) (c2 : C32 x2) (hσ : CanS (shC b) (NC b) σ) (h : wp_X0_isInside x1 x2 σ Q) : KtI Z l D cA ad (shC b) (NC b) yX0_isInside cX0_isInside 3 (some .boolean) 1 [.ref (ad 24), vI x1, vI x2] σ Q :=
  KtI.of my_X0_isInside hA [some (.ref (ad 24)), some (vI x1), some (vI x2)] (Nat.le_of_ble_eq_true rfl) rfl (fun p e s m args below meth c A0 E hr => t_X0_isInside E hr x1 x2 σ c1 c2 hσ h)
theorem dX3_caseOfRule_0 : Dc cX3_caseOfRule 0 (.aload_n 0) 1 1 := ⟨by decide +kernel, rfl⟩
theorem dX3_caseOfRule_1 : Dc cX3_caseOfRule 1 (.getfield 15) 3 4 := ⟨by decide +kernel, rfl⟩
theorem dX3_caseOfRule_4 : Dc cX3_caseOfRule 4 (.iload_n 1) 1 5 := ⟨by decide +kernel, rfl⟩
theorem dX3_caseOfRule_5 : Dc cX3_caseOfRule 5 (.invokevirtual 111) 3 8 := ⟨by decide +kernel, rfl⟩
theorem dX3_caseOfRule_8 : Dc cX3_caseOfRule 8 (.istore_n 3) 1 9 := ⟨by decide +kernel, rfl⟩
theorem dX3_caseOfRule_9 : Dc cX3_caseOfRule 9 (.iload_n 3) 1 10 := ⟨by decide +kernel, rfl⟩
theorem dX3_caseOfRule_10 : Dc cX3_caseOfRule 10 (.aload_n 0) 1 11 := ⟨by decide +kernel, rfl⟩
theorem dX3_caseOfRule_11 : Dc cX3_caseOfRule 11 (.getfield 15) 3 14 := ⟨by decide +kernel, rfl⟩
theorem dX3_caseOfRule_14 : Dc cX3_caseOfRule 14 (.iload_n 1) 1 15 := ⟨by decide +kernel, rfl⟩
theorem dX3_caseOfRule_15 : Dc cX3_caseOfRule 15 (.invokevirtual 115) 3 18 := ⟨by decide +kernel, rfl⟩
theorem djX3_caseOfRule_18 : Dj cX3_caseOfRule 18 (.if_icmp .ge 24) 3 21 24 42 := ⟨by decide +kernel, rfl, by decide⟩
theorem dX3_caseOfRule_21 : Dc cX3_caseOfRule 21 (.aload_n 0) 1 22 := ⟨by decide +kernel, rfl⟩
theorem dX3_caseOfRule_22 : Dc cX3_caseOfRule 22 (.getfield 15) 3 25 := ⟨by decide +kernel, rfl⟩
theorem dX3_caseOfRule_25 : Dc cX3_caseOfRule 25 (.getfield 118) 3 28 := ⟨by decide +kernel, rfl⟩
theorem dX3_caseOfRule_28 : Dc cX3_caseOfRule 28 (.iload_n 3) 1 29 := ⟨by decide +kernel, rfl⟩
theorem dX3_caseOfRule_29 : Dc cX3_caseOfRule 29 (.iaload) 1 30 := ⟨by decide +kernel, rfl⟩
theorem dX3_caseOfRule_30 : Dc cX3_caseOfRule 30 (.iload_n 2) 1 31 := ⟨by decide +kernel, rfl⟩
theorem djX3_caseOfRule_31 : Dj cX3_caseOfRule 31 (.if_icmp .ne 5) 3 34 5 36 := ⟨by decide +kernel, rfl, by decide⟩
theorem dX3_caseOfRule_34 : Dc cX3_caseOfRule 34 (.iload_n 3) 1 35 := ⟨by decide +kernel, rfl⟩
theorem dX3_caseOfRule_35 : Dc cX3_caseOfRule 35 (.ireturn) 1 36 := ⟨by decide +kernel, rfl⟩
theorem dX3_caseOfRule_36 : Dc cX3_caseOfRule 36 (.iinc 3 1) 3 39 := ⟨by decide +kernel, rfl⟩
theorem djX3_caseOfRule_39 : Dj cX3_caseOfRule 39 (.goto (-30)) 3 42 (-30) 9 := ⟨by decide +kernel, rfl, by decide⟩
theorem dX3_caseOfRule_42 : Dc cX3_caseOfRule 42 (.iconst (-1)) 1 43 := ⟨by decide +kernel, rfl⟩
theorem dX3_caseOfRule_43 : Dc cX3_caseOfRule 43 (.ireturn) 1 44 := ⟨by decide +kernel, rfl⟩
section
variable {p : Program} {l : Launch} {e : Env} {s : State} {m : MethodId} {args : Array Value} {below : List Frame} {meth : Method} {c : Code} {A0 : Nat → Prop} {D : va_G} {cA : Nat → ClassId} {ad : Nat → Nat} {Z : (Nat → Nat) × (Nat → Nat)} {Q : Int → St → Prop} {b : Bool}
set_option maxHeartbeats 4000000 in
set_option maxRecDepth 100000 in
theorem t_X3_caseOfRule_l9 (E : Ev p s m args meth c cX3_caseOfRule 4 RX3 A0 D cA ad (NC b) Z) (hr : meth.sig.returnType = (some .int)) : ∀ (n : Nat) (x1 : Int) (x2 : Int) (x3 : Int) (σ : St), C32 x1 → C32 x2 → C32 x3 → CanS (shC b) (NC b) σ → wp_X3_caseOfRule_l9 Q n x1 x2 x3 σ → G p l e (rmL 2 0 0) s m args below meth c 4 A0 D cA ad (shC b) (NC b) 0 0 (MQ below (QIc D cA ad (shC b) (NC b) Q A0) args s 0 0 A0) σ 9 [some (.ref (ad 54)), some (vI x1), some (vI x2), some (vI x3)] [] := by
  intro n
  induction n with
  | zero => intro _ _ _ _ _ _ _ _ h; exact h.elim
  | succ n ih =>
    intro x1 x2 x3 σ c1 c2 c3 hσ h
    unfold wp_X3_caseOfRule_l9 at h
    refine g_iload_3 E dX3_caseOfRule_9 ?_
    refine g_aload_0 E dX3_caseOfRule_10 ?_
    refine g_getR E fl_RX3_15 (kC_54 b) (sC_54 b) rfl dX3_caseOfRule_11 ?_
    refine g_iload_1 E dX3_caseOfRule_14 ?_
    refine g_callvI E my_X0_caseEnd mi_X0_caseEnd msel_X0_caseEnd ml_RX3_115 (rm_ok (by decide) (by decide)) ⟨Nat.zero_le _, Nat.zero_le _⟩ (kC_24 b) (sC_24 b) rfl (m_X0_caseEnd E.2.2.1 c1 hσ h) rfl rfl (Nat.le_of_ble_eq_true rfl) dX3_caseOfRule_15 (fun r3 σ4 cr3 hσ4 h => ?_)
    refine g_icmp_ge E c3 cr3 djX3_caseOfRule_18 (fun hc => ?_) (fun hc => ?_)
    · replace h := h.1 hc
      refine g_iconst E dX3_caseOfRule_42 ?_
      exact g_iret E hr cl_m1 h hσ4 dX3_caseOfRule_43
    · replace h := h.2 hc
      refine g_aload_0 E dX3_caseOfRule_21 ?_
      refine g_getR E fl_RX3_15 (kC_54 b) (sC_54 b) rfl dX3_caseOfRule_22 ?_
      refine g_getR E fl_RX3_118 (kC_24 b) (sC_24 b) rfl dX3_caseOfRule_25 ?_
      refine g_iload_3 E dX3_caseOfRule_28 ?_
      refine g_iald E (kC_29 b) (sC_29 b) (by decide) h.1 dX3_caseOfRule_29 ?_
      replace h := h.2
      refine g_iload_2 E dX3_caseOfRule_30 ?_
      refine g_icmp_ne E (aC_29 hσ4 _) c2 djX3_caseOfRule_31 (fun hc => ?_) (fun hc => ?_)
      · replace h := h.1 hc
        refine g_iinc_3 E rfl (by decide) dX3_caseOfRule_36 (fun v5 ev5 => ?_)
        replace h := h v5 ev5
        have cv5 : C32 v5 := by rw [ev5]; exact c32_w _
        refine g_goto E djX3_caseOfRule_39 ?_
        exact (ih x1 x2 v5 σ4 c1 c2 cv5 hσ4 h).weak (w_k (w_k (w_k (w_k w_n))))
      · replace h := h.2 hc
        refine g_iload_3 E dX3_caseOfRule_34 ?_
        exact g_iret E hr c3 h hσ4 dX3_caseOfRule_35
set_option maxHeartbeats 4000000 in
set_option maxRecDepth 100000 in
theorem t_X3_caseOfRule (E : Ev p s m args meth c cX3_caseOfRule 4 RX3 A0 D cA ad (NC b) Z) (hr : meth.sig.returnType = (some .int)) (x1 : Int) (x2 : Int) (σ : St) (c1 : C32 x1) (c2 : C32 x2) (hσ : CanS (shC b) (NC b) σ) (h : wp_X3_caseOfRule x1 x2 σ Q) : G p l e (rmL 2 0 0) s m args below meth c 4 A0 D cA ad (shC b) (NC b) 0 0 (MQ below (QIc D cA ad (shC b) (NC b) Q A0) args s 0 0 A0) σ 0 [some (.ref (ad 54)), some (vI x1), some (vI x2), none] [] := by
  unfold wp_X3_caseOfRule at h
  refine g_aload_0 E dX3_caseOfRule_0 ?_
  refine g_getR E fl_RX3_15 (kC_54 b) (sC_54 b) rfl dX3_caseOfRule_1 ?_
  refine g_iload_1 E dX3_caseOfRule_4 ?_
  refine g_callvI E my_X0_caseStart mi_X0_caseStart msel_X0_caseStart ml_RX3_111 (rm_ok (by decide) (by decide)) ⟨Nat.zero_le _, Nat.zero_le _⟩ (kC_24 b) (sC_24 b) rfl (m_X0_caseStart E.2.2.1 c1 hσ h) rfl rfl (Nat.le_of_ble_eq_true rfl) dX3_caseOfRule_5 (fun r1 σ2 cr1 hσ2 h => ?_)
  refine g_istore_3 E rfl (by decide) dX3_caseOfRule_8 ?_
  exact (t_X3_caseOfRule_l9 E hr bigN x1 x2 r1 σ2 c1 c2 cr1 hσ2 h).weak (w_k (w_k (w_k (w_k w_n))))
end
theorem m_X3_caseOfRule {Z : (Nat → Nat) × (Nat → Nat)} {l : Launch} {D : va_G} {cA : Nat → ClassId} {ad : Nat → Nat} {b : Bool} {x1 x2 : Int} {σ : St} {Q : Int → St → Prop} (hA : AdOk (NC b) ad) (c1 : C32 x1) (c2 : C32 x2) (hσ : CanS (shC b) (NC b) σ) (h : wp_X3_caseOfRule x1 x2 σ Q) : KtI Z l D cA ad (shC b) (NC b) yX3_caseOfRule cX3_caseOfRule 4 (some .int) 2 [.ref (ad 54), vI x1, vI x2] σ Q :=
  KtI.of my_X3_caseOfRule hA [some (.ref (ad 54)), some (vI x1), some (vI x2), none] (Nat.le_of_ble_eq_true rfl) rfl (fun p e s m args below meth c A0 E hr => t_X3_caseOfRule E hr x1 x2 σ c1 c2 hσ h)
theorem dX3_isSmaller_0 : Dc cX3_isSmaller 0 (.iload_n 1) 1 1 := ⟨by decide +kernel, rfl⟩
theorem dX3_isSmaller_1 : Dc cX3_isSmaller 1 (.iload_n 3) 1 2 := ⟨by decide +kernel, rfl⟩
theorem djX3_isSmaller_2 : Dj cX3_isSmaller 2 (.if_icmp .eq 14) 3 5 14 16 := ⟨by decide +kernel, rfl, by decide⟩
theorem dX3_isSmaller_5 : Dc cX3_isSmaller 5 (.iload_n 1) 1 6 := ⟨by decide +kernel, rfl⟩
theorem dX3_isSmaller_6 : Dc cX3_isSmaller 6 (.iload_n 3) 1 7 := ⟨by decide +kernel, rfl⟩
theorem djX3_isSmaller_7 : Dj cX3_isSmaller 7 (.if_icmp .ge 7) 3 10 7 14 := ⟨by decide +kernel, rfl, by decide⟩
theorem dX3_isSmaller_10 : Dc cX3_isSmaller 10 (.iconst 1) 1 11 := ⟨by decide +kernel, rfl⟩
theorem djX3_isSmaller_11 : Dj cX3_isSmaller 11 (.goto 4) 3 14 4 15 := ⟨by decide +kernel, rfl, by decide⟩
theorem dX3_isSmaller_14 : Dc cX3_isSmaller 14 (.iconst 0) 1 15 := ⟨by decide +kernel, rfl⟩
theorem dX3_isSmaller_15 : Dc cX3_isSmaller 15 (.ireturn) 1 16 := ⟨by decide +kernel, rfl⟩
theorem dX3_isSmaller_16 : Dc cX3_isSmaller 16 (.aload_n 0) 1 17 := ⟨by decide +kernel, rfl⟩
theorem dX3_isSmaller_17 : Dc cX3_isSmaller 17 (.getfield 15) 3 20 := ⟨by decide +kernel, rfl⟩
theorem dX3_isSmaller_20 : Dc cX3_isSmaller 20 (.getfield 79) 3 23 := ⟨by decide +kernel, rfl⟩
theorem dX3_isSmaller_23 : Dc cX3_isSmaller 23 (.iload_n 1) 1 24 := ⟨by decide +kernel, rfl⟩
theorem dX3_isSmaller_24 : Dc cX3_isSmaller 24 (.iaload) 1 25 := ⟨by decide +kernel, rfl⟩
theorem dX3_isSmaller_25 : Dc cX3_isSmaller 25 (.istore 5) 2 27 := ⟨by decide +kernel, rfl⟩
theorem dX3_isSmaller_27 : Dc cX3_isSmaller 27 (.aload_n 0) 1 28 := ⟨by decide +kernel, rfl⟩
theorem dX3_isSmaller_28 : Dc cX3_isSmaller 28 (.getfield 15) 3 31 := ⟨by decide +kernel, rfl⟩
theorem dX3_isSmaller_31 : Dc cX3_isSmaller 31 (.getfield 82) 3 34 := ⟨by decide +kernel, rfl⟩
theorem dX3_isSmaller_34 : Dc cX3_isSmaller 34 (.iload_n 1) 1 35 := ⟨by decide +kernel, rfl⟩
theorem dX3_isSmaller_35 : Dc cX3_isSmaller 35 (.iaload) 1 36 := ⟨by decide +kernel, rfl⟩
theorem dX3_isSmaller_36 : Dc cX3_isSmaller 36 (.istore 6) 2 38 := ⟨by decide +kernel, rfl⟩
theorem dX3_isSmaller_38 : Dc cX3_isSmaller 38 (.iload 5) 2 40 := ⟨by decide +kernel, rfl⟩
theorem djX3_isSmaller_40 : Dj cX3_isSmaller 40 (.ifCond .lt 55) 3 43 55 95 := ⟨by decide +kernel, rfl, by decide⟩
theorem dX3_isSmaller_43 : Dc cX3_isSmaller 43 (.iload_n 2) 1 44 := ⟨by decide +kernel, rfl⟩
theorem dX3_isSmaller_44 : Dc cX3_isSmaller 44 (.bipush 16) 2 46 := ⟨by decide +kernel, rfl⟩
theorem dX3_isSmaller_46 : Dc cX3_isSmaller 46 (.idiv) 1 47 := ⟨by decide +kernel, rfl⟩
theorem dX3_isSmaller_47 : Dc cX3_isSmaller 47 (.iload 4) 2 49 := ⟨by decide +kernel, rfl⟩
theorem dX3_isSmaller_49 : Dc cX3_isSmaller 49 (.bipush 16) 2 51 := ⟨by decide +kernel, rfl⟩
theorem dX3_isSmaller_51 : Dc cX3_isSmaller 51 (.idiv) 1 52 := ⟨by decide +kernel, rfl⟩
theorem djX3_isSmaller_52 : Dj cX3_isSmaller 52 (.if_icmp .eq 43) 3 55 43 95 := ⟨by decide +kernel, rfl, by decide⟩
theorem dX3_isSmaller_55 : Dc cX3_isSmaller 55 (.aload_n 0) 1 56 := ⟨by decide +kernel, rfl⟩
theorem dX3_isSmaller_56 : Dc cX3_isSmaller 56 (.getfield 33) 3 59 := ⟨by decide +kernel, rfl⟩
theorem dX3_isSmaller_59 : Dc cX3_isSmaller 59 (.iload 5) 2 61 := ⟨by decide +kernel, rfl⟩
theorem dX3_isSmaller_61 : Dc cX3_isSmaller 61 (.bipush 16) 2 63 := ⟨by decide +kernel, rfl⟩
theorem dX3_isSmaller_63 : Dc cX3_isSmaller 63 (.imul) 1 64 := ⟨by decide +kernel, rfl⟩
theorem dX3_isSmaller_64 : Dc cX3_isSmaller 64 (.iload_n 2) 1 65 := ⟨by decide +kernel, rfl⟩
theorem dX3_isSmaller_65 : Dc cX3_isSmaller 65 (.bipush 16) 2 67 := ⟨by decide +kernel, rfl⟩
theorem dX3_isSmaller_67 : Dc cX3_isSmaller 67 (.idiv) 1 68 := ⟨by decide +kernel, rfl⟩
theorem dX3_isSmaller_68 : Dc cX3_isSmaller 68 (.iadd) 1 69 := ⟨by decide +kernel, rfl⟩
theorem dX3_isSmaller_69 : Dc cX3_isSmaller 69 (.iaload) 1 70 := ⟨by decide +kernel, rfl⟩
theorem dX3_isSmaller_70 : Dc cX3_isSmaller 70 (.aload_n 0) 1 71 := ⟨by decide +kernel, rfl⟩
theorem dX3_isSmaller_71 : Dc cX3_isSmaller 71 (.getfield 33) 3 74 := ⟨by decide +kernel, rfl⟩
theorem dX3_isSmaller_74 : Dc cX3_isSmaller 74 (.iload 5) 2 76 := ⟨by decide +kernel, rfl⟩
theorem dX3_isSmaller_76 : Dc cX3_isSmaller 76 (.bipush 16) 2 78 := ⟨by decide +kernel, rfl⟩
theorem dX3_isSmaller_78 : Dc cX3_isSmaller 78 (.imul) 1 79 := ⟨by decide +kernel, rfl⟩
theorem dX3_isSmaller_79 : Dc cX3_isSmaller 79 (.iload 4) 2 81 := ⟨by decide +kernel, rfl⟩
theorem dX3_isSmaller_81 : Dc cX3_isSmaller 81 (.bipush 16) 2 83 := ⟨by decide +kernel, rfl⟩
theorem dX3_isSmaller_83 : Dc cX3_isSmaller 83 (.idiv) 1 84 := ⟨by decide +kernel, rfl⟩
theorem dX3_isSmaller_84 : Dc cX3_isSmaller 84 (.iadd) 1 85 := ⟨by decide +kernel, rfl⟩
theorem dX3_isSmaller_85 : Dc cX3_isSmaller 85 (.iaload) 1 86 := ⟨by decide +kernel, rfl⟩
theorem djX3_isSmaller_86 : Dj cX3_isSmaller 86 (.if_icmp .ge 7) 3 89 7 93 := ⟨by decide +kernel, rfl, by decide⟩
theorem dX3_isSmaller_89 : Dc cX3_isSmaller 89 (.iconst 1) 1 90 := ⟨by decide +kernel, rfl⟩
theorem djX3_isSmaller_90 : Dj cX3_isSmaller 90 (.goto 4) 3 93 4 94 := ⟨by decide +kernel, rfl, by decide⟩
theorem dX3_isSmaller_93 : Dc cX3_isSmaller 93 (.iconst 0) 1 94 := ⟨by decide +kernel, rfl⟩
theorem dX3_isSmaller_94 : Dc cX3_isSmaller 94 (.ireturn) 1 95 := ⟨by decide +kernel, rfl⟩
theorem dX3_isSmaller_95 : Dc cX3_isSmaller 95 (.iload 6) 2 97 := ⟨by decide +kernel, rfl⟩
theorem djX3_isSmaller_97 : Dj cX3_isSmaller 97 (.ifCond .lt 41) 3 100 41 138 := ⟨by decide +kernel, rfl, by decide⟩
theorem dX3_isSmaller_100 : Dc cX3_isSmaller 100 (.aload_n 0) 1 101 := ⟨by decide +kernel, rfl⟩
theorem dX3_isSmaller_101 : Dc cX3_isSmaller 101 (.getfield 33) 3 104 := ⟨by decide +kernel, rfl⟩
theorem dX3_isSmaller_104 : Dc cX3_isSmaller 104 (.iload 6) 2 106 := ⟨by decide +kernel, rfl⟩
theorem dX3_isSmaller_106 : Dc cX3_isSmaller 106 (.bipush 16) 2 108 := ⟨by decide +kernel, rfl⟩
theorem dX3_isSmaller_108 : Dc cX3_isSmaller 108 (.imul) 1 109 := ⟨by decide +kernel, rfl⟩
theorem dX3_isSmaller_109 : Dc cX3_isSmaller 109 (.iload_n 2) 1 110 := ⟨by decide +kernel, rfl⟩
theorem dX3_isSmaller_110 : Dc cX3_isSmaller 110 (.bipush 16) 2 112 := ⟨by decide +kernel, rfl⟩
theorem dX3_isSmaller_112 : Dc cX3_isSmaller 112 (.irem) 1 113 := ⟨by decide +kernel, rfl⟩
theorem dX3_isSmaller_113 : Dc cX3_isSmaller 113 (.iadd) 1 114 := ⟨by decide +kernel, rfl⟩
theorem dX3_isSmaller_114 : Dc cX3_isSmaller 114 (.iaload) 1 115 := ⟨by decide +kernel, rfl⟩
theorem dX3_isSmaller_115 : Dc cX3_isSmaller 115 (.aload_n 0) 1 116 := ⟨by decide +kernel, rfl⟩
theorem dX3_isSmaller_116 : Dc cX3_isSmaller 116 (.getfield 33) 3 119 := ⟨by decide +kernel, rfl⟩
theorem dX3_isSmaller_119 : Dc cX3_isSmaller 119 (.iload 6) 2 121 := ⟨by decide +kernel, rfl⟩
theorem dX3_isSmaller_121 : Dc cX3_isSmaller 121 (.bipush 16) 2 123 := ⟨by decide +kernel, rfl⟩
theorem dX3_isSmaller_123 : Dc cX3_isSmaller 123 (.imul) 1 124 := ⟨by decide +kernel, rfl⟩
theorem dX3_isSmaller_124 : Dc cX3_isSmaller 124 (.iload 4) 2 126 := ⟨by decide +kernel, rfl⟩
theorem dX3_isSmaller_126 : Dc cX3_isSmaller 126 (.bipush 16) 2 128 := ⟨by decide +kernel, rfl⟩
theorem dX3_isSmaller_128 : Dc cX3_isSmaller 128 (.irem) 1 129 := ⟨by decide +kernel, rfl⟩
theorem dX3_isSmaller_129 : Dc cX3_isSmaller 129 (.iadd) 1 130 := ⟨by decide +kernel, rfl⟩
theorem dX3_isSmaller_130 : Dc cX3_isSmaller 130 (.iaload) 1 131 := ⟨by decide +kernel, rfl⟩
theorem djX3_isSmaller_131 : Dj cX3_isSmaller 131 (.if_icmp .ge 7) 3 134 7 138 := ⟨by decide +kernel, rfl, by decide⟩
theorem dX3_isSmaller_134 : Dc cX3_isSmaller 134 (.iconst 1) 1 135 := ⟨by decide +kernel, rfl⟩
theorem djX3_isSmaller_135 : Dj cX3_isSmaller 135 (.goto 4) 3 138 4 139 := ⟨by decide +kernel, rfl, by decide⟩
theorem dX3_isSmaller_138 : Dc cX3_isSmaller 138 (.iconst 0) 1 139 := ⟨by decide +kernel, rfl⟩
theorem dX3_isSmaller_139 : Dc cX3_isSmaller 139 (.ireturn) 1 140 := ⟨by decide +kernel, rfl⟩
section
variable {p : Program} {l : Launch} {e : Env} {s : State} {m : MethodId} {args : Array Value} {below : List Frame} {meth : Method} {c : Code} {A0 : Nat → Prop} {D : va_G} {cA : Nat → ClassId} {ad : Nat → Nat} {Z : (Nat → Nat) × (Nat → Nat)} {Q : Int → St → Prop} {b : Bool}
set_option maxHeartbeats 4000000 in
set_option maxRecDepth 100000 in
theorem t_X3_isSmaller_b138 (E : Ev p s m args meth c cX3_isSmaller 7 RX3 A0 D cA ad (NC b) Z) (hr : meth.sig.returnType = (some .boolean)) (σ : St) (hσ : CanS (shC b) (NC b) σ) (h : wp_X3_isSmaller_b138 Q  σ) : G p l e (rmL 1 0 0) s m args below meth c 7 A0 D cA ad (shC b) (NC b) 0 0 (MQ below (QIc D cA ad (shC b) (NC b) Q A0) args s 0 0 A0) σ 138 [none, none, none, none, none, none, none] [] := by
  unfold wp_X3_isSmaller_b138 at h
  refine g_iconst E dX3_isSmaller_138 ?_
  exact g_zret E hr (Or.inl rfl) h hσ dX3_isSmaller_139
set_option maxHeartbeats 4000000 in
set_option maxRecDepth 100000 in
theorem t_X3_isSmaller_b95 (E : Ev p s m args meth c cX3_isSmaller 7 RX3 A0 D cA ad (NC b) Z) (hr : meth.sig.returnType = (some .boolean)) (x2 : Int) (x4 : Int) (x6 : Int) (σ : St) (c2 : C32 x2) (c4 : C32 x4) (c6 : C32 x6) (hσ : CanS (shC b) (NC b) σ) (h : wp_X3_isSmaller_b95 Q x2 x4 x6 σ) : G p l e (rmL 1 0 0) s m args below meth c 7 A0 D cA ad (shC b) (NC b) 0 0 (MQ below (QIc D cA ad (shC b) (NC b) Q A0) args s 0 0 A0) σ 95 [some (.ref (ad 54)), none, some (vI x2), none, some (vI x4), none, some (vI x6)] [] := by
  unfold wp_X3_isSmaller_b95 at h
  refine g_iload_6 E dX3_isSmaller_95 ?_
  refine g_if_lt E c6 djX3_isSmaller_97 (fun hc => ?_) (fun hc => ?_)
  · replace h := h.1 hc
    exact (t_X3_isSmaller_b138 E hr σ hσ h).weak (w_d (w_d (w_d (w_d (w_d (w_d (w_d w_n)))))))
  · replace h := h.2 hc
    refine g_aload_0 E dX3_isSmaller_100 ?_
    refine g_getR E fl_RX3_33 (kC_54 b) (sC_54 b) rfl dX3_isSmaller_101 ?_
    refine g_iload_6 E dX3_isSmaller_104 ?_
    refine g_bipush E (by decide) dX3_isSmaller_106 ?_
    refine g_imul E dX3_isSmaller_108 ?_
    refine g_iload_2 E dX3_isSmaller_109 ?_
    refine g_bipush E (by decide) dX3_isSmaller_110 ?_
    refine g_irem E cl_16 (by decide) dX3_isSmaller_112 ?_
    refine g_iadd E dX3_isSmaller_113 ?_
    refine g_iald E (kC_58 b) (sC_58 b) (by decide) h.1 dX3_isSmaller_114 ?_
    replace h := h.2
    refine g_aload_0 E dX3_isSmaller_115 ?_
    refine g_getR E fl_RX3_33 (kC_54 b) (sC_54 b) rfl dX3_isSmaller_116 ?_
    refine g_iload_6 E dX3_isSmaller_119 ?_
    refine g_bipush E (by decide) dX3_isSmaller_121 ?_
    refine g_imul E dX3_isSmaller_123 ?_
    refine g_iload_4 E dX3_isSmaller_124 ?_
    refine g_bipush E (by decide) dX3_isSmaller_126 ?_
    refine g_irem E cl_16 (by decide) dX3_isSmaller_128 ?_
    refine g_iadd E dX3_isSmaller_129 ?_
    refine g_iald E (kC_58 b) (sC_58 b) (by decide) h.1 dX3_isSmaller_130 ?_
    replace h := h.2
    refine g_icmp_ge E (aC_58 hσ _) (aC_58 hσ _) djX3_isSmaller_131 (fun hc => ?_) (fun hc => ?_)
    · replace h := h.1 hc
      exact (t_X3_isSmaller_b138 E hr σ hσ h).weak (w_d (w_d (w_d (w_d (w_d (w_d (w_d w_n)))))))
    · replace h := h.2 hc
      refine g_iconst E dX3_isSmaller_134 ?_
      refine g_goto E djX3_isSmaller_135 ?_
      exact g_zret E hr (Or.inr rfl) h hσ dX3_isSmaller_139
set_option maxHeartbeats 4000000 in
set_option maxRecDepth 100000 in
theorem t_X3_isSmaller (E : Ev p s m args meth c cX3_isSmaller 7 RX3 A0 D cA ad (NC b) Z) (hr : meth.sig.returnType = (some .boolean)) (x1 : Int) (x2 : Int) (x3 : Int) (x4 : Int) (σ : St) (c1 : C32 x1) (c2 : C32 x2) (c3 : C32 x3) (c4 : C32 x4) (hσ : CanS (shC b) (NC b) σ) (h : wp_X3_isSmaller x1 x2 x3 x4 σ Q) : G p l e (rmL 1 0 0) s m args below meth c 7 A0 D cA ad (shC b) (NC b) 0 0 (MQ below (QIc D cA ad (shC b) (NC b) Q A0) args s 0 0 A0) σ 0 [some (.ref (ad 54)), some (vI x1), some (vI x2), some (vI x3), some (vI x4), none, none] [] := by
  unfold wp_X3_isSmaller at h
  refine g_iload_1 E dX3_isSmaller_0 ?_
  refine g_iload_3 E dX3_isSmaller_1 ?_
  refine g_icmp_eq E c1 c3 djX3_isSmaller_2 (fun hc => ?_) (fun hc => ?_)
  · replace h := h.1 hc
    refine g_aload_0 E dX3_isSmaller_16 ?_
    refine g_getR E fl_RX3_15 (kC_54 b) (sC_54 b) rfl dX3_isSmaller_17 ?_
    refine g_getR E fl_RX3_79 (kC_24 b) (sC_24 b) rfl dX3_isSmaller_20 ?_
    refine g_iload_1 E dX3_isSmaller_23 ?_
    refine g_iald E (kC_31 b) (sC_31 b) (by decide) h.1 dX3_isSmaller_24 ?_
    replace h := h.2
    refine g_nmI (fun v1 ev1 => ?_)
    replace h := h v1 ev1
    have cv1 : C32 v1 := by rw [ev1]; exact (aC_31 hσ _)
    refine g_istore_5 E rfl (by decide) dX3_isSmaller_25 ?_
    refine g_aload_0 E dX3_isSmaller_27 ?_
    refine g_getR E fl_RX3_15 (kC_54 b) (sC_54 b) rfl dX3_isSmaller_28 ?_
    refine g_getR E fl_RX3_82 (kC_24 b) (sC_24 b) rfl dX3_isSmaller_31 ?_
    refine g_iload_1 E dX3_isSmaller_34 ?_
    refine g_iald E (kC_32 b) (sC_32 b) (by decide) h.1 dX3_isSmaller_35 ?_
    replace h := h.2
    refine g_nmI (fun v2 ev2 => ?_)
    replace h := h v2 ev2
    have cv2 : C32 v2 := by rw [ev2]; exact (aC_32 hσ _)
    refine g_istore_6 E rfl (by decide) dX3_isSmaller_36 ?_
    refine g_iload_5 E dX3_isSmaller_38 ?_
    refine g_if_lt E cv1 djX3_isSmaller_40 (fun hc => ?_) (fun hc => ?_)
    · replace h := h.1 hc
      exact (t_X3_isSmaller_b95 E hr x2 x4 v2 σ c2 c4 cv2 hσ h).weak (w_k (w_d (w_k (w_d (w_k (w_d (w_k w_n)))))))
    · replace h := h.2 hc
      refine g_iload_2 E dX3_isSmaller_43 ?_
      refine g_bipush E (by decide) dX3_isSmaller_44 ?_
      refine g_idiv E cl_16 (by decide) dX3_isSmaller_46 ?_
      refine g_iload_4 E dX3_isSmaller_47 ?_
      refine g_bipush E (by decide) dX3_isSmaller_49 ?_
      refine g_idiv E cl_16 (by decide) dX3_isSmaller_51 ?_
      refine g_icmp_eq E (c32_t _) (c32_t _) djX3_isSmaller_52 (fun hc => ?_) (fun hc => ?_)
      · replace h := h.1 hc
        exact (t_X3_isSmaller_b95 E hr x2 x4 v2 σ c2 c4 cv2 hσ h).weak (w_k (w_d (w_k (w_d (w_k (w_d (w_k w_n)))))))
      · replace h := h.2 hc
        refine g_aload_0 E dX3_isSmaller_55 ?_
        refine g_getR E fl_RX3_33 (kC_54 b) (sC_54 b) rfl dX3_isSmaller_56 ?_
        refine g_iload_5 E dX3_isSmaller_59 ?_
        refine g_bipush E (by decide) dX3_isSmaller_61 ?_
        refine g_imul E dX3_isSmaller_63 ?_
        refine g_iload_2 E dX3_isSmaller_64 ?_
        refine g_bipush E (by decide) dX3_isSmaller_65 ?_
        refine g_idiv E cl_16 (by decide) dX3_isSmaller_67 ?_
        refine g_iadd E dX3_isSmaller_68 ?_
        refine g_iald E (kC_58 b) (sC_58 b) (by decide) h.1 dX3_isSmaller_69 ?_
        replace h := h.2
        refine g_aload_0 E dX3_isSmaller_70 ?_
        refine g_getR E fl_RX3_33 (kC_54 b) (sC_54 b) rfl dX3_isSmaller_71 ?_
        refine g_iload_5 E dX3_isSmaller_74 ?_
        refine g_bipush E (by decide) dX3_isSmaller_76 ?_
        refine g_imul E dX3_isSmaller_78 ?_
        refine g_iload_4 E dX3_isSmaller_79 ?_
        refine g_bipush E (by decide) dX3_isSmaller_81 ?_
        refine g_idiv E cl_16 (by decide) dX3_isSmaller_83 ?_
        refine g_iadd E dX3_isSmaller_84 ?_
        refine g_iald E (kC_58 b) (sC_58 b) (by decide) h.1 dX3_isSmaller_85 ?_
        replace h := h.2
        refine g_icmp_ge E (aC_58 hσ _) (aC_58 hσ _) djX3_isSmaller_86 (fun hc => ?_) (fun hc => ?_)
        · replace h := h.1 hc
          refine g_iconst E dX3_isSmaller_93 ?_
          exact g_zret E hr (Or.inl rfl) h hσ dX3_isSmaller_94
        · replace h := h.2 hc
          refine g_iconst E dX3_isSmaller_89 ?_
          refine g_goto E djX3_isSmaller_90 ?_
          exact g_zret E hr (Or.inr rfl) h hσ dX3_isSmaller_94
  · replace h := h.2 hc
    refine g_iload_1 E dX3_isSmaller_5 ?_
    refine g_iload_3 E dX3_isSmaller_6 ?_
    refine g_icmp_ge E c1 c3 djX3_isSmaller_7 (fun hc => ?_) (fun hc => ?_)
    · replace h := h.1 hc
      refine g_iconst E dX3_isSmaller_14 ?_
      exact g_zret E hr (Or.inl rfl) h hσ dX3_isSmaller_15
    · replace h := h.2 hc
      refine g_iconst E dX3_isSmaller_10 ?_
      refine g_goto E djX3_isSmaller_11 ?_
      exact g_zret E hr (Or.inr rfl) h hσ dX3_isSmaller_15
end
theorem m_X3_isSmaller {Z : (Nat → Nat) × (Nat → Nat)} {l : Launch} {D : va_G} {cA : Nat → ClassId} {ad : Nat → Nat} {b : Bool} {x1 x2 x3 x4 : Int} {σ : St} {Q : Int → St → Prop} (hA : AdOk (NC b) ad) (c1 : C32 x1) (c2 : C32 x2) (c3 : C32 x3) (c4 : C32 x4) (hσ : CanS (shC b) (NC b) σ) (h : wp_X3_isSmaller x1 x2 x3 x4 σ Q) : KtI Z l D cA ad (shC b) (NC b) yX3_isSmaller cX3_isSmaller 7 (some .boolean) 1 [.ref (ad 54), vI x1, vI x2, vI x3, vI x4] σ Q :=
  KtI.of my_X3_isSmaller hA [some (.ref (ad 54)), some (vI x1), some (vI x2), some (vI x3), some (vI x4), none, none] (Nat.le_of_ble_eq_true rfl) rfl (fun p e s m args below meth c A0 E hr => t_X3_isSmaller E hr x1 x2 x3 x4 σ c1 c2 c3 c4 hσ h)
