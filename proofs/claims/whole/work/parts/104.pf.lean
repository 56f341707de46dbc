section
variable {p : Program} {l : Launch} {e : Env} {s : State} {m : MethodId} {args : Array Value} {below : List Frame} {meth : Method} {c : Code} {A0 : Nat → Prop} {D : va_G} {cA : Nat → ClassId} {ad : Nat → Nat} {Z : (Nat → Nat) × (Nat → Nat)} {Q : Int → St → Prop} {b : Bool}
set_option maxHeartbeats 4000000 in
set_option maxRecDepth 100000 in
theorem t_X1_relax_c38_b122 (E : Ev p s m args meth c cX1_relax 11 RX1 A0 D cA ad (NC b) Z) (hr : meth.sig.returnType = (some .boolean)) {K6 : Int → Int → Int → Int → Int → St → Prop} (hK6 : ∀ (x2 : Int) (x3 : Int) (x4 : Int) (x5 : Int) (x6 : Int) (σ : St), C32 x2 → C32 x3 → C32 x4 → C32 x5 → C32 x6 → CanS (shC b) (NC b) σ → K6 x2 x3 x4 x5 x6 σ → G p l e (rmL 2 0 0) s m args below meth c 11 A0 D cA ad (shC b) (NC b) 0 0 (MQ below (QIc D cA ad (shC b) (NC b) Q A0) args s 0 0 A0) σ 6 [some (.ref (ad 36)), some (.ref (ad 38)), some (vI x2), some (vI x3), some (vI x4), some (vI x5), some (vI x6), none, none, none, none] []) (x2 : Int) (x3 : Int) (x4 : Int) (x5 : Int) (x6 : Int) (σ : St) (c2 : C32 x2) (c3 : C32 x3) (c4 : C32 x4) (c5 : C32 x5) (c6 : C32 x6) (hσ : CanS (shC b) (NC b) σ) (h : wp_X1_relax_c38_b122 Q K6 x2 x3 x4 x5 x6 σ) : G p l e (rmL 2 0 0) s m args below meth c 11 A0 D cA ad (shC b) (NC b) 0 0 (MQ below (QIc D cA ad (shC b) (NC b) Q A0) args s 0 0 A0) σ 122 [some (.ref (ad 36)), some (.ref (ad 38)), some (vI x2), some (vI x3), some (vI x4), some (vI x5), some (vI x6), none, none, none, none] [] := by
  unfold wp_X1_relax_c38_b122 at h
  refine g_iinc_6 E rfl (by decide) dX1_relax_122 (fun v8 ev8 => ?_)
  replace h := h v8 ev8
  have cv8 : C32 v8 := by rw [ev8]; exact c32_w _
  refine g_goto E djX1_relax_125 ?_
  exact (hK6 x2 x3 x4 x5 v8 σ c2 c3 c4 c5 cv8 hσ h).weak (w_k (w_k (w_k (w_k (w_k (w_k (w_k (w_d (w_d (w_d (w_d w_n)))))))))))
set_option maxHeartbeats 4000000 in
set_option maxRecDepth 100000 in
theorem t_X1_relax_c38_b113 (E : Ev p s m args meth c cX1_relax 11 RX1 A0 D cA ad (NC b) Z) (hr : meth.sig.returnType = (some .boolean)) {K6 : Int → Int → Int → Int → Int → St → Prop} (hK6 : ∀ (x2 : Int) (x3 : Int) (x4 : Int) (x5 : Int) (x6 : Int) (σ : St), C32 x2 → C32 x3 → C32 x4 → C32 x5 → C32 x6 → CanS (shC b) (NC b) σ → K6 x2 x3 x4 x5 x6 σ → G p l e (rmL 2 0 0) s m args below meth c 11 A0 D cA ad (shC b) (NC b) 0 0 (MQ below (QIc D cA ad (shC b) (NC b) Q A0) args s 0 0 A0) σ 6 [some (.ref (ad 36)), some (.ref (ad 38)), some (vI x2), some (vI x3), some (vI x4), some (vI x5), some (vI x6), none, none, none, none] []) (x2 : Int) (x3 : Int) (x4 : Int) (x6 : Int) (x9 : Int) (x10 : Int) (s0 : Int) (s1 : Int) (σ : St) (c2 : C32 x2) (c3 : C32 x3) (c4 : C32 x4) (c6 : C32 x6) (c9 : C32 x9) (c10 : C32 x10) (cs0 : C32 s0) (cs1 : C32 s1) (hσ : CanS (shC b) (NC b) σ) (h : wp_X1_relax_c38_b113 Q K6 x2 x3 x4 x6 x9 x10 s0 s1 σ) : G p l e (rmL 2 0 0) s m args below meth c 11 A0 D cA ad (shC b) (NC b) 0 0 (MQ below (QIc D cA ad (shC b) (NC b) Q A0) args s 0 0 A0) σ 113 [some (.ref (ad 36)), some (.ref (ad 38)), some (vI x2), some (vI x3), some (vI x4), none, some (vI x6), none, none, some (vI x9), some (vI x10)] [vI s0, vI s1] := by
  unfold wp_X1_relax_c38_b113 at h
  refine g_ior E dX1_relax_113 ?_
  refine g_nmI (fun v9 ev9 => ?_)
  replace h := h v9 ev9
  have cv9 : C32 v9 := by rw [ev9]; exact (c32_t _)
  refine g_istore_5 E rfl (by decide) dX1_relax_114 ?_
  refine g_aload_1 E dX1_relax_116 ?_
  refine g_iload_9 E dX1_relax_117 ?_
  refine g_iload_10 E dX1_relax_119 ?_
  refine g_iast E (kC_38 b) (sC_38 b) (by decide) h.1 dX1_relax_121 (g_nmS (fun σ10 eσ10 => ?_))
  replace h := h.2 σ10 eσ10
  have hσ10 : CanS (shC b) (NC b) σ10 := by rw [eσ10]; exact wC_38 hσ c10
  exact (t_X1_relax_c38_b122 E hr hK6 x2 x3 x4 v9 x6 σ10 c2 c3 c4 cv9 c6 hσ10 h).weak (w_k (w_k (w_k (w_k (w_k (w_k (w_k (w_d (w_d (w_d (w_d w_n)))))))))))
set_option maxHeartbeats 4000000 in
set_option maxRecDepth 100000 in
theorem t_X1_relax_c38_l6 (E : Ev p s m args meth c cX1_relax 11 RX1 A0 D cA ad (NC b) Z) (hr : meth.sig.returnType = (some .boolean)) : ∀ (n : Nat) (x2 : Int) (x3 : Int) (x4 : Int) (x5 : Int) (x6 : Int) (σ : St), C32 x2 → C32 x3 → C32 x4 → C32 x5 → C32 x6 → CanS (shC b) (NC b) σ → wp_X1_relax_c38_l6 Q n x2 x3 x4 x5 x6 σ → G p l e (rmL 2 0 0) s m args below meth c 11 A0 D cA ad (shC b) (NC b) 0 0 (MQ below (QIc D cA ad (shC b) (NC b) Q A0) args s 0 0 A0) σ 6 [some (.ref (ad 36)), some (.ref (ad 38)), some (vI x2), some (vI x3), some (vI x4), some (vI x5), some (vI x6), none, none, none, none] [] := by
  intro n
  induction n with
  | zero => intro _ _ _ _ _ _ _ _ _ _ _ _ h; exact h.elim
  | succ n ih =>
    intro x2 x3 x4 x5 x6 σ c2 c3 c4 c5 c6 hσ h
    unfold wp_X1_relax_c38_l6 at h
    refine g_iload_6 E dX1_relax_6 ?_
    refine g_aload_0 E dX1_relax_8 ?_
    refine g_getR E fl_RX1_15 (kC_36 b) (sC_36 b) rfl dX1_relax_9 ?_
    refine g_getI E fl_RX1_99 (kC_24 b) (sC_24 b) rfl dX1_relax_12 ?_
    refine g_icmp_ge E c6 (fC_24_12 hσ) djX1_relax_15 (fun hc => ?_) (fun hc => ?_)
    · replace h := h.1 hc
      refine g_iload_5 E dX1_relax_128 ?_
      exact g_zret E hr h.1 h.2 hσ dX1_relax_130
    · replace h := h.2 hc
      refine g_aload_0 E dX1_relax_18 ?_
      refine g_getR E fl_RX1_15 (kC_36 b) (sC_36 b) rfl dX1_relax_19 ?_
      refine g_getR E fl_RX1_102 (kC_24 b) (sC_24 b) rfl dX1_relax_22 ?_
      refine g_iload_6 E dX1_relax_25 ?_
      refine g_iald E (kC_33 b) (sC_33 b) (by decide) h.1 dX1_relax_27 ?_
      replace h := h.2
      refine g_nmI (fun v1 ev1 => ?_)
      replace h := h v1 ev1
      have cv1 : C32 v1 := by rw [ev1]; exact (aC_33 hσ _)
      refine g_istore_7 E rfl (by decide) dX1_relax_28 ?_
      refine g_aload_1 E dX1_relax_30 ?_
      refine g_iload_2 E dX1_relax_31 ?_
      refine g_aload_0 E dX1_relax_32 ?_
      refine g_getR E fl_RX1_9 (kC_36 b) (sC_36 b) rfl dX1_relax_33 ?_
      refine g_getR E fl_RX1_105 (kC_14 b) (sC_14 b) rfl dX1_relax_36 ?_
      refine g_iload_7 E dX1_relax_39 ?_
      refine g_iald E (kC_16 b) (sC_16 b) (by decide) h.1 dX1_relax_41 ?_
      replace h := h.2
      refine g_iadd E dX1_relax_42 ?_
      refine g_iald E (kC_38 b) (sC_38 b) (by decide) h.1 dX1_relax_43 ?_
      replace h := h.2
      refine g_nmI (fun v2 ev2 => ?_)
      replace h := h v2 ev2
      have cv2 : C32 v2 := by rw [ev2]; exact (aC_38 hσ _)
      refine g_istore_8 E rfl (by decide) dX1_relax_44 ?_
      refine g_iload_2 E dX1_relax_46 ?_
      refine g_aload_0 E dX1_relax_47 ?_
      refine g_getR E fl_RX1_9 (kC_36 b) (sC_36 b) rfl dX1_relax_48 ?_
      refine g_getR E fl_RX1_106 (kC_14 b) (sC_14 b) rfl dX1_relax_51 ?_
      refine g_iload_7 E dX1_relax_54 ?_
      refine g_iald E (kC_15 b) (sC_15 b) (by decide) h.1 dX1_relax_56 ?_
      replace h := h.2
      refine g_iadd E dX1_relax_57 ?_
      refine g_nmI (fun v3 ev3 => ?_)
      replace h := h v3 ev3
      have cv3 : C32 v3 := by rw [ev3]; exact (c32_w _)
      refine g_istore_9 E rfl (by decide) dX1_relax_58 ?_
      refine g_iload_7 E dX1_relax_60 ?_
      refine g_iload_3 E dX1_relax_62 ?_
      refine g_icmp_eq E cv1 c3 djX1_relax_63 (fun hc => ?_) (fun hc => ?_)
      · replace h := h.1 hc
        exact (t_X1_relax_c38_b122 E hr ih x2 x3 x4 x5 x6 σ c2 c3 c4 c5 c6 hσ h).weak (w_k (w_k (w_k (w_k (w_k (w_k (w_k (w_d (w_d (w_d (w_d w_n)))))))))))
      · replace h := h.2 hc
        refine g_iload_8 E dX1_relax_66 ?_
        refine g_if_lt E cv2 djX1_relax_68 (fun hc => ?_) (fun hc => ?_)
        · replace h := h.1 hc
          exact (t_X1_relax_c38_b122 E hr ih x2 x3 x4 x5 x6 σ c2 c3 c4 c5 c6 hσ h).weak (w_k (w_k (w_k (w_k (w_k (w_k (w_k (w_d (w_d (w_d (w_d w_n)))))))))))
        · replace h := h.2 hc
          refine g_aload_1 E dX1_relax_71 ?_
          refine g_iload_9 E dX1_relax_72 ?_
          refine g_iald E (kC_38 b) (sC_38 b) (by decide) h.1 dX1_relax_74 ?_
          replace h := h.2
          refine g_aload_0 E dX1_relax_75 ?_
          refine g_getR E fl_RX1_9 (kC_36 b) (sC_36 b) rfl dX1_relax_76 ?_
          refine g_getR E fl_RX1_86 (kC_14 b) (sC_14 b) rfl dX1_relax_79 ?_
          refine g_iload_7 E dX1_relax_82 ?_
          refine g_iald E (kC_18 b) (sC_18 b) (by decide) h.1 dX1_relax_84 ?_
          replace h := h.2
          refine g_iload_8 E dX1_relax_85 ?_
          refine g_iload_4 E dX1_relax_87 ?_
          refine g_callsI E my_X1_join ms_X1_join ml_RX1_91 (rm_ok (by decide) (by decide)) ⟨Nat.zero_le _, Nat.zero_le _⟩ (m_X1_join E.2.2.1 (aC_18 hσ _) cv2 c4 hσ h) rfl rfl (Nat.le_of_ble_eq_true rfl) dX1_relax_89 (fun r4 σ5 cr4 hσ5 h => ?_)
          refine g_callsI E my_X1_lesser ms_X1_lesser ml_RX1_95 (rm_ok (by decide) (by decide)) ⟨Nat.zero_le _, Nat.zero_le _⟩ (m_X1_lesser E.2.2.1 (aC_38 hσ _) cr4 hσ5 h) rfl rfl (Nat.le_of_ble_eq_true rfl) dX1_relax_92 (fun r6 σ7 cr6 hσ7 h => ?_)
          refine g_istore_10 E rfl (by decide) dX1_relax_95 ?_
          refine g_iload_5 E dX1_relax_97 ?_
          refine g_iload_10 E dX1_relax_99 ?_
          refine g_aload_1 E dX1_relax_101 ?_
          refine g_iload_9 E dX1_relax_102 ?_
          refine g_iald E (kC_38 b) (sC_38 b) (by decide) h.1 dX1_relax_104 ?_
          replace h := h.2
          refine g_icmp_eq E cr6 (aC_38 hσ7 _) djX1_relax_105 (fun hc => ?_) (fun hc => ?_)
          · replace h := h.1 hc
            refine g_iconst E dX1_relax_112 ?_
            exact (t_X1_relax_c38_b113 E hr ih x2 x3 x4 x6 v3 r6 0 x5 σ7 c2 c3 c4 c6 cv3 cr6 cl_0 c5 hσ7 h).weak (w_k (w_k (w_k (w_k (w_k (w_d (w_k (w_d (w_d (w_k (w_k w_n)))))))))))
          · replace h := h.2 hc
            refine g_iconst E dX1_relax_108 ?_
            refine g_goto E djX1_relax_109 ?_
            exact (t_X1_relax_c38_b113 E hr ih x2 x3 x4 x6 v3 r6 1 x5 σ7 c2 c3 c4 c6 cv3 cr6 cl_1 c5 hσ7 h).weak (w_k (w_k (w_k (w_k (w_k (w_d (w_k (w_d (w_d (w_k (w_k w_n)))))))))))
set_option maxHeartbeats 4000000 in
set_option maxRecDepth 100000 in
theorem t_X1_relax_c38 (E : Ev p s m args meth c cX1_relax 11 RX1 A0 D cA ad (NC b) Z) (hr : meth.sig.returnType = (some .boolean)) (x2 : Int) (x3 : Int) (x4 : Int) (σ : St) (c2 : C32 x2) (c3 : C32 x3) (c4 : C32 x4) (hσ : CanS (shC b) (NC b) σ) (h : wp_X1_relax_c38 x2 x3 x4 σ Q) : G p l e (rmL 2 0 0) s m args below meth c 11 A0 D cA ad (shC b) (NC b) 0 0 (MQ below (QIc D cA ad (shC b) (NC b) Q A0) args s 0 0 A0) σ 0 [some (.ref (ad 36)), some (.ref (ad 38)), some (vI x2), some (vI x3), some (vI x4), none, none, none, none, none, none] [] := by
  unfold wp_X1_relax_c38 at h
  refine g_iconst E dX1_relax_0 ?_
  refine g_istore_5 E rfl (by decide) dX1_relax_1 ?_
  refine g_iconst E dX1_relax_3 ?_
  refine g_istore_6 E rfl (by decide) dX1_relax_4 ?_
  exact (t_X1_relax_c38_l6 E hr bigN x2 x3 x4 0 0 σ c2 c3 c4 cl_0 cl_0 hσ h).weak (w_k (w_k (w_k (w_k (w_k (w_k (w_k (w_d (w_d (w_d (w_d w_n)))))))))))
end
theorem m_X1_relax_c38 {Z : (Nat → Nat) × (Nat → Nat)} {l : Launch} {D : va_G} {cA : Nat → ClassId} {ad : Nat → Nat} {b : Bool} {x2 x3 x4 : Int} {σ : St} {Q : Int → St → Prop} (hA : AdOk (NC b) ad) (c2 : C32 x2) (c3 : C32 x3) (c4 : C32 x4) (hσ : CanS (shC b) (NC b) σ) (h : wp_X1_relax_c38 x2 x3 x4 σ Q) : KtI Z l D cA ad (shC b) (NC b) yX1_relax cX1_relax 11 (some .boolean) 2 [.ref (ad 36), .ref (ad 38), vI x2, vI x3, vI x4] σ Q :=
  KtI.of my_X1_relax hA [some (.ref (ad 36)), some (.ref (ad 38)), some (vI x2), some (vI x3), some (vI x4), none, none, none, none, none, none] (Nat.le_of_ble_eq_true rfl) rfl (fun p e s m args below meth c A0 E hr => t_X1_relax_c38 E hr x2 x3 x4 σ c2 c3 c4 hσ h)
section
variable {p : Program} {l : Launch} {e : Env} {s : State} {m : MethodId} {args : Array Value} {below : List Frame} {meth : Method} {c : Code} {A0 : Nat → Prop} {D : va_G} {cA : Nat → ClassId} {ad : Nat → Nat} {Z : (Nat → Nat) × (Nat → Nat)} {Q : Int → St → Prop} {b : Bool}
set_option maxHeartbeats 4000000 in
set_option maxRecDepth 100000 in
theorem t_X1_fill_c38_b90 (E : Ev p s m args meth c cX1_fill 8 RX1 A0 D cA ad (NC b) Z) (hr : meth.sig.returnType = none) {K3 : Int → Int → Int → St → Prop} (hK3 : ∀ (x2 : Int) (x3 : Int) (x4 : Int) (σ : St), C32 x2 → C32 x3 → C32 x4 → CanS (shC b) (NC b) σ → K3 x2 x3 x4 σ → G p l e (rmL 3 0 0) s m args below meth c 8 A0 D cA ad (shC b) (NC b) 0 0 (MQ below (QVc D cA ad (shC b) (NC b) Q A0) args s 0 0 A0) σ 3 [some (.ref (ad 36)), some (.ref (ad 38)), some (vI x2), some (vI x3), some (vI x4), none, none, none] []) (x2 : Int) (x3 : Int) (x4 : Int) (σ : St) (c2 : C32 x2) (c3 : C32 x3) (c4 : C32 x4) (hσ : CanS (shC b) (NC b) σ) (h : wp_X1_fill_c38_b90 Q K3 x2 x3 x4 σ) : G p l e (rmL 3 0 0) s m args below meth c 8 A0 D cA ad (shC b) (NC b) 0 0 (MQ below (QVc D cA ad (shC b) (NC b) Q A0) args s 0 0 A0) σ 90 [some (.ref (ad 36)), some (.ref (ad 38)), some (vI x2), some (vI x3), some (vI x4), none, none, none] [] := by
  unfold wp_X1_fill_c38_b90 at h
  refine g_iinc_4 E rfl (by decide) dX1_fill_90 (fun v9 ev9 => ?_)
  replace h := h v9 ev9
  have cv9 : C32 v9 := by rw [ev9]; exact c32_w _
  refine g_goto E djX1_fill_93 ?_
  exact (hK3 x2 x3 v9 σ c2 c3 cv9 hσ h).weak (w_k (w_k (w_k (w_k (w_k (w_d (w_d (w_d w_n))))))))
set_option maxHeartbeats 4000000 in
set_option maxRecDepth 100000 in
theorem t_X1_fill_c38_l61 (E : Ev p s m args meth c cX1_fill 8 RX1 A0 D cA ad (NC b) Z) (hr : meth.sig.returnType = none) {K3 : Int → Int → Int → St → Prop} (hK3 : ∀ (x2 : Int) (x3 : Int) (x4 : Int) (σ : St), C32 x2 → C32 x3 → C32 x4 → CanS (shC b) (NC b) σ → K3 x2 x3 x4 σ → G p l e (rmL 3 0 0) s m args below meth c 8 A0 D cA ad (shC b) (NC b) 0 0 (MQ below (QVc D cA ad (shC b) (NC b) Q A0) args s 0 0 A0) σ 3 [some (.ref (ad 36)), some (.ref (ad 38)), some (vI x2), some (vI x3), some (vI x4), none, none, none] []) : ∀ (n : Nat) (x2 : Int) (x3 : Int) (x4 : Int) (x5 : Int) (x6 : Int) (x7 : Int) (σ : St), C32 x2 → C32 x3 → C32 x4 → C32 x5 → C32 x6 → C32 x7 → CanS (shC b) (NC b) σ → wp_X1_fill_c38_l61 Q K3 n x2 x3 x4 x5 x6 x7 σ → G p l e (rmL 3 0 0) s m args below meth c 8 A0 D cA ad (shC b) (NC b) 0 0 (MQ below (QVc D cA ad (shC b) (NC b) Q A0) args s 0 0 A0) σ 61 [some (.ref (ad 36)), some (.ref (ad 38)), some (vI x2), some (vI x3), some (vI x4), some (vI x5), some (vI x6), some (vI x7)] [] := by
  intro n
  induction n with
  | zero => intro _ _ _ _ _ _ _ _ _ _ _ _ _ _ h; exact h.elim
  | succ n ih =>
    intro x2 x3 x4 x5 x6 x7 σ c2 c3 c4 c5 c6 c7 hσ h
    unfold wp_X1_fill_c38_l61 at h
    refine g_iload_7 E dX1_fill_61 ?_
    refine g_bipush E (by decide) dX1_fill_63 ?_
    refine g_icmp_gt E c7 cl_12 djX1_fill_65 (fun hc => ?_) (fun hc => ?_)
    · replace h := h.1 hc
      exact (t_X1_fill_c38_b90 E hr hK3 x2 x3 x4 σ c2 c3 c4 hσ h).weak (w_k (w_k (w_k (w_k (w_k (w_d (w_d (w_d w_n))))))))
    · replace h := h.2 hc
      refine g_iload_6 E dX1_fill_68 ?_
      refine g_if_eq E c6 djX1_fill_70 (fun hc => ?_) (fun hc => ?_)
      · replace h := h.1 hc
        exact (t_X1_fill_c38_b90 E hr hK3 x2 x3 x4 σ c2 c3 c4 hσ h).weak (w_k (w_k (w_k (w_k (w_k (w_d (w_d (w_d w_n))))))))
      · replace h := h.2 hc
        refine g_aload_0 E dX1_fill_73 ?_
        refine g_aload_1 E dX1_fill_74 ?_
        refine g_iload_5 E dX1_fill_75 ?_
        refine g_iload_2 E dX1_fill_77 ?_
        refine g_iload_3 E dX1_fill_78 ?_
        refine g_callvI E my_X1_relax mi_X1_relax msel_X1_relax ml_RX1_62 (rm_ok (by decide) (by decide)) ⟨Nat.zero_le _, Nat.zero_le _⟩ (kC_36 b) (sC_36 b) rfl (m_X1_relax_c38 E.2.2.1 c5 c2 c3 hσ h) rfl rfl (Nat.le_of_ble_eq_true rfl) dX1_fill_79 (fun r6 σ7 cr6 hσ7 h => ?_)
        refine g_istore_6 E rfl (by decide) dX1_fill_82 ?_
        refine g_iinc_7 E rfl (by decide) dX1_fill_84 (fun v8 ev8 => ?_)
        replace h := h v8 ev8
        have cv8 : C32 v8 := by rw [ev8]; exact c32_w _
        refine g_goto E djX1_fill_87 ?_
        exact (ih x2 x3 x4 x5 r6 v8 σ7 c2 c3 c4 c5 cr6 cv8 hσ7 h).weak (w_k (w_k (w_k (w_k (w_k (w_k (w_k (w_k w_n))))))))
set_option maxHeartbeats 4000000 in
set_option maxRecDepth 100000 in
theorem t_X1_fill_c38_l26 (E : Ev p s m args meth c cX1_fill 8 RX1 A0 D cA ad (NC b) Z) (hr : meth.sig.returnType = none) {K3 : Int → Int → Int → St → Prop} (hK3 : ∀ (x2 : Int) (x3 : Int) (x4 : Int) (σ : St), C32 x2 → C32 x3 → C32 x4 → CanS (shC b) (NC b) σ → K3 x2 x3 x4 σ → G p l e (rmL 3 0 0) s m args below meth c 8 A0 D cA ad (shC b) (NC b) 0 0 (MQ below (QVc D cA ad (shC b) (NC b) Q A0) args s 0 0 A0) σ 3 [some (.ref (ad 36)), some (.ref (ad 38)), some (vI x2), some (vI x3), some (vI x4), none, none, none] []) : ∀ (n : Nat) (x2 : Int) (x3 : Int) (x4 : Int) (x5 : Int) (x6 : Int) (σ : St), C32 x2 → C32 x3 → C32 x4 → C32 x5 → C32 x6 → CanS (shC b) (NC b) σ → wp_X1_fill_c38_l26 Q K3 n x2 x3 x4 x5 x6 σ → G p l e (rmL 3 0 0) s m args below meth c 8 A0 D cA ad (shC b) (NC b) 0 0 (MQ below (QVc D cA ad (shC b) (NC b) Q A0) args s 0 0 A0) σ 26 [some (.ref (ad 36)), some (.ref (ad 38)), some (vI x2), some (vI x3), some (vI x4), some (vI x5), some (vI x6), none] [] := by
  intro n
  induction n with
  | zero => intro _ _ _ _ _ _ _ _ _ _ _ _ h; exact h.elim
  | succ n ih =>
    intro x2 x3 x4 x5 x6 σ c2 c3 c4 c5 c6 hσ h
    unfold wp_X1_fill_c38_l26 at h
    refine g_iload_6 E dX1_fill_26 ?_
    refine g_iload_5 E dX1_fill_28 ?_
    refine g_bipush E (by decide) dX1_fill_30 ?_
    refine g_iadd E dX1_fill_32 ?_
    refine g_icmp_ge E c6 (c32_w _) djX1_fill_33 (fun hc => ?_) (fun hc => ?_)
    · replace h := h.1 hc
      refine g_iconst E dX1_fill_55 ?_
      refine g_istore_6 E rfl (by decide) dX1_fill_56 ?_
      refine g_iconst E dX1_fill_58 ?_
      refine g_istore_7 E rfl (by decide) dX1_fill_59 ?_
      exact (t_X1_fill_c38_l61 E hr hK3 bigN x2 x3 x4 x5 1 0 σ c2 c3 c4 c5 cl_1 cl_0 hσ h).weak (w_k (w_k (w_k (w_k (w_k (w_k (w_k (w_k w_n))))))))
    · replace h := h.2 hc
      refine g_aload_1 E dX1_fill_36 ?_
      refine g_iload_6 E dX1_fill_37 ?_
      refine g_aload_0 E dX1_fill_39 ?_
      refine g_aload_1 E dX1_fill_40 ?_
      refine g_iload_6 E dX1_fill_41 ?_
      refine g_iload_2 E dX1_fill_43 ?_
      refine g_iload_3 E dX1_fill_44 ?_
      refine g_callvI E my_X1_leastOfCases mi_X1_leastOfCases msel_X1_leastOfCases ml_RX1_58 (rm_ok (by decide) (by decide)) ⟨Nat.zero_le _, Nat.zero_le _⟩ (kC_36 b) (sC_36 b) rfl (m_X1_leastOfCases_c38 E.2.2.1 c6 c2 c3 hσ h) rfl rfl (Nat.le_of_ble_eq_true rfl) dX1_fill_45 (fun r2 σ3 cr2 hσ3 h => ?_)
      refine g_iast E (kC_38 b) (sC_38 b) (by decide) h.1 dX1_fill_48 (g_nmS (fun σ4 eσ4 => ?_))
      replace h := h.2 σ4 eσ4
      have hσ4 : CanS (shC b) (NC b) σ4 := by rw [eσ4]; exact wC_38 hσ3 cr2
      refine g_iinc_6 E rfl (by decide) dX1_fill_49 (fun v5 ev5 => ?_)
      replace h := h v5 ev5
      have cv5 : C32 v5 := by rw [ev5]; exact c32_w _
      refine g_goto E djX1_fill_52 ?_
      exact (ih x2 x3 x4 x5 v5 σ4 c2 c3 c4 c5 cv5 hσ4 h).weak (w_k (w_k (w_k (w_k (w_k (w_k (w_k (w_d w_n))))))))
set_option maxHeartbeats 4000000 in
set_option maxRecDepth 100000 in
theorem t_X1_fill_c38_l3 (E : Ev p s m args meth c cX1_fill 8 RX1 A0 D cA ad (NC b) Z) (hr : meth.sig.returnType = none) : ∀ (n : Nat) (x2 : Int) (x3 : Int) (x4 : Int) (σ : St), C32 x2 → C32 x3 → C32 x4 → CanS (shC b) (NC b) σ → wp_X1_fill_c38_l3 Q n x2 x3 x4 σ → G p l e (rmL 3 0 0) s m args below meth c 8 A0 D cA ad (shC b) (NC b) 0 0 (MQ below (QVc D cA ad (shC b) (NC b) Q A0) args s 0 0 A0) σ 3 [some (.ref (ad 36)), some (.ref (ad 38)), some (vI x2), some (vI x3), some (vI x4), none, none, none] [] := by
  intro n
  induction n with
  | zero => intro _ _ _ _ _ _ _ _ h; exact h.elim
  | succ n ih =>
    intro x2 x3 x4 σ c2 c3 c4 hσ h
    unfold wp_X1_fill_c38_l3 at h
    refine g_iload_4 E dX1_fill_3 ?_
    refine g_aload_0 E dX1_fill_5 ?_
    refine g_getR E fl_RX1_15 (kC_36 b) (sC_36 b) rfl dX1_fill_6 ?_
    refine g_getI E fl_RX1_54 (kC_24 b) (sC_24 b) rfl dX1_fill_9 ?_
    refine g_icmp_ge E c4 (fC_24_3 hσ) djX1_fill_12 (fun hc => ?_) (fun hc => ?_)
    · replace h := h.1 hc
      exact g_vret E hr h hσ dX1_fill_96
    · replace h := h.2 hc
      refine g_iload_4 E dX1_fill_15 ?_
      refine g_bipush E (by decide) dX1_fill_17 ?_
      refine g_imul E dX1_fill_19 ?_
      refine g_nmI (fun v1 ev1 => ?_)
      replace h := h v1 ev1
      have cv1 : C32 v1 := by rw [ev1]; exact (c32_w _)
      refine g_istore_5 E rfl (by decide) dX1_fill_20 ?_
      refine g_iload_5 E dX1_fill_22 ?_
      refine g_istore_6 E rfl (by decide) dX1_fill_24 ?_
      exact (t_X1_fill_c38_l26 E hr ih bigN x2 x3 x4 v1 v1 σ c2 c3 c4 cv1 cv1 hσ h).weak (w_k (w_k (w_k (w_k (w_k (w_k (w_k (w_d w_n))))))))
set_option maxHeartbeats 4000000 in
set_option maxRecDepth 100000 in
theorem t_X1_fill_c38 (E : Ev p s m args meth c cX1_fill 8 RX1 A0 D cA ad (NC b) Z) (hr : meth.sig.returnType = none) (x2 : Int) (x3 : Int) (σ : St) (c2 : C32 x2) (c3 : C32 x3) (hσ : CanS (shC b) (NC b) σ) (h : wp_X1_fill_c38 x2 x3 σ Q) : G p l e (rmL 3 0 0) s m args below meth c 8 A0 D cA ad (shC b) (NC b) 0 0 (MQ below (QVc D cA ad (shC b) (NC b) Q A0) args s 0 0 A0) σ 0 [some (.ref (ad 36)), some (.ref (ad 38)), some (vI x2), some (vI x3), none, none, none, none] [] := by
  unfold wp_X1_fill_c38 at h
  refine g_iconst E dX1_fill_0 ?_
  refine g_istore_4 E rfl (by decide) dX1_fill_1 ?_
  exact (t_X1_fill_c38_l3 E hr bigN x2 x3 0 σ c2 c3 cl_0 hσ h).weak (w_k (w_k (w_k (w_k (w_k (w_d (w_d (w_d w_n))))))))
end
theorem m_X1_fill_c38 {Z : (Nat → Nat) × (Nat → Nat)} {l : Launch} {D : va_G} {cA : Nat → ClassId} {ad : Nat → Nat} {b : Bool} {x2 x3 : Int} {σ : St} {Q : Int → St → Prop} (hA : AdOk (NC b) ad) (c2 : C32 x2) (c3 : C32 x3) (hσ : CanS (shC b) (NC b) σ) (h : wp_X1_fill_c38 x2 x3 σ Q) : KtV Z l D cA ad (shC b) (NC b) yX1_fill cX1_fill 8 none 3 [.ref (ad 36), .ref (ad 38), vI x2, vI x3] σ Q :=
  KtV.of my_X1_fill hA [some (.ref (ad 36)), some (.ref (ad 38)), some (vI x2), some (vI x3), none, none, none, none] (Nat.le_of_ble_eq_true rfl) rfl (fun p e s m args below meth c A0 E hr => t_X1_fill_c38 E hr x2 x3 σ c2 c3 hσ h)
theorem dX1_mildestOf_0 : Dc cX1_mildestOf 0 (.aload_n 0) 1 1 := ⟨by decide +kernel, rfl⟩
theorem dX1_mildestOf_1 : Dc cX1_mildestOf 1 (.getfield 15) 3 4 := ⟨by decide +kernel, rfl⟩
theorem dX1_mildestOf_4 : Dc cX1_mildestOf 4 (.invokevirtual 42) 3 7 := ⟨by decide +kernel, rfl⟩
theorem dX1_mildestOf_7 : Dc cX1_mildestOf 7 (.aload_n 0) 1 8 := ⟨by decide +kernel, rfl⟩
theorem dX1_mildestOf_8 : Dc cX1_mildestOf 8 (.getfield 36) 3 11 := ⟨by decide +kernel, rfl⟩
theorem djX1_mildestOf_11 : Dj cX1_mildestOf 11 (.ifCond .ne 18) 3 14 18 29 := ⟨by decide +kernel, rfl, by decide⟩
theorem dX1_mildestOf_14 : Dc cX1_mildestOf 14 (.aload_n 0) 1 15 := ⟨by decide +kernel, rfl⟩
theorem dX1_mildestOf_15 : Dc cX1_mildestOf 15 (.iconst 1) 1 16 := ⟨by decide +kernel, rfl⟩
theorem dX1_mildestOf_16 : Dc cX1_mildestOf 16 (.putfield 36) 3 19 := ⟨by decide +kernel, rfl⟩
theorem dX1_mildestOf_19 : Dc cX1_mildestOf 19 (.aload_n 0) 1 20 := ⟨by decide +kernel, rfl⟩
theorem dX1_mildestOf_20 : Dc cX1_mildestOf 20 (.aload_n 0) 1 21 := ⟨by decide +kernel, rfl⟩
theorem dX1_mildestOf_21 : Dc cX1_mildestOf 21 (.getfield 23) 3 24 := ⟨by decide +kernel, rfl⟩
theorem dX1_mildestOf_24 : Dc cX1_mildestOf 24 (.iconst (-1)) 1 25 := ⟨by decide +kernel, rfl⟩
theorem dX1_mildestOf_25 : Dc cX1_mildestOf 25 (.iconst 0) 1 26 := ⟨by decide +kernel, rfl⟩
theorem dX1_mildestOf_26 : Dc cX1_mildestOf 26 (.invokevirtual 47) 3 29 := ⟨by decide +kernel, rfl⟩
theorem dX1_mildestOf_29 : Dc cX1_mildestOf 29 (.aload_n 0) 1 30 := ⟨by decide +kernel, rfl⟩
theorem dX1_mildestOf_30 : Dc cX1_mildestOf 30 (.getfield 23) 3 33 := ⟨by decide +kernel, rfl⟩
theorem dX1_mildestOf_33 : Dc cX1_mildestOf 33 (.iload_n 1) 1 34 := ⟨by decide +kernel, rfl⟩
theorem dX1_mildestOf_34 : Dc cX1_mildestOf 34 (.iaload) 1 35 := ⟨by decide +kernel, rfl⟩
theorem dX1_mildestOf_35 : Dc cX1_mildestOf 35 (.ireturn) 1 36 := ⟨by decide +kernel, rfl⟩
section
variable {p : Program} {l : Launch} {e : Env} {s : State} {m : MethodId} {args : Array Value} {below : List Frame} {meth : Method} {c : Code} {A0 : Nat → Prop} {D : va_G} {cA : Nat → ClassId} {ad : Nat → Nat} {Z : (Nat → Nat) × (Nat → Nat)} {Q : Int → St → Prop} {b : Bool}
set_option maxHeartbeats 4000000 in
set_option maxRecDepth 100000 in
theorem t_X1_mildestOf_b29 (E : Ev p s m args meth c cX1_mildestOf 2 RX1 A0 D cA ad (NC b) Z) (hr : meth.sig.returnType = (some .int)) (x1 : Int) (σ : St) (c1 : C32 x1) (hσ : CanS (shC b) (NC b) σ) (h : wp_X1_mildestOf_b29 Q x1 σ) : G p l e (rmL 5 0 0) s m args below meth c 2 A0 D cA ad (shC b) (NC b) 0 0 (MQ below (QIc D cA ad (shC b) (NC b) Q A0) args s 0 0 A0) σ 29 [some (.ref (ad 36)), some (vI x1)] [] := by
  unfold wp_X1_mildestOf_b29 at h
  refine g_aload_0 E dX1_mildestOf_29 ?_
  refine g_getR E fl_RX1_23 (kC_36 b) (sC_36 b) rfl dX1_mildestOf_30 ?_
  refine g_iload_1 E dX1_mildestOf_33 ?_
  refine g_iald E (kC_38 b) (sC_38 b) (by decide) h.1 dX1_mildestOf_34 ?_
  replace h := h.2
  exact g_iret E hr (aC_38 hσ _) h hσ dX1_mildestOf_35
set_option maxHeartbeats 4000000 in
set_option maxRecDepth 100000 in
theorem t_X1_mildestOf (E : Ev p s m args meth c cX1_mildestOf 2 RX1 A0 D cA ad (NC b) Z) (hr : meth.sig.returnType = (some .int)) (x1 : Int) (σ : St) (c1 : C32 x1) (hσ : CanS (shC b) (NC b) σ) (h : wp_X1_mildestOf x1 σ Q) : G p l e (rmL 5 0 0) s m args below meth c 2 A0 D cA ad (shC b) (NC b) 0 0 (MQ below (QIc D cA ad (shC b) (NC b) Q A0) args s 0 0 A0) σ 0 [some (.ref (ad 36)), some (vI x1)] [] := by
  unfold wp_X1_mildestOf at h
  refine g_aload_0 E dX1_mildestOf_0 ?_
  refine g_getR E fl_RX1_15 (kC_36 b) (sC_36 b) rfl dX1_mildestOf_1 ?_
  refine g_callvV E my_X0_build mi_X0_build msel_X0_build ml_RX1_42 (rm_ok (by decide) (by decide)) ⟨Nat.zero_le _, Nat.zero_le _⟩ (kC_24 b) (sC_24 b) rfl (m_X0_build E.2.2.1 hσ h) rfl rfl (Nat.le_of_ble_eq_true rfl) dX1_mildestOf_4 (fun σ2 r1 hσ2 h => ?_)
  refine g_aload_0 E dX1_mildestOf_7 ?_
  refine g_getI E fl_RX1_36 (kC_36 b) (sC_36 b) rfl dX1_mildestOf_8 ?_
  refine g_if_ne E (fC_36_8 hσ2) djX1_mildestOf_11 (fun hc => ?_) (fun hc => ?_)
  · replace h := h.1 hc
    exact (t_X1_mildestOf_b29 E hr x1 σ2 c1 hσ2 h).weak (w_k (w_k w_n))
  · replace h := h.2 hc
    refine g_aload_0 E dX1_mildestOf_14 ?_
    refine g_iconst E dX1_mildestOf_15 ?_
    refine g_putZ E fl_RX1_36 rfl rfl (Or.inr rfl) (kC_36 b) (sC_36 b) rfl dX1_mildestOf_16 (g_nmS (fun σ3 eσ3 => ?_))
    replace h := h σ3 eσ3
    have hσ3 : CanS (shC b) (NC b) σ3 := by rw [eσ3]; exact uC_36_8 hσ2 cl_1
    refine g_aload_0 E dX1_mildestOf_19 ?_
    refine g_aload_0 E dX1_mildestOf_20 ?_
    refine g_getR E fl_RX1_23 (kC_36 b) (sC_36 b) rfl dX1_mildestOf_21 ?_
    refine g_iconst E dX1_mildestOf_24 ?_
    refine g_iconst E dX1_mildestOf_25 ?_
    refine g_callvV E my_X1_fill mi_X1_fill msel_X1_fill ml_RX1_47 (rm_ok (by decide) (by decide)) ⟨Nat.zero_le _, Nat.zero_le _⟩ (kC_36 b) (sC_36 b) rfl (m_X1_fill_c38 E.2.2.1 cl_m1 cl_0 hσ3 h) rfl rfl (Nat.le_of_ble_eq_true rfl) dX1_mildestOf_26 (fun σ5 r4 hσ5 h => ?_)
    exact (t_X1_mildestOf_b29 E hr x1 σ5 c1 hσ5 h).weak (w_k (w_k w_n))
end
theorem m_X1_mildestOf {Z : (Nat → Nat) × (Nat → Nat)} {l : Launch} {D : va_G} {cA : Nat → ClassId} {ad : Nat → Nat} {b : Bool} {x1 : Int} {σ : St} {Q : Int → St → Prop} (hA : AdOk (NC b) ad) (c1 : C32 x1) (hσ : CanS (shC b) (NC b) σ) (h : wp_X1_mildestOf x1 σ Q) : KtI Z l D cA ad (shC b) (NC b) yX1_mildestOf cX1_mildestOf 2 (some .int) 5 [.ref (ad 36), vI x1] σ Q :=
  KtI.of my_X1_mildestOf hA [some (.ref (ad 36)), some (vI x1)] (Nat.le_of_ble_eq_true rfl) rfl (fun p e s m args below meth c A0 E hr => t_X1_mildestOf E hr x1 σ c1 hσ h)
theorem dX11_dearest_0 : Dc cX11_dearest 0 (.aload_n 0) 1 1 := ⟨by decide +kernel, rfl⟩
theorem dX11_dearest_1 : Dc cX11_dearest 1 (.iload_n 1) 1 2 := ⟨by decide +kernel, rfl⟩
theorem dX11_dearest_2 : Dc cX11_dearest 2 (.iload_n 2) 1 3 := ⟨by decide +kernel, rfl⟩
theorem dX11_dearest_3 : Dc cX11_dearest 3 (.iload_n 3) 1 4 := ⟨by decide +kernel, rfl⟩
theorem dX11_dearest_4 : Dc cX11_dearest 4 (.invokevirtual 223) 3 7 := ⟨by decide +kernel, rfl⟩
theorem dX11_dearest_7 : Dc cX11_dearest 7 (.istore 4) 2 9 := ⟨by decide +kernel, rfl⟩
theorem dX11_dearest_9 : Dc cX11_dearest 9 (.iload 4) 2 11 := ⟨by decide +kernel, rfl⟩
theorem djX11_dearest_11 : Dj cX11_dearest 11 (.ifCond .ge 8) 3 14 8 19 := ⟨by decide +kernel, rfl, by decide⟩
theorem dX11_dearest_14 : Dc cX11_dearest 14 (.bipush (-2)) 2 16 := ⟨by decide +kernel, rfl⟩
theorem djX11_dearest_16 : Dj cX11_dearest 16 (.goto 12) 3 19 12 28 := ⟨by decide +kernel, rfl, by decide⟩
theorem dX11_dearest_19 : Dc cX11_dearest 19 (.aload_n 0) 1 20 := ⟨by decide +kernel, rfl⟩
theorem dX11_dearest_20 : Dc cX11_dearest 20 (.getfield 46) 3 23 := ⟨by decide +kernel, rfl⟩
theorem dX11_dearest_23 : Dc cX11_dearest 23 (.iload 4) 2 25 := ⟨by decide +kernel, rfl⟩
theorem dX11_dearest_25 : Dc cX11_dearest 25 (.invokevirtual 244) 3 28 := ⟨by decide +kernel, rfl⟩
theorem dX11_dearest_28 : Dc cX11_dearest 28 (.ireturn) 1 29 := ⟨by decide +kernel, rfl⟩
section
variable {p : Program} {l : Launch} {e : Env} {s : State} {m : MethodId} {args : Array Value} {below : List Frame} {meth : Method} {c : Code} {A0 : Nat → Prop} {D : va_G} {cA : Nat → ClassId} {ad : Nat → Nat} {Z : (Nat → Nat) × (Nat → Nat)} {Q : Int → St → Prop} {b : Bool}
set_option maxHeartbeats 4000000 in
set_option maxRecDepth 100000 in
theorem t_X11_dearest (E : Ev p s m args meth c cX11_dearest 5 RX11 A0 D cA ad (NC b) Z) (hr : meth.sig.returnType = (some .int)) (x1 : Int) (x2 : Int) (x3 : Int) (σ : St) (c1 : C32 x1) (c2 : C32 x2) (c3 : C32 x3) (hσ : CanS (shC b) (NC b) σ) (h : wp_X11_dearest x1 x2 x3 σ Q) : G p l e (rmL 6 0 0) s m args below meth c 5 A0 D cA ad (shC b) (NC b) 0 0 (MQ below (QIc D cA ad (shC b) (NC b) Q A0) args s 0 0 A0) σ 0 [some (.ref (ad 0)), some (vI x1), some (vI x2), some (vI x3), none] [] := by
  unfold wp_X11_dearest at h
  refine g_aload_0 E dX11_dearest_0 ?_
  refine g_iload_1 E dX11_dearest_1 ?_
  refine g_iload_2 E dX11_dearest_2 ?_
  refine g_iload_3 E dX11_dearest_3 ?_
  refine g_callvI E my_X11_itemOf mi_X11_itemOf msel_X11_itemOf ml_RX11_223 (rm_ok (by decide) (by decide)) ⟨Nat.zero_le _, Nat.zero_le _⟩ (kC_0 b) (sC_0 b) rfl (m_X11_itemOf E.2.2.1 c1 c2 c3 hσ h) rfl rfl (Nat.le_of_ble_eq_true rfl) dX11_dearest_4 (fun r1 σ2 cr1 hσ2 h => ?_)
  refine g_istore_4 E rfl (by decide) dX11_dearest_7 ?_
  refine g_iload_4 E dX11_dearest_9 ?_
  refine g_if_ge E cr1 djX11_dearest_11 (fun hc => ?_) (fun hc => ?_)
  · replace h := h.1 hc
    refine g_aload_0 E dX11_dearest_19 ?_
    refine g_getR E fl_RX11_46 (kC_0 b) (sC_0 b) rfl dX11_dearest_20 ?_
    refine g_iload_4 E dX11_dearest_23 ?_
    refine g_callvI E my_X1_mildestOf mi_X1_mildestOf msel_X1_mildestOf ml_RX11_244 (rm_ok (by decide) (by decide)) ⟨Nat.zero_le _, Nat.zero_le _⟩ (kC_36 b) (sC_36 b) rfl (m_X1_mildestOf E.2.2.1 cr1 hσ2 h) rfl rfl (Nat.le_of_ble_eq_true rfl) dX11_dearest_25 (fun r3 σ4 cr3 hσ4 h => ?_)
    exact g_iret E hr cr3 h hσ4 dX11_dearest_28
  · replace h := h.2 hc
    refine g_bipush E (by decide) dX11_dearest_14 ?_
    refine g_goto E djX11_dearest_16 ?_
    exact g_iret E hr cl_m2 h hσ2 dX11_dearest_28
end
theorem m_X11_dearest {Z : (Nat → Nat) × (Nat → Nat)} {l : Launch} {D : va_G} {cA : Nat → ClassId} {ad : Nat → Nat} {b : Bool} {x1 x2 x3 : Int} {σ : St} {Q : Int → St → Prop} (hA : AdOk (NC b) ad) (c1 : C32 x1) (c2 : C32 x2) (c3 : C32 x3) (hσ : CanS (shC b) (NC b) σ) (h : wp_X11_dearest x1 x2 x3 σ Q) : KtI Z l D cA ad (shC b) (NC b) yX11_dearest cX11_dearest 5 (some .int) 6 [.ref (ad 0), vI x1, vI x2, vI x3] σ Q :=
  KtI.of my_X11_dearest hA [some (.ref (ad 0)), some (vI x1), some (vI x2), some (vI x3), none] (Nat.le_of_ble_eq_true rfl) rfl (fun p e s m args below meth c A0 E hr => t_X11_dearest E hr x1 x2 x3 σ c1 c2 c3 hσ h)
theorem dX2_gatherCases_0 : Dc cX2_gatherCases 0 (.iload_n 3) 1 1 := ⟨by decide +kernel, rfl⟩
theorem djX2_gatherCases_1 : Dj cX2_gatherCases 1 (.ifCond .eq 7) 3 4 7 8 := ⟨by decide +kernel, rfl, by decide⟩
theorem dX2_gatherCases_4 : Dc cX2_gatherCases 4 (.lconst 0) 1 5 := ⟨by decide +kernel, rfl⟩
theorem djX2_gatherCases_5 : Dj cX2_gatherCases 5 (.goto 6) 3 8 6 11 := ⟨by decide +kernel, rfl, by decide⟩
theorem dX2_gatherCases_8 : Dc cX2_gatherCases 8 (.ldc2_w 138) 3 11 := ⟨by decide +kernel, rfl⟩
theorem dX2_gatherCases_11 : Dc cX2_gatherCases 11 (.lstore 4) 2 13 := ⟨by decide +kernel, rfl⟩
theorem dX2_gatherCases_13 : Dc cX2_gatherCases 13 (.aload_n 0) 1 14 := ⟨by decide +kernel, rfl⟩
theorem dX2_gatherCases_14 : Dc cX2_gatherCases 14 (.getfield 15) 3 17 := ⟨by decide +kernel, rfl⟩
theorem dX2_gatherCases_17 : Dc cX2_gatherCases 17 (.iload_n 2) 1 18 := ⟨by decide +kernel, rfl⟩
theorem dX2_gatherCases_18 : Dc cX2_gatherCases 18 (.invokevirtual 76) 3 21 := ⟨by decide +kernel, rfl⟩
theorem dX2_gatherCases_21 : Dc cX2_gatherCases 21 (.istore 6) 2 23 := ⟨by decide +kernel, rfl⟩
theorem dX2_gatherCases_23 : Dc cX2_gatherCases 23 (.iload 6) 2 25 := ⟨by decide +kernel, rfl⟩
theorem dX2_gatherCases_25 : Dc cX2_gatherCases 25 (.aload_n 0) 1 26 := ⟨by decide +kernel, rfl⟩
theorem dX2_gatherCases_26 : Dc cX2_gatherCases 26 (.getfield 15) 3 29 := ⟨by decide +kernel, rfl⟩
theorem dX2_gatherCases_29 : Dc cX2_gatherCases 29 (.iload_n 2) 1 30 := ⟨by decide +kernel, rfl⟩
theorem dX2_gatherCases_30 : Dc cX2_gatherCases 30 (.invokevirtual 79) 3 33 := ⟨by decide +kernel, rfl⟩
theorem djX2_gatherCases_33 : Dj cX2_gatherCases 33 (.if_icmp .ge 134) 3 36 134 167 := ⟨by decide +kernel, rfl, by decide⟩
theorem dX2_gatherCases_36 : Dc cX2_gatherCases 36 (.aload_n 0) 1 37 := ⟨by decide +kernel, rfl⟩
theorem dX2_gatherCases_37 : Dc cX2_gatherCases 37 (.getfield 15) 3 40 := ⟨by decide +kernel, rfl⟩
theorem dX2_gatherCases_40 : Dc cX2_gatherCases 40 (.iload 6) 2 42 := ⟨by decide +kernel, rfl⟩
theorem dX2_gatherCases_42 : Dc cX2_gatherCases 42 (.invokevirtual 82) 3 45 := ⟨by decide +kernel, rfl⟩
theorem djX2_gatherCases_45 : Dj cX2_gatherCases 45 (.ifCond .ne 116) 3 48 116 161 := ⟨by decide +kernel, rfl, by decide⟩
theorem dX2_gatherCases_48 : Dc cX2_gatherCases 48 (.aload_n 0) 1 49 := ⟨by decide +kernel, rfl⟩
theorem dX2_gatherCases_49 : Dc cX2_gatherCases 49 (.getfield 19) 3 52 := ⟨by decide +kernel, rfl⟩
theorem dX2_gatherCases_52 : Dc cX2_gatherCases 52 (.iload 6) 2 54 := ⟨by decide +kernel, rfl⟩
theorem dX2_gatherCases_54 : Dc cX2_gatherCases 54 (.invokevirtual 86) 3 57 := ⟨by decide +kernel, rfl⟩
theorem djX2_gatherCases_57 : Dj cX2_gatherCases 57 (.ifCond .eq 104) 3 60 104 161 := ⟨by decide +kernel, rfl, by decide⟩
theorem dX2_gatherCases_60 : Dc cX2_gatherCases 60 (.lconst 1) 1 61 := ⟨by decide +kernel, rfl⟩
theorem dX2_gatherCases_61 : Dc cX2_gatherCases 61 (.aload_n 0) 1 62 := ⟨by decide +kernel, rfl⟩
theorem dX2_gatherCases_62 : Dc cX2_gatherCases 62 (.getfield 15) 3 65 := ⟨by decide +kernel, rfl⟩
theorem dX2_gatherCases_65 : Dc cX2_gatherCases 65 (.getfield 140) 3 68 := ⟨by decide +kernel, rfl⟩
theorem dX2_gatherCases_68 : Dc cX2_gatherCases 68 (.iload 6) 2 70 := ⟨by decide +kernel, rfl⟩
theorem dX2_gatherCases_70 : Dc cX2_gatherCases 70 (.iaload) 1 71 := ⟨by decide +kernel, rfl⟩
theorem dX2_gatherCases_71 : Dc cX2_gatherCases 71 (.lshl) 1 72 := ⟨by decide +kernel, rfl⟩
theorem dX2_gatherCases_72 : Dc cX2_gatherCases 72 (.lstore 7) 2 74 := ⟨by decide +kernel, rfl⟩
theorem dX2_gatherCases_74 : Dc cX2_gatherCases 74 (.lload 7) 2 76 := ⟨by decide +kernel, rfl⟩
theorem dX2_gatherCases_76 : Dc cX2_gatherCases 76 (.aload_n 0) 1 77 := ⟨by decide +kernel, rfl⟩
theorem dX2_gatherCases_77 : Dc cX2_gatherCases 77 (.getfield 15) 3 80 := ⟨by decide +kernel, rfl⟩
theorem dX2_gatherCases_80 : Dc cX2_gatherCases 80 (.getfield 89) 3 83 := ⟨by decide +kernel, rfl⟩
theorem dX2_gatherCases_83 : Dc cX2_gatherCases 83 (.iload 6) 2 85 := ⟨by decide +kernel, rfl⟩
theorem dX2_gatherCases_85 : Dc cX2_gatherCases 85 (.iaload) 1 86 := ⟨by decide +kernel, rfl⟩
theorem djX2_gatherCases_86 : Dj cX2_gatherCases 86 (.ifCond .ge 7) 3 89 7 93 := ⟨by decide +kernel, rfl, by decide⟩
theorem dX2_gatherCases_89 : Dc cX2_gatherCases 89 (.lconst 0) 1 90 := ⟨by decide +kernel, rfl⟩
theorem djX2_gatherCases_90 : Dj cX2_gatherCases 90 (.goto 15) 3 93 15 105 := ⟨by decide +kernel, rfl, by decide⟩
theorem dX2_gatherCases_93 : Dc cX2_gatherCases 93 (.aload_n 1) 1 94 := ⟨by decide +kernel, rfl⟩
theorem dX2_gatherCases_94 : Dc cX2_gatherCases 94 (.aload_n 0) 1 95 := ⟨by decide +kernel, rfl⟩
theorem dX2_gatherCases_95 : Dc cX2_gatherCases 95 (.getfield 15) 3 98 := ⟨by decide +kernel, rfl⟩
theorem dX2_gatherCases_98 : Dc cX2_gatherCases 98 (.getfield 89) 3 101 := ⟨by decide +kernel, rfl⟩
theorem dX2_gatherCases_101 : Dc cX2_gatherCases 101 (.iload 6) 2 103 := ⟨by decide +kernel, rfl⟩
theorem dX2_gatherCases_103 : Dc cX2_gatherCases 103 (.iaload) 1 104 := ⟨by decide +kernel, rfl⟩
theorem dX2_gatherCases_104 : Dc cX2_gatherCases 104 (.laload) 1 105 := ⟨by decide +kernel, rfl⟩
theorem dX2_gatherCases_105 : Dc cX2_gatherCases 105 (.lor) 1 106 := ⟨by decide +kernel, rfl⟩
theorem dX2_gatherCases_106 : Dc cX2_gatherCases 106 (.lstore 7) 2 108 := ⟨by decide +kernel, rfl⟩
theorem dX2_gatherCases_108 : Dc cX2_gatherCases 108 (.lload 7) 2 110 := ⟨by decide +kernel, rfl⟩
theorem dX2_gatherCases_110 : Dc cX2_gatherCases 110 (.aload_n 0) 1 111 := ⟨by decide +kernel, rfl⟩
theorem dX2_gatherCases_111 : Dc cX2_gatherCases 111 (.getfield 15) 3 114 := ⟨by decide +kernel, rfl⟩
theorem dX2_gatherCases_114 : Dc cX2_gatherCases 114 (.getfield 93) 3 117 := ⟨by decide +kernel, rfl⟩
theorem dX2_gatherCases_117 : Dc cX2_gatherCases 117 (.iload 6) 2 119 := ⟨by decide +kernel, rfl⟩
theorem dX2_gatherCases_119 : Dc cX2_gatherCases 119 (.iaload) 1 120 := ⟨by decide +kernel, rfl⟩
theorem djX2_gatherCases_120 : Dj cX2_gatherCases 120 (.ifCond .ge 7) 3 123 7 127 := ⟨by decide +kernel, rfl, by decide⟩
theorem dX2_gatherCases_123 : Dc cX2_gatherCases 123 (.lconst 0) 1 124 := ⟨by decide +kernel, rfl⟩
theorem djX2_gatherCases_124 : Dj cX2_gatherCases 124 (.goto 15) 3 127 15 139 := ⟨by decide +kernel, rfl, by decide⟩
theorem dX2_gatherCases_127 : Dc cX2_gatherCases 127 (.aload_n 1) 1 128 := ⟨by decide +kernel, rfl⟩
theorem dX2_gatherCases_128 : Dc cX2_gatherCases 128 (.aload_n 0) 1 129 := ⟨by decide +kernel, rfl⟩
theorem dX2_gatherCases_129 : Dc cX2_gatherCases 129 (.getfield 15) 3 132 := ⟨by decide +kernel, rfl⟩
theorem dX2_gatherCases_132 : Dc cX2_gatherCases 132 (.getfield 93) 3 135 := ⟨by decide +kernel, rfl⟩
theorem dX2_gatherCases_135 : Dc cX2_gatherCases 135 (.iload 6) 2 137 := ⟨by decide +kernel, rfl⟩
theorem dX2_gatherCases_137 : Dc cX2_gatherCases 137 (.iaload) 1 138 := ⟨by decide +kernel, rfl⟩
theorem dX2_gatherCases_138 : Dc cX2_gatherCases 138 (.laload) 1 139 := ⟨by decide +kernel, rfl⟩
theorem dX2_gatherCases_139 : Dc cX2_gatherCases 139 (.lor) 1 140 := ⟨by decide +kernel, rfl⟩
theorem dX2_gatherCases_140 : Dc cX2_gatherCases 140 (.lstore 7) 2 142 := ⟨by decide +kernel, rfl⟩
theorem dX2_gatherCases_142 : Dc cX2_gatherCases 142 (.iload_n 3) 1 143 := ⟨by decide +kernel, rfl⟩
theorem djX2_gatherCases_143 : Dj cX2_gatherCases 143 (.ifCond .eq 11) 3 146 11 154 := ⟨by decide +kernel, rfl, by decide⟩
theorem dX2_gatherCases_146 : Dc cX2_gatherCases 146 (.lload 4) 2 148 := ⟨by decide +kernel, rfl⟩
theorem dX2_gatherCases_148 : Dc cX2_gatherCases 148 (.lload 7) 2 150 := ⟨by decide +kernel, rfl⟩
theorem dX2_gatherCases_150 : Dc cX2_gatherCases 150 (.lor) 1 151 := ⟨by decide +kernel, rfl⟩
theorem djX2_gatherCases_151 : Dj cX2_gatherCases 151 (.goto 8) 3 154 8 159 := ⟨by decide +kernel, rfl, by decide⟩
theorem dX2_gatherCases_154 : Dc cX2_gatherCases 154 (.lload 4) 2 156 := ⟨by decide +kernel, rfl⟩
theorem dX2_gatherCases_156 : Dc cX2_gatherCases 156 (.lload 7) 2 158 := ⟨by decide +kernel, rfl⟩
theorem dX2_gatherCases_158 : Dc cX2_gatherCases 158 (.land) 1 159 := ⟨by decide +kernel, rfl⟩
theorem dX2_gatherCases_159 : Dc cX2_gatherCases 159 (.lstore 4) 2 161 := ⟨by decide +kernel, rfl⟩
theorem dX2_gatherCases_161 : Dc cX2_gatherCases 161 (.iinc 6 1) 3 164 := ⟨by decide +kernel, rfl⟩
theorem djX2_gatherCases_164 : Dj cX2_gatherCases 164 (.goto (-141)) 3 167 (-141) 23 := ⟨by decide +kernel, rfl, by decide⟩
theorem dX2_gatherCases_167 : Dc cX2_gatherCases 167 (.lload 4) 2 169 := ⟨by decide +kernel, rfl⟩
theorem dX2_gatherCases_169 : Dc cX2_gatherCases 169 (.lreturn) 1 170 := ⟨by decide +kernel, rfl⟩
section
variable {p : Program} {l : Launch} {e : Env} {s : State} {m : MethodId} {args : Array Value} {below : List Frame} {meth : Method} {c : Code} {A0 : Nat → Prop} {D : va_G} {cA : Nat → ClassId} {ad : Nat → Nat} {Z : (Nat → Nat) × (Nat → Nat)} {Q : Int → St → Prop} {b : Bool}
set_option maxHeartbeats 4000000 in
set_option maxRecDepth 100000 in
theorem t_X2_gatherCases_c44_b161 (E : Ev p s m args meth c cX2_gatherCases 9 RX2 A0 D cA ad (NC b) Z) (hr : meth.sig.returnType = (some .long)) {K23 : Int → Int → Int → Int → St → Prop} (hK23 : ∀ (x2 : Int) (x3 : Int) (x4 : Int) (x6 : Int) (σ : St), C32 x2 → C32 x3 → C64 x4 → C32 x6 → CanS (shC b) (NC b) σ → K23 x2 x3 x4 x6 σ → G p l e (rmL 3 0 0) s m args below meth c 9 A0 D cA ad (shC b) (NC b) 0 0 (MQ below (QLc D cA ad (shC b) (NC b) Q A0) args s 0 0 A0) σ 23 [some (.ref (ad 41)), some (.ref (ad 44)), some (vI x2), some (vI x3), some (vL x4), none, some (vI x6), none, none] []) (x2 : Int) (x3 : Int) (x4 : Int) (x6 : Int) (σ : St) (c2 : C32 x2) (c3 : C32 x3) (c4 : C64 x4) (c6 : C32 x6) (hσ : CanS (shC b) (NC b) σ) (h : wp_X2_gatherCases_c44_b161 Q K23 x2 x3 x4 x6 σ) : G p l e (rmL 3 0 0) s m args below meth c 9 A0 D cA ad (shC b) (NC b) 0 0 (MQ below (QLc D cA ad (shC b) (NC b) Q A0) args s 0 0 A0) σ 161 [some (.ref (ad 41)), some (.ref (ad 44)), some (vI x2), some (vI x3), some (vL x4), none, some (vI x6), none, none] [] := by
  unfold wp_X2_gatherCases_c44_b161 at h
  refine g_iinc_6 E rfl (by decide) dX2_gatherCases_161 (fun v10 ev10 => ?_)
  replace h := h v10 ev10
  have cv10 : C32 v10 := by rw [ev10]; exact c32_w _
  refine g_goto E djX2_gatherCases_164 ?_
  exact (hK23 x2 x3 x4 v10 σ c2 c3 c4 cv10 hσ h).weak (w_k (w_k (w_k (w_k (w_k (w_d (w_k (w_d (w_d w_n)))))))))
set_option maxHeartbeats 4000000 in
set_option maxRecDepth 100000 in
theorem t_X2_gatherCases_c44_b159 (E : Ev p s m args meth c cX2_gatherCases 9 RX2 A0 D cA ad (NC b) Z) (hr : meth.sig.returnType = (some .long)) {K23 : Int → Int → Int → Int → St → Prop} (hK23 : ∀ (x2 : Int) (x3 : Int) (x4 : Int) (x6 : Int) (σ : St), C32 x2 → C32 x3 → C64 x4 → C32 x6 → CanS (shC b) (NC b) σ → K23 x2 x3 x4 x6 σ → G p l e (rmL 3 0 0) s m args below meth c 9 A0 D cA ad (shC b) (NC b) 0 0 (MQ below (QLc D cA ad (shC b) (NC b) Q A0) args s 0 0 A0) σ 23 [some (.ref (ad 41)), some (.ref (ad 44)), some (vI x2), some (vI x3), some (vL x4), none, some (vI x6), none, none] []) (x2 : Int) (x3 : Int) (x6 : Int) (s0 : Int) (σ : St) (c2 : C32 x2) (c3 : C32 x3) (c6 : C32 x6) (cs0 : C64 s0) (hσ : CanS (shC b) (NC b) σ) (h : wp_X2_gatherCases_c44_b159 Q K23 x2 x3 x6 s0 σ) : G p l e (rmL 3 0 0) s m args below meth c 9 A0 D cA ad (shC b) (NC b) 0 0 (MQ below (QLc D cA ad (shC b) (NC b) Q A0) args s 0 0 A0) σ 159 [some (.ref (ad 41)), some (.ref (ad 44)), some (vI x2), some (vI x3), none, none, some (vI x6), none, none] [vL s0] := by
  unfold wp_X2_gatherCases_c44_b159 at h
  refine g_lstore_4 E rfl (by decide) dX2_gatherCases_159 ?_
  exact (t_X2_gatherCases_c44_b161 E hr hK23 x2 x3 s0 x6 σ c2 c3 cs0 c6 hσ h).weak (w_k (w_k (w_k (w_k (w_k (w_d (w_k (w_d (w_d w_n)))))))))
set_option maxHeartbeats 4000000 in
set_option maxRecDepth 100000 in
theorem t_X2_gatherCases_c44_b139 (E : Ev p s m args meth c cX2_gatherCases 9 RX2 A0 D cA ad (NC b) Z) (hr : meth.sig.returnType = (some .long)) {K23 : Int → Int → Int → Int → St → Prop} (hK23 : ∀ (x2 : Int) (x3 : Int) (x4 : Int) (x6 : Int) (σ : St), C32 x2 → C32 x3 → C64 x4 → C32 x6 → CanS (shC b) (NC b) σ → K23 x2 x3 x4 x6 σ → G p l e (rmL 3 0 0) s m args below meth c 9 A0 D cA ad (shC b) (NC b) 0 0 (MQ below (QLc D cA ad (shC b) (NC b) Q A0) args s 0 0 A0) σ 23 [some (.ref (ad 41)), some (.ref (ad 44)), some (vI x2), some (vI x3), some (vL x4), none, some (vI x6), none, none] []) (x2 : Int) (x3 : Int) (x4 : Int) (x6 : Int) (s0 : Int) (s1 : Int) (σ : St) (c2 : C32 x2) (c3 : C32 x3) (c4 : C64 x4) (c6 : C32 x6) (cs0 : C64 s0) (cs1 : C64 s1) (hσ : CanS (shC b) (NC b) σ) (h : wp_X2_gatherCases_c44_b139 Q K23 x2 x3 x4 x6 s0 s1 σ) : G p l e (rmL 3 0 0) s m args below meth c 9 A0 D cA ad (shC b) (NC b) 0 0 (MQ below (QLc D cA ad (shC b) (NC b) Q A0) args s 0 0 A0) σ 139 [some (.ref (ad 41)), some (.ref (ad 44)), some (vI x2), some (vI x3), some (vL x4), none, some (vI x6), none, none] [vL s0, vL s1] := by
  unfold wp_X2_gatherCases_c44_b139 at h
  refine g_lor E dX2_gatherCases_139 ?_
  refine g_nmL (fun v12 ev12 => ?_)
  replace h := h v12 ev12
  have cv12 : C64 v12 := by rw [ev12]; exact (c64_t _)
  refine g_lstore_7 E rfl (by decide) dX2_gatherCases_140 ?_
  refine g_iload_3 E dX2_gatherCases_142 ?_
  refine g_if_eq E c3 djX2_gatherCases_143 (fun hc => ?_) (fun hc => ?_)
  · replace h := h.1 hc
    refine g_lload_4 E dX2_gatherCases_154 ?_
    refine g_lload_7 E dX2_gatherCases_156 ?_
    refine g_land E dX2_gatherCases_158 ?_
    exact (t_X2_gatherCases_c44_b159 E hr hK23 x2 x3 x6 (l_and x4 v12) σ c2 c3 c6 (c64_t _) hσ h).weak (w_k (w_k (w_k (w_k (w_d (w_d (w_k (w_d (w_d w_n)))))))))
  · replace h := h.2 hc
    refine g_lload_4 E dX2_gatherCases_146 ?_
    refine g_lload_7 E dX2_gatherCases_148 ?_
    refine g_lor E dX2_gatherCases_150 ?_
    refine g_goto E djX2_gatherCases_151 ?_
    exact (t_X2_gatherCases_c44_b159 E hr hK23 x2 x3 x6 (l_or x4 v12) σ c2 c3 c6 (c64_t _) hσ h).weak (w_k (w_k (w_k (w_k (w_d (w_d (w_k (w_d (w_d w_n)))))))))
set_option maxHeartbeats 4000000 in
set_option maxRecDepth 100000 in
theorem t_X2_gatherCases_c44_b105 (E : Ev p s m args meth c cX2_gatherCases 9 RX2 A0 D cA ad (NC b) Z) (hr : meth.sig.returnType = (some .long)) {K23 : Int → Int → Int → Int → St → Prop} (hK23 : ∀ (x2 : Int) (x3 : Int) (x4 : Int) (x6 : Int) (σ : St), C32 x2 → C32 x3 → C64 x4 → C32 x6 → CanS (shC b) (NC b) σ → K23 x2 x3 x4 x6 σ → G p l e (rmL 3 0 0) s m args below meth c 9 A0 D cA ad (shC b) (NC b) 0 0 (MQ below (QLc D cA ad (shC b) (NC b) Q A0) args s 0 0 A0) σ 23 [some (.ref (ad 41)), some (.ref (ad 44)), some (vI x2), some (vI x3), some (vL x4), none, some (vI x6), none, none] []) (x2 : Int) (x3 : Int) (x4 : Int) (x6 : Int) (s0 : Int) (s1 : Int) (σ : St) (c2 : C32 x2) (c3 : C32 x3) (c4 : C64 x4) (c6 : C32 x6) (cs0 : C64 s0) (cs1 : C64 s1) (hσ : CanS (shC b) (NC b) σ) (h : wp_X2_gatherCases_c44_b105 Q K23 x2 x3 x4 x6 s0 s1 σ) : G p l e (rmL 3 0 0) s m args below meth c 9 A0 D cA ad (shC b) (NC b) 0 0 (MQ below (QLc D cA ad (shC b) (NC b) Q A0) args s 0 0 A0) σ 105 [some (.ref (ad 41)), some (.ref (ad 44)), some (vI x2), some (vI x3), some (vL x4), none, some (vI x6), none, none] [vL s0, vL s1] := by
  unfold wp_X2_gatherCases_c44_b105 at h
  refine g_lor E dX2_gatherCases_105 ?_
  refine g_nmL (fun v11 ev11 => ?_)
  replace h := h v11 ev11
  have cv11 : C64 v11 := by rw [ev11]; exact (c64_t _)
  refine g_lstore_7 E rfl (by decide) dX2_gatherCases_106 ?_
  refine g_lload_7 E dX2_gatherCases_108 ?_
  refine g_aload_0 E dX2_gatherCases_110 ?_
  refine g_getR E fl_RX2_15 (kC_41 b) (sC_41 b) rfl dX2_gatherCases_111 ?_
  refine g_getR E fl_RX2_93 (kC_24 b) (sC_24 b) rfl dX2_gatherCases_114 ?_
  refine g_iload_6 E dX2_gatherCases_117 ?_
  refine g_iald E (kC_32 b) (sC_32 b) (by decide) h.1 dX2_gatherCases_119 ?_
  replace h := h.2
  refine g_if_ge E (aC_32 hσ _) djX2_gatherCases_120 (fun hc => ?_) (fun hc => ?_)
  · replace h := h.1 hc
    refine g_aload_1 E dX2_gatherCases_127 ?_
    refine g_aload_0 E dX2_gatherCases_128 ?_
    refine g_getR E fl_RX2_15 (kC_41 b) (sC_41 b) rfl dX2_gatherCases_129 ?_
    refine g_getR E fl_RX2_93 (kC_24 b) (sC_24 b) rfl dX2_gatherCases_132 ?_
    refine g_iload_6 E dX2_gatherCases_135 ?_
    refine g_iald E (kC_32 b) (sC_32 b) (by decide) h.1 dX2_gatherCases_137 ?_
    replace h := h.2
    refine g_lald E (kC_44 b) (sC_44 b) (by decide) h.1 dX2_gatherCases_138 ?_
    replace h := h.2
    exact (t_X2_gatherCases_c44_b139 E hr hK23 x2 x3 x4 x6 (σ 44 ((σ 32 (x6.toNat)).toNat)) v11 σ c2 c3 c4 c6 (aC_44 hσ _) cv11 hσ h).weak (w_k (w_k (w_k (w_k (w_k (w_d (w_k (w_d (w_d w_n)))))))))
  · replace h := h.2 hc
    refine g_lconst (n := 0) E (by decide) dX2_gatherCases_123 ?_
    refine g_goto E djX2_gatherCases_124 ?_
    exact (t_X2_gatherCases_c44_b139 E hr hK23 x2 x3 x4 x6 0 v11 σ c2 c3 c4 c6 cL_0 cv11 hσ h).weak (w_k (w_k (w_k (w_k (w_k (w_d (w_k (w_d (w_d w_n)))))))))
set_option maxHeartbeats 4000000 in
set_option maxRecDepth 100000 in
theorem t_X2_gatherCases_c44_l23 (E : Ev p s m args meth c cX2_gatherCases 9 RX2 A0 D cA ad (NC b) Z) (hr : meth.sig.returnType = (some .long)) : ∀ (n : Nat) (x2 : Int) (x3 : Int) (x4 : Int) (x6 : Int) (σ : St), C32 x2 → C32 x3 → C64 x4 → C32 x6 → CanS (shC b) (NC b) σ → wp_X2_gatherCases_c44_l23 Q n x2 x3 x4 x6 σ → G p l e (rmL 3 0 0) s m args below meth c 9 A0 D cA ad (shC b) (NC b) 0 0 (MQ below (QLc D cA ad (shC b) (NC b) Q A0) args s 0 0 A0) σ 23 [some (.ref (ad 41)), some (.ref (ad 44)), some (vI x2), some (vI x3), some (vL x4), none, some (vI x6), none, none] [] := by
  intro n
  induction n with
  | zero => intro _ _ _ _ _ _ _ _ _ _ h; exact h.elim
  | succ n ih =>
    intro x2 x3 x4 x6 σ c2 c3 c4 c6 hσ h
    unfold wp_X2_gatherCases_c44_l23 at h
    refine g_iload_6 E dX2_gatherCases_23 ?_
    refine g_aload_0 E dX2_gatherCases_25 ?_
    refine g_getR E fl_RX2_15 (kC_41 b) (sC_41 b) rfl dX2_gatherCases_26 ?_
    refine g_iload_2 E dX2_gatherCases_29 ?_
    refine g_callvI E my_X0_caseEnd mi_X0_caseEnd msel_X0_caseEnd ml_RX2_79 (rm_ok (by decide) (by decide)) ⟨Nat.zero_le _, Nat.zero_le _⟩ (kC_24 b) (sC_24 b) rfl (m_X0_caseEnd E.2.2.1 c2 hσ h) rfl rfl (Nat.le_of_ble_eq_true rfl) dX2_gatherCases_30 (fun r3 σ4 cr3 hσ4 h => ?_)
    refine g_icmp_ge E c6 cr3 djX2_gatherCases_33 (fun hc => ?_) (fun hc => ?_)
    · replace h := h.1 hc
      refine g_lload_4 E dX2_gatherCases_167 ?_
      exact g_lret E hr c4 h hσ4 dX2_gatherCases_169
    · replace h := h.2 hc
      refine g_aload_0 E dX2_gatherCases_36 ?_
      refine g_getR E fl_RX2_15 (kC_41 b) (sC_41 b) rfl dX2_gatherCases_37 ?_
      refine g_iload_6 E dX2_gatherCases_40 ?_
      refine g_callvI E my_X0_goesOn mi_X0_goesOn msel_X0_goesOn ml_RX2_82 (rm_ok (by decide) (by decide)) ⟨Nat.zero_le _, Nat.zero_le _⟩ (kC_24 b) (sC_24 b) rfl (m_X0_goesOn E.2.2.1 c6 hσ4 h) rfl rfl (Nat.le_of_ble_eq_true rfl) dX2_gatherCases_42 (fun r5 σ6 cr5 hσ6 h => ?_)
      refine g_if_ne E cr5 djX2_gatherCases_45 (fun hc => ?_) (fun hc => ?_)
      · replace h := h.1 hc
        exact (t_X2_gatherCases_c44_b161 E hr ih x2 x3 x4 x6 σ6 c2 c3 c4 c6 hσ6 h).weak (w_k (w_k (w_k (w_k (w_k (w_d (w_k (w_d (w_d w_n)))))))))
      · replace h := h.2 hc
        refine g_aload_0 E dX2_gatherCases_48 ?_
        refine g_getR E fl_RX2_19 (kC_41 b) (sC_41 b) rfl dX2_gatherCases_49 ?_
        refine g_iload_6 E dX2_gatherCases_52 ?_
        refine g_callvI E my_X1_isFull mi_X1_isFull msel_X1_isFull ml_RX2_86 (rm_ok (by decide) (by decide)) ⟨Nat.zero_le _, Nat.zero_le _⟩ (kC_36 b) (sC_36 b) rfl (m_X1_isFull E.2.2.1 c6 hσ6 h) rfl rfl (Nat.le_of_ble_eq_true rfl) dX2_gatherCases_54 (fun r7 σ8 cr7 hσ8 h => ?_)
        refine g_if_eq E cr7 djX2_gatherCases_57 (fun hc => ?_) (fun hc => ?_)
        · replace h := h.1 hc
          exact (t_X2_gatherCases_c44_b161 E hr ih x2 x3 x4 x6 σ8 c2 c3 c4 c6 hσ8 h).weak (w_k (w_k (w_k (w_k (w_k (w_d (w_k (w_d (w_d w_n)))))))))
        · replace h := h.2 hc
          refine g_lconst (n := 1) E (by decide) dX2_gatherCases_60 ?_
          refine g_aload_0 E dX2_gatherCases_61 ?_
          refine g_getR E fl_RX2_15 (kC_41 b) (sC_41 b) rfl dX2_gatherCases_62 ?_
          refine g_getR E fl_RX2_140 (kC_24 b) (sC_24 b) rfl dX2_gatherCases_65 ?_
          refine g_iload_6 E dX2_gatherCases_68 ?_
          refine g_iald E (kC_29 b) (sC_29 b) (by decide) h.1 dX2_gatherCases_70 ?_
          replace h := h.2
          refine g_lshl E dX2_gatherCases_71 ?_
          refine g_nmL (fun v9 ev9 => ?_)
          replace h := h v9 ev9
          have cv9 : C64 v9 := by rw [ev9]; exact (c64_t _)
          refine g_lstore_7 E rfl (by decide) dX2_gatherCases_72 ?_
          refine g_lload_7 E dX2_gatherCases_74 ?_
          refine g_aload_0 E dX2_gatherCases_76 ?_
          refine g_getR E fl_RX2_15 (kC_41 b) (sC_41 b) rfl dX2_gatherCases_77 ?_
          refine g_getR E fl_RX2_89 (kC_24 b) (sC_24 b) rfl dX2_gatherCases_80 ?_
          refine g_iload_6 E dX2_gatherCases_83 ?_
          refine g_iald E (kC_31 b) (sC_31 b) (by decide) h.1 dX2_gatherCases_85 ?_
          replace h := h.2
          refine g_if_ge E (aC_31 hσ8 _) djX2_gatherCases_86 (fun hc => ?_) (fun hc => ?_)
          · replace h := h.1 hc
            refine g_aload_1 E dX2_gatherCases_93 ?_
            refine g_aload_0 E dX2_gatherCases_94 ?_
            refine g_getR E fl_RX2_15 (kC_41 b) (sC_41 b) rfl dX2_gatherCases_95 ?_
            refine g_getR E fl_RX2_89 (kC_24 b) (sC_24 b) rfl dX2_gatherCases_98 ?_
            refine g_iload_6 E dX2_gatherCases_101 ?_
            refine g_iald E (kC_31 b) (sC_31 b) (by decide) h.1 dX2_gatherCases_103 ?_
            replace h := h.2
            refine g_lald E (kC_44 b) (sC_44 b) (by decide) h.1 dX2_gatherCases_104 ?_
            replace h := h.2
            exact (t_X2_gatherCases_c44_b105 E hr ih x2 x3 x4 x6 (σ8 44 ((σ8 31 (x6.toNat)).toNat)) v9 σ8 c2 c3 c4 c6 (aC_44 hσ8 _) cv9 hσ8 h).weak (w_k (w_k (w_k (w_k (w_k (w_d (w_k (w_d (w_d w_n)))))))))
          · replace h := h.2 hc
            refine g_lconst (n := 0) E (by decide) dX2_gatherCases_89 ?_
            refine g_goto E djX2_gatherCases_90 ?_
            exact (t_X2_gatherCases_c44_b105 E hr ih x2 x3 x4 x6 0 v9 σ8 c2 c3 c4 c6 cL_0 cv9 hσ8 h).weak (w_k (w_k (w_k (w_k (w_k (w_d (w_k (w_d (w_d w_n)))))))))
set_option maxHeartbeats 4000000 in
set_option maxRecDepth 100000 in
theorem t_X2_gatherCases_c44_b11 (E : Ev p s m args meth c cX2_gatherCases 9 RX2 A0 D cA ad (NC b) Z) (hr : meth.sig.returnType = (some .long)) (x2 : Int) (x3 : Int) (s0 : Int) (σ : St) (c2 : C32 x2) (c3 : C32 x3) (cs0 : C64 s0) (hσ : CanS (shC b) (NC b) σ) (h : wp_X2_gatherCases_c44_b11 Q x2 x3 s0 σ) : G p l e (rmL 3 0 0) s m args below meth c 9 A0 D cA ad (shC b) (NC b) 0 0 (MQ below (QLc D cA ad (shC b) (NC b) Q A0) args s 0 0 A0) σ 11 [some (.ref (ad 41)), some (.ref (ad 44)), some (vI x2), some (vI x3), none, none, none, none, none] [vL s0] := by
  unfold wp_X2_gatherCases_c44_b11 at h
  refine g_lstore_4 E rfl (by decide) dX2_gatherCases_11 ?_
  refine g_aload_0 E dX2_gatherCases_13 ?_
  refine g_getR E fl_RX2_15 (kC_41 b) (sC_41 b) rfl dX2_gatherCases_14 ?_
  refine g_iload_2 E dX2_gatherCases_17 ?_
  refine g_callvI E my_X0_caseStart mi_X0_caseStart msel_X0_caseStart ml_RX2_76 (rm_ok (by decide) (by decide)) ⟨Nat.zero_le _, Nat.zero_le _⟩ (kC_24 b) (sC_24 b) rfl (m_X0_caseStart E.2.2.1 c2 hσ h) rfl rfl (Nat.le_of_ble_eq_true rfl) dX2_gatherCases_18 (fun r1 σ2 cr1 hσ2 h => ?_)
  refine g_istore_6 E rfl (by decide) dX2_gatherCases_21 ?_
  exact (t_X2_gatherCases_c44_l23 E hr bigN x2 x3 s0 r1 σ2 c2 c3 cs0 cr1 hσ2 h).weak (w_k (w_k (w_k (w_k (w_k (w_d (w_k (w_d (w_d w_n)))))))))
set_option maxHeartbeats 4000000 in
set_option maxRecDepth 100000 in
theorem t_X2_gatherCases_c44 (E : Ev p s m args meth c cX2_gatherCases 9 RX2 A0 D cA ad (NC b) Z) (hr : meth.sig.returnType = (some .long)) (x2 : Int) (x3 : Int) (σ : St) (c2 : C32 x2) (c3 : C32 x3) (hσ : CanS (shC b) (NC b) σ) (h : wp_X2_gatherCases_c44 x2 x3 σ Q) : G p l e (rmL 3 0 0) s m args below meth c 9 A0 D cA ad (shC b) (NC b) 0 0 (MQ below (QLc D cA ad (shC b) (NC b) Q A0) args s 0 0 A0) σ 0 [some (.ref (ad 41)), some (.ref (ad 44)), some (vI x2), some (vI x3), none, none, none, none, none] [] := by
  unfold wp_X2_gatherCases_c44 at h
  refine g_iload_3 E dX2_gatherCases_0 ?_
  refine g_if_eq E c3 djX2_gatherCases_1 (fun hc => ?_) (fun hc => ?_)
  · replace h := h.1 hc
    refine g_ldc2 (n := (-1)) E wc_RX2_138 dX2_gatherCases_8 ?_
    exact (t_X2_gatherCases_c44_b11 E hr x2 x3 ((-1)) σ c2 c3 cL_m1 hσ h).weak (w_k (w_k (w_k (w_k (w_d (w_d (w_d (w_d (w_d w_n)))))))))
  · replace h := h.2 hc
    refine g_lconst (n := 0) E (by decide) dX2_gatherCases_4 ?_
    refine g_goto E djX2_gatherCases_5 ?_
    exact (t_X2_gatherCases_c44_b11 E hr x2 x3 0 σ c2 c3 cL_0 hσ h).weak (w_k (w_k (w_k (w_k (w_d (w_d (w_d (w_d (w_d w_n)))))))))
end
theorem m_X2_gatherCases_c44 {Z : (Nat → Nat) × (Nat → Nat)} {l : Launch} {D : va_G} {cA : Nat → ClassId} {ad : Nat → Nat} {b : Bool} {x2 x3 : Int} {σ : St} {Q : Int → St → Prop} (hA : AdOk (NC b) ad) (c2 : C32 x2) (c3 : C32 x3) (hσ : CanS (shC b) (NC b) σ) (h : wp_X2_gatherCases_c44 x2 x3 σ Q) : KtL Z l D cA ad (shC b) (NC b) yX2_gatherCases cX2_gatherCases 9 (some .long) 3 [.ref (ad 41), .ref (ad 44), vI x2, vI x3] σ Q :=
  KtL.of my_X2_gatherCases hA [some (.ref (ad 41)), some (.ref (ad 44)), some (vI x2), some (vI x3), none, none, none, none, none] (Nat.le_of_ble_eq_true rfl) rfl (fun p e s m args below meth c A0 E hr => t_X2_gatherCases_c44 E hr x2 x3 σ c2 c3 hσ h)
theorem dX2_gatherUnaries_0 : Dc cX2_gatherUnaries 0 (.iconst 0) 1 1 := ⟨by decide +kernel, rfl⟩
theorem dX2_gatherUnaries_1 : Dc cX2_gatherUnaries 1 (.istore 4) 2 3 := ⟨by decide +kernel, rfl⟩
theorem dX2_gatherUnaries_3 : Dc cX2_gatherUnaries 3 (.iconst 0) 1 4 := ⟨by decide +kernel, rfl⟩
theorem dX2_gatherUnaries_4 : Dc cX2_gatherUnaries 4 (.istore 5) 2 6 := ⟨by decide +kernel, rfl⟩
theorem dX2_gatherUnaries_6 : Dc cX2_gatherUnaries 6 (.iload 5) 2 8 := ⟨by decide +kernel, rfl⟩
theorem dX2_gatherUnaries_8 : Dc cX2_gatherUnaries 8 (.aload_n 0) 1 9 := ⟨by decide +kernel, rfl⟩
theorem dX2_gatherUnaries_9 : Dc cX2_gatherUnaries 9 (.getfield 15) 3 12 := ⟨by decide +kernel, rfl⟩
theorem dX2_gatherUnaries_12 : Dc cX2_gatherUnaries 12 (.getfield 103) 3 15 := ⟨by decide +kernel, rfl⟩
theorem djX2_gatherUnaries_15 : Dj cX2_gatherUnaries 15 (.if_icmp .ge 121) 3 18 121 136 := ⟨by decide +kernel, rfl, by decide⟩
theorem dX2_gatherUnaries_18 : Dc cX2_gatherUnaries 18 (.aload_n 0) 1 19 := ⟨by decide +kernel, rfl⟩
theorem dX2_gatherUnaries_19 : Dc cX2_gatherUnaries 19 (.getfield 15) 3 22 := ⟨by decide +kernel, rfl⟩
theorem dX2_gatherUnaries_22 : Dc cX2_gatherUnaries 22 (.getfield 106) 3 25 := ⟨by decide +kernel, rfl⟩
theorem dX2_gatherUnaries_25 : Dc cX2_gatherUnaries 25 (.iload 5) 2 27 := ⟨by decide +kernel, rfl⟩
theorem dX2_gatherUnaries_27 : Dc cX2_gatherUnaries 27 (.iaload) 1 28 := ⟨by decide +kernel, rfl⟩
theorem dX2_gatherUnaries_28 : Dc cX2_gatherUnaries 28 (.istore 6) 2 30 := ⟨by decide +kernel, rfl⟩
theorem dX2_gatherUnaries_30 : Dc cX2_gatherUnaries 30 (.iload_n 2) 1 31 := ⟨by decide +kernel, rfl⟩
theorem dX2_gatherUnaries_31 : Dc cX2_gatherUnaries 31 (.aload_n 0) 1 32 := ⟨by decide +kernel, rfl⟩
theorem dX2_gatherUnaries_32 : Dc cX2_gatherUnaries 32 (.getfield 9) 3 35 := ⟨by decide +kernel, rfl⟩
theorem dX2_gatherUnaries_35 : Dc cX2_gatherUnaries 35 (.getfield 109) 3 38 := ⟨by decide +kernel, rfl⟩
theorem dX2_gatherUnaries_38 : Dc cX2_gatherUnaries 38 (.iload 6) 2 40 := ⟨by decide +kernel, rfl⟩
theorem dX2_gatherUnaries_40 : Dc cX2_gatherUnaries 40 (.iaload) 1 41 := ⟨by decide +kernel, rfl⟩
theorem dX2_gatherUnaries_41 : Dc cX2_gatherUnaries 41 (.iadd) 1 42 := ⟨by decide +kernel, rfl⟩
theorem dX2_gatherUnaries_42 : Dc cX2_gatherUnaries 42 (.istore 7) 2 44 := ⟨by decide +kernel, rfl⟩
theorem dX2_gatherUnaries_44 : Dc cX2_gatherUnaries 44 (.iload_n 2) 1 45 := ⟨by decide +kernel, rfl⟩
theorem dX2_gatherUnaries_45 : Dc cX2_gatherUnaries 45 (.aload_n 0) 1 46 := ⟨by decide +kernel, rfl⟩
theorem dX2_gatherUnaries_46 : Dc cX2_gatherUnaries 46 (.getfield 9) 3 49 := ⟨by decide +kernel, rfl⟩
theorem dX2_gatherUnaries_49 : Dc cX2_gatherUnaries 49 (.getfield 114) 3 52 := ⟨by decide +kernel, rfl⟩
theorem dX2_gatherUnaries_52 : Dc cX2_gatherUnaries 52 (.iload 6) 2 54 := ⟨by decide +kernel, rfl⟩
theorem dX2_gatherUnaries_54 : Dc cX2_gatherUnaries 54 (.iaload) 1 55 := ⟨by decide +kernel, rfl⟩
theorem dX2_gatherUnaries_55 : Dc cX2_gatherUnaries 55 (.iadd) 1 56 := ⟨by decide +kernel, rfl⟩
theorem dX2_gatherUnaries_56 : Dc cX2_gatherUnaries 56 (.istore 8) 2 58 := ⟨by decide +kernel, rfl⟩
theorem dX2_gatherUnaries_58 : Dc cX2_gatherUnaries 58 (.aload_n 0) 1 59 := ⟨by decide +kernel, rfl⟩
theorem dX2_gatherUnaries_59 : Dc cX2_gatherUnaries 59 (.getfield 19) 3 62 := ⟨by decide +kernel, rfl⟩
theorem dX2_gatherUnaries_62 : Dc cX2_gatherUnaries 62 (.iload 8) 2 64 := ⟨by decide +kernel, rfl⟩
theorem dX2_gatherUnaries_64 : Dc cX2_gatherUnaries 64 (.invokevirtual 115) 3 67 := ⟨by decide +kernel, rfl⟩
theorem djX2_gatherUnaries_67 : Dj cX2_gatherUnaries 67 (.ifCond .eq 63) 3 70 63 130 := ⟨by decide +kernel, rfl, by decide⟩
theorem dX2_gatherUnaries_70 : Dc cX2_gatherUnaries 70 (.lconst 1) 1 71 := ⟨by decide +kernel, rfl⟩
theorem dX2_gatherUnaries_71 : Dc cX2_gatherUnaries 71 (.iload 6) 2 73 := ⟨by decide +kernel, rfl⟩
theorem dX2_gatherUnaries_73 : Dc cX2_gatherUnaries 73 (.lshl) 1 74 := ⟨by decide +kernel, rfl⟩
theorem dX2_gatherUnaries_74 : Dc cX2_gatherUnaries 74 (.aload_n 1) 1 75 := ⟨by decide +kernel, rfl⟩
theorem dX2_gatherUnaries_75 : Dc cX2_gatherUnaries 75 (.iload 8) 2 77 := ⟨by decide +kernel, rfl⟩
theorem dX2_gatherUnaries_77 : Dc cX2_gatherUnaries 77 (.laload) 1 78 := ⟨by decide +kernel, rfl⟩
theorem dX2_gatherUnaries_78 : Dc cX2_gatherUnaries 78 (.lor) 1 79 := ⟨by decide +kernel, rfl⟩
theorem dX2_gatherUnaries_79 : Dc cX2_gatherUnaries 79 (.lstore 9) 2 81 := ⟨by decide +kernel, rfl⟩
theorem dX2_gatherUnaries_81 : Dc cX2_gatherUnaries 81 (.iload_n 3) 1 82 := ⟨by decide +kernel, rfl⟩
theorem djX2_gatherUnaries_82 : Dj cX2_gatherUnaries 82 (.ifCond .eq 13) 3 85 13 95 := ⟨by decide +kernel, rfl, by decide⟩
theorem dX2_gatherUnaries_85 : Dc cX2_gatherUnaries 85 (.aload_n 1) 1 86 := ⟨by decide +kernel, rfl⟩
theorem dX2_gatherUnaries_86 : Dc cX2_gatherUnaries 86 (.iload 7) 2 88 := ⟨by decide +kernel, rfl⟩
theorem dX2_gatherUnaries_88 : Dc cX2_gatherUnaries 88 (.laload) 1 89 := ⟨by decide +kernel, rfl⟩
theorem dX2_gatherUnaries_89 : Dc cX2_gatherUnaries 89 (.lload 9) 2 91 := ⟨by decide +kernel, rfl⟩
theorem dX2_gatherUnaries_91 : Dc cX2_gatherUnaries 91 (.lor) 1 92 := ⟨by decide +kernel, rfl⟩
theorem djX2_gatherUnaries_92 : Dj cX2_gatherUnaries 92 (.goto 10) 3 95 10 102 := ⟨by decide +kernel, rfl, by decide⟩
theorem dX2_gatherUnaries_95 : Dc cX2_gatherUnaries 95 (.aload_n 1) 1 96 := ⟨by decide +kernel, rfl⟩
theorem dX2_gatherUnaries_96 : Dc cX2_gatherUnaries 96 (.iload 7) 2 98 := ⟨by decide +kernel, rfl⟩
theorem dX2_gatherUnaries_98 : Dc cX2_gatherUnaries 98 (.laload) 1 99 := ⟨by decide +kernel, rfl⟩
theorem dX2_gatherUnaries_99 : Dc cX2_gatherUnaries 99 (.lload 9) 2 101 := ⟨by decide +kernel, rfl⟩
theorem dX2_gatherUnaries_101 : Dc cX2_gatherUnaries 101 (.land) 1 102 := ⟨by decide +kernel, rfl⟩
theorem dX2_gatherUnaries_102 : Dc cX2_gatherUnaries 102 (.lstore 11) 2 104 := ⟨by decide +kernel, rfl⟩
theorem dX2_gatherUnaries_104 : Dc cX2_gatherUnaries 104 (.iload 4) 2 106 := ⟨by decide +kernel, rfl⟩
theorem dX2_gatherUnaries_106 : Dc cX2_gatherUnaries 106 (.lload 11) 2 108 := ⟨by decide +kernel, rfl⟩
theorem dX2_gatherUnaries_108 : Dc cX2_gatherUnaries 108 (.aload_n 1) 1 109 := ⟨by decide +kernel, rfl⟩
theorem dX2_gatherUnaries_109 : Dc cX2_gatherUnaries 109 (.iload 7) 2 111 := ⟨by decide +kernel, rfl⟩
theorem dX2_gatherUnaries_111 : Dc cX2_gatherUnaries 111 (.laload) 1 112 := ⟨by decide +kernel, rfl⟩
theorem dX2_gatherUnaries_112 : Dc cX2_gatherUnaries 112 (.lcmp) 1 113 := ⟨by decide +kernel, rfl⟩
theorem djX2_gatherUnaries_113 : Dj cX2_gatherUnaries 113 (.ifCond .eq 7) 3 116 7 120 := ⟨by decide +kernel, rfl, by decide⟩
theorem dX2_gatherUnaries_116 : Dc cX2_gatherUnaries 116 (.iconst 1) 1 117 := ⟨by decide +kernel, rfl⟩
theorem djX2_gatherUnaries_117 : Dj cX2_gatherUnaries 117 (.goto 4) 3 120 4 121 := ⟨by decide +kernel, rfl, by decide⟩
theorem dX2_gatherUnaries_120 : Dc cX2_gatherUnaries 120 (.iconst 0) 1 121 := ⟨by decide +kernel, rfl⟩
theorem dX2_gatherUnaries_121 : Dc cX2_gatherUnaries 121 (.ior) 1 122 := ⟨by decide +kernel, rfl⟩
theorem dX2_gatherUnaries_122 : Dc cX2_gatherUnaries 122 (.istore 4) 2 124 := ⟨by decide +kernel, rfl⟩
theorem dX2_gatherUnaries_124 : Dc cX2_gatherUnaries 124 (.aload_n 1) 1 125 := ⟨by decide +kernel, rfl⟩
theorem dX2_gatherUnaries_125 : Dc cX2_gatherUnaries 125 (.iload 7) 2 127 := ⟨by decide +kernel, rfl⟩
theorem dX2_gatherUnaries_127 : Dc cX2_gatherUnaries 127 (.lload 11) 2 129 := ⟨by decide +kernel, rfl⟩
theorem dX2_gatherUnaries_129 : Dc cX2_gatherUnaries 129 (.lastore) 1 130 := ⟨by decide +kernel, rfl⟩
theorem dX2_gatherUnaries_130 : Dc cX2_gatherUnaries 130 (.iinc 5 1) 3 133 := ⟨by decide +kernel, rfl⟩
theorem djX2_gatherUnaries_133 : Dj cX2_gatherUnaries 133 (.goto (-127)) 3 136 (-127) 6 := ⟨by decide +kernel, rfl, by decide⟩
theorem dX2_gatherUnaries_136 : Dc cX2_gatherUnaries 136 (.iload 4) 2 138 := ⟨by decide +kernel, rfl⟩
theorem dX2_gatherUnaries_138 : Dc cX2_gatherUnaries 138 (.ireturn) 1 139 := ⟨by decide +kernel, rfl⟩
section
variable {p : Program} {l : Launch} {e : Env} {s : State} {m : MethodId} {args : Array Value} {below : List Frame} {meth : Method} {c : Code} {A0 : Nat → Prop} {D : va_G} {cA : Nat → ClassId} {ad : Nat → Nat} {Z : (Nat → Nat) × (Nat → Nat)} {Q : Int → St → Prop} {b : Bool}
set_option maxHeartbeats 4000000 in
set_option maxRecDepth 100000 in
theorem t_X2_gatherUnaries_c44_b130 (E : Ev p s m args meth c cX2_gatherUnaries 13 RX2 A0 D cA ad (NC b) Z) (hr : meth.sig.returnType = (some .boolean)) {K6 : Int → Int → Int → Int → St → Prop} (hK6 : ∀ (x2 : Int) (x3 : Int) (x4 : Int) (x5 : Int) (σ : St), C32 x2 → C32 x3 → C32 x4 → C32 x5 → CanS (shC b) (NC b) σ → K6 x2 x3 x4 x5 σ → G p l e (rmL 2 0 0) s m args below meth c 13 A0 D cA ad (shC b) (NC b) 0 0 (MQ below (QIc D cA ad (shC b) (NC b) Q A0) args s 0 0 A0) σ 6 [some (.ref (ad 41)), some (.ref (ad 44)), some (vI x2), some (vI x3), some (vI x4), some (vI x5), none, none, none, none, none, none, none] []) (x2 : Int) (x3 : Int) (x4 : Int) (x5 : Int) (σ : St) (c2 : C32 x2) (c3 : C32 x3) (c4 : C32 x4) (c5 : C32 x5) (hσ : CanS (shC b) (NC b) σ) (h : wp_X2_gatherUnaries_c44_b130 Q K6 x2 x3 x4 x5 σ) : G p l e (rmL 2 0 0) s m args below meth c 13 A0 D cA ad (shC b) (NC b) 0 0 (MQ below (QIc D cA ad (shC b) (NC b) Q A0) args s 0 0 A0) σ 130 [some (.ref (ad 41)), some (.ref (ad 44)), some (vI x2), some (vI x3), some (vI x4), some (vI x5), none, none, none, none, none, none, none] [] := by
  unfold wp_X2_gatherUnaries_c44_b130 at h
  refine g_iinc_5 E rfl (by decide) dX2_gatherUnaries_130 (fun v7 ev7 => ?_)
  replace h := h v7 ev7
  have cv7 : C32 v7 := by rw [ev7]; exact c32_w _
  refine g_goto E djX2_gatherUnaries_133 ?_
  exact (hK6 x2 x3 x4 v7 σ c2 c3 c4 cv7 hσ h).weak (w_k (w_k (w_k (w_k (w_k (w_k (w_d (w_d (w_d (w_d (w_d (w_d (w_d w_n)))))))))))))
set_option maxHeartbeats 4000000 in
set_option maxRecDepth 100000 in
theorem t_X2_gatherUnaries_c44_b121 (E : Ev p s m args meth c cX2_gatherUnaries 13 RX2 A0 D cA ad (NC b) Z) (hr : meth.sig.returnType = (some .boolean)) {K6 : Int → Int → Int → Int → St → Prop} (hK6 : ∀ (x2 : Int) (x3 : Int) (x4 : Int) (x5 : Int) (σ : St), C32 x2 → C32 x3 → C32 x4 → C32 x5 → CanS (shC b) (NC b) σ → K6 x2 x3 x4 x5 σ → G p l e (rmL 2 0 0) s m args below meth c 13 A0 D cA ad (shC b) (NC b) 0 0 (MQ below (QIc D cA ad (shC b) (NC b) Q A0) args s 0 0 A0) σ 6 [some (.ref (ad 41)), some (.ref (ad 44)), some (vI x2), some (vI x3), some (vI x4), some (vI x5), none, none, none, none, none, none, none] []) (x2 : Int) (x3 : Int) (x5 : Int) (x7 : Int) (x11 : Int) (s0 : Int) (s1 : Int) (σ : St) (c2 : C32 x2) (c3 : C32 x3) (c5 : C32 x5) (c7 : C32 x7) (c11 : C64 x11) (cs0 : C32 s0) (cs1 : C32 s1) (hσ : CanS (shC b) (NC b) σ) (h : wp_X2_gatherUnaries_c44_b121 Q K6 x2 x3 x5 x7 x11 s0 s1 σ) : G p l e (rmL 2 0 0) s m args below meth c 13 A0 D cA ad (shC b) (NC b) 0 0 (MQ below (QIc D cA ad (shC b) (NC b) Q A0) args s 0 0 A0) σ 121 [some (.ref (ad 41)), some (.ref (ad 44)), some (vI x2), some (vI x3), none, some (vI x5), none, some (vI x7), none, none, none, some (vL x11), none] [vI s0, vI s1] := by
  unfold wp_X2_gatherUnaries_c44_b121 at h
  refine g_ior E dX2_gatherUnaries_121 ?_
  refine g_nmI (fun v8 ev8 => ?_)
  replace h := h v8 ev8
  have cv8 : C32 v8 := by rw [ev8]; exact (c32_t _)
  refine g_istore_4 E rfl (by decide) dX2_gatherUnaries_122 ?_
  refine g_aload_1 E dX2_gatherUnaries_124 ?_
  refine g_iload_7 E dX2_gatherUnaries_125 ?_
  refine g_lload_11 E dX2_gatherUnaries_127 ?_
  refine g_last E (kC_44 b) (sC_44 b) (by decide) h.1 dX2_gatherUnaries_129 (g_nmS (fun σ9 eσ9 => ?_))
  replace h := h.2 σ9 eσ9
  have hσ9 : CanS (shC b) (NC b) σ9 := by rw [eσ9]; exact wC_44 hσ c11
  exact (t_X2_gatherUnaries_c44_b130 E hr hK6 x2 x3 v8 x5 σ9 c2 c3 cv8 c5 hσ9 h).weak (w_k (w_k (w_k (w_k (w_k (w_k (w_d (w_d (w_d (w_d (w_d (w_d (w_d w_n)))))))))))))
set_option maxHeartbeats 4000000 in
set_option maxRecDepth 100000 in
theorem t_X2_gatherUnaries_c44_b102 (E : Ev p s m args meth c cX2_gatherUnaries 13 RX2 A0 D cA ad (NC b) Z) (hr : meth.sig.returnType = (some .boolean)) {K6 : Int → Int → Int → Int → St → Prop} (hK6 : ∀ (x2 : Int) (x3 : Int) (x4 : Int) (x5 : Int) (σ : St), C32 x2 → C32 x3 → C32 x4 → C32 x5 → CanS (shC b) (NC b) σ → K6 x2 x3 x4 x5 σ → G p l e (rmL 2 0 0) s m args below meth c 13 A0 D cA ad (shC b) (NC b) 0 0 (MQ below (QIc D cA ad (shC b) (NC b) Q A0) args s 0 0 A0) σ 6 [some (.ref (ad 41)), some (.ref (ad 44)), some (vI x2), some (vI x3), some (vI x4), some (vI x5), none, none, none, none, none, none, none] []) (x2 : Int) (x3 : Int) (x4 : Int) (x5 : Int) (x7 : Int) (s0 : Int) (σ : St) (c2 : C32 x2) (c3 : C32 x3) (c4 : C32 x4) (c5 : C32 x5) (c7 : C32 x7) (cs0 : C64 s0) (hσ : CanS (shC b) (NC b) σ) (h : wp_X2_gatherUnaries_c44_b102 Q K6 x2 x3 x4 x5 x7 s0 σ) : G p l e (rmL 2 0 0) s m args below meth c 13 A0 D cA ad (shC b) (NC b) 0 0 (MQ below (QIc D cA ad (shC b) (NC b) Q A0) args s 0 0 A0) σ 102 [some (.ref (ad 41)), some (.ref (ad 44)), some (vI x2), some (vI x3), some (vI x4), some (vI x5), none, some (vI x7), none, none, none, none, none] [vL s0] := by
  unfold wp_X2_gatherUnaries_c44_b102 at h
  refine g_lstore_11 E rfl (by decide) dX2_gatherUnaries_102 ?_
  refine g_iload_4 E dX2_gatherUnaries_104 ?_
  refine g_lload_11 E dX2_gatherUnaries_106 ?_
  refine g_aload_1 E dX2_gatherUnaries_108 ?_
  refine g_iload_7 E dX2_gatherUnaries_109 ?_
  refine g_lald E (kC_44 b) (sC_44 b) (by decide) h.1 dX2_gatherUnaries_111 ?_
  replace h := h.2
  refine g_lcmp_eq E cs0 (aC_44 hσ _) dX2_gatherUnaries_112 djX2_gatherUnaries_113 (fun hc => ?_) (fun hc => ?_)
  · replace h := h.1 hc
    refine g_iconst E dX2_gatherUnaries_120 ?_
    exact (t_X2_gatherUnaries_c44_b121 E hr hK6 x2 x3 x5 x7 s0 0 x4 σ c2 c3 c5 c7 cs0 cl_0 c4 hσ h).weak (w_k (w_k (w_k (w_k (w_d (w_k (w_d (w_k (w_d (w_d (w_d (w_k (w_d w_n)))))))))))))
  · replace h := h.2 hc
    refine g_iconst E dX2_gatherUnaries_116 ?_
    refine g_goto E djX2_gatherUnaries_117 ?_
    exact (t_X2_gatherUnaries_c44_b121 E hr hK6 x2 x3 x5 x7 s0 1 x4 σ c2 c3 c5 c7 cs0 cl_1 c4 hσ h).weak (w_k (w_k (w_k (w_k (w_d (w_k (w_d (w_k (w_d (w_d (w_d (w_k (w_d w_n)))))))))))))
set_option maxHeartbeats 4000000 in
set_option maxRecDepth 100000 in
theorem t_X2_gatherUnaries_c44_l6 (E : Ev p s m args meth c cX2_gatherUnaries 13 RX2 A0 D cA ad (NC b) Z) (hr : meth.sig.returnType = (some .boolean)) : ∀ (n : Nat) (x2 : Int) (x3 : Int) (x4 : Int) (x5 : Int) (σ : St), C32 x2 → C32 x3 → C32 x4 → C32 x5 → CanS (shC b) (NC b) σ → wp_X2_gatherUnaries_c44_l6 Q n x2 x3 x4 x5 σ → G p l e (rmL 2 0 0) s m args below meth c 13 A0 D cA ad (shC b) (NC b) 0 0 (MQ below (QIc D cA ad (shC b) (NC b) Q A0) args s 0 0 A0) σ 6 [some (.ref (ad 41)), some (.ref (ad 44)), some (vI x2), some (vI x3), some (vI x4), some (vI x5), none, none, none, none, none, none, none] [] := by
  intro n
  induction n with
  | zero => intro _ _ _ _ _ _ _ _ _ _ h; exact h.elim
  | succ n ih =>
    intro x2 x3 x4 x5 σ c2 c3 c4 c5 hσ h
    unfold wp_X2_gatherUnaries_c44_l6 at h
    refine g_iload_5 E dX2_gatherUnaries_6 ?_
    refine g_aload_0 E dX2_gatherUnaries_8 ?_
    refine g_getR E fl_RX2_15 (kC_41 b) (sC_41 b) rfl dX2_gatherUnaries_9 ?_
    refine g_getI E fl_RX2_103 (kC_24 b) (sC_24 b) rfl dX2_gatherUnaries_12 ?_
    refine g_icmp_ge E c5 (fC_24_12 hσ) djX2_gatherUnaries_15 (fun hc => ?_) (fun hc => ?_)
    · replace h := h.1 hc
      refine g_iload_4 E dX2_gatherUnaries_136 ?_
      exact g_zret E hr h.1 h.2 hσ dX2_gatherUnaries_138
    · replace h := h.2 hc
      refine g_aload_0 E dX2_gatherUnaries_18 ?_
      refine g_getR E fl_RX2_15 (kC_41 b) (sC_41 b) rfl dX2_gatherUnaries_19 ?_
      refine g_getR E fl_RX2_106 (kC_24 b) (sC_24 b) rfl dX2_gatherUnaries_22 ?_
      refine g_iload_5 E dX2_gatherUnaries_25 ?_
      refine g_iald E (kC_33 b) (sC_33 b) (by decide) h.1 dX2_gatherUnaries_27 ?_
      replace h := h.2
      refine g_nmI (fun v1 ev1 => ?_)
      replace h := h v1 ev1
      have cv1 : C32 v1 := by rw [ev1]; exact (aC_33 hσ _)
      refine g_istore_6 E rfl (by decide) dX2_gatherUnaries_28 ?_
      refine g_iload_2 E dX2_gatherUnaries_30 ?_
      refine g_aload_0 E dX2_gatherUnaries_31 ?_
      refine g_getR E fl_RX2_9 (kC_41 b) (sC_41 b) rfl dX2_gatherUnaries_32 ?_
      refine g_getR E fl_RX2_109 (kC_14 b) (sC_14 b) rfl dX2_gatherUnaries_35 ?_
      refine g_iload_6 E dX2_gatherUnaries_38 ?_
      refine g_iald E (kC_15 b) (sC_15 b) (by decide) h.1 dX2_gatherUnaries_40 ?_
      replace h := h.2
      refine g_iadd E dX2_gatherUnaries_41 ?_
      refine g_nmI (fun v2 ev2 => ?_)
      replace h := h v2 ev2
      have cv2 : C32 v2 := by rw [ev2]; exact (c32_w _)
      refine g_istore_7 E rfl (by decide) dX2_gatherUnaries_42 ?_
      refine g_iload_2 E dX2_gatherUnaries_44 ?_
      refine g_aload_0 E dX2_gatherUnaries_45 ?_
      refine g_getR E fl_RX2_9 (kC_41 b) (sC_41 b) rfl dX2_gatherUnaries_46 ?_
      refine g_getR E fl_RX2_114 (kC_14 b) (sC_14 b) rfl dX2_gatherUnaries_49 ?_
      refine g_iload_6 E dX2_gatherUnaries_52 ?_
      refine g_iald E (kC_16 b) (sC_16 b) (by decide) h.1 dX2_gatherUnaries_54 ?_
      replace h := h.2
      refine g_iadd E dX2_gatherUnaries_55 ?_
      refine g_nmI (fun v3 ev3 => ?_)
      replace h := h v3 ev3
      have cv3 : C32 v3 := by rw [ev3]; exact (c32_w _)
      refine g_istore_8 E rfl (by decide) dX2_gatherUnaries_56 ?_
      refine g_aload_0 E dX2_gatherUnaries_58 ?_
      refine g_getR E fl_RX2_19 (kC_41 b) (sC_41 b) rfl dX2_gatherUnaries_59 ?_
      refine g_iload_8 E dX2_gatherUnaries_62 ?_
      refine g_callvI E my_X1_has mi_X1_has msel_X1_has ml_RX2_115 (rm_ok (by decide) (by decide)) ⟨Nat.zero_le _, Nat.zero_le _⟩ (kC_36 b) (sC_36 b) rfl (m_X1_has E.2.2.1 cv3 hσ h) rfl rfl (Nat.le_of_ble_eq_true rfl) dX2_gatherUnaries_64 (fun r4 σ5 cr4 hσ5 h => ?_)
      refine g_if_eq E cr4 djX2_gatherUnaries_67 (fun hc => ?_) (fun hc => ?_)
      · replace h := h.1 hc
        exact (t_X2_gatherUnaries_c44_b130 E hr ih x2 x3 x4 x5 σ5 c2 c3 c4 c5 hσ5 h).weak (w_k (w_k (w_k (w_k (w_k (w_k (w_d (w_d (w_d (w_d (w_d (w_d (w_d w_n)))))))))))))
      · replace h := h.2 hc
        refine g_lconst (n := 1) E (by decide) dX2_gatherUnaries_70 ?_
        refine g_iload_6 E dX2_gatherUnaries_71 ?_
        refine g_lshl E dX2_gatherUnaries_73 ?_
        refine g_aload_1 E dX2_gatherUnaries_74 ?_
        refine g_iload_8 E dX2_gatherUnaries_75 ?_
        refine g_lald E (kC_44 b) (sC_44 b) (by decide) h.1 dX2_gatherUnaries_77 ?_
        replace h := h.2
        refine g_lor E dX2_gatherUnaries_78 ?_
        refine g_nmL (fun v6 ev6 => ?_)
        replace h := h v6 ev6
        have cv6 : C64 v6 := by rw [ev6]; exact (c64_t _)
        refine g_lstore_9 E rfl (by decide) dX2_gatherUnaries_79 ?_
        refine g_iload_3 E dX2_gatherUnaries_81 ?_
        refine g_if_eq E c3 djX2_gatherUnaries_82 (fun hc => ?_) (fun hc => ?_)
        · replace h := h.1 hc
          refine g_aload_1 E dX2_gatherUnaries_95 ?_
          refine g_iload_7 E dX2_gatherUnaries_96 ?_
          refine g_lald E (kC_44 b) (sC_44 b) (by decide) h.1 dX2_gatherUnaries_98 ?_
          replace h := h.2
          refine g_lload_9 E dX2_gatherUnaries_99 ?_
          refine g_land E dX2_gatherUnaries_101 ?_
          exact (t_X2_gatherUnaries_c44_b102 E hr ih x2 x3 x4 x5 v2 (l_and (σ5 44 (v2.toNat)) v6) σ5 c2 c3 c4 c5 cv2 (c64_t _) hσ5 h).weak (w_k (w_k (w_k (w_k (w_k (w_k (w_d (w_k (w_d (w_d (w_d (w_d (w_d w_n)))))))))))))
        · replace h := h.2 hc
          refine g_aload_1 E dX2_gatherUnaries_85 ?_
          refine g_iload_7 E dX2_gatherUnaries_86 ?_
          refine g_lald E (kC_44 b) (sC_44 b) (by decide) h.1 dX2_gatherUnaries_88 ?_
          replace h := h.2
          refine g_lload_9 E dX2_gatherUnaries_89 ?_
          refine g_lor E dX2_gatherUnaries_91 ?_
          refine g_goto E djX2_gatherUnaries_92 ?_
          exact (t_X2_gatherUnaries_c44_b102 E hr ih x2 x3 x4 x5 v2 (l_or (σ5 44 (v2.toNat)) v6) σ5 c2 c3 c4 c5 cv2 (c64_t _) hσ5 h).weak (w_k (w_k (w_k (w_k (w_k (w_k (w_d (w_k (w_d (w_d (w_d (w_d (w_d w_n)))))))))))))
set_option maxHeartbeats 4000000 in
set_option maxRecDepth 100000 in
theorem t_X2_gatherUnaries_c44 (E : Ev p s m args meth c cX2_gatherUnaries 13 RX2 A0 D cA ad (NC b) Z) (hr : meth.sig.returnType = (some .boolean)) (x2 : Int) (x3 : Int) (σ : St) (c2 : C32 x2) (c3 : C32 x3) (hσ : CanS (shC b) (NC b) σ) (h : wp_X2_gatherUnaries_c44 x2 x3 σ Q) : G p l e (rmL 2 0 0) s m args below meth c 13 A0 D cA ad (shC b) (NC b) 0 0 (MQ below (QIc D cA ad (shC b) (NC b) Q A0) args s 0 0 A0) σ 0 [some (.ref (ad 41)), some (.ref (ad 44)), some (vI x2), some (vI x3), none, none, none, none, none, none, none, none, none] [] := by
  unfold wp_X2_gatherUnaries_c44 at h
  refine g_iconst E dX2_gatherUnaries_0 ?_
  refine g_istore_4 E rfl (by decide) dX2_gatherUnaries_1 ?_
  refine g_iconst E dX2_gatherUnaries_3 ?_
  refine g_istore_5 E rfl (by decide) dX2_gatherUnaries_4 ?_
  exact (t_X2_gatherUnaries_c44_l6 E hr bigN x2 x3 0 0 σ c2 c3 cl_0 cl_0 hσ h).weak (w_k (w_k (w_k (w_k (w_k (w_k (w_d (w_d (w_d (w_d (w_d (w_d (w_d w_n)))))))))))))
end
theorem m_X2_gatherUnaries_c44 {Z : (Nat → Nat) × (Nat → Nat)} {l : Launch} {D : va_G} {cA : Nat → ClassId} {ad : Nat → Nat} {b : Bool} {x2 x3 : Int} {σ : St} {Q : Int → St → Prop} (hA : AdOk (NC b) ad) (c2 : C32 x2) (c3 : C32 x3) (hσ : CanS (shC b) (NC b) σ) (h : wp_X2_gatherUnaries_c44 x2 x3 σ Q) : KtI Z l D cA ad (shC b) (NC b) yX2_gatherUnaries cX2_gatherUnaries 13 (some .boolean) 2 [.ref (ad 41), .ref (ad 44), vI x2, vI x3] σ Q :=
  KtI.of my_X2_gatherUnaries hA [some (.ref (ad 41)), some (.ref (ad 44)), some (vI x2), some (vI x3), none, none, none, none, none, none, none, none, none] (Nat.le_of_ble_eq_true rfl) rfl (fun p e s m args below meth c A0 E hr => t_X2_gatherUnaries_c44 E hr x2 x3 σ c2 c3 hσ h)
theorem dX2_gather_0 : Dc cX2_gather 0 (.iconst 0) 1 1 := ⟨by decide +kernel, rfl⟩
theorem dX2_gather_1 : Dc cX2_gather 1 (.istore_n 3) 1 2 := ⟨by decide +kernel, rfl⟩
theorem dX2_gather_2 : Dc cX2_gather 2 (.iload_n 3) 1 3 := ⟨by decide +kernel, rfl⟩
theorem dX2_gather_3 : Dc cX2_gather 3 (.aload_n 0) 1 4 := ⟨by decide +kernel, rfl⟩
theorem dX2_gather_4 : Dc cX2_gather 4 (.getfield 15) 3 7 := ⟨by decide +kernel, rfl⟩
theorem dX2_gather_7 : Dc cX2_gather 7 (.getfield 48) 3 10 := ⟨by decide +kernel, rfl⟩
theorem djX2_gather_10 : Dj cX2_gather 10 (.if_icmp .ge 81) 3 13 81 91 := ⟨by decide +kernel, rfl, by decide⟩
theorem dX2_gather_13 : Dc cX2_gather 13 (.iload_n 3) 1 14 := ⟨by decide +kernel, rfl⟩
theorem dX2_gather_14 : Dc cX2_gather 14 (.bipush 12) 2 16 := ⟨by decide +kernel, rfl⟩
theorem dX2_gather_16 : Dc cX2_gather 16 (.imul) 1 17 := ⟨by decide +kernel, rfl⟩
theorem dX2_gather_17 : Dc cX2_gather 17 (.istore 4) 2 19 := ⟨by decide +kernel, rfl⟩
theorem dX2_gather_19 : Dc cX2_gather 19 (.iload 4) 2 21 := ⟨by decide +kernel, rfl⟩
theorem dX2_gather_21 : Dc cX2_gather 21 (.istore 5) 2 23 := ⟨by decide +kernel, rfl⟩
theorem dX2_gather_23 : Dc cX2_gather 23 (.iload 5) 2 25 := ⟨by decide +kernel, rfl⟩
theorem dX2_gather_25 : Dc cX2_gather 25 (.iload 4) 2 27 := ⟨by decide +kernel, rfl⟩
theorem dX2_gather_27 : Dc cX2_gather 27 (.bipush 12) 2 29 := ⟨by decide +kernel, rfl⟩
theorem dX2_gather_29 : Dc cX2_gather 29 (.iadd) 1 30 := ⟨by decide +kernel, rfl⟩
theorem djX2_gather_30 : Dj cX2_gather 30 (.if_icmp .ge 21) 3 33 21 51 := ⟨by decide +kernel, rfl, by decide⟩
theorem dX2_gather_33 : Dc cX2_gather 33 (.aload_n 1) 1 34 := ⟨by decide +kernel, rfl⟩
theorem dX2_gather_34 : Dc cX2_gather 34 (.iload 5) 2 36 := ⟨by decide +kernel, rfl⟩
theorem dX2_gather_36 : Dc cX2_gather 36 (.aload_n 0) 1 37 := ⟨by decide +kernel, rfl⟩
theorem dX2_gather_37 : Dc cX2_gather 37 (.aload_n 1) 1 38 := ⟨by decide +kernel, rfl⟩
theorem dX2_gather_38 : Dc cX2_gather 38 (.iload 5) 2 40 := ⟨by decide +kernel, rfl⟩
theorem dX2_gather_40 : Dc cX2_gather 40 (.iload_n 2) 1 41 := ⟨by decide +kernel, rfl⟩
theorem dX2_gather_41 : Dc cX2_gather 41 (.invokevirtual 130) 3 44 := ⟨by decide +kernel, rfl⟩
theorem dX2_gather_44 : Dc cX2_gather 44 (.lastore) 1 45 := ⟨by decide +kernel, rfl⟩
theorem dX2_gather_45 : Dc cX2_gather 45 (.iinc 5 1) 3 48 := ⟨by decide +kernel, rfl⟩
theorem djX2_gather_48 : Dj cX2_gather 48 (.goto (-25)) 3 51 (-25) 23 := ⟨by decide +kernel, rfl, by decide⟩
theorem dX2_gather_51 : Dc cX2_gather 51 (.iconst 1) 1 52 := ⟨by decide +kernel, rfl⟩
theorem dX2_gather_52 : Dc cX2_gather 52 (.istore 5) 2 54 := ⟨by decide +kernel, rfl⟩
theorem dX2_gather_54 : Dc cX2_gather 54 (.iconst 0) 1 55 := ⟨by decide +kernel, rfl⟩
theorem dX2_gather_55 : Dc cX2_gather 55 (.istore 6) 2 57 := ⟨by decide +kernel, rfl⟩
theorem dX2_gather_57 : Dc cX2_gather 57 (.iload 6) 2 59 := ⟨by decide +kernel, rfl⟩
theorem dX2_gather_59 : Dc cX2_gather 59 (.bipush 12) 2 61 := ⟨by decide +kernel, rfl⟩
theorem djX2_gather_61 : Dj cX2_gather 61 (.if_icmp .gt 24) 3 64 24 85 := ⟨by decide +kernel, rfl, by decide⟩
theorem dX2_gather_64 : Dc cX2_gather 64 (.iload 5) 2 66 := ⟨by decide +kernel, rfl⟩
theorem djX2_gather_66 : Dj cX2_gather 66 (.ifCond .eq 19) 3 69 19 85 := ⟨by decide +kernel, rfl, by decide⟩
theorem dX2_gather_69 : Dc cX2_gather 69 (.aload_n 0) 1 70 := ⟨by decide +kernel, rfl⟩
theorem dX2_gather_70 : Dc cX2_gather 70 (.aload_n 1) 1 71 := ⟨by decide +kernel, rfl⟩
theorem dX2_gather_71 : Dc cX2_gather 71 (.iload 4) 2 73 := ⟨by decide +kernel, rfl⟩
theorem dX2_gather_73 : Dc cX2_gather 73 (.iload_n 2) 1 74 := ⟨by decide +kernel, rfl⟩
theorem dX2_gather_74 : Dc cX2_gather 74 (.invokevirtual 134) 3 77 := ⟨by decide +kernel, rfl⟩
theorem dX2_gather_77 : Dc cX2_gather 77 (.istore 5) 2 79 := ⟨by decide +kernel, rfl⟩
theorem dX2_gather_79 : Dc cX2_gather 79 (.iinc 6 1) 3 82 := ⟨by decide +kernel, rfl⟩
theorem djX2_gather_82 : Dj cX2_gather 82 (.goto (-25)) 3 85 (-25) 57 := ⟨by decide +kernel, rfl, by decide⟩
theorem dX2_gather_85 : Dc cX2_gather 85 (.iinc 3 1) 3 88 := ⟨by decide +kernel, rfl⟩
theorem djX2_gather_88 : Dj cX2_gather 88 (.goto (-86)) 3 91 (-86) 2 := ⟨by decide +kernel, rfl, by decide⟩
theorem dX2_gather_91 : Dc cX2_gather 91 (.return_) 1 92 := ⟨by decide +kernel, rfl⟩
section
variable {p : Program} {l : Launch} {e : Env} {s : State} {m : MethodId} {args : Array Value} {below : List Frame} {meth : Method} {c : Code} {A0 : Nat → Prop} {D : va_G} {cA : Nat → ClassId} {ad : Nat → Nat} {Z : (Nat → Nat) × (Nat → Nat)} {Q : Int → St → Prop} {b : Bool}
set_option maxHeartbeats 4000000 in
set_option maxRecDepth 100000 in
theorem t_X2_gather_c44_b85 (E : Ev p s m args meth c cX2_gather 7 RX2 A0 D cA ad (NC b) Z) (hr : meth.sig.returnType = none) {K2 : Int → Int → St → Prop} (hK2 : ∀ (x2 : Int) (x3 : Int) (σ : St), C32 x2 → C32 x3 → CanS (shC b) (NC b) σ → K2 x2 x3 σ → G p l e (rmL 4 0 0) s m args below meth c 7 A0 D cA ad (shC b) (NC b) 0 0 (MQ below (QVc D cA ad (shC b) (NC b) Q A0) args s 0 0 A0) σ 2 [some (.ref (ad 41)), some (.ref (ad 44)), some (vI x2), some (vI x3), none, none, none] []) (x2 : Int) (x3 : Int) (σ : St) (c2 : C32 x2) (c3 : C32 x3) (hσ : CanS (shC b) (NC b) σ) (h : wp_X2_gather_c44_b85 Q K2 x2 x3 σ) : G p l e (rmL 4 0 0) s m args below meth c 7 A0 D cA ad (shC b) (NC b) 0 0 (MQ below (QVc D cA ad (shC b) (NC b) Q A0) args s 0 0 A0) σ 85 [some (.ref (ad 41)), some (.ref (ad 44)), some (vI x2), some (vI x3), none, none, none] [] := by
  unfold wp_X2_gather_c44_b85 at h
  refine g_iinc_3 E rfl (by decide) dX2_gather_85 (fun v9 ev9 => ?_)
  replace h := h v9 ev9
  have cv9 : C32 v9 := by rw [ev9]; exact c32_w _
  refine g_goto E djX2_gather_88 ?_
  exact (hK2 x2 v9 σ c2 cv9 hσ h).weak (w_k (w_k (w_k (w_k (w_d (w_d (w_d w_n)))))))
set_option maxHeartbeats 4000000 in
set_option maxRecDepth 100000 in
theorem t_X2_gather_c44_l57 (E : Ev p s m args meth c cX2_gather 7 RX2 A0 D cA ad (NC b) Z) (hr : meth.sig.returnType = none) {K2 : Int → Int → St → Prop} (hK2 : ∀ (x2 : Int) (x3 : Int) (σ : St), C32 x2 → C32 x3 → CanS (shC b) (NC b) σ → K2 x2 x3 σ → G p l e (rmL 4 0 0) s m args below meth c 7 A0 D cA ad (shC b) (NC b) 0 0 (MQ below (QVc D cA ad (shC b) (NC b) Q A0) args s 0 0 A0) σ 2 [some (.ref (ad 41)), some (.ref (ad 44)), some (vI x2), some (vI x3), none, none, none] []) : ∀ (n : Nat) (x2 : Int) (x3 : Int) (x4 : Int) (x5 : Int) (x6 : Int) (σ : St), C32 x2 → C32 x3 → C32 x4 → C32 x5 → C32 x6 → CanS (shC b) (NC b) σ → wp_X2_gather_c44_l57 Q K2 n x2 x3 x4 x5 x6 σ → G p l e (rmL 4 0 0) s m args below meth c 7 A0 D cA ad (shC b) (NC b) 0 0 (MQ below (QVc D cA ad (shC b) (NC b) Q A0) args s 0 0 A0) σ 57 [some (.ref (ad 41)), some (.ref (ad 44)), some (vI x2), some (vI x3), some (vI x4), some (vI x5), some (vI x6)] [] := by
  intro n
  induction n with
  | zero => intro _ _ _ _ _ _ _ _ _ _ _ _ h; exact h.elim
  | succ n ih =>
    intro x2 x3 x4 x5 x6 σ c2 c3 c4 c5 c6 hσ h
    unfold wp_X2_gather_c44_l57 at h
    refine g_iload_6 E dX2_gather_57 ?_
    refine g_bipush E (by decide) dX2_gather_59 ?_
    refine g_icmp_gt E c6 cl_12 djX2_gather_61 (fun hc => ?_) (fun hc => ?_)
    · replace h := h.1 hc
      exact (t_X2_gather_c44_b85 E hr hK2 x2 x3 σ c2 c3 hσ h).weak (w_k (w_k (w_k (w_k (w_d (w_d (w_d w_n)))))))
    · replace h := h.2 hc
      refine g_iload_5 E dX2_gather_64 ?_
      refine g_if_eq E c5 djX2_gather_66 (fun hc => ?_) (fun hc => ?_)
      · replace h := h.1 hc
        exact (t_X2_gather_c44_b85 E hr hK2 x2 x3 σ c2 c3 hσ h).weak (w_k (w_k (w_k (w_k (w_d (w_d (w_d w_n)))))))
      · replace h := h.2 hc
        refine g_aload_0 E dX2_gather_69 ?_
        refine g_aload_1 E dX2_gather_70 ?_
        refine g_iload_4 E dX2_gather_71 ?_
        refine g_iload_2 E dX2_gather_73 ?_
        refine g_callvI E my_X2_gatherUnaries mi_X2_gatherUnaries msel_X2_gatherUnaries ml_RX2_134 (rm_ok (by decide) (by decide)) ⟨Nat.zero_le _, Nat.zero_le _⟩ (kC_41 b) (sC_41 b) rfl (m_X2_gatherUnaries_c44 E.2.2.1 c4 c2 hσ h) rfl rfl (Nat.le_of_ble_eq_true rfl) dX2_gather_74 (fun r6 σ7 cr6 hσ7 h => ?_)
        refine g_istore_5 E rfl (by decide) dX2_gather_77 ?_
        refine g_iinc_6 E rfl (by decide) dX2_gather_79 (fun v8 ev8 => ?_)
        replace h := h v8 ev8
        have cv8 : C32 v8 := by rw [ev8]; exact c32_w _
        refine g_goto E djX2_gather_82 ?_
        exact (ih x2 x3 x4 r6 v8 σ7 c2 c3 c4 cr6 cv8 hσ7 h).weak (w_k (w_k (w_k (w_k (w_k (w_k (w_k w_n)))))))
set_option maxHeartbeats 4000000 in
set_option maxRecDepth 100000 in
theorem t_X2_gather_c44_l23 (E : Ev p s m args meth c cX2_gather 7 RX2 A0 D cA ad (NC b) Z) (hr : meth.sig.returnType = none) {K2 : Int → Int → St → Prop} (hK2 : ∀ (x2 : Int) (x3 : Int) (σ : St), C32 x2 → C32 x3 → CanS (shC b) (NC b) σ → K2 x2 x3 σ → G p l e (rmL 4 0 0) s m args below meth c 7 A0 D cA ad (shC b) (NC b) 0 0 (MQ below (QVc D cA ad (shC b) (NC b) Q A0) args s 0 0 A0) σ 2 [some (.ref (ad 41)), some (.ref (ad 44)), some (vI x2), some (vI x3), none, none, none] []) : ∀ (n : Nat) (x2 : Int) (x3 : Int) (x4 : Int) (x5 : Int) (σ : St), C32 x2 → C32 x3 → C32 x4 → C32 x5 → CanS (shC b) (NC b) σ → wp_X2_gather_c44_l23 Q K2 n x2 x3 x4 x5 σ → G p l e (rmL 4 0 0) s m args below meth c 7 A0 D cA ad (shC b) (NC b) 0 0 (MQ below (QVc D cA ad (shC b) (NC b) Q A0) args s 0 0 A0) σ 23 [some (.ref (ad 41)), some (.ref (ad 44)), some (vI x2), some (vI x3), some (vI x4), some (vI x5), none] [] := by
  intro n
  induction n with
  | zero => intro _ _ _ _ _ _ _ _ _ _ h; exact h.elim
  | succ n ih =>
    intro x2 x3 x4 x5 σ c2 c3 c4 c5 hσ h
    unfold wp_X2_gather_c44_l23 at h
    refine g_iload_5 E dX2_gather_23 ?_
    refine g_iload_4 E dX2_gather_25 ?_
    refine g_bipush E (by decide) dX2_gather_27 ?_
    refine g_iadd E dX2_gather_29 ?_
    refine g_icmp_ge E c5 (c32_w _) djX2_gather_30 (fun hc => ?_) (fun hc => ?_)
    · replace h := h.1 hc
      refine g_iconst E dX2_gather_51 ?_
      refine g_istore_5 E rfl (by decide) dX2_gather_52 ?_
      refine g_iconst E dX2_gather_54 ?_
      refine g_istore_6 E rfl (by decide) dX2_gather_55 ?_
      exact (t_X2_gather_c44_l57 E hr hK2 bigN x2 x3 x4 1 0 σ c2 c3 c4 cl_1 cl_0 hσ h).weak (w_k (w_k (w_k (w_k (w_k (w_k (w_k w_n)))))))
    · replace h := h.2 hc
      refine g_aload_1 E dX2_gather_33 ?_
      refine g_iload_5 E dX2_gather_34 ?_
      refine g_aload_0 E dX2_gather_36 ?_
      refine g_aload_1 E dX2_gather_37 ?_
      refine g_iload_5 E dX2_gather_38 ?_
      refine g_iload_2 E dX2_gather_40 ?_
      refine g_callvL E my_X2_gatherCases mi_X2_gatherCases msel_X2_gatherCases ml_RX2_130 (rm_ok (by decide) (by decide)) ⟨Nat.zero_le _, Nat.zero_le _⟩ (kC_41 b) (sC_41 b) rfl (m_X2_gatherCases_c44 E.2.2.1 c5 c2 hσ h) rfl rfl (Nat.le_of_ble_eq_true rfl) dX2_gather_41 (fun r2 σ3 cr2 hσ3 h => ?_)
      refine g_last E (kC_44 b) (sC_44 b) (by decide) h.1 dX2_gather_44 (g_nmS (fun σ4 eσ4 => ?_))
      replace h := h.2 σ4 eσ4
      have hσ4 : CanS (shC b) (NC b) σ4 := by rw [eσ4]; exact wC_44 hσ3 cr2
      refine g_iinc_5 E rfl (by decide) dX2_gather_45 (fun v5 ev5 => ?_)
      replace h := h v5 ev5
      have cv5 : C32 v5 := by rw [ev5]; exact c32_w _
      refine g_goto E djX2_gather_48 ?_
      exact (ih x2 x3 x4 v5 σ4 c2 c3 c4 cv5 hσ4 h).weak (w_k (w_k (w_k (w_k (w_k (w_k (w_d w_n)))))))
set_option maxHeartbeats 4000000 in
set_option maxRecDepth 100000 in
theorem t_X2_gather_c44_l2 (E : Ev p s m args meth c cX2_gather 7 RX2 A0 D cA ad (NC b) Z) (hr : meth.sig.returnType = none) : ∀ (n : Nat) (x2 : Int) (x3 : Int) (σ : St), C32 x2 → C32 x3 → CanS (shC b) (NC b) σ → wp_X2_gather_c44_l2 Q n x2 x3 σ → G p l e (rmL 4 0 0) s m args below meth c 7 A0 D cA ad (shC b) (NC b) 0 0 (MQ below (QVc D cA ad (shC b) (NC b) Q A0) args s 0 0 A0) σ 2 [some (.ref (ad 41)), some (.ref (ad 44)), some (vI x2), some (vI x3), none, none, none] [] := by
  intro n
  induction n with
  | zero => intro _ _ _ _ _ _ h; exact h.elim
  | succ n ih =>
    intro x2 x3 σ c2 c3 hσ h
    unfold wp_X2_gather_c44_l2 at h
    refine g_iload_3 E dX2_gather_2 ?_
    refine g_aload_0 E dX2_gather_3 ?_
    refine g_getR E fl_RX2_15 (kC_41 b) (sC_41 b) rfl dX2_gather_4 ?_
    refine g_getI E fl_RX2_48 (kC_24 b) (sC_24 b) rfl dX2_gather_7 ?_
    refine g_icmp_ge E c3 (fC_24_3 hσ) djX2_gather_10 (fun hc => ?_) (fun hc => ?_)
    · replace h := h.1 hc
      exact g_vret E hr h hσ dX2_gather_91
    · replace h := h.2 hc
      refine g_iload_3 E dX2_gather_13 ?_
      refine g_bipush E (by decide) dX2_gather_14 ?_
      refine g_imul E dX2_gather_16 ?_
      refine g_nmI (fun v1 ev1 => ?_)
      replace h := h v1 ev1
      have cv1 : C32 v1 := by rw [ev1]; exact (c32_w _)
      refine g_istore_4 E rfl (by decide) dX2_gather_17 ?_
      refine g_iload_4 E dX2_gather_19 ?_
      refine g_istore_5 E rfl (by decide) dX2_gather_21 ?_
      exact (t_X2_gather_c44_l23 E hr ih bigN x2 x3 v1 v1 σ c2 c3 cv1 cv1 hσ h).weak (w_k (w_k (w_k (w_k (w_k (w_k (w_d w_n)))))))
set_option maxHeartbeats 4000000 in
set_option maxRecDepth 100000 in
theorem t_X2_gather_c44 (E : Ev p s m args meth c cX2_gather 7 RX2 A0 D cA ad (NC b) Z) (hr : meth.sig.returnType = none) (x2 : Int) (σ : St) (c2 : C32 x2) (hσ : CanS (shC b) (NC b) σ) (h : wp_X2_gather_c44 x2 σ Q) : G p l e (rmL 4 0 0) s m args below meth c 7 A0 D cA ad (shC b) (NC b) 0 0 (MQ below (QVc D cA ad (shC b) (NC b) Q A0) args s 0 0 A0) σ 0 [some (.ref (ad 41)), some (.ref (ad 44)), some (vI x2), none, none, none, none] [] := by
  unfold wp_X2_gather_c44 at h
  refine g_iconst E dX2_gather_0 ?_
  refine g_istore_3 E rfl (by decide) dX2_gather_1 ?_
  exact (t_X2_gather_c44_l2 E hr bigN x2 0 σ c2 cl_0 hσ h).weak (w_k (w_k (w_k (w_k (w_d (w_d (w_d w_n)))))))
end
theorem m_X2_gather_c44 {Z : (Nat → Nat) × (Nat → Nat)} {l : Launch} {D : va_G} {cA : Nat → ClassId} {ad : Nat → Nat} {b : Bool} {x2 : Int} {σ : St} {Q : Int → St → Prop} (hA : AdOk (NC b) ad) (c2 : C32 x2) (hσ : CanS (shC b) (NC b) σ) (h : wp_X2_gather_c44 x2 σ Q) : KtV Z l D cA ad (shC b) (NC b) yX2_gather cX2_gather 7 none 4 [.ref (ad 41), .ref (ad 44), vI x2] σ Q :=
  KtV.of my_X2_gather hA [some (.ref (ad 41)), some (.ref (ad 44)), some (vI x2), none, none, none, none] (Nat.le_of_ble_eq_true rfl) rfl (fun p e s m args below meth c A0 E hr => t_X2_gather_c44 E hr x2 σ c2 hσ h)
theorem dX2_inEach_0 : Dc cX2_inEach 0 (.aload_n 0) 1 1 := ⟨by decide +kernel, rfl⟩
theorem dX2_inEach_1 : Dc cX2_inEach 1 (.getfield 19) 3 4 := ⟨by decide +kernel, rfl⟩
theorem dX2_inEach_4 : Dc cX2_inEach 4 (.invokevirtual 43) 3 7 := ⟨by decide +kernel, rfl⟩
theorem dX2_inEach_7 : Dc cX2_inEach 7 (.aload_n 0) 1 8 := ⟨by decide +kernel, rfl⟩
theorem dX2_inEach_8 : Dc cX2_inEach 8 (.getfield 40) 3 11 := ⟨by decide +kernel, rfl⟩
theorem djX2_inEach_11 : Dj cX2_inEach 11 (.ifCond .ne 17) 3 14 17 28 := ⟨by decide +kernel, rfl, by decide⟩
theorem dX2_inEach_14 : Dc cX2_inEach 14 (.aload_n 0) 1 15 := ⟨by decide +kernel, rfl⟩
theorem dX2_inEach_15 : Dc cX2_inEach 15 (.iconst 1) 1 16 := ⟨by decide +kernel, rfl⟩
theorem dX2_inEach_16 : Dc cX2_inEach 16 (.putfield 40) 3 19 := ⟨by decide +kernel, rfl⟩
theorem dX2_inEach_19 : Dc cX2_inEach 19 (.aload_n 0) 1 20 := ⟨by decide +kernel, rfl⟩
theorem dX2_inEach_20 : Dc cX2_inEach 20 (.aload_n 0) 1 21 := ⟨by decide +kernel, rfl⟩
theorem dX2_inEach_21 : Dc cX2_inEach 21 (.getfield 30) 3 24 := ⟨by decide +kernel, rfl⟩
theorem dX2_inEach_24 : Dc cX2_inEach 24 (.iconst 0) 1 25 := ⟨by decide +kernel, rfl⟩
theorem dX2_inEach_25 : Dc cX2_inEach 25 (.invokevirtual 126) 3 28 := ⟨by decide +kernel, rfl⟩
theorem dX2_inEach_28 : Dc cX2_inEach 28 (.aload_n 0) 1 29 := ⟨by decide +kernel, rfl⟩
theorem dX2_inEach_29 : Dc cX2_inEach 29 (.getfield 19) 3 32 := ⟨by decide +kernel, rfl⟩
theorem dX2_inEach_32 : Dc cX2_inEach 32 (.iload_n 1) 1 33 := ⟨by decide +kernel, rfl⟩
theorem dX2_inEach_33 : Dc cX2_inEach 33 (.invokevirtual 115) 3 36 := ⟨by decide +kernel, rfl⟩
theorem djX2_inEach_36 : Dj cX2_inEach 36 (.ifCond .eq 12) 3 39 12 48 := ⟨by decide +kernel, rfl, by decide⟩
theorem dX2_inEach_39 : Dc cX2_inEach 39 (.aload_n 0) 1 40 := ⟨by decide +kernel, rfl⟩
theorem dX2_inEach_40 : Dc cX2_inEach 40 (.getfield 30) 3 43 := ⟨by decide +kernel, rfl⟩
theorem dX2_inEach_43 : Dc cX2_inEach 43 (.iload_n 1) 1 44 := ⟨by decide +kernel, rfl⟩
theorem dX2_inEach_44 : Dc cX2_inEach 44 (.laload) 1 45 := ⟨by decide +kernel, rfl⟩
theorem djX2_inEach_45 : Dj cX2_inEach 45 (.goto 4) 3 48 4 49 := ⟨by decide +kernel, rfl, by decide⟩
theorem dX2_inEach_48 : Dc cX2_inEach 48 (.lconst 0) 1 49 := ⟨by decide +kernel, rfl⟩
theorem dX2_inEach_49 : Dc cX2_inEach 49 (.lreturn) 1 50 := ⟨by decide +kernel, rfl⟩
section
variable {p : Program} {l : Launch} {e : Env} {s : State} {m : MethodId} {args : Array Value} {below : List Frame} {meth : Method} {c : Code} {A0 : Nat → Prop} {D : va_G} {cA : Nat → ClassId} {ad : Nat → Nat} {Z : (Nat → Nat) × (Nat → Nat)} {Q : Int → St → Prop} {b : Bool}
set_option maxHeartbeats 4000000 in
set_option maxRecDepth 100000 in
theorem t_X2_inEach_b28 (E : Ev p s m args meth c cX2_inEach 2 RX2 A0 D cA ad (NC b) Z) (hr : meth.sig.returnType = (some .long)) (x1 : Int) (σ : St) (c1 : C32 x1) (hσ : CanS (shC b) (NC b) σ) (h : wp_X2_inEach_b28 Q x1 σ) : G p l e (rmL 6 0 0) s m args below meth c 2 A0 D cA ad (shC b) (NC b) 0 0 (MQ below (QLc D cA ad (shC b) (NC b) Q A0) args s 0 0 A0) σ 28 [some (.ref (ad 41)), some (vI x1)] [] := by
  unfold wp_X2_inEach_b28 at h
  refine g_aload_0 E dX2_inEach_28 ?_
  refine g_getR E fl_RX2_19 (kC_41 b) (sC_41 b) rfl dX2_inEach_29 ?_
  refine g_iload_1 E dX2_inEach_32 ?_
  refine g_callvI E my_X1_has mi_X1_has msel_X1_has ml_RX2_115 (rm_ok (by decide) (by decide)) ⟨Nat.zero_le _, Nat.zero_le _⟩ (kC_36 b) (sC_36 b) rfl (m_X1_has E.2.2.1 c1 hσ h) rfl rfl (Nat.le_of_ble_eq_true rfl) dX2_inEach_33 (fun r6 σ7 cr6 hσ7 h => ?_)
  refine g_if_eq E cr6 djX2_inEach_36 (fun hc => ?_) (fun hc => ?_)
  · replace h := h.1 hc
    refine g_lconst (n := 0) E (by decide) dX2_inEach_48 ?_
    exact g_lret E hr cL_0 h hσ7 dX2_inEach_49
  · replace h := h.2 hc
    refine g_aload_0 E dX2_inEach_39 ?_
    refine g_getR E fl_RX2_30 (kC_41 b) (sC_41 b) rfl dX2_inEach_40 ?_
    refine g_iload_1 E dX2_inEach_43 ?_
    refine g_lald E (kC_44 b) (sC_44 b) (by decide) h.1 dX2_inEach_44 ?_
    replace h := h.2
    refine g_goto E djX2_inEach_45 ?_
    exact g_lret E hr (aC_44 hσ7 _) h hσ7 dX2_inEach_49
set_option maxHeartbeats 4000000 in
set_option maxRecDepth 100000 in
theorem t_X2_inEach (E : Ev p s m args meth c cX2_inEach 2 RX2 A0 D cA ad (NC b) Z) (hr : meth.sig.returnType = (some .long)) (x1 : Int) (σ : St) (c1 : C32 x1) (hσ : CanS (shC b) (NC b) σ) (h : wp_X2_inEach x1 σ Q) : G p l e (rmL 6 0 0) s m args below meth c 2 A0 D cA ad (shC b) (NC b) 0 0 (MQ below (QLc D cA ad (shC b) (NC b) Q A0) args s 0 0 A0) σ 0 [some (.ref (ad 41)), some (vI x1)] [] := by
  unfold wp_X2_inEach at h
  refine g_aload_0 E dX2_inEach_0 ?_
  refine g_getR E fl_RX2_19 (kC_41 b) (sC_41 b) rfl dX2_inEach_1 ?_
  refine g_callvV E my_X1_prepare mi_X1_prepare msel_X1_prepare ml_RX2_43 (rm_ok (by decide) (by decide)) ⟨Nat.zero_le _, Nat.zero_le _⟩ (kC_36 b) (sC_36 b) rfl (m_X1_prepare E.2.2.1 hσ h) rfl rfl (Nat.le_of_ble_eq_true rfl) dX2_inEach_4 (fun σ2 r1 hσ2 h => ?_)
  refine g_aload_0 E dX2_inEach_7 ?_
  refine g_getI E fl_RX2_40 (kC_41 b) (sC_41 b) rfl dX2_inEach_8 ?_
  refine g_if_ne E (fC_41_8 hσ2) djX2_inEach_11 (fun hc => ?_) (fun hc => ?_)
  · replace h := h.1 hc
    exact (t_X2_inEach_b28 E hr x1 σ2 c1 hσ2 h).weak (w_k (w_k w_n))
  · replace h := h.2 hc
    refine g_aload_0 E dX2_inEach_14 ?_
    refine g_iconst E dX2_inEach_15 ?_
    refine g_putZ E fl_RX2_40 rfl rfl (Or.inr rfl) (kC_41 b) (sC_41 b) rfl dX2_inEach_16 (g_nmS (fun σ3 eσ3 => ?_))
    replace h := h σ3 eσ3
    have hσ3 : CanS (shC b) (NC b) σ3 := by rw [eσ3]; exact uC_41_8 hσ2 cl_1
    refine g_aload_0 E dX2_inEach_19 ?_
    refine g_aload_0 E dX2_inEach_20 ?_
    refine g_getR E fl_RX2_30 (kC_41 b) (sC_41 b) rfl dX2_inEach_21 ?_
    refine g_iconst E dX2_inEach_24 ?_
    refine g_callvV E my_X2_gather mi_X2_gather msel_X2_gather ml_RX2_126 (rm_ok (by decide) (by decide)) ⟨Nat.zero_le _, Nat.zero_le _⟩ (kC_41 b) (sC_41 b) rfl (m_X2_gather_c44 E.2.2.1 cl_0 hσ3 h) rfl rfl (Nat.le_of_ble_eq_true rfl) dX2_inEach_25 (fun σ5 r4 hσ5 h => ?_)
    exact (t_X2_inEach_b28 E hr x1 σ5 c1 hσ5 h).weak (w_k (w_k w_n))
end
theorem m_X2_inEach {Z : (Nat → Nat) × (Nat → Nat)} {l : Launch} {D : va_G} {cA : Nat → ClassId} {ad : Nat → Nat} {b : Bool} {x1 : Int} {σ : St} {Q : Int → St → Prop} (hA : AdOk (NC b) ad) (c1 : C32 x1) (hσ : CanS (shC b) (NC b) σ) (h : wp_X2_inEach x1 σ Q) : KtL Z l D cA ad (shC b) (NC b) yX2_inEach cX2_inEach 2 (some .long) 6 [.ref (ad 41), vI x1] σ Q :=
  KtL.of my_X2_inEach hA [some (.ref (ad 41)), some (vI x1)] (Nat.le_of_ble_eq_true rfl) rfl (fun p e s m args below meth c A0 E hr => t_X2_inEach E hr x1 σ c1 hσ h)
section
variable {p : Program} {l : Launch} {e : Env} {s : State} {m : MethodId} {args : Array Value} {below : List Frame} {meth : Method} {c : Code} {A0 : Nat → Prop} {D : va_G} {cA : Nat → ClassId} {ad : Nat → Nat} {Z : (Nat → Nat) × (Nat → Nat)} {Q : Int → St → Prop} {b : Bool}
set_option maxHeartbeats 4000000 in
set_option maxRecDepth 100000 in
theorem t_X2_gatherCases_c43_b161 (E : Ev p s m args meth c cX2_gatherCases 9 RX2 A0 D cA ad (NC b) Z) (hr : meth.sig.returnType = (some .long)) {K23 : Int → Int → Int → Int → St → Prop} (hK23 : ∀ (x2 : Int) (x3 : Int) (x4 : Int) (x6 : Int) (σ : St), C32 x2 → C32 x3 → C64 x4 → C32 x6 → CanS (shC b) (NC b) σ → K23 x2 x3 x4 x6 σ → G p l e (rmL 3 0 0) s m args below meth c 9 A0 D cA ad (shC b) (NC b) 0 0 (MQ below (QLc D cA ad (shC b) (NC b) Q A0) args s 0 0 A0) σ 23 [some (.ref (ad 41)), some (.ref (ad 43)), some (vI x2), some (vI x3), some (vL x4), none, some (vI x6), none, none] []) (x2 : Int) (x3 : Int) (x4 : Int) (x6 : Int) (σ : St) (c2 : C32 x2) (c3 : C32 x3) (c4 : C64 x4) (c6 : C32 x6) (hσ : CanS (shC b) (NC b) σ) (h : wp_X2_gatherCases_c43_b161 Q K23 x2 x3 x4 x6 σ) : G p l e (rmL 3 0 0) s m args below meth c 9 A0 D cA ad (shC b) (NC b) 0 0 (MQ below (QLc D cA ad (shC b) (NC b) Q A0) args s 0 0 A0) σ 161 [some (.ref (ad 41)), some (.ref (ad 43)), some (vI x2), some (vI x3), some (vL x4), none, some (vI x6), none, none] [] := by
  unfold wp_X2_gatherCases_c43_b161 at h
  refine g_iinc_6 E rfl (by decide) dX2_gatherCases_161 (fun v10 ev10 => ?_)
  replace h := h v10 ev10
  have cv10 : C32 v10 := by rw [ev10]; exact c32_w _
  refine g_goto E djX2_gatherCases_164 ?_
  exact (hK23 x2 x3 x4 v10 σ c2 c3 c4 cv10 hσ h).weak (w_k (w_k (w_k (w_k (w_k (w_d (w_k (w_d (w_d w_n)))))))))
set_option maxHeartbeats 4000000 in
set_option maxRecDepth 100000 in
theorem t_X2_gatherCases_c43_b159 (E : Ev p s m args meth c cX2_gatherCases 9 RX2 A0 D cA ad (NC b) Z) (hr : meth.sig.returnType = (some .long)) {K23 : Int → Int → Int → Int → St → Prop} (hK23 : ∀ (x2 : Int) (x3 : Int) (x4 : Int) (x6 : Int) (σ : St), C32 x2 → C32 x3 → C64 x4 → C32 x6 → CanS (shC b) (NC b) σ → K23 x2 x3 x4 x6 σ → G p l e (rmL 3 0 0) s m args below meth c 9 A0 D cA ad (shC b) (NC b) 0 0 (MQ below (QLc D cA ad (shC b) (NC b) Q A0) args s 0 0 A0) σ 23 [some (.ref (ad 41)), some (.ref (ad 43)), some (vI x2), some (vI x3), some (vL x4), none, some (vI x6), none, none] []) (x2 : Int) (x3 : Int) (x6 : Int) (s0 : Int) (σ : St) (c2 : C32 x2) (c3 : C32 x3) (c6 : C32 x6) (cs0 : C64 s0) (hσ : CanS (shC b) (NC b) σ) (h : wp_X2_gatherCases_c43_b159 Q K23 x2 x3 x6 s0 σ) : G p l e (rmL 3 0 0) s m args below meth c 9 A0 D cA ad (shC b) (NC b) 0 0 (MQ below (QLc D cA ad (shC b) (NC b) Q A0) args s 0 0 A0) σ 159 [some (.ref (ad 41)), some (.ref (ad 43)), some (vI x2), some (vI x3), none, none, some (vI x6), none, none] [vL s0] := by
  unfold wp_X2_gatherCases_c43_b159 at h
  refine g_lstore_4 E rfl (by decide) dX2_gatherCases_159 ?_
  exact (t_X2_gatherCases_c43_b161 E hr hK23 x2 x3 s0 x6 σ c2 c3 cs0 c6 hσ h).weak (w_k (w_k (w_k (w_k (w_k (w_d (w_k (w_d (w_d w_n)))))))))
set_option maxHeartbeats 4000000 in
set_option maxRecDepth 100000 in
theorem t_X2_gatherCases_c43_b139 (E : Ev p s m args meth c cX2_gatherCases 9 RX2 A0 D cA ad (NC b) Z) (hr : meth.sig.returnType = (some .long)) {K23 : Int → Int → Int → Int → St → Prop} (hK23 : ∀ (x2 : Int) (x3 : Int) (x4 : Int) (x6 : Int) (σ : St), C32 x2 → C32 x3 → C64 x4 → C32 x6 → CanS (shC b) (NC b) σ → K23 x2 x3 x4 x6 σ → G p l e (rmL 3 0 0) s m args below meth c 9 A0 D cA ad (shC b) (NC b) 0 0 (MQ below (QLc D cA ad (shC b) (NC b) Q A0) args s 0 0 A0) σ 23 [some (.ref (ad 41)), some (.ref (ad 43)), some (vI x2), some (vI x3), some (vL x4), none, some (vI x6), none, none] []) (x2 : Int) (x3 : Int) (x4 : Int) (x6 : Int) (s0 : Int) (s1 : Int) (σ : St) (c2 : C32 x2) (c3 : C32 x3) (c4 : C64 x4) (c6 : C32 x6) (cs0 : C64 s0) (cs1 : C64 s1) (hσ : CanS (shC b) (NC b) σ) (h : wp_X2_gatherCases_c43_b139 Q K23 x2 x3 x4 x6 s0 s1 σ) : G p l e (rmL 3 0 0) s m args below meth c 9 A0 D cA ad (shC b) (NC b) 0 0 (MQ below (QLc D cA ad (shC b) (NC b) Q A0) args s 0 0 A0) σ 139 [some (.ref (ad 41)), some (.ref (ad 43)), some (vI x2), some (vI x3), some (vL x4), none, some (vI x6), none, none] [vL s0, vL s1] := by
  unfold wp_X2_gatherCases_c43_b139 at h
  refine g_lor E dX2_gatherCases_139 ?_
  refine g_nmL (fun v12 ev12 => ?_)
  replace h := h v12 ev12
  have cv12 : C64 v12 := by rw [ev12]; exact (c64_t _)
  refine g_lstore_7 E rfl (by decide) dX2_gatherCases_140 ?_
  refine g_iload_3 E dX2_gatherCases_142 ?_
  refine g_if_eq E c3 djX2_gatherCases_143 (fun hc => ?_) (fun hc => ?_)
  · replace h := h.1 hc
    refine g_lload_4 E dX2_gatherCases_154 ?_
    refine g_lload_7 E dX2_gatherCases_156 ?_
    refine g_land E dX2_gatherCases_158 ?_
    exact (t_X2_gatherCases_c43_b159 E hr hK23 x2 x3 x6 (l_and x4 v12) σ c2 c3 c6 (c64_t _) hσ h).weak (w_k (w_k (w_k (w_k (w_d (w_d (w_k (w_d (w_d w_n)))))))))
  · replace h := h.2 hc
    refine g_lload_4 E dX2_gatherCases_146 ?_
    refine g_lload_7 E dX2_gatherCases_148 ?_
    refine g_lor E dX2_gatherCases_150 ?_
    refine g_goto E djX2_gatherCases_151 ?_
    exact (t_X2_gatherCases_c43_b159 E hr hK23 x2 x3 x6 (l_or x4 v12) σ c2 c3 c6 (c64_t _) hσ h).weak (w_k (w_k (w_k (w_k (w_d (w_d (w_k (w_d (w_d w_n)))))))))
set_option maxHeartbeats 4000000 in
set_option maxRecDepth 100000 in
theorem t_X2_gatherCases_c43_b105 (E : Ev p s m args meth c cX2_gatherCases 9 RX2 A0 D cA ad (NC b) Z) (hr : meth.sig.returnType = (some .long)) {K23 : Int → Int → Int → Int → St → Prop} (hK23 : ∀ (x2 : Int) (x3 : Int) (x4 : Int) (x6 : Int) (σ : St), C32 x2 → C32 x3 → C64 x4 → C32 x6 → CanS (shC b) (NC b) σ → K23 x2 x3 x4 x6 σ → G p l e (rmL 3 0 0) s m args below meth c 9 A0 D cA ad (shC b) (NC b) 0 0 (MQ below (QLc D cA ad (shC b) (NC b) Q A0) args s 0 0 A0) σ 23 [some (.ref (ad 41)), some (.ref (ad 43)), some (vI x2), some (vI x3), some (vL x4), none, some (vI x6), none, none] []) (x2 : Int) (x3 : Int) (x4 : Int) (x6 : Int) (s0 : Int) (s1 : Int) (σ : St) (c2 : C32 x2) (c3 : C32 x3) (c4 : C64 x4) (c6 : C32 x6) (cs0 : C64 s0) (cs1 : C64 s1) (hσ : CanS (shC b) (NC b) σ) (h : wp_X2_gatherCases_c43_b105 Q K23 x2 x3 x4 x6 s0 s1 σ) : G p l e (rmL 3 0 0) s m args below meth c 9 A0 D cA ad (shC b) (NC b) 0 0 (MQ below (QLc D cA ad (shC b) (NC b) Q A0) args s 0 0 A0) σ 105 [some (.ref (ad 41)), some (.ref (ad 43)), some (vI x2), some (vI x3), some (vL x4), none, some (vI x6), none, none] [vL s0, vL s1] := by
  unfold wp_X2_gatherCases_c43_b105 at h
  refine g_lor E dX2_gatherCases_105 ?_
  refine g_nmL (fun v11 ev11 => ?_)
  replace h := h v11 ev11
  have cv11 : C64 v11 := by rw [ev11]; exact (c64_t _)
  refine g_lstore_7 E rfl (by decide) dX2_gatherCases_106 ?_
  refine g_lload_7 E dX2_gatherCases_108 ?_
  refine g_aload_0 E dX2_gatherCases_110 ?_
  refine g_getR E fl_RX2_15 (kC_41 b) (sC_41 b) rfl dX2_gatherCases_111 ?_
  refine g_getR E fl_RX2_93 (kC_24 b) (sC_24 b) rfl dX2_gatherCases_114 ?_
  refine g_iload_6 E dX2_gatherCases_117 ?_
  refine g_iald E (kC_32 b) (sC_32 b) (by decide) h.1 dX2_gatherCases_119 ?_
  replace h := h.2
  refine g_if_ge E (aC_32 hσ _) djX2_gatherCases_120 (fun hc => ?_) (fun hc => ?_)
  · replace h := h.1 hc
    refine g_aload_1 E dX2_gatherCases_127 ?_
    refine g_aload_0 E dX2_gatherCases_128 ?_
    refine g_getR E fl_RX2_15 (kC_41 b) (sC_41 b) rfl dX2_gatherCases_129 ?_
    refine g_getR E fl_RX2_93 (kC_24 b) (sC_24 b) rfl dX2_gatherCases_132 ?_
    refine g_iload_6 E dX2_gatherCases_135 ?_
    refine g_iald E (kC_32 b) (sC_32 b) (by decide) h.1 dX2_gatherCases_137 ?_
    replace h := h.2
    refine g_lald E (kC_43 b) (sC_43 b) (by decide) h.1 dX2_gatherCases_138 ?_
    replace h := h.2
    exact (t_X2_gatherCases_c43_b139 E hr hK23 x2 x3 x4 x6 (σ 43 ((σ 32 (x6.toNat)).toNat)) v11 σ c2 c3 c4 c6 (aC_43 hσ _) cv11 hσ h).weak (w_k (w_k (w_k (w_k (w_k (w_d (w_k (w_d (w_d w_n)))))))))
  · replace h := h.2 hc
    refine g_lconst (n := 0) E (by decide) dX2_gatherCases_123 ?_
    refine g_goto E djX2_gatherCases_124 ?_
    exact (t_X2_gatherCases_c43_b139 E hr hK23 x2 x3 x4 x6 0 v11 σ c2 c3 c4 c6 cL_0 cv11 hσ h).weak (w_k (w_k (w_k (w_k (w_k (w_d (w_k (w_d (w_d w_n)))))))))
set_option maxHeartbeats 4000000 in
set_option maxRecDepth 100000 in
theorem t_X2_gatherCases_c43_l23 (E : Ev p s m args meth c cX2_gatherCases 9 RX2 A0 D cA ad (NC b) Z) (hr : meth.sig.returnType = (some .long)) : ∀ (n : Nat) (x2 : Int) (x3 : Int) (x4 : Int) (x6 : Int) (σ : St), C32 x2 → C32 x3 → C64 x4 → C32 x6 → CanS (shC b) (NC b) σ → wp_X2_gatherCases_c43_l23 Q n x2 x3 x4 x6 σ → G p l e (rmL 3 0 0) s m args below meth c 9 A0 D cA ad (shC b) (NC b) 0 0 (MQ below (QLc D cA ad (shC b) (NC b) Q A0) args s 0 0 A0) σ 23 [some (.ref (ad 41)), some (.ref (ad 43)), some (vI x2), some (vI x3), some (vL x4), none, some (vI x6), none, none] [] := by
  intro n
  induction n with
  | zero => intro _ _ _ _ _ _ _ _ _ _ h; exact h.elim
  | succ n ih =>
    intro x2 x3 x4 x6 σ c2 c3 c4 c6 hσ h
    unfold wp_X2_gatherCases_c43_l23 at h
    refine g_iload_6 E dX2_gatherCases_23 ?_
    refine g_aload_0 E dX2_gatherCases_25 ?_
    refine g_getR E fl_RX2_15 (kC_41 b) (sC_41 b) rfl dX2_gatherCases_26 ?_
    refine g_iload_2 E dX2_gatherCases_29 ?_
    refine g_callvI E my_X0_caseEnd mi_X0_caseEnd msel_X0_caseEnd ml_RX2_79 (rm_ok (by decide) (by decide)) ⟨Nat.zero_le _, Nat.zero_le _⟩ (kC_24 b) (sC_24 b) rfl (m_X0_caseEnd E.2.2.1 c2 hσ h) rfl rfl (Nat.le_of_ble_eq_true rfl) dX2_gatherCases_30 (fun r3 σ4 cr3 hσ4 h => ?_)
    refine g_icmp_ge E c6 cr3 djX2_gatherCases_33 (fun hc => ?_) (fun hc => ?_)
    · replace h := h.1 hc
      refine g_lload_4 E dX2_gatherCases_167 ?_
      exact g_lret E hr c4 h hσ4 dX2_gatherCases_169
    · replace h := h.2 hc
      refine g_aload_0 E dX2_gatherCases_36 ?_
      refine g_getR E fl_RX2_15 (kC_41 b) (sC_41 b) rfl dX2_gatherCases_37 ?_
      refine g_iload_6 E dX2_gatherCases_40 ?_
      refine g_callvI E my_X0_goesOn mi_X0_goesOn msel_X0_goesOn ml_RX2_82 (rm_ok (by decide) (by decide)) ⟨Nat.zero_le _, Nat.zero_le _⟩ (kC_24 b) (sC_24 b) rfl (m_X0_goesOn E.2.2.1 c6 hσ4 h) rfl rfl (Nat.le_of_ble_eq_true rfl) dX2_gatherCases_42 (fun r5 σ6 cr5 hσ6 h => ?_)
      refine g_if_ne E cr5 djX2_gatherCases_45 (fun hc => ?_) (fun hc => ?_)
      · replace h := h.1 hc
        exact (t_X2_gatherCases_c43_b161 E hr ih x2 x3 x4 x6 σ6 c2 c3 c4 c6 hσ6 h).weak (w_k (w_k (w_k (w_k (w_k (w_d (w_k (w_d (w_d w_n)))))))))
      · replace h := h.2 hc
        refine g_aload_0 E dX2_gatherCases_48 ?_
        refine g_getR E fl_RX2_19 (kC_41 b) (sC_41 b) rfl dX2_gatherCases_49 ?_
        refine g_iload_6 E dX2_gatherCases_52 ?_
        refine g_callvI E my_X1_isFull mi_X1_isFull msel_X1_isFull ml_RX2_86 (rm_ok (by decide) (by decide)) ⟨Nat.zero_le _, Nat.zero_le _⟩ (kC_36 b) (sC_36 b) rfl (m_X1_isFull E.2.2.1 c6 hσ6 h) rfl rfl (Nat.le_of_ble_eq_true rfl) dX2_gatherCases_54 (fun r7 σ8 cr7 hσ8 h => ?_)
        refine g_if_eq E cr7 djX2_gatherCases_57 (fun hc => ?_) (fun hc => ?_)
        · replace h := h.1 hc
          exact (t_X2_gatherCases_c43_b161 E hr ih x2 x3 x4 x6 σ8 c2 c3 c4 c6 hσ8 h).weak (w_k (w_k (w_k (w_k (w_k (w_d (w_k (w_d (w_d w_n)))))))))
        · replace h := h.2 hc
          refine g_lconst (n := 1) E (by decide) dX2_gatherCases_60 ?_
          refine g_aload_0 E dX2_gatherCases_61 ?_
          refine g_getR E fl_RX2_15 (kC_41 b) (sC_41 b) rfl dX2_gatherCases_62 ?_
          refine g_getR E fl_RX2_140 (kC_24 b) (sC_24 b) rfl dX2_gatherCases_65 ?_
          refine g_iload_6 E dX2_gatherCases_68 ?_
          refine g_iald E (kC_29 b) (sC_29 b) (by decide) h.1 dX2_gatherCases_70 ?_
          replace h := h.2
          refine g_lshl E dX2_gatherCases_71 ?_
          refine g_nmL (fun v9 ev9 => ?_)
          replace h := h v9 ev9
          have cv9 : C64 v9 := by rw [ev9]; exact (c64_t _)
          refine g_lstore_7 E rfl (by decide) dX2_gatherCases_72 ?_
          refine g_lload_7 E dX2_gatherCases_74 ?_
          refine g_aload_0 E dX2_gatherCases_76 ?_
          refine g_getR E fl_RX2_15 (kC_41 b) (sC_41 b) rfl dX2_gatherCases_77 ?_
          refine g_getR E fl_RX2_89 (kC_24 b) (sC_24 b) rfl dX2_gatherCases_80 ?_
          refine g_iload_6 E dX2_gatherCases_83 ?_
          refine g_iald E (kC_31 b) (sC_31 b) (by decide) h.1 dX2_gatherCases_85 ?_
          replace h := h.2
          refine g_if_ge E (aC_31 hσ8 _) djX2_gatherCases_86 (fun hc => ?_) (fun hc => ?_)
          · replace h := h.1 hc
            refine g_aload_1 E dX2_gatherCases_93 ?_
            refine g_aload_0 E dX2_gatherCases_94 ?_
            refine g_getR E fl_RX2_15 (kC_41 b) (sC_41 b) rfl dX2_gatherCases_95 ?_
            refine g_getR E fl_RX2_89 (kC_24 b) (sC_24 b) rfl dX2_gatherCases_98 ?_
            refine g_iload_6 E dX2_gatherCases_101 ?_
            refine g_iald E (kC_31 b) (sC_31 b) (by decide) h.1 dX2_gatherCases_103 ?_
            replace h := h.2
            refine g_lald E (kC_43 b) (sC_43 b) (by decide) h.1 dX2_gatherCases_104 ?_
            replace h := h.2
            exact (t_X2_gatherCases_c43_b105 E hr ih x2 x3 x4 x6 (σ8 43 ((σ8 31 (x6.toNat)).toNat)) v9 σ8 c2 c3 c4 c6 (aC_43 hσ8 _) cv9 hσ8 h).weak (w_k (w_k (w_k (w_k (w_k (w_d (w_k (w_d (w_d w_n)))))))))
          · replace h := h.2 hc
            refine g_lconst (n := 0) E (by decide) dX2_gatherCases_89 ?_
            refine g_goto E djX2_gatherCases_90 ?_
            exact (t_X2_gatherCases_c43_b105 E hr ih x2 x3 x4 x6 0 v9 σ8 c2 c3 c4 c6 cL_0 cv9 hσ8 h).weak (w_k (w_k (w_k (w_k (w_k (w_d (w_k (w_d (w_d w_n)))))))))
set_option maxHeartbeats 4000000 in
set_option maxRecDepth 100000 in
theorem t_X2_gatherCases_c43_b11 (E : Ev p s m args meth c cX2_gatherCases 9 RX2 A0 D cA ad (NC b) Z) (hr : meth.sig.returnType = (some .long)) (x2 : Int) (x3 : Int) (s0 : Int) (σ : St) (c2 : C32 x2) (c3 : C32 x3) (cs0 : C64 s0) (hσ : CanS (shC b) (NC b) σ) (h : wp_X2_gatherCases_c43_b11 Q x2 x3 s0 σ) : G p l e (rmL 3 0 0) s m args below meth c 9 A0 D cA ad (shC b) (NC b) 0 0 (MQ below (QLc D cA ad (shC b) (NC b) Q A0) args s 0 0 A0) σ 11 [some (.ref (ad 41)), some (.ref (ad 43)), some (vI x2), some (vI x3), none, none, none, none, none] [vL s0] := by
  unfold wp_X2_gatherCases_c43_b11 at h
  refine g_lstore_4 E rfl (by decide) dX2_gatherCases_11 ?_
  refine g_aload_0 E dX2_gatherCases_13 ?_
  refine g_getR E fl_RX2_15 (kC_41 b) (sC_41 b) rfl dX2_gatherCases_14 ?_
  refine g_iload_2 E dX2_gatherCases_17 ?_
  refine g_callvI E my_X0_caseStart mi_X0_caseStart msel_X0_caseStart ml_RX2_76 (rm_ok (by decide) (by decide)) ⟨Nat.zero_le _, Nat.zero_le _⟩ (kC_24 b) (sC_24 b) rfl (m_X0_caseStart E.2.2.1 c2 hσ h) rfl rfl (Nat.le_of_ble_eq_true rfl) dX2_gatherCases_18 (fun r1 σ2 cr1 hσ2 h => ?_)
  refine g_istore_6 E rfl (by decide) dX2_gatherCases_21 ?_
  exact (t_X2_gatherCases_c43_l23 E hr bigN x2 x3 s0 r1 σ2 c2 c3 cs0 cr1 hσ2 h).weak (w_k (w_k (w_k (w_k (w_k (w_d (w_k (w_d (w_d w_n)))))))))
set_option maxHeartbeats 4000000 in
set_option maxRecDepth 100000 in
theorem t_X2_gatherCases_c43 (E : Ev p s m args meth c cX2_gatherCases 9 RX2 A0 D cA ad (NC b) Z) (hr : meth.sig.returnType = (some .long)) (x2 : Int) (x3 : Int) (σ : St) (c2 : C32 x2) (c3 : C32 x3) (hσ : CanS (shC b) (NC b) σ) (h : wp_X2_gatherCases_c43 x2 x3 σ Q) : G p l e (rmL 3 0 0) s m args below meth c 9 A0 D cA ad (shC b) (NC b) 0 0 (MQ below (QLc D cA ad (shC b) (NC b) Q A0) args s 0 0 A0) σ 0 [some (.ref (ad 41)), some (.ref (ad 43)), some (vI x2), some (vI x3), none, none, none, none, none] [] := by
  unfold wp_X2_gatherCases_c43 at h
  refine g_iload_3 E dX2_gatherCases_0 ?_
  refine g_if_eq E c3 djX2_gatherCases_1 (fun hc => ?_) (fun hc => ?_)
  · replace h := h.1 hc
    refine g_ldc2 (n := (-1)) E wc_RX2_138 dX2_gatherCases_8 ?_
    exact (t_X2_gatherCases_c43_b11 E hr x2 x3 ((-1)) σ c2 c3 cL_m1 hσ h).weak (w_k (w_k (w_k (w_k (w_d (w_d (w_d (w_d (w_d w_n)))))))))
  · replace h := h.2 hc
    refine g_lconst (n := 0) E (by decide) dX2_gatherCases_4 ?_
    refine g_goto E djX2_gatherCases_5 ?_
    exact (t_X2_gatherCases_c43_b11 E hr x2 x3 0 σ c2 c3 cL_0 hσ h).weak (w_k (w_k (w_k (w_k (w_d (w_d (w_d (w_d (w_d w_n)))))))))
end
theorem m_X2_gatherCases_c43 {Z : (Nat → Nat) × (Nat → Nat)} {l : Launch} {D : va_G} {cA : Nat → ClassId} {ad : Nat → Nat} {b : Bool} {x2 x3 : Int} {σ : St} {Q : Int → St → Prop} (hA : AdOk (NC b) ad) (c2 : C32 x2) (c3 : C32 x3) (hσ : CanS (shC b) (NC b) σ) (h : wp_X2_gatherCases_c43 x2 x3 σ Q) : KtL Z l D cA ad (shC b) (NC b) yX2_gatherCases cX2_gatherCases 9 (some .long) 3 [.ref (ad 41), .ref (ad 43), vI x2, vI x3] σ Q :=
  KtL.of my_X2_gatherCases hA [some (.ref (ad 41)), some (.ref (ad 43)), some (vI x2), some (vI x3), none, none, none, none, none] (Nat.le_of_ble_eq_true rfl) rfl (fun p e s m args below meth c A0 E hr => t_X2_gatherCases_c43 E hr x2 x3 σ c2 c3 hσ h)
section
variable {p : Program} {l : Launch} {e : Env} {s : State} {m : MethodId} {args : Array Value} {below : List Frame} {meth : Method} {c : Code} {A0 : Nat → Prop} {D : va_G} {cA : Nat → ClassId} {ad : Nat → Nat} {Z : (Nat → Nat) × (Nat → Nat)} {Q : Int → St → Prop} {b : Bool}
set_option maxHeartbeats 4000000 in
set_option maxRecDepth 100000 in
theorem t_X2_gatherUnaries_c43_b130 (E : Ev p s m args meth c cX2_gatherUnaries 13 RX2 A0 D cA ad (NC b) Z) (hr : meth.sig.returnType = (some .boolean)) {K6 : Int → Int → Int → Int → St → Prop} (hK6 : ∀ (x2 : Int) (x3 : Int) (x4 : Int) (x5 : Int) (σ : St), C32 x2 → C32 x3 → C32 x4 → C32 x5 → CanS (shC b) (NC b) σ → K6 x2 x3 x4 x5 σ → G p l e (rmL 2 0 0) s m args below meth c 13 A0 D cA ad (shC b) (NC b) 0 0 (MQ below (QIc D cA ad (shC b) (NC b) Q A0) args s 0 0 A0) σ 6 [some (.ref (ad 41)), some (.ref (ad 43)), some (vI x2), some (vI x3), some (vI x4), some (vI x5), none, none, none, none, none, none, none] []) (x2 : Int) (x3 : Int) (x4 : Int) (x5 : Int) (σ : St) (c2 : C32 x2) (c3 : C32 x3) (c4 : C32 x4) (c5 : C32 x5) (hσ : CanS (shC b) (NC b) σ) (h : wp_X2_gatherUnaries_c43_b130 Q K6 x2 x3 x4 x5 σ) : G p l e (rmL 2 0 0) s m args below meth c 13 A0 D cA ad (shC b) (NC b) 0 0 (MQ below (QIc D cA ad (shC b) (NC b) Q A0) args s 0 0 A0) σ 130 [some (.ref (ad 41)), some (.ref (ad 43)), some (vI x2), some (vI x3), some (vI x4), some (vI x5), none, none, none, none, none, none, none] [] := by
  unfold wp_X2_gatherUnaries_c43_b130 at h
  refine g_iinc_5 E rfl (by decide) dX2_gatherUnaries_130 (fun v7 ev7 => ?_)
  replace h := h v7 ev7
  have cv7 : C32 v7 := by rw [ev7]; exact c32_w _
  refine g_goto E djX2_gatherUnaries_133 ?_
  exact (hK6 x2 x3 x4 v7 σ c2 c3 c4 cv7 hσ h).weak (w_k (w_k (w_k (w_k (w_k (w_k (w_d (w_d (w_d (w_d (w_d (w_d (w_d w_n)))))))))))))
set_option maxHeartbeats 4000000 in
set_option maxRecDepth 100000 in
theorem t_X2_gatherUnaries_c43_b121 (E : Ev p s m args meth c cX2_gatherUnaries 13 RX2 A0 D cA ad (NC b) Z) (hr : meth.sig.returnType = (some .boolean)) {K6 : Int → Int → Int → Int → St → Prop} (hK6 : ∀ (x2 : Int) (x3 : Int) (x4 : Int) (x5 : Int) (σ : St), C32 x2 → C32 x3 → C32 x4 → C32 x5 → CanS (shC b) (NC b) σ → K6 x2 x3 x4 x5 σ → G p l e (rmL 2 0 0) s m args below meth c 13 A0 D cA ad (shC b) (NC b) 0 0 (MQ below (QIc D cA ad (shC b) (NC b) Q A0) args s 0 0 A0) σ 6 [some (.ref (ad 41)), some (.ref (ad 43)), some (vI x2), some (vI x3), some (vI x4), some (vI x5), none, none, none, none, none, none, none] []) (x2 : Int) (x3 : Int) (x5 : Int) (x7 : Int) (x11 : Int) (s0 : Int) (s1 : Int) (σ : St) (c2 : C32 x2) (c3 : C32 x3) (c5 : C32 x5) (c7 : C32 x7) (c11 : C64 x11) (cs0 : C32 s0) (cs1 : C32 s1) (hσ : CanS (shC b) (NC b) σ) (h : wp_X2_gatherUnaries_c43_b121 Q K6 x2 x3 x5 x7 x11 s0 s1 σ) : G p l e (rmL 2 0 0) s m args below meth c 13 A0 D cA ad (shC b) (NC b) 0 0 (MQ below (QIc D cA ad (shC b) (NC b) Q A0) args s 0 0 A0) σ 121 [some (.ref (ad 41)), some (.ref (ad 43)), some (vI x2), some (vI x3), none, some (vI x5), none, some (vI x7), none, none, none, some (vL x11), none] [vI s0, vI s1] := by
  unfold wp_X2_gatherUnaries_c43_b121 at h
  refine g_ior E dX2_gatherUnaries_121 ?_
  refine g_nmI (fun v8 ev8 => ?_)
  replace h := h v8 ev8
  have cv8 : C32 v8 := by rw [ev8]; exact (c32_t _)
  refine g_istore_4 E rfl (by decide) dX2_gatherUnaries_122 ?_
  refine g_aload_1 E dX2_gatherUnaries_124 ?_
  refine g_iload_7 E dX2_gatherUnaries_125 ?_
  refine g_lload_11 E dX2_gatherUnaries_127 ?_
  refine g_last E (kC_43 b) (sC_43 b) (by decide) h.1 dX2_gatherUnaries_129 (g_nmS (fun σ9 eσ9 => ?_))
  replace h := h.2 σ9 eσ9
  have hσ9 : CanS (shC b) (NC b) σ9 := by rw [eσ9]; exact wC_43 hσ c11
  exact (t_X2_gatherUnaries_c43_b130 E hr hK6 x2 x3 v8 x5 σ9 c2 c3 cv8 c5 hσ9 h).weak (w_k (w_k (w_k (w_k (w_k (w_k (w_d (w_d (w_d (w_d (w_d (w_d (w_d w_n)))))))))))))
set_option maxHeartbeats 4000000 in
set_option maxRecDepth 100000 in
theorem t_X2_gatherUnaries_c43_b102 (E : Ev p s m args meth c cX2_gatherUnaries 13 RX2 A0 D cA ad (NC b) Z) (hr : meth.sig.returnType = (some .boolean)) {K6 : Int → Int → Int → Int → St → Prop} (hK6 : ∀ (x2 : Int) (x3 : Int) (x4 : Int) (x5 : Int) (σ : St), C32 x2 → C32 x3 → C32 x4 → C32 x5 → CanS (shC b) (NC b) σ → K6 x2 x3 x4 x5 σ → G p l e (rmL 2 0 0) s m args below meth c 13 A0 D cA ad (shC b) (NC b) 0 0 (MQ below (QIc D cA ad (shC b) (NC b) Q A0) args s 0 0 A0) σ 6 [some (.ref (ad 41)), some (.ref (ad 43)), some (vI x2), some (vI x3), some (vI x4), some (vI x5), none, none, none, none, none, none, none] []) (x2 : Int) (x3 : Int) (x4 : Int) (x5 : Int) (x7 : Int) (s0 : Int) (σ : St) (c2 : C32 x2) (c3 : C32 x3) (c4 : C32 x4) (c5 : C32 x5) (c7 : C32 x7) (cs0 : C64 s0) (hσ : CanS (shC b) (NC b) σ) (h : wp_X2_gatherUnaries_c43_b102 Q K6 x2 x3 x4 x5 x7 s0 σ) : G p l e (rmL 2 0 0) s m args below meth c 13 A0 D cA ad (shC b) (NC b) 0 0 (MQ below (QIc D cA ad (shC b) (NC b) Q A0) args s 0 0 A0) σ 102 [some (.ref (ad 41)), some (.ref (ad 43)), some (vI x2), some (vI x3), some (vI x4), some (vI x5), none, some (vI x7), none, none, none, none, none] [vL s0] := by
  unfold wp_X2_gatherUnaries_c43_b102 at h
  refine g_lstore_11 E rfl (by decide) dX2_gatherUnaries_102 ?_
  refine g_iload_4 E dX2_gatherUnaries_104 ?_
  refine g_lload_11 E dX2_gatherUnaries_106 ?_
  refine g_aload_1 E dX2_gatherUnaries_108 ?_
  refine g_iload_7 E dX2_gatherUnaries_109 ?_
  refine g_lald E (kC_43 b) (sC_43 b) (by decide) h.1 dX2_gatherUnaries_111 ?_
  replace h := h.2
  refine g_lcmp_eq E cs0 (aC_43 hσ _) dX2_gatherUnaries_112 djX2_gatherUnaries_113 (fun hc => ?_) (fun hc => ?_)
  · replace h := h.1 hc
    refine g_iconst E dX2_gatherUnaries_120 ?_
    exact (t_X2_gatherUnaries_c43_b121 E hr hK6 x2 x3 x5 x7 s0 0 x4 σ c2 c3 c5 c7 cs0 cl_0 c4 hσ h).weak (w_k (w_k (w_k (w_k (w_d (w_k (w_d (w_k (w_d (w_d (w_d (w_k (w_d w_n)))))))))))))
  · replace h := h.2 hc
    refine g_iconst E dX2_gatherUnaries_116 ?_
    refine g_goto E djX2_gatherUnaries_117 ?_
    exact (t_X2_gatherUnaries_c43_b121 E hr hK6 x2 x3 x5 x7 s0 1 x4 σ c2 c3 c5 c7 cs0 cl_1 c4 hσ h).weak (w_k (w_k (w_k (w_k (w_d (w_k (w_d (w_k (w_d (w_d (w_d (w_k (w_d w_n)))))))))))))
set_option maxHeartbeats 4000000 in
set_option maxRecDepth 100000 in
theorem t_X2_gatherUnaries_c43_l6 (E : Ev p s m args meth c cX2_gatherUnaries 13 RX2 A0 D cA ad (NC b) Z) (hr : meth.sig.returnType = (some .boolean)) : ∀ (n : Nat) (x2 : Int) (x3 : Int) (x4 : Int) (x5 : Int) (σ : St), C32 x2 → C32 x3 → C32 x4 → C32 x5 → CanS (shC b) (NC b) σ → wp_X2_gatherUnaries_c43_l6 Q n x2 x3 x4 x5 σ → G p l e (rmL 2 0 0) s m args below meth c 13 A0 D cA ad (shC b) (NC b) 0 0 (MQ below (QIc D cA ad (shC b) (NC b) Q A0) args s 0 0 A0) σ 6 [some (.ref (ad 41)), some (.ref (ad 43)), some (vI x2), some (vI x3), some (vI x4), some (vI x5), none, none, none, none, none, none, none] [] := by
  intro n
  induction n with
  | zero => intro _ _ _ _ _ _ _ _ _ _ h; exact h.elim
  | succ n ih =>
    intro x2 x3 x4 x5 σ c2 c3 c4 c5 hσ h
    unfold wp_X2_gatherUnaries_c43_l6 at h
    refine g_iload_5 E dX2_gatherUnaries_6 ?_
    refine g_aload_0 E dX2_gatherUnaries_8 ?_
    refine g_getR E fl_RX2_15 (kC_41 b) (sC_41 b) rfl dX2_gatherUnaries_9 ?_
    refine g_getI E fl_RX2_103 (kC_24 b) (sC_24 b) rfl dX2_gatherUnaries_12 ?_
    refine g_icmp_ge E c5 (fC_24_12 hσ) djX2_gatherUnaries_15 (fun hc => ?_) (fun hc => ?_)
    · replace h := h.1 hc
      refine g_iload_4 E dX2_gatherUnaries_136 ?_
      exact g_zret E hr h.1 h.2 hσ dX2_gatherUnaries_138
    · replace h := h.2 hc
      refine g_aload_0 E dX2_gatherUnaries_18 ?_
      refine g_getR E fl_RX2_15 (kC_41 b) (sC_41 b) rfl dX2_gatherUnaries_19 ?_
      refine g_getR E fl_RX2_106 (kC_24 b) (sC_24 b) rfl dX2_gatherUnaries_22 ?_
      refine g_iload_5 E dX2_gatherUnaries_25 ?_
      refine g_iald E (kC_33 b) (sC_33 b) (by decide) h.1 dX2_gatherUnaries_27 ?_
      replace h := h.2
      refine g_nmI (fun v1 ev1 => ?_)
      replace h := h v1 ev1
      have cv1 : C32 v1 := by rw [ev1]; exact (aC_33 hσ _)
      refine g_istore_6 E rfl (by decide) dX2_gatherUnaries_28 ?_
      refine g_iload_2 E dX2_gatherUnaries_30 ?_
      refine g_aload_0 E dX2_gatherUnaries_31 ?_
      refine g_getR E fl_RX2_9 (kC_41 b) (sC_41 b) rfl dX2_gatherUnaries_32 ?_
      refine g_getR E fl_RX2_109 (kC_14 b) (sC_14 b) rfl dX2_gatherUnaries_35 ?_
      refine g_iload_6 E dX2_gatherUnaries_38 ?_
      refine g_iald E (kC_15 b) (sC_15 b) (by decide) h.1 dX2_gatherUnaries_40 ?_
      replace h := h.2
      refine g_iadd E dX2_gatherUnaries_41 ?_
      refine g_nmI (fun v2 ev2 => ?_)
      replace h := h v2 ev2
      have cv2 : C32 v2 := by rw [ev2]; exact (c32_w _)
      refine g_istore_7 E rfl (by decide) dX2_gatherUnaries_42 ?_
      refine g_iload_2 E dX2_gatherUnaries_44 ?_
      refine g_aload_0 E dX2_gatherUnaries_45 ?_
      refine g_getR E fl_RX2_9 (kC_41 b) (sC_41 b) rfl dX2_gatherUnaries_46 ?_
      refine g_getR E fl_RX2_114 (kC_14 b) (sC_14 b) rfl dX2_gatherUnaries_49 ?_
      refine g_iload_6 E dX2_gatherUnaries_52 ?_
      refine g_iald E (kC_16 b) (sC_16 b) (by decide) h.1 dX2_gatherUnaries_54 ?_
      replace h := h.2
      refine g_iadd E dX2_gatherUnaries_55 ?_
      refine g_nmI (fun v3 ev3 => ?_)
      replace h := h v3 ev3
      have cv3 : C32 v3 := by rw [ev3]; exact (c32_w _)
      refine g_istore_8 E rfl (by decide) dX2_gatherUnaries_56 ?_
      refine g_aload_0 E dX2_gatherUnaries_58 ?_
      refine g_getR E fl_RX2_19 (kC_41 b) (sC_41 b) rfl dX2_gatherUnaries_59 ?_
      refine g_iload_8 E dX2_gatherUnaries_62 ?_
      refine g_callvI E my_X1_has mi_X1_has msel_X1_has ml_RX2_115 (rm_ok (by decide) (by decide)) ⟨Nat.zero_le _, Nat.zero_le _⟩ (kC_36 b) (sC_36 b) rfl (m_X1_has E.2.2.1 cv3 hσ h) rfl rfl (Nat.le_of_ble_eq_true rfl) dX2_gatherUnaries_64 (fun r4 σ5 cr4 hσ5 h => ?_)
      refine g_if_eq E cr4 djX2_gatherUnaries_67 (fun hc => ?_) (fun hc => ?_)
      · replace h := h.1 hc
        exact (t_X2_gatherUnaries_c43_b130 E hr ih x2 x3 x4 x5 σ5 c2 c3 c4 c5 hσ5 h).weak (w_k (w_k (w_k (w_k (w_k (w_k (w_d (w_d (w_d (w_d (w_d (w_d (w_d w_n)))))))))))))
      · replace h := h.2 hc
        refine g_lconst (n := 1) E (by decide) dX2_gatherUnaries_70 ?_
        refine g_iload_6 E dX2_gatherUnaries_71 ?_
        refine g_lshl E dX2_gatherUnaries_73 ?_
        refine g_aload_1 E dX2_gatherUnaries_74 ?_
        refine g_iload_8 E dX2_gatherUnaries_75 ?_
        refine g_lald E (kC_43 b) (sC_43 b) (by decide) h.1 dX2_gatherUnaries_77 ?_
        replace h := h.2
        refine g_lor E dX2_gatherUnaries_78 ?_
        refine g_nmL (fun v6 ev6 => ?_)
        replace h := h v6 ev6
        have cv6 : C64 v6 := by rw [ev6]; exact (c64_t _)
        refine g_lstore_9 E rfl (by decide) dX2_gatherUnaries_79 ?_
        refine g_iload_3 E dX2_gatherUnaries_81 ?_
        refine g_if_eq E c3 djX2_gatherUnaries_82 (fun hc => ?_) (fun hc => ?_)
        · replace h := h.1 hc
          refine g_aload_1 E dX2_gatherUnaries_95 ?_
          refine g_iload_7 E dX2_gatherUnaries_96 ?_
          refine g_lald E (kC_43 b) (sC_43 b) (by decide) h.1 dX2_gatherUnaries_98 ?_
          replace h := h.2
          refine g_lload_9 E dX2_gatherUnaries_99 ?_
          refine g_land E dX2_gatherUnaries_101 ?_
          exact (t_X2_gatherUnaries_c43_b102 E hr ih x2 x3 x4 x5 v2 (l_and (σ5 43 (v2.toNat)) v6) σ5 c2 c3 c4 c5 cv2 (c64_t _) hσ5 h).weak (w_k (w_k (w_k (w_k (w_k (w_k (w_d (w_k (w_d (w_d (w_d (w_d (w_d w_n)))))))))))))
        · replace h := h.2 hc
          refine g_aload_1 E dX2_gatherUnaries_85 ?_
          refine g_iload_7 E dX2_gatherUnaries_86 ?_
          refine g_lald E (kC_43 b) (sC_43 b) (by decide) h.1 dX2_gatherUnaries_88 ?_
          replace h := h.2
          refine g_lload_9 E dX2_gatherUnaries_89 ?_
          refine g_lor E dX2_gatherUnaries_91 ?_
          refine g_goto E djX2_gatherUnaries_92 ?_
          exact (t_X2_gatherUnaries_c43_b102 E hr ih x2 x3 x4 x5 v2 (l_or (σ5 43 (v2.toNat)) v6) σ5 c2 c3 c4 c5 cv2 (c64_t _) hσ5 h).weak (w_k (w_k (w_k (w_k (w_k (w_k (w_d (w_k (w_d (w_d (w_d (w_d (w_d w_n)))))))))))))
set_option maxHeartbeats 4000000 in
set_option maxRecDepth 100000 in
theorem t_X2_gatherUnaries_c43 (E : Ev p s m args meth c cX2_gatherUnaries 13 RX2 A0 D cA ad (NC b) Z) (hr : meth.sig.returnType = (some .boolean)) (x2 : Int) (x3 : Int) (σ : St) (c2 : C32 x2) (c3 : C32 x3) (hσ : CanS (shC b) (NC b) σ) (h : wp_X2_gatherUnaries_c43 x2 x3 σ Q) : G p l e (rmL 2 0 0) s m args below meth c 13 A0 D cA ad (shC b) (NC b) 0 0 (MQ below (QIc D cA ad (shC b) (NC b) Q A0) args s 0 0 A0) σ 0 [some (.ref (ad 41)), some (.ref (ad 43)), some (vI x2), some (vI x3), none, none, none, none, none, none, none, none, none] [] := by
  unfold wp_X2_gatherUnaries_c43 at h
  refine g_iconst E dX2_gatherUnaries_0 ?_
  refine g_istore_4 E rfl (by decide) dX2_gatherUnaries_1 ?_
  refine g_iconst E dX2_gatherUnaries_3 ?_
  refine g_istore_5 E rfl (by decide) dX2_gatherUnaries_4 ?_
  exact (t_X2_gatherUnaries_c43_l6 E hr bigN x2 x3 0 0 σ c2 c3 cl_0 cl_0 hσ h).weak (w_k (w_k (w_k (w_k (w_k (w_k (w_d (w_d (w_d (w_d (w_d (w_d (w_d w_n)))))))))))))
end
theorem m_X2_gatherUnaries_c43 {Z : (Nat → Nat) × (Nat → Nat)} {l : Launch} {D : va_G} {cA : Nat → ClassId} {ad : Nat → Nat} {b : Bool} {x2 x3 : Int} {σ : St} {Q : Int → St → Prop} (hA : AdOk (NC b) ad) (c2 : C32 x2) (c3 : C32 x3) (hσ : CanS (shC b) (NC b) σ) (h : wp_X2_gatherUnaries_c43 x2 x3 σ Q) : KtI Z l D cA ad (shC b) (NC b) yX2_gatherUnaries cX2_gatherUnaries 13 (some .boolean) 2 [.ref (ad 41), .ref (ad 43), vI x2, vI x3] σ Q :=
  KtI.of my_X2_gatherUnaries hA [some (.ref (ad 41)), some (.ref (ad 43)), some (vI x2), some (vI x3), none, none, none, none, none, none, none, none, none] (Nat.le_of_ble_eq_true rfl) rfl (fun p e s m args below meth c A0 E hr => t_X2_gatherUnaries_c43 E hr x2 x3 σ c2 c3 hσ h)
section
variable {p : Program} {l : Launch} {e : Env} {s : State} {m : MethodId} {args : Array Value} {below : List Frame} {meth : Method} {c : Code} {A0 : Nat → Prop} {D : va_G} {cA : Nat → ClassId} {ad : Nat → Nat} {Z : (Nat → Nat) × (Nat → Nat)} {Q : Int → St → Prop} {b : Bool}
set_option maxHeartbeats 4000000 in
set_option maxRecDepth 100000 in
theorem t_X2_gather_c43_b85 (E : Ev p s m args meth c cX2_gather 7 RX2 A0 D cA ad (NC b) Z) (hr : meth.sig.returnType = none) {K2 : Int → Int → St → Prop} (hK2 : ∀ (x2 : Int) (x3 : Int) (σ : St), C32 x2 → C32 x3 → CanS (shC b) (NC b) σ → K2 x2 x3 σ → G p l e (rmL 4 0 0) s m args below meth c 7 A0 D cA ad (shC b) (NC b) 0 0 (MQ below (QVc D cA ad (shC b) (NC b) Q A0) args s 0 0 A0) σ 2 [some (.ref (ad 41)), some (.ref (ad 43)), some (vI x2), some (vI x3), none, none, none] []) (x2 : Int) (x3 : Int) (σ : St) (c2 : C32 x2) (c3 : C32 x3) (hσ : CanS (shC b) (NC b) σ) (h : wp_X2_gather_c43_b85 Q K2 x2 x3 σ) : G p l e (rmL 4 0 0) s m args below meth c 7 A0 D cA ad (shC b) (NC b) 0 0 (MQ below (QVc D cA ad (shC b) (NC b) Q A0) args s 0 0 A0) σ 85 [some (.ref (ad 41)), some (.ref (ad 43)), some (vI x2), some (vI x3), none, none, none] [] := by
  unfold wp_X2_gather_c43_b85 at h
  refine g_iinc_3 E rfl (by decide) dX2_gather_85 (fun v9 ev9 => ?_)
  replace h := h v9 ev9
  have cv9 : C32 v9 := by rw [ev9]; exact c32_w _
  refine g_goto E djX2_gather_88 ?_
  exact (hK2 x2 v9 σ c2 cv9 hσ h).weak (w_k (w_k (w_k (w_k (w_d (w_d (w_d w_n)))))))
set_option maxHeartbeats 4000000 in
set_option maxRecDepth 100000 in
theorem t_X2_gather_c43_l57 (E : Ev p s m args meth c cX2_gather 7 RX2 A0 D cA ad (NC b) Z) (hr : meth.sig.returnType = none) {K2 : Int → Int → St → Prop} (hK2 : ∀ (x2 : Int) (x3 : Int) (σ : St), C32 x2 → C32 x3 → CanS (shC b) (NC b) σ → K2 x2 x3 σ → G p l e (rmL 4 0 0) s m args below meth c 7 A0 D cA ad (shC b) (NC b) 0 0 (MQ below (QVc D cA ad (shC b) (NC b) Q A0) args s 0 0 A0) σ 2 [some (.ref (ad 41)), some (.ref (ad 43)), some (vI x2), some (vI x3), none, none, none] []) : ∀ (n : Nat) (x2 : Int) (x3 : Int) (x4 : Int) (x5 : Int) (x6 : Int) (σ : St), C32 x2 → C32 x3 → C32 x4 → C32 x5 → C32 x6 → CanS (shC b) (NC b) σ → wp_X2_gather_c43_l57 Q K2 n x2 x3 x4 x5 x6 σ → G p l e (rmL 4 0 0) s m args below meth c 7 A0 D cA ad (shC b) (NC b) 0 0 (MQ below (QVc D cA ad (shC b) (NC b) Q A0) args s 0 0 A0) σ 57 [some (.ref (ad 41)), some (.ref (ad 43)), some (vI x2), some (vI x3), some (vI x4), some (vI x5), some (vI x6)] [] := by
  intro n
  induction n with
  | zero => intro _ _ _ _ _ _ _ _ _ _ _ _ h; exact h.elim
  | succ n ih =>
    intro x2 x3 x4 x5 x6 σ c2 c3 c4 c5 c6 hσ h
    unfold wp_X2_gather_c43_l57 at h
    refine g_iload_6 E dX2_gather_57 ?_
    refine g_bipush E (by decide) dX2_gather_59 ?_
    refine g_icmp_gt E c6 cl_12 djX2_gather_61 (fun hc => ?_) (fun hc => ?_)
    · replace h := h.1 hc
      exact (t_X2_gather_c43_b85 E hr hK2 x2 x3 σ c2 c3 hσ h).weak (w_k (w_k (w_k (w_k (w_d (w_d (w_d w_n)))))))
    · replace h := h.2 hc
      refine g_iload_5 E dX2_gather_64 ?_
      refine g_if_eq E c5 djX2_gather_66 (fun hc => ?_) (fun hc => ?_)
      · replace h := h.1 hc
        exact (t_X2_gather_c43_b85 E hr hK2 x2 x3 σ c2 c3 hσ h).weak (w_k (w_k (w_k (w_k (w_d (w_d (w_d w_n)))))))
      · replace h := h.2 hc
        refine g_aload_0 E dX2_gather_69 ?_
        refine g_aload_1 E dX2_gather_70 ?_
        refine g_iload_4 E dX2_gather_71 ?_
        refine g_iload_2 E dX2_gather_73 ?_
        refine g_callvI E my_X2_gatherUnaries mi_X2_gatherUnaries msel_X2_gatherUnaries ml_RX2_134 (rm_ok (by decide) (by decide)) ⟨Nat.zero_le _, Nat.zero_le _⟩ (kC_41 b) (sC_41 b) rfl (m_X2_gatherUnaries_c43 E.2.2.1 c4 c2 hσ h) rfl rfl (Nat.le_of_ble_eq_true rfl) dX2_gather_74 (fun r6 σ7 cr6 hσ7 h => ?_)
        refine g_istore_5 E rfl (by decide) dX2_gather_77 ?_
        refine g_iinc_6 E rfl (by decide) dX2_gather_79 (fun v8 ev8 => ?_)
        replace h := h v8 ev8
        have cv8 : C32 v8 := by rw [ev8]; exact c32_w _
        refine g_goto E djX2_gather_82 ?_
        exact (ih x2 x3 x4 r6 v8 σ7 c2 c3 c4 cr6 cv8 hσ7 h).weak (w_k (w_k (w_k (w_k (w_k (w_k (w_k w_n)))))))
set_option maxHeartbeats 4000000 in
set_option maxRecDepth 100000 in
theorem t_X2_gather_c43_l23 (E : Ev p s m args meth c cX2_gather 7 RX2 A0 D cA ad (NC b) Z) (hr : meth.sig.returnType = none) {K2 : Int → Int → St → Prop} (hK2 : ∀ (x2 : Int) (x3 : Int) (σ : St), C32 x2 → C32 x3 → CanS (shC b) (NC b) σ → K2 x2 x3 σ → G p l e (rmL 4 0 0) s m args below meth c 7 A0 D cA ad (shC b) (NC b) 0 0 (MQ below (QVc D cA ad (shC b) (NC b) Q A0) args s 0 0 A0) σ 2 [some (.ref (ad 41)), some (.ref (ad 43)), some (vI x2), some (vI x3), none, none, none] []) : ∀ (n : Nat) (x2 : Int) (x3 : Int) (x4 : Int) (x5 : Int) (σ : St), C32 x2 → C32 x3 → C32 x4 → C32 x5 → CanS (shC b) (NC b) σ → wp_X2_gather_c43_l23 Q K2 n x2 x3 x4 x5 σ → G p l e (rmL 4 0 0) s m args below meth c 7 A0 D cA ad (shC b) (NC b) 0 0 (MQ below (QVc D cA ad (shC b) (NC b) Q A0) args s 0 0 A0) σ 23 [some (.ref (ad 41)), some (.ref (ad 43)), some (vI x2), some (vI x3), some (vI x4), some (vI x5), none] [] := by
  intro n
  induction n with
  | zero => intro _ _ _ _ _ _ _ _ _ _ h; exact h.elim
  | succ n ih =>
    intro x2 x3 x4 x5 σ c2 c3 c4 c5 hσ h
    unfold wp_X2_gather_c43_l23 at h
    refine g_iload_5 E dX2_gather_23 ?_
    refine g_iload_4 E dX2_gather_25 ?_
    refine g_bipush E (by decide) dX2_gather_27 ?_
    refine g_iadd E dX2_gather_29 ?_
    refine g_icmp_ge E c5 (c32_w _) djX2_gather_30 (fun hc => ?_) (fun hc => ?_)
    · replace h := h.1 hc
      refine g_iconst E dX2_gather_51 ?_
      refine g_istore_5 E rfl (by decide) dX2_gather_52 ?_
      refine g_iconst E dX2_gather_54 ?_
      refine g_istore_6 E rfl (by decide) dX2_gather_55 ?_
      exact (t_X2_gather_c43_l57 E hr hK2 bigN x2 x3 x4 1 0 σ c2 c3 c4 cl_1 cl_0 hσ h).weak (w_k (w_k (w_k (w_k (w_k (w_k (w_k w_n)))))))
    · replace h := h.2 hc
      refine g_aload_1 E dX2_gather_33 ?_
      refine g_iload_5 E dX2_gather_34 ?_
      refine g_aload_0 E dX2_gather_36 ?_
      refine g_aload_1 E dX2_gather_37 ?_
      refine g_iload_5 E dX2_gather_38 ?_
      refine g_iload_2 E dX2_gather_40 ?_
      refine g_callvL E my_X2_gatherCases mi_X2_gatherCases msel_X2_gatherCases ml_RX2_130 (rm_ok (by decide) (by decide)) ⟨Nat.zero_le _, Nat.zero_le _⟩ (kC_41 b) (sC_41 b) rfl (m_X2_gatherCases_c43 E.2.2.1 c5 c2 hσ h) rfl rfl (Nat.le_of_ble_eq_true rfl) dX2_gather_41 (fun r2 σ3 cr2 hσ3 h => ?_)
      refine g_last E (kC_43 b) (sC_43 b) (by decide) h.1 dX2_gather_44 (g_nmS (fun σ4 eσ4 => ?_))
      replace h := h.2 σ4 eσ4
      have hσ4 : CanS (shC b) (NC b) σ4 := by rw [eσ4]; exact wC_43 hσ3 cr2
      refine g_iinc_5 E rfl (by decide) dX2_gather_45 (fun v5 ev5 => ?_)
      replace h := h v5 ev5
      have cv5 : C32 v5 := by rw [ev5]; exact c32_w _
      refine g_goto E djX2_gather_48 ?_
      exact (ih x2 x3 x4 v5 σ4 c2 c3 c4 cv5 hσ4 h).weak (w_k (w_k (w_k (w_k (w_k (w_k (w_d w_n)))))))
set_option maxHeartbeats 4000000 in
set_option maxRecDepth 100000 in
theorem t_X2_gather_c43_l2 (E : Ev p s m args meth c cX2_gather 7 RX2 A0 D cA ad (NC b) Z) (hr : meth.sig.returnType = none) : ∀ (n : Nat) (x2 : Int) (x3 : Int) (σ : St), C32 x2 → C32 x3 → CanS (shC b) (NC b) σ → wp_X2_gather_c43_l2 Q n x2 x3 σ → G p l e (rmL 4 0 0) s m args below meth c 7 A0 D cA ad (shC b) (NC b) 0 0 (MQ below (QVc D cA ad (shC b) (NC b) Q A0) args s 0 0 A0) σ 2 [some (.ref (ad 41)), some (.ref (ad 43)), some (vI x2), some (vI x3), none, none, none] [] := by
  intro n
  induction n with
  | zero => intro _ _ _ _ _ _ h; exact h.elim
  | succ n ih =>
    intro x2 x3 σ c2 c3 hσ h
    unfold wp_X2_gather_c43_l2 at h
    refine g_iload_3 E dX2_gather_2 ?_
    refine g_aload_0 E dX2_gather_3 ?_
    refine g_getR E fl_RX2_15 (kC_41 b) (sC_41 b) rfl dX2_gather_4 ?_
    refine g_getI E fl_RX2_48 (kC_24 b) (sC_24 b) rfl dX2_gather_7 ?_
    refine g_icmp_ge E c3 (fC_24_3 hσ) djX2_gather_10 (fun hc => ?_) (fun hc => ?_)
    · replace h := h.1 hc
      exact g_vret E hr h hσ dX2_gather_91
    · replace h := h.2 hc
      refine g_iload_3 E dX2_gather_13 ?_
      refine g_bipush E (by decide) dX2_gather_14 ?_
      refine g_imul E dX2_gather_16 ?_
      refine g_nmI (fun v1 ev1 => ?_)
      replace h := h v1 ev1
      have cv1 : C32 v1 := by rw [ev1]; exact (c32_w _)
      refine g_istore_4 E rfl (by decide) dX2_gather_17 ?_
      refine g_iload_4 E dX2_gather_19 ?_
      refine g_istore_5 E rfl (by decide) dX2_gather_21 ?_
      exact (t_X2_gather_c43_l23 E hr ih bigN x2 x3 v1 v1 σ c2 c3 cv1 cv1 hσ h).weak (w_k (w_k (w_k (w_k (w_k (w_k (w_d w_n)))))))
set_option maxHeartbeats 4000000 in
set_option maxRecDepth 100000 in
theorem t_X2_gather_c43 (E : Ev p s m args meth c cX2_gather 7 RX2 A0 D cA ad (NC b) Z) (hr : meth.sig.returnType = none) (x2 : Int) (σ : St) (c2 : C32 x2) (hσ : CanS (shC b) (NC b) σ) (h : wp_X2_gather_c43 x2 σ Q) : G p l e (rmL 4 0 0) s m args below meth c 7 A0 D cA ad (shC b) (NC b) 0 0 (MQ below (QVc D cA ad (shC b) (NC b) Q A0) args s 0 0 A0) σ 0 [some (.ref (ad 41)), some (.ref (ad 43)), some (vI x2), none, none, none, none] [] := by
  unfold wp_X2_gather_c43 at h
  refine g_iconst E dX2_gather_0 ?_
  refine g_istore_3 E rfl (by decide) dX2_gather_1 ?_
  exact (t_X2_gather_c43_l2 E hr bigN x2 0 σ c2 cl_0 hσ h).weak (w_k (w_k (w_k (w_k (w_d (w_d (w_d w_n)))))))
end
theorem m_X2_gather_c43 {Z : (Nat → Nat) × (Nat → Nat)} {l : Launch} {D : va_G} {cA : Nat → ClassId} {ad : Nat → Nat} {b : Bool} {x2 : Int} {σ : St} {Q : Int → St → Prop} (hA : AdOk (NC b) ad) (c2 : C32 x2) (hσ : CanS (shC b) (NC b) σ) (h : wp_X2_gather_c43 x2 σ Q) : KtV Z l D cA ad (shC b) (NC b) yX2_gather cX2_gather 7 none 4 [.ref (ad 41), .ref (ad 43), vI x2] σ Q :=
  KtV.of my_X2_gather hA [some (.ref (ad 41)), some (.ref (ad 43)), some (vI x2), none, none, none, none] (Nat.le_of_ble_eq_true rfl) rfl (fun p e s m args below meth c A0 E hr => t_X2_gather_c43 E hr x2 σ c2 hσ h)
theorem dX2_inSome_0 : Dc cX2_inSome 0 (.aload_n 0) 1 1 := ⟨by decide +kernel, rfl⟩
theorem dX2_inSome_1 : Dc cX2_inSome 1 (.getfield 19) 3 4 := ⟨by decide +kernel, rfl⟩
theorem dX2_inSome_4 : Dc cX2_inSome 4 (.invokevirtual 43) 3 7 := ⟨by decide +kernel, rfl⟩
theorem dX2_inSome_7 : Dc cX2_inSome 7 (.aload_n 0) 1 8 := ⟨by decide +kernel, rfl⟩
theorem dX2_inSome_8 : Dc cX2_inSome 8 (.getfield 37) 3 11 := ⟨by decide +kernel, rfl⟩
theorem djX2_inSome_11 : Dj cX2_inSome 11 (.ifCond .ne 17) 3 14 17 28 := ⟨by decide +kernel, rfl, by decide⟩
theorem dX2_inSome_14 : Dc cX2_inSome 14 (.aload_n 0) 1 15 := ⟨by decide +kernel, rfl⟩
theorem dX2_inSome_15 : Dc cX2_inSome 15 (.iconst 1) 1 16 := ⟨by decide +kernel, rfl⟩
theorem dX2_inSome_16 : Dc cX2_inSome 16 (.putfield 37) 3 19 := ⟨by decide +kernel, rfl⟩
theorem dX2_inSome_19 : Dc cX2_inSome 19 (.aload_n 0) 1 20 := ⟨by decide +kernel, rfl⟩
theorem dX2_inSome_20 : Dc cX2_inSome 20 (.aload_n 0) 1 21 := ⟨by decide +kernel, rfl⟩
theorem dX2_inSome_21 : Dc cX2_inSome 21 (.getfield 27) 3 24 := ⟨by decide +kernel, rfl⟩
theorem dX2_inSome_24 : Dc cX2_inSome 24 (.iconst 1) 1 25 := ⟨by decide +kernel, rfl⟩
theorem dX2_inSome_25 : Dc cX2_inSome 25 (.invokevirtual 126) 3 28 := ⟨by decide +kernel, rfl⟩
theorem dX2_inSome_28 : Dc cX2_inSome 28 (.aload_n 0) 1 29 := ⟨by decide +kernel, rfl⟩
theorem dX2_inSome_29 : Dc cX2_inSome 29 (.getfield 27) 3 32 := ⟨by decide +kernel, rfl⟩
theorem dX2_inSome_32 : Dc cX2_inSome 32 (.iload_n 1) 1 33 := ⟨by decide +kernel, rfl⟩
theorem dX2_inSome_33 : Dc cX2_inSome 33 (.laload) 1 34 := ⟨by decide +kernel, rfl⟩
theorem dX2_inSome_34 : Dc cX2_inSome 34 (.lreturn) 1 35 := ⟨by decide +kernel, rfl⟩
section
variable {p : Program} {l : Launch} {e : Env} {s : State} {m : MethodId} {args : Array Value} {below : List Frame} {meth : Method} {c : Code} {A0 : Nat → Prop} {D : va_G} {cA : Nat → ClassId} {ad : Nat → Nat} {Z : (Nat → Nat) × (Nat → Nat)} {Q : Int → St → Prop} {b : Bool}
set_option maxHeartbeats 4000000 in
set_option maxRecDepth 100000 in
theorem t_X2_inSome_b28 (E : Ev p s m args meth c cX2_inSome 2 RX2 A0 D cA ad (NC b) Z) (hr : meth.sig.returnType = (some .long)) (x1 : Int) (σ : St) (c1 : C32 x1) (hσ : CanS (shC b) (NC b) σ) (h : wp_X2_inSome_b28 Q x1 σ) : G p l e (rmL 6 0 0) s m args below meth c 2 A0 D cA ad (shC b) (NC b) 0 0 (MQ below (QLc D cA ad (shC b) (NC b) Q A0) args s 0 0 A0) σ 28 [some (.ref (ad 41)), some (vI x1)] [] := by
  unfold wp_X2_inSome_b28 at h
  refine g_aload_0 E dX2_inSome_28 ?_
  refine g_getR E fl_RX2_27 (kC_41 b) (sC_41 b) rfl dX2_inSome_29 ?_
  refine g_iload_1 E dX2_inSome_32 ?_
  refine g_lald E (kC_43 b) (sC_43 b) (by decide) h.1 dX2_inSome_33 ?_
  replace h := h.2
  exact g_lret E hr (aC_43 hσ _) h hσ dX2_inSome_34
set_option maxHeartbeats 4000000 in
set_option maxRecDepth 100000 in
theorem t_X2_inSome (E : Ev p s m args meth c cX2_inSome 2 RX2 A0 D cA ad (NC b) Z) (hr : meth.sig.returnType = (some .long)) (x1 : Int) (σ : St) (c1 : C32 x1) (hσ : CanS (shC b) (NC b) σ) (h : wp_X2_inSome x1 σ Q) : G p l e (rmL 6 0 0) s m args below meth c 2 A0 D cA ad (shC b) (NC b) 0 0 (MQ below (QLc D cA ad (shC b) (NC b) Q A0) args s 0 0 A0) σ 0 [some (.ref (ad 41)), some (vI x1)] [] := by
  unfold wp_X2_inSome at h
  refine g_aload_0 E dX2_inSome_0 ?_
  refine g_getR E fl_RX2_19 (kC_41 b) (sC_41 b) rfl dX2_inSome_1 ?_
  refine g_callvV E my_X1_prepare mi_X1_prepare msel_X1_prepare ml_RX2_43 (rm_ok (by decide) (by decide)) ⟨Nat.zero_le _, Nat.zero_le _⟩ (kC_36 b) (sC_36 b) rfl (m_X1_prepare E.2.2.1 hσ h) rfl rfl (Nat.le_of_ble_eq_true rfl) dX2_inSome_4 (fun σ2 r1 hσ2 h => ?_)
  refine g_aload_0 E dX2_inSome_7 ?_
  refine g_getI E fl_RX2_37 (kC_41 b) (sC_41 b) rfl dX2_inSome_8 ?_
  refine g_if_ne E (fC_41_7 hσ2) djX2_inSome_11 (fun hc => ?_) (fun hc => ?_)
  · replace h := h.1 hc
    exact (t_X2_inSome_b28 E hr x1 σ2 c1 hσ2 h).weak (w_k (w_k w_n))
  · replace h := h.2 hc
    refine g_aload_0 E dX2_inSome_14 ?_
    refine g_iconst E dX2_inSome_15 ?_
    refine g_putZ E fl_RX2_37 rfl rfl (Or.inr rfl) (kC_41 b) (sC_41 b) rfl dX2_inSome_16 (g_nmS (fun σ3 eσ3 => ?_))
    replace h := h σ3 eσ3
    have hσ3 : CanS (shC b) (NC b) σ3 := by rw [eσ3]; exact uC_41_7 hσ2 cl_1
    refine g_aload_0 E dX2_inSome_19 ?_
    refine g_aload_0 E dX2_inSome_20 ?_
    refine g_getR E fl_RX2_27 (kC_41 b) (sC_41 b) rfl dX2_inSome_21 ?_
    refine g_iconst E dX2_inSome_24 ?_
    refine g_callvV E my_X2_gather mi_X2_gather msel_X2_gather ml_RX2_126 (rm_ok (by decide) (by decide)) ⟨Nat.zero_le _, Nat.zero_le _⟩ (kC_41 b) (sC_41 b) rfl (m_X2_gather_c43 E.2.2.1 cl_1 hσ3 h) rfl rfl (Nat.le_of_ble_eq_true rfl) dX2_inSome_25 (fun σ5 r4 hσ5 h => ?_)
    exact (t_X2_inSome_b28 E hr x1 σ5 c1 hσ5 h).weak (w_k (w_k w_n))
end
theorem m_X2_inSome {Z : (Nat → Nat) × (Nat → Nat)} {l : Launch} {D : va_G} {cA : Nat → ClassId} {ad : Nat → Nat} {b : Bool} {x1 : Int} {σ : St} {Q : Int → St → Prop} (hA : AdOk (NC b) ad) (c1 : C32 x1) (hσ : CanS (shC b) (NC b) σ) (h : wp_X2_inSome x1 σ Q) : KtL Z l D cA ad (shC b) (NC b) yX2_inSome cX2_inSome 2 (some .long) 6 [.ref (ad 41), vI x1] σ Q :=
  KtL.of my_X2_inSome hA [some (.ref (ad 41)), some (vI x1)] (Nat.le_of_ble_eq_true rfl) rfl (fun p e s m args below meth c A0 E hr => t_X2_inSome E hr x1 σ c1 hσ h)
theorem dX11_used_0 : Dc cX11_used 0 (.aload_n 0) 1 1 := ⟨by decide +kernel, rfl⟩
theorem dX11_used_1 : Dc cX11_used 1 (.iload_n 1) 1 2 := ⟨by decide +kernel, rfl⟩
theorem dX11_used_2 : Dc cX11_used 2 (.iload_n 2) 1 3 := ⟨by decide +kernel, rfl⟩
theorem dX11_used_3 : Dc cX11_used 3 (.iload_n 3) 1 4 := ⟨by decide +kernel, rfl⟩
theorem dX11_used_4 : Dc cX11_used 4 (.invokevirtual 223) 3 7 := ⟨by decide +kernel, rfl⟩
theorem dX11_used_7 : Dc cX11_used 7 (.istore 5) 2 9 := ⟨by decide +kernel, rfl⟩
theorem dX11_used_9 : Dc cX11_used 9 (.iload 5) 2 11 := ⟨by decide +kernel, rfl⟩
theorem djX11_used_11 : Dj cX11_used 11 (.ifCond .lt 14) 3 14 14 25 := ⟨by decide +kernel, rfl, by decide⟩
theorem dX11_used_14 : Dc cX11_used 14 (.iload 4) 2 16 := ⟨by decide +kernel, rfl⟩
theorem djX11_used_16 : Dj cX11_used 16 (.ifCond .lt 9) 3 19 9 25 := ⟨by decide +kernel, rfl, by decide⟩
theorem dX11_used_19 : Dc cX11_used 19 (.iload 4) 2 21 := ⟨by decide +kernel, rfl⟩
theorem dX11_used_21 : Dc cX11_used 21 (.iconst 1) 1 22 := ⟨by decide +kernel, rfl⟩
theorem djX11_used_22 : Dj cX11_used 22 (.if_icmp .le 7) 3 25 7 29 := ⟨by decide +kernel, rfl, by decide⟩
theorem dX11_used_25 : Dc cX11_used 25 (.ldc2_w 230) 3 28 := ⟨by decide +kernel, rfl⟩
theorem dX11_used_28 : Dc cX11_used 28 (.lreturn) 1 29 := ⟨by decide +kernel, rfl⟩
theorem dX11_used_29 : Dc cX11_used 29 (.iload 4) 2 31 := ⟨by decide +kernel, rfl⟩
theorem djX11_used_31 : Dj cX11_used 31 (.ifCond .ne 15) 3 34 15 46 := ⟨by decide +kernel, rfl, by decide⟩
theorem dX11_used_34 : Dc cX11_used 34 (.aload_n 0) 1 35 := ⟨by decide +kernel, rfl⟩
theorem dX11_used_35 : Dc cX11_used 35 (.getfield 55) 3 38 := ⟨by decide +kernel, rfl⟩
theorem dX11_used_38 : Dc cX11_used 38 (.iload 5) 2 40 := ⟨by decide +kernel, rfl⟩
theorem dX11_used_40 : Dc cX11_used 40 (.invokevirtual 247) 3 43 := ⟨by decide +kernel, rfl⟩
theorem djX11_used_43 : Dj cX11_used 43 (.goto 12) 3 46 12 55 := ⟨by decide +kernel, rfl, by decide⟩
theorem dX11_used_46 : Dc cX11_used 46 (.aload_n 0) 1 47 := ⟨by decide +kernel, rfl⟩
theorem dX11_used_47 : Dc cX11_used 47 (.getfield 55) 3 50 := ⟨by decide +kernel, rfl⟩
theorem dX11_used_50 : Dc cX11_used 50 (.iload 5) 2 52 := ⟨by decide +kernel, rfl⟩
theorem dX11_used_52 : Dc cX11_used 52 (.invokevirtual 250) 3 55 := ⟨by decide +kernel, rfl⟩
theorem dX11_used_55 : Dc cX11_used 55 (.lreturn) 1 56 := ⟨by decide +kernel, rfl⟩
section
variable {p : Program} {l : Launch} {e : Env} {s : State} {m : MethodId} {args : Array Value} {below : List Frame} {meth : Method} {c : Code} {A0 : Nat → Prop} {D : va_G} {cA : Nat → ClassId} {ad : Nat → Nat} {Z : (Nat → Nat) × (Nat → Nat)} {Q : Int → St → Prop} {b : Bool}
set_option maxHeartbeats 4000000 in
set_option maxRecDepth 100000 in
theorem t_X11_used (E : Ev p s m args meth c cX11_used 6 RX11 A0 D cA ad (NC b) Z) (hr : meth.sig.returnType = (some .long)) (x1 : Int) (x2 : Int) (x3 : Int) (x4 : Int) (σ : St) (c1 : C32 x1) (c2 : C32 x2) (c3 : C32 x3) (c4 : C32 x4) (hσ : CanS (shC b) (NC b) σ) (h : wp_X11_used x1 x2 x3 x4 σ Q) : G p l e (rmL 7 0 0) s m args below meth c 6 A0 D cA ad (shC b) (NC b) 0 0 (MQ below (QLc D cA ad (shC b) (NC b) Q A0) args s 0 0 A0) σ 0 [some (.ref (ad 0)), some (vI x1), some (vI x2), some (vI x3), some (vI x4), none] [] := by
  unfold wp_X11_used at h
  refine g_aload_0 E dX11_used_0 ?_
  refine g_iload_1 E dX11_used_1 ?_
  refine g_iload_2 E dX11_used_2 ?_
  refine g_iload_3 E dX11_used_3 ?_
  refine g_callvI E my_X11_itemOf mi_X11_itemOf msel_X11_itemOf ml_RX11_223 (rm_ok (by decide) (by decide)) ⟨Nat.zero_le _, Nat.zero_le _⟩ (kC_0 b) (sC_0 b) rfl (m_X11_itemOf E.2.2.1 c1 c2 c3 hσ h) rfl rfl (Nat.le_of_ble_eq_true rfl) dX11_used_4 (fun r1 σ2 cr1 hσ2 h => ?_)
  refine g_istore_5 E rfl (by decide) dX11_used_7 ?_
  refine g_iload_5 E dX11_used_9 ?_
  refine g_if_lt E cr1 djX11_used_11 (fun hc => ?_) (fun hc => ?_)
  · replace h := h.1 hc
    refine g_ldc2 (n := (-2)) E wc_RX11_230 dX11_used_25 ?_
    exact g_lret E hr cL_m2 h hσ2 dX11_used_28
  · replace h := h.2 hc
    refine g_iload_4 E dX11_used_14 ?_
    refine g_if_lt E c4 djX11_used_16 (fun hc => ?_) (fun hc => ?_)
    · replace h := h.1 hc
      refine g_ldc2 (n := (-2)) E wc_RX11_230 dX11_used_25 ?_
      exact g_lret E hr cL_m2 h hσ2 dX11_used_28
    · replace h := h.2 hc
      refine g_iload_4 E dX11_used_19 ?_
      refine g_iconst E dX11_used_21 ?_
      refine g_icmp_le E c4 cl_1 djX11_used_22 (fun hc => ?_) (fun hc => ?_)
      · replace h := h.1 hc
        refine g_iload_4 E dX11_used_29 ?_
        refine g_if_ne E c4 djX11_used_31 (fun hc => ?_) (fun hc => ?_)
        · replace h := h.1 hc
          refine g_aload_0 E dX11_used_46 ?_
          refine g_getR E fl_RX11_55 (kC_0 b) (sC_0 b) rfl dX11_used_47 ?_
          refine g_iload_5 E dX11_used_50 ?_
          refine g_callvL E my_X2_inEach mi_X2_inEach msel_X2_inEach ml_RX11_250 (rm_ok (by decide) (by decide)) ⟨Nat.zero_le _, Nat.zero_le _⟩ (kC_41 b) (sC_41 b) rfl (m_X2_inEach E.2.2.1 cr1 hσ2 h) rfl rfl (Nat.le_of_ble_eq_true rfl) dX11_used_52 (fun r3 σ4 cr3 hσ4 h => ?_)
          exact g_lret E hr cr3 h hσ4 dX11_used_55
        · replace h := h.2 hc
          refine g_aload_0 E dX11_used_34 ?_
          refine g_getR E fl_RX11_55 (kC_0 b) (sC_0 b) rfl dX11_used_35 ?_
          refine g_iload_5 E dX11_used_38 ?_
          refine g_callvL E my_X2_inSome mi_X2_inSome msel_X2_inSome ml_RX11_247 (rm_ok (by decide) (by decide)) ⟨Nat.zero_le _, Nat.zero_le _⟩ (kC_41 b) (sC_41 b) rfl (m_X2_inSome E.2.2.1 cr1 hσ2 h) rfl rfl (Nat.le_of_ble_eq_true rfl) dX11_used_40 (fun r5 σ6 cr5 hσ6 h => ?_)
          refine g_goto E djX11_used_43 ?_
          exact g_lret E hr cr5 h hσ6 dX11_used_55
      · replace h := h.2 hc
        refine g_ldc2 (n := (-2)) E wc_RX11_230 dX11_used_25 ?_
        exact g_lret E hr cL_m2 h hσ2 dX11_used_28
end
theorem m_X11_used {Z : (Nat → Nat) × (Nat → Nat)} {l : Launch} {D : va_G} {cA : Nat → ClassId} {ad : Nat → Nat} {b : Bool} {x1 x2 x3 x4 : Int} {σ : St} {Q : Int → St → Prop} (hA : AdOk (NC b) ad) (c1 : C32 x1) (c2 : C32 x2) (c3 : C32 x3) (c4 : C32 x4) (hσ : CanS (shC b) (NC b) σ) (h : wp_X11_used x1 x2 x3 x4 σ Q) : KtL Z l D cA ad (shC b) (NC b) yX11_used cX11_used 6 (some .long) 7 [.ref (ad 0), vI x1, vI x2, vI x3, vI x4] σ Q :=
  KtL.of my_X11_used hA [some (.ref (ad 0)), some (vI x1), some (vI x2), some (vI x3), some (vI x4), none] (Nat.le_of_ble_eq_true rfl) rfl (fun p e s m args below meth c A0 E hr => t_X11_used E hr x1 x2 x3 x4 σ c1 c2 c3 c4 hσ h)
section
variable {p : Program} {l : Launch} {e : Env} {s : State} {m : MethodId} {args : Array Value} {below : List Frame} {meth : Method} {c : Code} {A0 : Nat → Prop} {D : va_G} {cA : Nat → ClassId} {ad : Nat → Nat} {Z : (Nat → Nat) × (Nat → Nat)} {Q : Int → St → Prop} {b : Bool}
set_option maxHeartbeats 4000000 in
set_option maxRecDepth 100000 in
theorem t_J7_fill_53178_C_c48_l5 (E : Ev p s m args meth c cJ7_fill_53178 4 RJ7 A0 D cA ad (NC b) Z) (hr : meth.sig.returnType = none) : ∀ (n : Nat) (x1 : Int) (x2 : Int) (x3 : Int) (σ : St), C32 x1 → C32 x2 → C32 x3 → CanS (shC b) (NC b) σ → wp_J7_fill_53178_C_c48_l5 Q n x1 x2 x3 σ → G p l e (rmL 1 0 0) s m args below meth c 4 A0 D cA ad (shC b) (NC b) 0 0 (MQ below (QVc D cA ad (shC b) (NC b) Q A0) args s 0 0 A0) σ 5 [some (.ref (ad 48)), some (vI x1), some (vI x2), some (vI x3)] [] := by
  intro n
  induction n with
  | zero => intro _ _ _ _ _ _ _ _ h; exact h.elim
  | succ n ih =>
    intro x1 x2 x3 σ c1 c2 c3 hσ h
    unfold wp_J7_fill_53178_C_c48_l5 at h
    refine g_iload_2 E dJ7_fill_53178_5 ?_
    refine g_iload_3 E dJ7_fill_53178_6 ?_
    refine g_icmp_ge E c2 c3 djJ7_fill_53178_7 (fun hc => ?_) (fun hc => ?_)
    · replace h := h.1 hc
      exact g_vret E hr h hσ dJ7_fill_53178_20
    · replace h := h.2 hc
      refine g_aload_0 E dJ7_fill_53178_10 ?_
      refine g_iload_2 E dJ7_fill_53178_11 ?_
      refine g_iload_1 E dJ7_fill_53178_12 ?_
      refine g_iast E (kC_48 b) (sC_48 b) (by decide) h.1 dJ7_fill_53178_13 (g_nmS (fun σ1 eσ1 => ?_))
      replace h := h.2 σ1 eσ1
      have hσ1 : CanS (shC b) (NC b) σ1 := by rw [eσ1]; exact wC_48 hσ c1
      refine g_iinc_2 E rfl (by decide) dJ7_fill_53178_14 (fun v2 ev2 => ?_)
      replace h := h v2 ev2
      have cv2 : C32 v2 := by rw [ev2]; exact c32_w _
      refine g_goto E djJ7_fill_53178_17 ?_
      exact (ih x1 v2 x3 σ1 c1 cv2 c3 hσ1 h).weak (w_k (w_k (w_k (w_k w_n))))
set_option maxHeartbeats 4000000 in
set_option maxRecDepth 100000 in
theorem t_J7_fill_53178_C_c48 (E : Ev p s m args meth c cJ7_fill_53178 4 RJ7 A0 D cA ad (NC b) Z) (hr : meth.sig.returnType = none) (x1 : Int) (σ : St) (c1 : C32 x1) (hσ : CanS (shC b) (NC b) σ) (h : wp_J7_fill_53178_C_c48 x1 σ Q) : G p l e (rmL 1 0 0) s m args below meth c 4 A0 D cA ad (shC b) (NC b) 0 0 (MQ below (QVc D cA ad (shC b) (NC b) Q A0) args s 0 0 A0) σ 0 [some (.ref (ad 48)), some (vI x1), none, none] [] := by
  unfold wp_J7_fill_53178_C_c48 at h
  refine g_iconst E dJ7_fill_53178_0 ?_
  refine g_istore_2 E rfl (by decide) dJ7_fill_53178_1 ?_
  refine g_aload_0 E dJ7_fill_53178_2 ?_
  refine g_alen E (kC_48 b) (sC_48 b) (by decide) (by decide) dJ7_fill_53178_3 ?_
  refine g_istore_3 E rfl (by decide) dJ7_fill_53178_4 ?_
  exact (t_J7_fill_53178_C_c48_l5 E hr bigN x1 0 156 σ c1 cl_0 cl_156 hσ h).weak (w_k (w_k (w_k (w_k w_n))))
end
theorem m_J7_fill_53178_C_c48 {Z : (Nat → Nat) × (Nat → Nat)} {l : Launch} {D : va_G} {cA : Nat → ClassId} {ad : Nat → Nat} {b : Bool} {x1 : Int} {σ : St} {Q : Int → St → Prop} (hA : AdOk (NC b) ad) (c1 : C32 x1) (hσ : CanS (shC b) (NC b) σ) (h : wp_J7_fill_53178_C_c48 x1 σ Q) : KtV Z l D cA ad (shC b) (NC b) yJ7_fill_53178 cJ7_fill_53178 4 none 1 [.ref (ad 48), vI x1] σ Q :=
  KtV.of my_J7_fill_53178 hA [some (.ref (ad 48)), some (vI x1), none, none] (Nat.le_of_ble_eq_true rfl) rfl (fun p e s m args below meth c A0 E hr => t_J7_fill_53178_C_c48 E hr x1 σ c1 hσ h)
theorem dX7_swapRows_0 : Dc cX7_swapRows 0 (.iconst 0) 1 1 := ⟨by decide +kernel, rfl⟩
theorem dX7_swapRows_1 : Dc cX7_swapRows 1 (.istore_n 3) 1 2 := ⟨by decide +kernel, rfl⟩
theorem dX7_swapRows_2 : Dc cX7_swapRows 2 (.iload_n 3) 1 3 := ⟨by decide +kernel, rfl⟩
theorem dX7_swapRows_3 : Dc cX7_swapRows 3 (.bipush 13) 2 5 := ⟨by decide +kernel, rfl⟩
theorem djX7_swapRows_5 : Dj cX7_swapRows 5 (.if_icmp .ge 62) 3 8 62 67 := ⟨by decide +kernel, rfl, by decide⟩
theorem dX7_swapRows_8 : Dc cX7_swapRows 8 (.iload_n 1) 1 9 := ⟨by decide +kernel, rfl⟩
theorem dX7_swapRows_9 : Dc cX7_swapRows 9 (.iload_n 2) 1 10 := ⟨by decide +kernel, rfl⟩
theorem djX7_swapRows_10 : Dj cX7_swapRows 10 (.if_icmp .eq 57) 3 13 57 67 := ⟨by decide +kernel, rfl, by decide⟩
theorem dX7_swapRows_13 : Dc cX7_swapRows 13 (.aload_n 0) 1 14 := ⟨by decide +kernel, rfl⟩
theorem dX7_swapRows_14 : Dc cX7_swapRows 14 (.getfield 31) 3 17 := ⟨by decide +kernel, rfl⟩
theorem dX7_swapRows_17 : Dc cX7_swapRows 17 (.iload_n 1) 1 18 := ⟨by decide +kernel, rfl⟩
theorem dX7_swapRows_18 : Dc cX7_swapRows 18 (.bipush 13) 2 20 := ⟨by decide +kernel, rfl⟩
theorem dX7_swapRows_20 : Dc cX7_swapRows 20 (.imul) 1 21 := ⟨by decide +kernel, rfl⟩
theorem dX7_swapRows_21 : Dc cX7_swapRows 21 (.iload_n 3) 1 22 := ⟨by decide +kernel, rfl⟩
theorem dX7_swapRows_22 : Dc cX7_swapRows 22 (.iadd) 1 23 := ⟨by decide +kernel, rfl⟩
theorem dX7_swapRows_23 : Dc cX7_swapRows 23 (.iaload) 1 24 := ⟨by decide +kernel, rfl⟩
theorem dX7_swapRows_24 : Dc cX7_swapRows 24 (.istore 4) 2 26 := ⟨by decide +kernel, rfl⟩
theorem dX7_swapRows_26 : Dc cX7_swapRows 26 (.aload_n 0) 1 27 := ⟨by decide +kernel, rfl⟩
theorem dX7_swapRows_27 : Dc cX7_swapRows 27 (.getfield 31) 3 30 := ⟨by decide +kernel, rfl⟩
theorem dX7_swapRows_30 : Dc cX7_swapRows 30 (.iload_n 1) 1 31 := ⟨by decide +kernel, rfl⟩
theorem dX7_swapRows_31 : Dc cX7_swapRows 31 (.bipush 13) 2 33 := ⟨by decide +kernel, rfl⟩
theorem dX7_swapRows_33 : Dc cX7_swapRows 33 (.imul) 1 34 := ⟨by decide +kernel, rfl⟩
theorem dX7_swapRows_34 : Dc cX7_swapRows 34 (.iload_n 3) 1 35 := ⟨by decide +kernel, rfl⟩
theorem dX7_swapRows_35 : Dc cX7_swapRows 35 (.iadd) 1 36 := ⟨by decide +kernel, rfl⟩
theorem dX7_swapRows_36 : Dc cX7_swapRows 36 (.aload_n 0) 1 37 := ⟨by decide +kernel, rfl⟩
theorem dX7_swapRows_37 : Dc cX7_swapRows 37 (.getfield 31) 3 40 := ⟨by decide +kernel, rfl⟩
theorem dX7_swapRows_40 : Dc cX7_swapRows 40 (.iload_n 2) 1 41 := ⟨by decide +kernel, rfl⟩
theorem dX7_swapRows_41 : Dc cX7_swapRows 41 (.bipush 13) 2 43 := ⟨by decide +kernel, rfl⟩
theorem dX7_swapRows_43 : Dc cX7_swapRows 43 (.imul) 1 44 := ⟨by decide +kernel, rfl⟩
theorem dX7_swapRows_44 : Dc cX7_swapRows 44 (.iload_n 3) 1 45 := ⟨by decide +kernel, rfl⟩
theorem dX7_swapRows_45 : Dc cX7_swapRows 45 (.iadd) 1 46 := ⟨by decide +kernel, rfl⟩
theorem dX7_swapRows_46 : Dc cX7_swapRows 46 (.iaload) 1 47 := ⟨by decide +kernel, rfl⟩
theorem dX7_swapRows_47 : Dc cX7_swapRows 47 (.iastore) 1 48 := ⟨by decide +kernel, rfl⟩
theorem dX7_swapRows_48 : Dc cX7_swapRows 48 (.aload_n 0) 1 49 := ⟨by decide +kernel, rfl⟩
theorem dX7_swapRows_49 : Dc cX7_swapRows 49 (.getfield 31) 3 52 := ⟨by decide +kernel, rfl⟩
theorem dX7_swapRows_52 : Dc cX7_swapRows 52 (.iload_n 2) 1 53 := ⟨by decide +kernel, rfl⟩
theorem dX7_swapRows_53 : Dc cX7_swapRows 53 (.bipush 13) 2 55 := ⟨by decide +kernel, rfl⟩
theorem dX7_swapRows_55 : Dc cX7_swapRows 55 (.imul) 1 56 := ⟨by decide +kernel, rfl⟩
theorem dX7_swapRows_56 : Dc cX7_swapRows 56 (.iload_n 3) 1 57 := ⟨by decide +kernel, rfl⟩
theorem dX7_swapRows_57 : Dc cX7_swapRows 57 (.iadd) 1 58 := ⟨by decide +kernel, rfl⟩
theorem dX7_swapRows_58 : Dc cX7_swapRows 58 (.iload 4) 2 60 := ⟨by decide +kernel, rfl⟩
theorem dX7_swapRows_60 : Dc cX7_swapRows 60 (.iastore) 1 61 := ⟨by decide +kernel, rfl⟩
theorem dX7_swapRows_61 : Dc cX7_swapRows 61 (.iinc 3 1) 3 64 := ⟨by decide +kernel, rfl⟩
theorem djX7_swapRows_64 : Dj cX7_swapRows 64 (.goto (-62)) 3 67 (-62) 2 := ⟨by decide +kernel, rfl, by decide⟩
theorem dX7_swapRows_67 : Dc cX7_swapRows 67 (.return_) 1 68 := ⟨by decide +kernel, rfl⟩
section
variable {p : Program} {l : Launch} {e : Env} {s : State} {m : MethodId} {args : Array Value} {below : List Frame} {meth : Method} {c : Code} {A0 : Nat → Prop} {D : va_G} {cA : Nat → ClassId} {ad : Nat → Nat} {Z : (Nat → Nat) × (Nat → Nat)} {Q : Int → St → Prop} {b : Bool}
set_option maxHeartbeats 4000000 in
set_option maxRecDepth 100000 in
theorem t_X7_swapRows_l2 (E : Ev p s m args meth c cX7_swapRows 5 RX7 A0 D cA ad (NC b) Z) (hr : meth.sig.returnType = none) : ∀ (n : Nat) (x1 : Int) (x2 : Int) (x3 : Int) (σ : St), C32 x1 → C32 x2 → C32 x3 → CanS (shC b) (NC b) σ → wp_X7_swapRows_l2 Q n x1 x2 x3 σ → G p l e (rmL 1 0 0) s m args below meth c 5 A0 D cA ad (shC b) (NC b) 0 0 (MQ below (QVc D cA ad (shC b) (NC b) Q A0) args s 0 0 A0) σ 2 [some (.ref (ad 45)), some (vI x1), some (vI x2), some (vI x3), none] [] := by
  intro n
  induction n with
  | zero => intro _ _ _ _ _ _ _ _ h; exact h.elim
  | succ n ih =>
    intro x1 x2 x3 σ c1 c2 c3 hσ h
    unfold wp_X7_swapRows_l2 at h
    refine g_iload_3 E dX7_swapRows_2 ?_
    refine g_bipush E (by decide) dX7_swapRows_3 ?_
    refine g_icmp_ge E c3 cl_13 djX7_swapRows_5 (fun hc => ?_) (fun hc => ?_)
    · replace h := h.1 hc
      exact g_vret E hr h hσ dX7_swapRows_67
    · replace h := h.2 hc
      refine g_iload_1 E dX7_swapRows_8 ?_
      refine g_iload_2 E dX7_swapRows_9 ?_
      refine g_icmp_eq E c1 c2 djX7_swapRows_10 (fun hc => ?_) (fun hc => ?_)
      · replace h := h.1 hc
        exact g_vret E hr h hσ dX7_swapRows_67
      · replace h := h.2 hc
        refine g_aload_0 E dX7_swapRows_13 ?_
        refine g_getR E fl_RX7_31 (kC_45 b) (sC_45 b) rfl dX7_swapRows_14 ?_
        refine g_iload_1 E dX7_swapRows_17 ?_
        refine g_bipush E (by decide) dX7_swapRows_18 ?_
        refine g_imul E dX7_swapRows_20 ?_
        refine g_iload_3 E dX7_swapRows_21 ?_
        refine g_iadd E dX7_swapRows_22 ?_
        refine g_iald E (kC_48 b) (sC_48 b) (by decide) h.1 dX7_swapRows_23 ?_
        replace h := h.2
        refine g_nmI (fun v1 ev1 => ?_)
        replace h := h v1 ev1
        have cv1 : C32 v1 := by rw [ev1]; exact (aC_48 hσ _)
        refine g_istore_4 E rfl (by decide) dX7_swapRows_24 ?_
        refine g_aload_0 E dX7_swapRows_26 ?_
        refine g_getR E fl_RX7_31 (kC_45 b) (sC_45 b) rfl dX7_swapRows_27 ?_
        refine g_iload_1 E dX7_swapRows_30 ?_
        refine g_bipush E (by decide) dX7_swapRows_31 ?_
        refine g_imul E dX7_swapRows_33 ?_
        refine g_iload_3 E dX7_swapRows_34 ?_
        refine g_iadd E dX7_swapRows_35 ?_
        refine g_aload_0 E dX7_swapRows_36 ?_
        refine g_getR E fl_RX7_31 (kC_45 b) (sC_45 b) rfl dX7_swapRows_37 ?_
        refine g_iload_2 E dX7_swapRows_40 ?_
        refine g_bipush E (by decide) dX7_swapRows_41 ?_
        refine g_imul E dX7_swapRows_43 ?_
        refine g_iload_3 E dX7_swapRows_44 ?_
        refine g_iadd E dX7_swapRows_45 ?_
        refine g_iald E (kC_48 b) (sC_48 b) (by decide) h.1 dX7_swapRows_46 ?_
        replace h := h.2
        refine g_iast E (kC_48 b) (sC_48 b) (by decide) h.1 dX7_swapRows_47 (g_nmS (fun σ2 eσ2 => ?_))
        replace h := h.2 σ2 eσ2
        have hσ2 : CanS (shC b) (NC b) σ2 := by rw [eσ2]; exact wC_48 hσ (aC_48 hσ _)
        refine g_aload_0 E dX7_swapRows_48 ?_
        refine g_getR E fl_RX7_31 (kC_45 b) (sC_45 b) rfl dX7_swapRows_49 ?_
        refine g_iload_2 E dX7_swapRows_52 ?_
        refine g_bipush E (by decide) dX7_swapRows_53 ?_
        refine g_imul E dX7_swapRows_55 ?_
        refine g_iload_3 E dX7_swapRows_56 ?_
        refine g_iadd E dX7_swapRows_57 ?_
        refine g_iload_4 E dX7_swapRows_58 ?_
        refine g_iast E (kC_48 b) (sC_48 b) (by decide) h.1 dX7_swapRows_60 (g_nmS (fun σ3 eσ3 => ?_))
        replace h := h.2 σ3 eσ3
        have hσ3 : CanS (shC b) (NC b) σ3 := by rw [eσ3]; exact wC_48 hσ2 cv1
        refine g_iinc_3 E rfl (by decide) dX7_swapRows_61 (fun v4 ev4 => ?_)
        replace h := h v4 ev4
        have cv4 : C32 v4 := by rw [ev4]; exact c32_w _
        refine g_goto E djX7_swapRows_64 ?_
        exact (ih x1 x2 v4 σ3 c1 c2 cv4 hσ3 h).weak (w_k (w_k (w_k (w_k (w_d w_n)))))
set_option maxHeartbeats 4000000 in
set_option maxRecDepth 100000 in
theorem t_X7_swapRows (E : Ev p s m args meth c cX7_swapRows 5 RX7 A0 D cA ad (NC b) Z) (hr : meth.sig.returnType = none) (x1 : Int) (x2 : Int) (σ : St) (c1 : C32 x1) (c2 : C32 x2) (hσ : CanS (shC b) (NC b) σ) (h : wp_X7_swapRows x1 x2 σ Q) : G p l e (rmL 1 0 0) s m args below meth c 5 A0 D cA ad (shC b) (NC b) 0 0 (MQ below (QVc D cA ad (shC b) (NC b) Q A0) args s 0 0 A0) σ 0 [some (.ref (ad 45)), some (vI x1), some (vI x2), none, none] [] := by
  unfold wp_X7_swapRows at h
  refine g_iconst E dX7_swapRows_0 ?_
  refine g_istore_3 E rfl (by decide) dX7_swapRows_1 ?_
  exact (t_X7_swapRows_l2 E hr bigN x1 x2 0 σ c1 c2 cl_0 hσ h).weak (w_k (w_k (w_k (w_k (w_d w_n)))))
end
theorem m_X7_swapRows {Z : (Nat → Nat) × (Nat → Nat)} {l : Launch} {D : va_G} {cA : Nat → ClassId} {ad : Nat → Nat} {b : Bool} {x1 x2 : Int} {σ : St} {Q : Int → St → Prop} (hA : AdOk (NC b) ad) (c1 : C32 x1) (c2 : C32 x2) (hσ : CanS (shC b) (NC b) σ) (h : wp_X7_swapRows x1 x2 σ Q) : KtV Z l D cA ad (shC b) (NC b) yX7_swapRows cX7_swapRows 5 none 1 [.ref (ad 45), vI x1, vI x2] σ Q :=
  KtV.of my_X7_swapRows hA [some (.ref (ad 45)), some (vI x1), some (vI x2), none, none] (Nat.le_of_ble_eq_true rfl) rfl (fun p e s m args below meth c A0 E hr => t_X7_swapRows E hr x1 x2 σ c1 c2 hσ h)
