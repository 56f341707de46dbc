theorem dX7_inverse_0 : Dc cX7_inverse 0 (.iconst 1) 1 1 := ⟨by decide +kernel, rfl⟩
theorem dX7_inverse_1 : Dc cX7_inverse 1 (.istore_n 1) 1 2 := ⟨by decide +kernel, rfl⟩
theorem dX7_inverse_2 : Dc cX7_inverse 2 (.iload_n 0) 1 3 := ⟨by decide +kernel, rfl⟩
theorem dX7_inverse_3 : Dc cX7_inverse 3 (.istore_n 2) 1 4 := ⟨by decide +kernel, rfl⟩
theorem dX7_inverse_4 : Dc cX7_inverse 4 (.sipush 9971) 3 7 := ⟨by decide +kernel, rfl⟩
theorem dX7_inverse_7 : Dc cX7_inverse 7 (.istore_n 3) 1 8 := ⟨by decide +kernel, rfl⟩
theorem dX7_inverse_8 : Dc cX7_inverse 8 (.iload_n 3) 1 9 := ⟨by decide +kernel, rfl⟩
theorem djX7_inverse_9 : Dj cX7_inverse 9 (.ifCond .le 33) 3 12 33 42 := ⟨by decide +kernel, rfl, by decide⟩
theorem dX7_inverse_12 : Dc cX7_inverse 12 (.iload_n 3) 1 13 := ⟨by decide +kernel, rfl⟩
theorem dX7_inverse_13 : Dc cX7_inverse 13 (.iconst 1) 1 14 := ⟨by decide +kernel, rfl⟩
theorem dX7_inverse_14 : Dc cX7_inverse 14 (.iand) 1 15 := ⟨by decide +kernel, rfl⟩
theorem dX7_inverse_15 : Dc cX7_inverse 15 (.iconst 1) 1 16 := ⟨by decide +kernel, rfl⟩
theorem djX7_inverse_16 : Dj cX7_inverse 16 (.if_icmp .ne 11) 3 19 11 27 := ⟨by decide +kernel, rfl, by decide⟩
theorem dX7_inverse_19 : Dc cX7_inverse 19 (.iload_n 1) 1 20 := ⟨by decide +kernel, rfl⟩
theorem dX7_inverse_20 : Dc cX7_inverse 20 (.iload_n 2) 1 21 := ⟨by decide +kernel, rfl⟩
theorem dX7_inverse_21 : Dc cX7_inverse 21 (.imul) 1 22 := ⟨by decide +kernel, rfl⟩
theorem dX7_inverse_22 : Dc cX7_inverse 22 (.sipush 9973) 3 25 := ⟨by decide +kernel, rfl⟩
theorem dX7_inverse_25 : Dc cX7_inverse 25 (.irem) 1 26 := ⟨by decide +kernel, rfl⟩
theorem dX7_inverse_26 : Dc cX7_inverse 26 (.istore_n 1) 1 27 := ⟨by decide +kernel, rfl⟩
theorem dX7_inverse_27 : Dc cX7_inverse 27 (.iload_n 2) 1 28 := ⟨by decide +kernel, rfl⟩
theorem dX7_inverse_28 : Dc cX7_inverse 28 (.iload_n 2) 1 29 := ⟨by decide +kernel, rfl⟩
theorem dX7_inverse_29 : Dc cX7_inverse 29 (.imul) 1 30 := ⟨by decide +kernel, rfl⟩
theorem dX7_inverse_30 : Dc cX7_inverse 30 (.sipush 9973) 3 33 := ⟨by decide +kernel, rfl⟩
theorem dX7_inverse_33 : Dc cX7_inverse 33 (.irem) 1 34 := ⟨by decide +kernel, rfl⟩
theorem dX7_inverse_34 : Dc cX7_inverse 34 (.istore_n 2) 1 35 := ⟨by decide +kernel, rfl⟩
theorem dX7_inverse_35 : Dc cX7_inverse 35 (.iload_n 3) 1 36 := ⟨by decide +kernel, rfl⟩
theorem dX7_inverse_36 : Dc cX7_inverse 36 (.iconst 1) 1 37 := ⟨by decide +kernel, rfl⟩
theorem dX7_inverse_37 : Dc cX7_inverse 37 (.ishr) 1 38 := ⟨by decide +kernel, rfl⟩
theorem dX7_inverse_38 : Dc cX7_inverse 38 (.istore_n 3) 1 39 := ⟨by decide +kernel, rfl⟩
theorem djX7_inverse_39 : Dj cX7_inverse 39 (.goto (-31)) 3 42 (-31) 8 := ⟨by decide +kernel, rfl, by decide⟩
theorem dX7_inverse_42 : Dc cX7_inverse 42 (.iload_n 1) 1 43 := ⟨by decide +kernel, rfl⟩
theorem dX7_inverse_43 : Dc cX7_inverse 43 (.ireturn) 1 44 := ⟨by decide +kernel, rfl⟩
section
variable {p : Program} {l : Launch} {e : Env} {s : State} {m : MethodId} {args : Array Value} {below : List Frame} {meth : Method} {c : Code} {A0 : Nat → Prop} {D : va_G} {cA : Nat → ClassId} {ad : Nat → Nat} {Z : (Nat → Nat) × (Nat → Nat)} {Q : Int → St → Prop} {b : Bool}
set_option maxHeartbeats 4000000 in
set_option maxRecDepth 100000 in
theorem t_X7_inverse_b27 (E : Ev p s m args meth c cX7_inverse 4 RX7 A0 D cA ad (NC b) Z) (hr : meth.sig.returnType = (some .int)) {K8 : Int → Int → Int → St → Prop} (hK8 : ∀ (x1 : Int) (x2 : Int) (x3 : Int) (σ : St), C32 x1 → C32 x2 → C32 x3 → CanS (shC b) (NC b) σ → K8 x1 x2 x3 σ → G p l e (rmL 1 0 0) s m args below meth c 4 A0 D cA ad (shC b) (NC b) 0 0 (MQ below (QIc D cA ad (shC b) (NC b) Q A0) args s 0 0 A0) σ 8 [none, some (vI x1), some (vI x2), some (vI x3)] []) (x1 : Int) (x2 : Int) (x3 : Int) (σ : St) (c1 : C32 x1) (c2 : C32 x2) (c3 : C32 x3) (hσ : CanS (shC b) (NC b) σ) (h : wp_X7_inverse_b27 Q K8 x1 x2 x3 σ) : G p l e (rmL 1 0 0) s m args below meth c 4 A0 D cA ad (shC b) (NC b) 0 0 (MQ below (QIc D cA ad (shC b) (NC b) Q A0) args s 0 0 A0) σ 27 [none, some (vI x1), some (vI x2), some (vI x3)] [] := by
  unfold wp_X7_inverse_b27 at h
  refine g_iload_2 E dX7_inverse_27 ?_
  refine g_iload_2 E dX7_inverse_28 ?_
  refine g_imul E dX7_inverse_29 ?_
  refine g_sipush E (by decide) dX7_inverse_30 ?_
  refine g_irem E cl_9973 (by decide) dX7_inverse_33 ?_
  refine g_nmI (fun v2 ev2 => ?_)
  replace h := h v2 ev2
  have cv2 : C32 v2 := by rw [ev2]; exact (c32_t _)
  refine g_istore_2 E rfl (by decide) dX7_inverse_34 ?_
  refine g_iload_3 E dX7_inverse_35 ?_
  refine g_iconst E dX7_inverse_36 ?_
  refine g_ishr E dX7_inverse_37 ?_
  refine g_nmI (fun v3 ev3 => ?_)
  replace h := h v3 ev3
  have cv3 : C32 v3 := by rw [ev3]; exact (c32_t _)
  refine g_istore_3 E rfl (by decide) dX7_inverse_38 ?_
  refine g_goto E djX7_inverse_39 ?_
  exact (hK8 x1 v2 v3 σ c1 cv2 cv3 hσ h).weak (w_d (w_k (w_k (w_k w_n))))
set_option maxHeartbeats 4000000 in
set_option maxRecDepth 100000 in
theorem t_X7_inverse_l8 (E : Ev p s m args meth c cX7_inverse 4 RX7 A0 D cA ad (NC b) Z) (hr : meth.sig.returnType = (some .int)) : ∀ (n : Nat) (x1 : Int) (x2 : Int) (x3 : Int) (σ : St), C32 x1 → C32 x2 → C32 x3 → CanS (shC b) (NC b) σ → wp_X7_inverse_l8 Q n x1 x2 x3 σ → G p l e (rmL 1 0 0) s m args below meth c 4 A0 D cA ad (shC b) (NC b) 0 0 (MQ below (QIc D cA ad (shC b) (NC b) Q A0) args s 0 0 A0) σ 8 [none, some (vI x1), some (vI x2), some (vI x3)] [] := by
  intro n
  induction n with
  | zero => intro _ _ _ _ _ _ _ _ h; exact h.elim
  | succ n ih =>
    intro x1 x2 x3 σ c1 c2 c3 hσ h
    unfold wp_X7_inverse_l8 at h
    refine g_iload_3 E dX7_inverse_8 ?_
    refine g_if_le E c3 djX7_inverse_9 (fun hc => ?_) (fun hc => ?_)
    · replace h := h.1 hc
      refine g_iload_1 E dX7_inverse_42 ?_
      exact g_iret E hr c1 h hσ dX7_inverse_43
    · replace h := h.2 hc
      refine g_iload_3 E dX7_inverse_12 ?_
      refine g_iconst E dX7_inverse_13 ?_
      refine g_iand E dX7_inverse_14 ?_
      refine g_iconst E dX7_inverse_15 ?_
      refine g_icmp_ne E (c32_t _) cl_1 djX7_inverse_16 (fun hc => ?_) (fun hc => ?_)
      · replace h := h.1 hc
        exact (t_X7_inverse_b27 E hr ih x1 x2 x3 σ c1 c2 c3 hσ h).weak (w_d (w_k (w_k (w_k w_n))))
      · replace h := h.2 hc
        refine g_iload_1 E dX7_inverse_19 ?_
        refine g_iload_2 E dX7_inverse_20 ?_
        refine g_imul E dX7_inverse_21 ?_
        refine g_sipush E (by decide) dX7_inverse_22 ?_
        refine g_irem E cl_9973 (by decide) dX7_inverse_25 ?_
        refine g_nmI (fun v1 ev1 => ?_)
        replace h := h v1 ev1
        have cv1 : C32 v1 := by rw [ev1]; exact (c32_t _)
        refine g_istore_1 E rfl (by decide) dX7_inverse_26 ?_
        exact (t_X7_inverse_b27 E hr ih v1 x2 x3 σ cv1 c2 c3 hσ h).weak (w_d (w_k (w_k (w_k w_n))))
set_option maxHeartbeats 4000000 in
set_option maxRecDepth 100000 in
theorem t_X7_inverse (E : Ev p s m args meth c cX7_inverse 4 RX7 A0 D cA ad (NC b) Z) (hr : meth.sig.returnType = (some .int)) (x0 : Int) (σ : St) (c0 : C32 x0) (hσ : CanS (shC b) (NC b) σ) (h : wp_X7_inverse x0 σ Q) : G p l e (rmL 1 0 0) s m args below meth c 4 A0 D cA ad (shC b) (NC b) 0 0 (MQ below (QIc D cA ad (shC b) (NC b) Q A0) args s 0 0 A0) σ 0 [some (vI x0), none, none, none] [] := by
  unfold wp_X7_inverse at h
  refine g_iconst E dX7_inverse_0 ?_
  refine g_istore_1 E rfl (by decide) dX7_inverse_1 ?_
  refine g_iload_0 E dX7_inverse_2 ?_
  refine g_istore_2 E rfl (by decide) dX7_inverse_3 ?_
  refine g_sipush E (by decide) dX7_inverse_4 ?_
  refine g_istore_3 E rfl (by decide) dX7_inverse_7 ?_
  exact (t_X7_inverse_l8 E hr bigN 1 x0 9971 σ cl_1 c0 cl_9971 hσ h).weak (w_d (w_k (w_k (w_k w_n))))
end
theorem m_X7_inverse {Z : (Nat → Nat) × (Nat → Nat)} {l : Launch} {D : va_G} {cA : Nat → ClassId} {ad : Nat → Nat} {b : Bool} {x0 : Int} {σ : St} {Q : Int → St → Prop} (hA : AdOk (NC b) ad) (c0 : C32 x0) (hσ : CanS (shC b) (NC b) σ) (h : wp_X7_inverse x0 σ Q) : KtI Z l D cA ad (shC b) (NC b) yX7_inverse cX7_inverse 4 (some .int) 1 [vI x0] σ Q :=
  KtI.of my_X7_inverse hA [some (vI x0), none, none, none] (Nat.le_of_ble_eq_true rfl) rfl (fun p e s m args below meth c A0 E hr => t_X7_inverse E hr x0 σ c0 hσ h)
theorem dX7_scaleRow_0 : Dc cX7_scaleRow 0 (.iconst 0) 1 1 := ⟨by decide +kernel, rfl⟩
theorem dX7_scaleRow_1 : Dc cX7_scaleRow 1 (.istore_n 3) 1 2 := ⟨by decide +kernel, rfl⟩
theorem dX7_scaleRow_2 : Dc cX7_scaleRow 2 (.iload_n 3) 1 3 := ⟨by decide +kernel, rfl⟩
theorem dX7_scaleRow_3 : Dc cX7_scaleRow 3 (.bipush 13) 2 5 := ⟨by decide +kernel, rfl⟩
theorem djX7_scaleRow_5 : Dj cX7_scaleRow 5 (.if_icmp .ge 42) 3 8 42 47 := ⟨by decide +kernel, rfl, by decide⟩
theorem dX7_scaleRow_8 : Dc cX7_scaleRow 8 (.iload_n 2) 1 9 := ⟨by decide +kernel, rfl⟩
theorem dX7_scaleRow_9 : Dc cX7_scaleRow 9 (.iconst 1) 1 10 := ⟨by decide +kernel, rfl⟩
theorem djX7_scaleRow_10 : Dj cX7_scaleRow 10 (.if_icmp .eq 37) 3 13 37 47 := ⟨by decide +kernel, rfl, by decide⟩
theorem dX7_scaleRow_13 : Dc cX7_scaleRow 13 (.aload_n 0) 1 14 := ⟨by decide +kernel, rfl⟩
theorem dX7_scaleRow_14 : Dc cX7_scaleRow 14 (.getfield 31) 3 17 := ⟨by decide +kernel, rfl⟩
theorem dX7_scaleRow_17 : Dc cX7_scaleRow 17 (.iload_n 1) 1 18 := ⟨by decide +kernel, rfl⟩
theorem dX7_scaleRow_18 : Dc cX7_scaleRow 18 (.bipush 13) 2 20 := ⟨by decide +kernel, rfl⟩
theorem dX7_scaleRow_20 : Dc cX7_scaleRow 20 (.imul) 1 21 := ⟨by decide +kernel, rfl⟩
theorem dX7_scaleRow_21 : Dc cX7_scaleRow 21 (.iload_n 3) 1 22 := ⟨by decide +kernel, rfl⟩
theorem dX7_scaleRow_22 : Dc cX7_scaleRow 22 (.iadd) 1 23 := ⟨by decide +kernel, rfl⟩
theorem dX7_scaleRow_23 : Dc cX7_scaleRow 23 (.aload_n 0) 1 24 := ⟨by decide +kernel, rfl⟩
theorem dX7_scaleRow_24 : Dc cX7_scaleRow 24 (.getfield 31) 3 27 := ⟨by decide +kernel, rfl⟩
theorem dX7_scaleRow_27 : Dc cX7_scaleRow 27 (.iload_n 1) 1 28 := ⟨by decide +kernel, rfl⟩
theorem dX7_scaleRow_28 : Dc cX7_scaleRow 28 (.bipush 13) 2 30 := ⟨by decide +kernel, rfl⟩
theorem dX7_scaleRow_30 : Dc cX7_scaleRow 30 (.imul) 1 31 := ⟨by decide +kernel, rfl⟩
theorem dX7_scaleRow_31 : Dc cX7_scaleRow 31 (.iload_n 3) 1 32 := ⟨by decide +kernel, rfl⟩
theorem dX7_scaleRow_32 : Dc cX7_scaleRow 32 (.iadd) 1 33 := ⟨by decide +kernel, rfl⟩
theorem dX7_scaleRow_33 : Dc cX7_scaleRow 33 (.iaload) 1 34 := ⟨by decide +kernel, rfl⟩
theorem dX7_scaleRow_34 : Dc cX7_scaleRow 34 (.iload_n 2) 1 35 := ⟨by decide +kernel, rfl⟩
theorem dX7_scaleRow_35 : Dc cX7_scaleRow 35 (.imul) 1 36 := ⟨by decide +kernel, rfl⟩
theorem dX7_scaleRow_36 : Dc cX7_scaleRow 36 (.sipush 9973) 3 39 := ⟨by decide +kernel, rfl⟩
theorem dX7_scaleRow_39 : Dc cX7_scaleRow 39 (.irem) 1 40 := ⟨by decide +kernel, rfl⟩
theorem dX7_scaleRow_40 : Dc cX7_scaleRow 40 (.iastore) 1 41 := ⟨by decide +kernel, rfl⟩
theorem dX7_scaleRow_41 : Dc cX7_scaleRow 41 (.iinc 3 1) 3 44 := ⟨by decide +kernel, rfl⟩
theorem djX7_scaleRow_44 : Dj cX7_scaleRow 44 (.goto (-42)) 3 47 (-42) 2 := ⟨by decide +kernel, rfl, by decide⟩
theorem dX7_scaleRow_47 : Dc cX7_scaleRow 47 (.return_) 1 48 := ⟨by decide +kernel, rfl⟩
section
variable {p : Program} {l : Launch} {e : Env} {s : State} {m : MethodId} {args : Array Value} {below : List Frame} {meth : Method} {c : Code} {A0 : Nat → Prop} {D : va_G} {cA : Nat → ClassId} {ad : Nat → Nat} {Z : (Nat → Nat) × (Nat → Nat)} {Q : Int → St → Prop} {b : Bool}
set_option maxHeartbeats 4000000 in
set_option maxRecDepth 100000 in
theorem t_X7_scaleRow_l2 (E : Ev p s m args meth c cX7_scaleRow 4 RX7 A0 D cA ad (NC b) Z) (hr : meth.sig.returnType = none) : ∀ (n : Nat) (x1 : Int) (x2 : Int) (x3 : Int) (σ : St), C32 x1 → C32 x2 → C32 x3 → CanS (shC b) (NC b) σ → wp_X7_scaleRow_l2 Q n x1 x2 x3 σ → G p l e (rmL 1 0 0) s m args below meth c 4 A0 D cA ad (shC b) (NC b) 0 0 (MQ below (QVc D cA ad (shC b) (NC b) Q A0) args s 0 0 A0) σ 2 [some (.ref (ad 45)), some (vI x1), some (vI x2), some (vI x3)] [] := by
  intro n
  induction n with
  | zero => intro _ _ _ _ _ _ _ _ h; exact h.elim
  | succ n ih =>
    intro x1 x2 x3 σ c1 c2 c3 hσ h
    unfold wp_X7_scaleRow_l2 at h
    refine g_iload_3 E dX7_scaleRow_2 ?_
    refine g_bipush E (by decide) dX7_scaleRow_3 ?_
    refine g_icmp_ge E c3 cl_13 djX7_scaleRow_5 (fun hc => ?_) (fun hc => ?_)
    · replace h := h.1 hc
      exact g_vret E hr h hσ dX7_scaleRow_47
    · replace h := h.2 hc
      refine g_iload_2 E dX7_scaleRow_8 ?_
      refine g_iconst E dX7_scaleRow_9 ?_
      refine g_icmp_eq E c2 cl_1 djX7_scaleRow_10 (fun hc => ?_) (fun hc => ?_)
      · replace h := h.1 hc
        exact g_vret E hr h hσ dX7_scaleRow_47
      · replace h := h.2 hc
        refine g_aload_0 E dX7_scaleRow_13 ?_
        refine g_getR E fl_RX7_31 (kC_45 b) (sC_45 b) rfl dX7_scaleRow_14 ?_
        refine g_iload_1 E dX7_scaleRow_17 ?_
        refine g_bipush E (by decide) dX7_scaleRow_18 ?_
        refine g_imul E dX7_scaleRow_20 ?_
        refine g_iload_3 E dX7_scaleRow_21 ?_
        refine g_iadd E dX7_scaleRow_22 ?_
        refine g_aload_0 E dX7_scaleRow_23 ?_
        refine g_getR E fl_RX7_31 (kC_45 b) (sC_45 b) rfl dX7_scaleRow_24 ?_
        refine g_iload_1 E dX7_scaleRow_27 ?_
        refine g_bipush E (by decide) dX7_scaleRow_28 ?_
        refine g_imul E dX7_scaleRow_30 ?_
        refine g_iload_3 E dX7_scaleRow_31 ?_
        refine g_iadd E dX7_scaleRow_32 ?_
        refine g_iald E (kC_48 b) (sC_48 b) (by decide) h.1 dX7_scaleRow_33 ?_
        replace h := h.2
        refine g_iload_2 E dX7_scaleRow_34 ?_
        refine g_imul E dX7_scaleRow_35 ?_
        refine g_sipush E (by decide) dX7_scaleRow_36 ?_
        refine g_irem E cl_9973 (by decide) dX7_scaleRow_39 ?_
        refine g_iast E (kC_48 b) (sC_48 b) (by decide) h.1 dX7_scaleRow_40 (g_nmS (fun σ1 eσ1 => ?_))
        replace h := h.2 σ1 eσ1
        have hσ1 : CanS (shC b) (NC b) σ1 := by rw [eσ1]; exact wC_48 hσ (c32_t _)
        refine g_iinc_3 E rfl (by decide) dX7_scaleRow_41 (fun v2 ev2 => ?_)
        replace h := h v2 ev2
        have cv2 : C32 v2 := by rw [ev2]; exact c32_w _
        refine g_goto E djX7_scaleRow_44 ?_
        exact (ih x1 x2 v2 σ1 c1 c2 cv2 hσ1 h).weak (w_k (w_k (w_k (w_k w_n))))
set_option maxHeartbeats 4000000 in
set_option maxRecDepth 100000 in
theorem t_X7_scaleRow (E : Ev p s m args meth c cX7_scaleRow 4 RX7 A0 D cA ad (NC b) Z) (hr : meth.sig.returnType = none) (x1 : Int) (x2 : Int) (σ : St) (c1 : C32 x1) (c2 : C32 x2) (hσ : CanS (shC b) (NC b) σ) (h : wp_X7_scaleRow x1 x2 σ Q) : G p l e (rmL 1 0 0) s m args below meth c 4 A0 D cA ad (shC b) (NC b) 0 0 (MQ below (QVc D cA ad (shC b) (NC b) Q A0) args s 0 0 A0) σ 0 [some (.ref (ad 45)), some (vI x1), some (vI x2), none] [] := by
  unfold wp_X7_scaleRow at h
  refine g_iconst E dX7_scaleRow_0 ?_
  refine g_istore_3 E rfl (by decide) dX7_scaleRow_1 ?_
  exact (t_X7_scaleRow_l2 E hr bigN x1 x2 0 σ c1 c2 cl_0 hσ h).weak (w_k (w_k (w_k (w_k w_n))))
end
theorem m_X7_scaleRow {Z : (Nat → Nat) × (Nat → Nat)} {l : Launch} {D : va_G} {cA : Nat → ClassId} {ad : Nat → Nat} {b : Bool} {x1 x2 : Int} {σ : St} {Q : Int → St → Prop} (hA : AdOk (NC b) ad) (c1 : C32 x1) (c2 : C32 x2) (hσ : CanS (shC b) (NC b) σ) (h : wp_X7_scaleRow x1 x2 σ Q) : KtV Z l D cA ad (shC b) (NC b) yX7_scaleRow cX7_scaleRow 4 none 1 [.ref (ad 45), vI x1, vI x2] σ Q :=
  KtV.of my_X7_scaleRow hA [some (.ref (ad 45)), some (vI x1), some (vI x2), none] (Nat.le_of_ble_eq_true rfl) rfl (fun p e s m args below meth c A0 E hr => t_X7_scaleRow E hr x1 x2 σ c1 c2 hσ h)
theorem dJ9_floorMod_7cf53_0 : Dc cJ9_floorMod_7cf53 0 (.iload_n 0) 1 1 := ⟨by decide +kernel, rfl⟩
theorem dJ9_floorMod_7cf53_1 : Dc cJ9_floorMod_7cf53 1 (.iload_n 1) 1 2 := ⟨by decide +kernel, rfl⟩
theorem dJ9_floorMod_7cf53_2 : Dc cJ9_floorMod_7cf53 2 (.irem) 1 3 := ⟨by decide +kernel, rfl⟩
theorem dJ9_floorMod_7cf53_3 : Dc cJ9_floorMod_7cf53 3 (.istore_n 2) 1 4 := ⟨by decide +kernel, rfl⟩
theorem dJ9_floorMod_7cf53_4 : Dc cJ9_floorMod_7cf53 4 (.iload_n 0) 1 5 := ⟨by decide +kernel, rfl⟩
theorem dJ9_floorMod_7cf53_5 : Dc cJ9_floorMod_7cf53 5 (.iload_n 1) 1 6 := ⟨by decide +kernel, rfl⟩
theorem dJ9_floorMod_7cf53_6 : Dc cJ9_floorMod_7cf53 6 (.ixor) 1 7 := ⟨by decide +kernel, rfl⟩
theorem djJ9_floorMod_7cf53_7 : Dj cJ9_floorMod_7cf53 7 (.ifCond .ge 11) 3 10 11 18 := ⟨by decide +kernel, rfl, by decide⟩
theorem dJ9_floorMod_7cf53_10 : Dc cJ9_floorMod_7cf53 10 (.iload_n 2) 1 11 := ⟨by decide +kernel, rfl⟩
theorem djJ9_floorMod_7cf53_11 : Dj cJ9_floorMod_7cf53 11 (.ifCond .eq 7) 3 14 7 18 := ⟨by decide +kernel, rfl, by decide⟩
theorem dJ9_floorMod_7cf53_14 : Dc cJ9_floorMod_7cf53 14 (.iload_n 2) 1 15 := ⟨by decide +kernel, rfl⟩
theorem dJ9_floorMod_7cf53_15 : Dc cJ9_floorMod_7cf53 15 (.iload_n 1) 1 16 := ⟨by decide +kernel, rfl⟩
theorem dJ9_floorMod_7cf53_16 : Dc cJ9_floorMod_7cf53 16 (.iadd) 1 17 := ⟨by decide +kernel, rfl⟩
theorem dJ9_floorMod_7cf53_17 : Dc cJ9_floorMod_7cf53 17 (.ireturn) 1 18 := ⟨by decide +kernel, rfl⟩
theorem dJ9_floorMod_7cf53_18 : Dc cJ9_floorMod_7cf53 18 (.iload_n 2) 1 19 := ⟨by decide +kernel, rfl⟩
theorem dJ9_floorMod_7cf53_19 : Dc cJ9_floorMod_7cf53 19 (.ireturn) 1 20 := ⟨by decide +kernel, rfl⟩
section
variable {p : Program} {l : Launch} {e : Env} {s : State} {m : MethodId} {args : Array Value} {below : List Frame} {meth : Method} {c : Code} {A0 : Nat → Prop} {D : va_G} {cA : Nat → ClassId} {ad : Nat → Nat} {Z : (Nat → Nat) × (Nat → Nat)} {Q : Int → St → Prop} {b : Bool}
set_option maxHeartbeats 4000000 in
set_option maxRecDepth 100000 in
theorem t_J9_floorMod_7cf53_C (E : Ev p s m args meth c cJ9_floorMod_7cf53 3 RJ9 A0 D cA ad (NC b) Z) (hr : meth.sig.returnType = (some .int)) (x0 : Int) (x1 : Int) (σ : St) (c0 : C32 x0) (c1 : C32 x1) (hσ : CanS (shC b) (NC b) σ) (h : wp_J9_floorMod_7cf53_C x0 x1 σ Q) : G p l e (rmL 1 0 0) s m args below meth c 3 A0 D cA ad (shC b) (NC b) 0 0 (MQ below (QIc D cA ad (shC b) (NC b) Q A0) args s 0 0 A0) σ 0 [some (vI x0), some (vI x1), none] [] := by
  unfold wp_J9_floorMod_7cf53_C at h
  refine g_iload_0 E dJ9_floorMod_7cf53_0 ?_
  refine g_iload_1 E dJ9_floorMod_7cf53_1 ?_
  refine g_irem E c1 h.1 dJ9_floorMod_7cf53_2 ?_
  replace h := h.2
  refine g_nmI (fun v1 ev1 => ?_)
  replace h := h v1 ev1
  have cv1 : C32 v1 := by rw [ev1]; exact (c32_t _)
  refine g_istore_2 E rfl (by decide) dJ9_floorMod_7cf53_3 ?_
  refine g_iload_0 E dJ9_floorMod_7cf53_4 ?_
  refine g_iload_1 E dJ9_floorMod_7cf53_5 ?_
  refine g_ixor E dJ9_floorMod_7cf53_6 ?_
  refine g_if_ge E (c32_t _) djJ9_floorMod_7cf53_7 (fun hc => ?_) (fun hc => ?_)
  · replace h := h.1 hc
    refine g_iload_2 E dJ9_floorMod_7cf53_18 ?_
    exact g_iret E hr cv1 h hσ dJ9_floorMod_7cf53_19
  · replace h := h.2 hc
    refine g_iload_2 E dJ9_floorMod_7cf53_10 ?_
    refine g_if_eq E cv1 djJ9_floorMod_7cf53_11 (fun hc => ?_) (fun hc => ?_)
    · replace h := h.1 hc
      refine g_iload_2 E dJ9_floorMod_7cf53_18 ?_
      exact g_iret E hr cv1 h hσ dJ9_floorMod_7cf53_19
    · replace h := h.2 hc
      refine g_iload_2 E dJ9_floorMod_7cf53_14 ?_
      refine g_iload_1 E dJ9_floorMod_7cf53_15 ?_
      refine g_iadd E dJ9_floorMod_7cf53_16 ?_
      exact g_iret E hr (c32_w _) h hσ dJ9_floorMod_7cf53_17
end
theorem m_J9_floorMod_7cf53_C {Z : (Nat → Nat) × (Nat → Nat)} {l : Launch} {D : va_G} {cA : Nat → ClassId} {ad : Nat → Nat} {b : Bool} {x0 x1 : Int} {σ : St} {Q : Int → St → Prop} (hA : AdOk (NC b) ad) (c0 : C32 x0) (c1 : C32 x1) (hσ : CanS (shC b) (NC b) σ) (h : wp_J9_floorMod_7cf53_C x0 x1 σ Q) : KtI Z l D cA ad (shC b) (NC b) yJ9_floorMod_7cf53 cJ9_floorMod_7cf53 3 (some .int) 1 [vI x0, vI x1] σ Q :=
  KtI.of my_J9_floorMod_7cf53 hA [some (vI x0), some (vI x1), none] (Nat.le_of_ble_eq_true rfl) rfl (fun p e s m args below meth c A0 E hr => t_J9_floorMod_7cf53_C E hr x0 x1 σ c0 c1 hσ h)
theorem dX7_subtractRow_0 : Dc cX7_subtractRow 0 (.iconst 0) 1 1 := ⟨by decide +kernel, rfl⟩
theorem dX7_subtractRow_1 : Dc cX7_subtractRow 1 (.istore 4) 2 3 := ⟨by decide +kernel, rfl⟩
theorem dX7_subtractRow_3 : Dc cX7_subtractRow 3 (.iload 4) 2 5 := ⟨by decide +kernel, rfl⟩
theorem dX7_subtractRow_5 : Dc cX7_subtractRow 5 (.bipush 13) 2 7 := ⟨by decide +kernel, rfl⟩
theorem djX7_subtractRow_7 : Dj cX7_subtractRow 7 (.if_icmp .ge 66) 3 10 66 73 := ⟨by decide +kernel, rfl, by decide⟩
theorem dX7_subtractRow_10 : Dc cX7_subtractRow 10 (.iload_n 3) 1 11 := ⟨by decide +kernel, rfl⟩
theorem djX7_subtractRow_11 : Dj cX7_subtractRow 11 (.ifCond .eq 62) 3 14 62 73 := ⟨by decide +kernel, rfl, by decide⟩
theorem dX7_subtractRow_14 : Dc cX7_subtractRow 14 (.aload_n 0) 1 15 := ⟨by decide +kernel, rfl⟩
theorem dX7_subtractRow_15 : Dc cX7_subtractRow 15 (.getfield 31) 3 18 := ⟨by decide +kernel, rfl⟩
theorem dX7_subtractRow_18 : Dc cX7_subtractRow 18 (.iload_n 2) 1 19 := ⟨by decide +kernel, rfl⟩
theorem dX7_subtractRow_19 : Dc cX7_subtractRow 19 (.bipush 13) 2 21 := ⟨by decide +kernel, rfl⟩
theorem dX7_subtractRow_21 : Dc cX7_subtractRow 21 (.imul) 1 22 := ⟨by decide +kernel, rfl⟩
theorem dX7_subtractRow_22 : Dc cX7_subtractRow 22 (.iload 4) 2 24 := ⟨by decide +kernel, rfl⟩
theorem dX7_subtractRow_24 : Dc cX7_subtractRow 24 (.iadd) 1 25 := ⟨by decide +kernel, rfl⟩
theorem dX7_subtractRow_25 : Dc cX7_subtractRow 25 (.iaload) 1 26 := ⟨by decide +kernel, rfl⟩
theorem dX7_subtractRow_26 : Dc cX7_subtractRow 26 (.iload_n 3) 1 27 := ⟨by decide +kernel, rfl⟩
theorem dX7_subtractRow_27 : Dc cX7_subtractRow 27 (.imul) 1 28 := ⟨by decide +kernel, rfl⟩
theorem dX7_subtractRow_28 : Dc cX7_subtractRow 28 (.sipush 9973) 3 31 := ⟨by decide +kernel, rfl⟩
theorem dX7_subtractRow_31 : Dc cX7_subtractRow 31 (.irem) 1 32 := ⟨by decide +kernel, rfl⟩
theorem dX7_subtractRow_32 : Dc cX7_subtractRow 32 (.istore 5) 2 34 := ⟨by decide +kernel, rfl⟩
theorem dX7_subtractRow_34 : Dc cX7_subtractRow 34 (.aload_n 0) 1 35 := ⟨by decide +kernel, rfl⟩
theorem dX7_subtractRow_35 : Dc cX7_subtractRow 35 (.getfield 31) 3 38 := ⟨by decide +kernel, rfl⟩
theorem dX7_subtractRow_38 : Dc cX7_subtractRow 38 (.iload_n 1) 1 39 := ⟨by decide +kernel, rfl⟩
theorem dX7_subtractRow_39 : Dc cX7_subtractRow 39 (.bipush 13) 2 41 := ⟨by decide +kernel, rfl⟩
theorem dX7_subtractRow_41 : Dc cX7_subtractRow 41 (.imul) 1 42 := ⟨by decide +kernel, rfl⟩
theorem dX7_subtractRow_42 : Dc cX7_subtractRow 42 (.iload 4) 2 44 := ⟨by decide +kernel, rfl⟩
theorem dX7_subtractRow_44 : Dc cX7_subtractRow 44 (.iadd) 1 45 := ⟨by decide +kernel, rfl⟩
theorem dX7_subtractRow_45 : Dc cX7_subtractRow 45 (.aload_n 0) 1 46 := ⟨by decide +kernel, rfl⟩
theorem dX7_subtractRow_46 : Dc cX7_subtractRow 46 (.getfield 31) 3 49 := ⟨by decide +kernel, rfl⟩
theorem dX7_subtractRow_49 : Dc cX7_subtractRow 49 (.iload_n 1) 1 50 := ⟨by decide +kernel, rfl⟩
theorem dX7_subtractRow_50 : Dc cX7_subtractRow 50 (.bipush 13) 2 52 := ⟨by decide +kernel, rfl⟩
theorem dX7_subtractRow_52 : Dc cX7_subtractRow 52 (.imul) 1 53 := ⟨by decide +kernel, rfl⟩
theorem dX7_subtractRow_53 : Dc cX7_subtractRow 53 (.iload 4) 2 55 := ⟨by decide +kernel, rfl⟩
theorem dX7_subtractRow_55 : Dc cX7_subtractRow 55 (.iadd) 1 56 := ⟨by decide +kernel, rfl⟩
theorem dX7_subtractRow_56 : Dc cX7_subtractRow 56 (.iaload) 1 57 := ⟨by decide +kernel, rfl⟩
theorem dX7_subtractRow_57 : Dc cX7_subtractRow 57 (.iload 5) 2 59 := ⟨by decide +kernel, rfl⟩
theorem dX7_subtractRow_59 : Dc cX7_subtractRow 59 (.isub) 1 60 := ⟨by decide +kernel, rfl⟩
theorem dX7_subtractRow_60 : Dc cX7_subtractRow 60 (.sipush 9973) 3 63 := ⟨by decide +kernel, rfl⟩
theorem dX7_subtractRow_63 : Dc cX7_subtractRow 63 (.invokestatic 100) 3 66 := ⟨by decide +kernel, rfl⟩
theorem dX7_subtractRow_66 : Dc cX7_subtractRow 66 (.iastore) 1 67 := ⟨by decide +kernel, rfl⟩
theorem dX7_subtractRow_67 : Dc cX7_subtractRow 67 (.iinc 4 1) 3 70 := ⟨by decide +kernel, rfl⟩
theorem djX7_subtractRow_70 : Dj cX7_subtractRow 70 (.goto (-67)) 3 73 (-67) 3 := ⟨by decide +kernel, rfl, by decide⟩
theorem dX7_subtractRow_73 : Dc cX7_subtractRow 73 (.return_) 1 74 := ⟨by decide +kernel, rfl⟩
section
variable {p : Program} {l : Launch} {e : Env} {s : State} {m : MethodId} {args : Array Value} {below : List Frame} {meth : Method} {c : Code} {A0 : Nat → Prop} {D : va_G} {cA : Nat → ClassId} {ad : Nat → Nat} {Z : (Nat → Nat) × (Nat → Nat)} {Q : Int → St → Prop} {b : Bool}
set_option maxHeartbeats 4000000 in
set_option maxRecDepth 100000 in
theorem t_X7_subtractRow_l3 (E : Ev p s m args meth c cX7_subtractRow 6 RX7 A0 D cA ad (NC b) Z) (hr : meth.sig.returnType = none) : ∀ (n : Nat) (x1 : Int) (x2 : Int) (x3 : Int) (x4 : Int) (σ : St), C32 x1 → C32 x2 → C32 x3 → C32 x4 → CanS (shC b) (NC b) σ → wp_X7_subtractRow_l3 Q n x1 x2 x3 x4 σ → G p l e (rmL 2 0 0) s m args below meth c 6 A0 D cA ad (shC b) (NC b) 0 0 (MQ below (QVc D cA ad (shC b) (NC b) Q A0) args s 0 0 A0) σ 3 [some (.ref (ad 45)), some (vI x1), some (vI x2), some (vI x3), some (vI x4), none] [] := by
  intro n
  induction n with
  | zero => intro _ _ _ _ _ _ _ _ _ _ h; exact h.elim
  | succ n ih =>
    intro x1 x2 x3 x4 σ c1 c2 c3 c4 hσ h
    unfold wp_X7_subtractRow_l3 at h
    refine g_iload_4 E dX7_subtractRow_3 ?_
    refine g_bipush E (by decide) dX7_subtractRow_5 ?_
    refine g_icmp_ge E c4 cl_13 djX7_subtractRow_7 (fun hc => ?_) (fun hc => ?_)
    · replace h := h.1 hc
      exact g_vret E hr h hσ dX7_subtractRow_73
    · replace h := h.2 hc
      refine g_iload_3 E dX7_subtractRow_10 ?_
      refine g_if_eq E c3 djX7_subtractRow_11 (fun hc => ?_) (fun hc => ?_)
      · replace h := h.1 hc
        exact g_vret E hr h hσ dX7_subtractRow_73
      · replace h := h.2 hc
        refine g_aload_0 E dX7_subtractRow_14 ?_
        refine g_getR E fl_RX7_31 (kC_45 b) (sC_45 b) rfl dX7_subtractRow_15 ?_
        refine g_iload_2 E dX7_subtractRow_18 ?_
        refine g_bipush E (by decide) dX7_subtractRow_19 ?_
        refine g_imul E dX7_subtractRow_21 ?_
        refine g_iload_4 E dX7_subtractRow_22 ?_
        refine g_iadd E dX7_subtractRow_24 ?_
        refine g_iald E (kC_48 b) (sC_48 b) (by decide) h.1 dX7_subtractRow_25 ?_
        replace h := h.2
        refine g_iload_3 E dX7_subtractRow_26 ?_
        refine g_imul E dX7_subtractRow_27 ?_
        refine g_sipush E (by decide) dX7_subtractRow_28 ?_
        refine g_irem E cl_9973 (by decide) dX7_subtractRow_31 ?_
        refine g_nmI (fun v1 ev1 => ?_)
        replace h := h v1 ev1
        have cv1 : C32 v1 := by rw [ev1]; exact (c32_t _)
        refine g_istore_5 E rfl (by decide) dX7_subtractRow_32 ?_
        refine g_aload_0 E dX7_subtractRow_34 ?_
        refine g_getR E fl_RX7_31 (kC_45 b) (sC_45 b) rfl dX7_subtractRow_35 ?_
        refine g_iload_1 E dX7_subtractRow_38 ?_
        refine g_bipush E (by decide) dX7_subtractRow_39 ?_
        refine g_imul E dX7_subtractRow_41 ?_
        refine g_iload_4 E dX7_subtractRow_42 ?_
        refine g_iadd E dX7_subtractRow_44 ?_
        refine g_aload_0 E dX7_subtractRow_45 ?_
        refine g_getR E fl_RX7_31 (kC_45 b) (sC_45 b) rfl dX7_subtractRow_46 ?_
        refine g_iload_1 E dX7_subtractRow_49 ?_
        refine g_bipush E (by decide) dX7_subtractRow_50 ?_
        refine g_imul E dX7_subtractRow_52 ?_
        refine g_iload_4 E dX7_subtractRow_53 ?_
        refine g_iadd E dX7_subtractRow_55 ?_
        refine g_iald E (kC_48 b) (sC_48 b) (by decide) h.1 dX7_subtractRow_56 ?_
        replace h := h.2
        refine g_iload_5 E dX7_subtractRow_57 ?_
        refine g_isub E dX7_subtractRow_59 ?_
        refine g_sipush E (by decide) dX7_subtractRow_60 ?_
        refine g_callsI E my_J9_floorMod_7cf53 ms_J9_floorMod_7cf53 ml_RX7_100 (rm_ok (by decide) (by decide)) ⟨Nat.zero_le _, Nat.zero_le _⟩ (m_J9_floorMod_7cf53_C E.2.2.1 (c32_w _) cl_9973 hσ h) rfl rfl (Nat.le_of_ble_eq_true rfl) dX7_subtractRow_63 (fun r2 σ3 cr2 hσ3 h => ?_)
        refine g_iast E (kC_48 b) (sC_48 b) (by decide) h.1 dX7_subtractRow_66 (g_nmS (fun σ4 eσ4 => ?_))
        replace h := h.2 σ4 eσ4
        have hσ4 : CanS (shC b) (NC b) σ4 := by rw [eσ4]; exact wC_48 hσ3 cr2
        refine g_iinc_4 E rfl (by decide) dX7_subtractRow_67 (fun v5 ev5 => ?_)
        replace h := h v5 ev5
        have cv5 : C32 v5 := by rw [ev5]; exact c32_w _
        refine g_goto E djX7_subtractRow_70 ?_
        exact (ih x1 x2 x3 v5 σ4 c1 c2 c3 cv5 hσ4 h).weak (w_k (w_k (w_k (w_k (w_k (w_d w_n))))))
set_option maxHeartbeats 4000000 in
set_option maxRecDepth 100000 in
theorem t_X7_subtractRow (E : Ev p s m args meth c cX7_subtractRow 6 RX7 A0 D cA ad (NC b) Z) (hr : meth.sig.returnType = none) (x1 : Int) (x2 : Int) (x3 : Int) (σ : St) (c1 : C32 x1) (c2 : C32 x2) (c3 : C32 x3) (hσ : CanS (shC b) (NC b) σ) (h : wp_X7_subtractRow x1 x2 x3 σ Q) : G p l e (rmL 2 0 0) s m args below meth c 6 A0 D cA ad (shC b) (NC b) 0 0 (MQ below (QVc D cA ad (shC b) (NC b) Q A0) args s 0 0 A0) σ 0 [some (.ref (ad 45)), some (vI x1), some (vI x2), some (vI x3), none, none] [] := by
  unfold wp_X7_subtractRow at h
  refine g_iconst E dX7_subtractRow_0 ?_
  refine g_istore_4 E rfl (by decide) dX7_subtractRow_1 ?_
  exact (t_X7_subtractRow_l3 E hr bigN x1 x2 x3 0 σ c1 c2 c3 cl_0 hσ h).weak (w_k (w_k (w_k (w_k (w_k (w_d w_n))))))
end
theorem m_X7_subtractRow {Z : (Nat → Nat) × (Nat → Nat)} {l : Launch} {D : va_G} {cA : Nat → ClassId} {ad : Nat → Nat} {b : Bool} {x1 x2 x3 : Int} {σ : St} {Q : Int → St → Prop} (hA : AdOk (NC b) ad) (c1 : C32 x1) (c2 : C32 x2) (c3 : C32 x3) (hσ : CanS (shC b) (NC b) σ) (h : wp_X7_subtractRow x1 x2 x3 σ Q) : KtV Z l D cA ad (shC b) (NC b) yX7_subtractRow cX7_subtractRow 6 none 2 [.ref (ad 45), vI x1, vI x2, vI x3] σ Q :=
  KtV.of my_X7_subtractRow hA [some (.ref (ad 45)), some (vI x1), some (vI x2), some (vI x3), none, none] (Nat.le_of_ble_eq_true rfl) rfl (fun p e s m args below meth c A0 E hr => t_X7_subtractRow E hr x1 x2 x3 σ c1 c2 c3 hσ h)
theorem dX7_eliminate_0 : Dc cX7_eliminate 0 (.iconst 0) 1 1 := ⟨by decide +kernel, rfl⟩
theorem dX7_eliminate_1 : Dc cX7_eliminate 1 (.istore_n 2) 1 2 := ⟨by decide +kernel, rfl⟩
theorem dX7_eliminate_2 : Dc cX7_eliminate 2 (.iload_n 2) 1 3 := ⟨by decide +kernel, rfl⟩
theorem dX7_eliminate_3 : Dc cX7_eliminate 3 (.iload_n 1) 1 4 := ⟨by decide +kernel, rfl⟩
theorem djX7_eliminate_4 : Dj cX7_eliminate 4 (.if_icmp .ge 108) 3 7 108 112 := ⟨by decide +kernel, rfl, by decide⟩
theorem dX7_eliminate_7 : Dc cX7_eliminate 7 (.iload_n 2) 1 8 := ⟨by decide +kernel, rfl⟩
theorem dX7_eliminate_8 : Dc cX7_eliminate 8 (.istore_n 3) 1 9 := ⟨by decide +kernel, rfl⟩
theorem dX7_eliminate_9 : Dc cX7_eliminate 9 (.iload_n 3) 1 10 := ⟨by decide +kernel, rfl⟩
theorem dX7_eliminate_10 : Dc cX7_eliminate 10 (.iload_n 1) 1 11 := ⟨by decide +kernel, rfl⟩
theorem djX7_eliminate_11 : Dj cX7_eliminate 11 (.if_icmp .ge 23) 3 14 23 34 := ⟨by decide +kernel, rfl, by decide⟩
theorem dX7_eliminate_14 : Dc cX7_eliminate 14 (.aload_n 0) 1 15 := ⟨by decide +kernel, rfl⟩
theorem dX7_eliminate_15 : Dc cX7_eliminate 15 (.getfield 31) 3 18 := ⟨by decide +kernel, rfl⟩
theorem dX7_eliminate_18 : Dc cX7_eliminate 18 (.iload_n 3) 1 19 := ⟨by decide +kernel, rfl⟩
theorem dX7_eliminate_19 : Dc cX7_eliminate 19 (.bipush 13) 2 21 := ⟨by decide +kernel, rfl⟩
theorem dX7_eliminate_21 : Dc cX7_eliminate 21 (.imul) 1 22 := ⟨by decide +kernel, rfl⟩
theorem dX7_eliminate_22 : Dc cX7_eliminate 22 (.iload_n 2) 1 23 := ⟨by decide +kernel, rfl⟩
theorem dX7_eliminate_23 : Dc cX7_eliminate 23 (.iadd) 1 24 := ⟨by decide +kernel, rfl⟩
theorem dX7_eliminate_24 : Dc cX7_eliminate 24 (.iaload) 1 25 := ⟨by decide +kernel, rfl⟩
theorem djX7_eliminate_25 : Dj cX7_eliminate 25 (.ifCond .ne 9) 3 28 9 34 := ⟨by decide +kernel, rfl, by decide⟩
theorem dX7_eliminate_28 : Dc cX7_eliminate 28 (.iinc 3 1) 3 31 := ⟨by decide +kernel, rfl⟩
theorem djX7_eliminate_31 : Dj cX7_eliminate 31 (.goto (-22)) 3 34 (-22) 9 := ⟨by decide +kernel, rfl, by decide⟩
theorem dX7_eliminate_34 : Dc cX7_eliminate 34 (.iload_n 3) 1 35 := ⟨by decide +kernel, rfl⟩
theorem dX7_eliminate_35 : Dc cX7_eliminate 35 (.iload_n 1) 1 36 := ⟨by decide +kernel, rfl⟩
theorem djX7_eliminate_36 : Dj cX7_eliminate 36 (.if_icmp .lt 5) 3 39 5 41 := ⟨by decide +kernel, rfl, by decide⟩
theorem dX7_eliminate_39 : Dc cX7_eliminate 39 (.iconst 0) 1 40 := ⟨by decide +kernel, rfl⟩
theorem dX7_eliminate_40 : Dc cX7_eliminate 40 (.ireturn) 1 41 := ⟨by decide +kernel, rfl⟩
theorem dX7_eliminate_41 : Dc cX7_eliminate 41 (.aload_n 0) 1 42 := ⟨by decide +kernel, rfl⟩
theorem dX7_eliminate_42 : Dc cX7_eliminate 42 (.iload_n 3) 1 43 := ⟨by decide +kernel, rfl⟩
theorem dX7_eliminate_43 : Dc cX7_eliminate 43 (.iload_n 2) 1 44 := ⟨by decide +kernel, rfl⟩
theorem dX7_eliminate_44 : Dc cX7_eliminate 44 (.invokevirtual 106) 3 47 := ⟨by decide +kernel, rfl⟩
theorem dX7_eliminate_47 : Dc cX7_eliminate 47 (.aload_n 0) 1 48 := ⟨by decide +kernel, rfl⟩
theorem dX7_eliminate_48 : Dc cX7_eliminate 48 (.iload_n 2) 1 49 := ⟨by decide +kernel, rfl⟩
theorem dX7_eliminate_49 : Dc cX7_eliminate 49 (.aload_n 0) 1 50 := ⟨by decide +kernel, rfl⟩
theorem dX7_eliminate_50 : Dc cX7_eliminate 50 (.getfield 31) 3 53 := ⟨by decide +kernel, rfl⟩
theorem dX7_eliminate_53 : Dc cX7_eliminate 53 (.iload_n 2) 1 54 := ⟨by decide +kernel, rfl⟩
theorem dX7_eliminate_54 : Dc cX7_eliminate 54 (.bipush 13) 2 56 := ⟨by decide +kernel, rfl⟩
theorem dX7_eliminate_56 : Dc cX7_eliminate 56 (.imul) 1 57 := ⟨by decide +kernel, rfl⟩
theorem dX7_eliminate_57 : Dc cX7_eliminate 57 (.iload_n 2) 1 58 := ⟨by decide +kernel, rfl⟩
theorem dX7_eliminate_58 : Dc cX7_eliminate 58 (.iadd) 1 59 := ⟨by decide +kernel, rfl⟩
theorem dX7_eliminate_59 : Dc cX7_eliminate 59 (.iaload) 1 60 := ⟨by decide +kernel, rfl⟩
theorem dX7_eliminate_60 : Dc cX7_eliminate 60 (.invokestatic 110) 3 63 := ⟨by decide +kernel, rfl⟩
theorem dX7_eliminate_63 : Dc cX7_eliminate 63 (.invokevirtual 113) 3 66 := ⟨by decide +kernel, rfl⟩
theorem dX7_eliminate_66 : Dc cX7_eliminate 66 (.iconst 0) 1 67 := ⟨by decide +kernel, rfl⟩
theorem dX7_eliminate_67 : Dc cX7_eliminate 67 (.istore 4) 2 69 := ⟨by decide +kernel, rfl⟩
theorem dX7_eliminate_69 : Dc cX7_eliminate 69 (.iload 4) 2 71 := ⟨by decide +kernel, rfl⟩
theorem dX7_eliminate_71 : Dc cX7_eliminate 71 (.iload_n 1) 1 72 := ⟨by decide +kernel, rfl⟩
theorem djX7_eliminate_72 : Dj cX7_eliminate 72 (.if_icmp .ge 34) 3 75 34 106 := ⟨by decide +kernel, rfl, by decide⟩
theorem dX7_eliminate_75 : Dc cX7_eliminate 75 (.iload 4) 2 77 := ⟨by decide +kernel, rfl⟩
theorem dX7_eliminate_77 : Dc cX7_eliminate 77 (.iload_n 2) 1 78 := ⟨by decide +kernel, rfl⟩
theorem djX7_eliminate_78 : Dj cX7_eliminate 78 (.if_icmp .eq 22) 3 81 22 100 := ⟨by decide +kernel, rfl, by decide⟩
theorem dX7_eliminate_81 : Dc cX7_eliminate 81 (.aload_n 0) 1 82 := ⟨by decide +kernel, rfl⟩
theorem dX7_eliminate_82 : Dc cX7_eliminate 82 (.iload 4) 2 84 := ⟨by decide +kernel, rfl⟩
theorem dX7_eliminate_84 : Dc cX7_eliminate 84 (.iload_n 2) 1 85 := ⟨by decide +kernel, rfl⟩
theorem dX7_eliminate_85 : Dc cX7_eliminate 85 (.aload_n 0) 1 86 := ⟨by decide +kernel, rfl⟩
theorem dX7_eliminate_86 : Dc cX7_eliminate 86 (.getfield 31) 3 89 := ⟨by decide +kernel, rfl⟩
theorem dX7_eliminate_89 : Dc cX7_eliminate 89 (.iload 4) 2 91 := ⟨by decide +kernel, rfl⟩
theorem dX7_eliminate_91 : Dc cX7_eliminate 91 (.bipush 13) 2 93 := ⟨by decide +kernel, rfl⟩
theorem dX7_eliminate_93 : Dc cX7_eliminate 93 (.imul) 1 94 := ⟨by decide +kernel, rfl⟩
theorem dX7_eliminate_94 : Dc cX7_eliminate 94 (.iload_n 2) 1 95 := ⟨by decide +kernel, rfl⟩
theorem dX7_eliminate_95 : Dc cX7_eliminate 95 (.iadd) 1 96 := ⟨by decide +kernel, rfl⟩
theorem dX7_eliminate_96 : Dc cX7_eliminate 96 (.iaload) 1 97 := ⟨by decide +kernel, rfl⟩
theorem dX7_eliminate_97 : Dc cX7_eliminate 97 (.invokevirtual 116) 3 100 := ⟨by decide +kernel, rfl⟩
theorem dX7_eliminate_100 : Dc cX7_eliminate 100 (.iinc 4 1) 3 103 := ⟨by decide +kernel, rfl⟩
theorem djX7_eliminate_103 : Dj cX7_eliminate 103 (.goto (-34)) 3 106 (-34) 69 := ⟨by decide +kernel, rfl, by decide⟩
theorem dX7_eliminate_106 : Dc cX7_eliminate 106 (.iinc 2 1) 3 109 := ⟨by decide +kernel, rfl⟩
theorem djX7_eliminate_109 : Dj cX7_eliminate 109 (.goto (-107)) 3 112 (-107) 2 := ⟨by decide +kernel, rfl, by decide⟩
theorem dX7_eliminate_112 : Dc cX7_eliminate 112 (.iconst 1) 1 113 := ⟨by decide +kernel, rfl⟩
theorem dX7_eliminate_113 : Dc cX7_eliminate 113 (.ireturn) 1 114 := ⟨by decide +kernel, rfl⟩
section
variable {p : Program} {l : Launch} {e : Env} {s : State} {m : MethodId} {args : Array Value} {below : List Frame} {meth : Method} {c : Code} {A0 : Nat → Prop} {D : va_G} {cA : Nat → ClassId} {ad : Nat → Nat} {Z : (Nat → Nat) × (Nat → Nat)} {Q : Int → St → Prop} {b : Bool}
set_option maxHeartbeats 4000000 in
set_option maxRecDepth 100000 in
theorem t_X7_eliminate_b100 (E : Ev p s m args meth c cX7_eliminate 5 RX7 A0 D cA ad (NC b) Z) (hr : meth.sig.returnType = (some .boolean)) {K2 : Int → Int → St → Prop} (hK2 : ∀ (x1 : Int) (x2 : Int) (σ : St), C32 x1 → C32 x2 → CanS (shC b) (NC b) σ → K2 x1 x2 σ → G p l e (rmL 3 0 0) s m args below meth c 5 A0 D cA ad (shC b) (NC b) 0 0 (MQ below (QIc D cA ad (shC b) (NC b) Q A0) args s 0 0 A0) σ 2 [some (.ref (ad 45)), some (vI x1), some (vI x2), none, none] []) {K69 : Int → Int → Int → St → Prop} (hK69 : ∀ (x1 : Int) (x2 : Int) (x4 : Int) (σ : St), C32 x1 → C32 x2 → C32 x4 → CanS (shC b) (NC b) σ → K69 x1 x2 x4 σ → G p l e (rmL 3 0 0) s m args below meth c 5 A0 D cA ad (shC b) (NC b) 0 0 (MQ below (QIc D cA ad (shC b) (NC b) Q A0) args s 0 0 A0) σ 69 [some (.ref (ad 45)), some (vI x1), some (vI x2), none, some (vI x4)] []) (x1 : Int) (x2 : Int) (x4 : Int) (σ : St) (c1 : C32 x1) (c2 : C32 x2) (c4 : C32 x4) (hσ : CanS (shC b) (NC b) σ) (h : wp_X7_eliminate_b100 Q K2 K69 x1 x2 x4 σ) : G p l e (rmL 3 0 0) s m args below meth c 5 A0 D cA ad (shC b) (NC b) 0 0 (MQ below (QIc D cA ad (shC b) (NC b) Q A0) args s 0 0 A0) σ 100 [some (.ref (ad 45)), some (vI x1), some (vI x2), none, some (vI x4)] [] := by
  unfold wp_X7_eliminate_b100 at h
  refine g_iinc_4 E rfl (by decide) dX7_eliminate_100 (fun v11 ev11 => ?_)
  replace h := h v11 ev11
  have cv11 : C32 v11 := by rw [ev11]; exact c32_w _
  refine g_goto E djX7_eliminate_103 ?_
  exact (hK69 x1 x2 v11 σ c1 c2 cv11 hσ h).weak (w_k (w_k (w_k (w_d (w_k w_n)))))
set_option maxHeartbeats 4000000 in
set_option maxRecDepth 100000 in
theorem t_X7_eliminate_l69 (E : Ev p s m args meth c cX7_eliminate 5 RX7 A0 D cA ad (NC b) Z) (hr : meth.sig.returnType = (some .boolean)) {K2 : Int → Int → St → Prop} (hK2 : ∀ (x1 : Int) (x2 : Int) (σ : St), C32 x1 → C32 x2 → CanS (shC b) (NC b) σ → K2 x1 x2 σ → G p l e (rmL 3 0 0) s m args below meth c 5 A0 D cA ad (shC b) (NC b) 0 0 (MQ below (QIc D cA ad (shC b) (NC b) Q A0) args s 0 0 A0) σ 2 [some (.ref (ad 45)), some (vI x1), some (vI x2), none, none] []) : ∀ (n : Nat) (x1 : Int) (x2 : Int) (x4 : Int) (σ : St), C32 x1 → C32 x2 → C32 x4 → CanS (shC b) (NC b) σ → wp_X7_eliminate_l69 Q K2 n x1 x2 x4 σ → G p l e (rmL 3 0 0) s m args below meth c 5 A0 D cA ad (shC b) (NC b) 0 0 (MQ below (QIc D cA ad (shC b) (NC b) Q A0) args s 0 0 A0) σ 69 [some (.ref (ad 45)), some (vI x1), some (vI x2), none, some (vI x4)] [] := by
  intro n
  induction n with
  | zero => intro _ _ _ _ _ _ _ _ h; exact h.elim
  | succ n ih =>
    intro x1 x2 x4 σ c1 c2 c4 hσ h
    unfold wp_X7_eliminate_l69 at h
    refine g_iload_4 E dX7_eliminate_69 ?_
    refine g_iload_1 E dX7_eliminate_71 ?_
    refine g_icmp_ge E c4 c1 djX7_eliminate_72 (fun hc => ?_) (fun hc => ?_)
    · replace h := h.1 hc
      refine g_iinc_2 E rfl (by decide) dX7_eliminate_106 (fun v8 ev8 => ?_)
      replace h := h v8 ev8
      have cv8 : C32 v8 := by rw [ev8]; exact c32_w _
      refine g_goto E djX7_eliminate_109 ?_
      exact (hK2 x1 v8 σ c1 cv8 hσ h).weak (w_k (w_k (w_k (w_d (w_d w_n)))))
    · replace h := h.2 hc
      refine g_iload_4 E dX7_eliminate_75 ?_
      refine g_iload_2 E dX7_eliminate_77 ?_
      refine g_icmp_eq E c4 c2 djX7_eliminate_78 (fun hc => ?_) (fun hc => ?_)
      · replace h := h.1 hc
        exact (t_X7_eliminate_b100 E hr hK2 ih x1 x2 x4 σ c1 c2 c4 hσ h).weak (w_k (w_k (w_k (w_d (w_k w_n)))))
      · replace h := h.2 hc
        refine g_aload_0 E dX7_eliminate_81 ?_
        refine g_iload_4 E dX7_eliminate_82 ?_
        refine g_iload_2 E dX7_eliminate_84 ?_
        refine g_aload_0 E dX7_eliminate_85 ?_
        refine g_getR E fl_RX7_31 (kC_45 b) (sC_45 b) rfl dX7_eliminate_86 ?_
        refine g_iload_4 E dX7_eliminate_89 ?_
        refine g_bipush E (by decide) dX7_eliminate_91 ?_
        refine g_imul E dX7_eliminate_93 ?_
        refine g_iload_2 E dX7_eliminate_94 ?_
        refine g_iadd E dX7_eliminate_95 ?_
        refine g_iald E (kC_48 b) (sC_48 b) (by decide) h.1 dX7_eliminate_96 ?_
        replace h := h.2
        refine g_callvV E my_X7_subtractRow mi_X7_subtractRow msel_X7_subtractRow ml_RX7_116 (rm_ok (by decide) (by decide)) ⟨Nat.zero_le _, Nat.zero_le _⟩ (kC_45 b) (sC_45 b) rfl (m_X7_subtractRow E.2.2.1 c4 c2 (aC_48 hσ _) hσ h) rfl rfl (Nat.le_of_ble_eq_true rfl) dX7_eliminate_97 (fun σ10 r9 hσ10 h => ?_)
        exact (t_X7_eliminate_b100 E hr hK2 ih x1 x2 x4 σ10 c1 c2 c4 hσ10 h).weak (w_k (w_k (w_k (w_d (w_k w_n)))))
set_option maxHeartbeats 4000000 in
set_option maxRecDepth 100000 in
theorem t_X7_eliminate_b34 (E : Ev p s m args meth c cX7_eliminate 5 RX7 A0 D cA ad (NC b) Z) (hr : meth.sig.returnType = (some .boolean)) {K2 : Int → Int → St → Prop} (hK2 : ∀ (x1 : Int) (x2 : Int) (σ : St), C32 x1 → C32 x2 → CanS (shC b) (NC b) σ → K2 x1 x2 σ → G p l e (rmL 3 0 0) s m args below meth c 5 A0 D cA ad (shC b) (NC b) 0 0 (MQ below (QIc D cA ad (shC b) (NC b) Q A0) args s 0 0 A0) σ 2 [some (.ref (ad 45)), some (vI x1), some (vI x2), none, none] []) (x1 : Int) (x2 : Int) (x3 : Int) (σ : St) (c1 : C32 x1) (c2 : C32 x2) (c3 : C32 x3) (hσ : CanS (shC b) (NC b) σ) (h : wp_X7_eliminate_b34 Q K2 x1 x2 x3 σ) : G p l e (rmL 3 0 0) s m args below meth c 5 A0 D cA ad (shC b) (NC b) 0 0 (MQ below (QIc D cA ad (shC b) (NC b) Q A0) args s 0 0 A0) σ 34 [some (.ref (ad 45)), some (vI x1), some (vI x2), some (vI x3), none] [] := by
  unfold wp_X7_eliminate_b34 at h
  refine g_iload_3 E dX7_eliminate_34 ?_
  refine g_iload_1 E dX7_eliminate_35 ?_
  refine g_icmp_lt E c3 c1 djX7_eliminate_36 (fun hc => ?_) (fun hc => ?_)
  · replace h := h.1 hc
    refine g_aload_0 E dX7_eliminate_41 ?_
    refine g_iload_3 E dX7_eliminate_42 ?_
    refine g_iload_2 E dX7_eliminate_43 ?_
    refine g_callvV E my_X7_swapRows mi_X7_swapRows msel_X7_swapRows ml_RX7_106 (rm_ok (by decide) (by decide)) ⟨Nat.zero_le _, Nat.zero_le _⟩ (kC_45 b) (sC_45 b) rfl (m_X7_swapRows E.2.2.1 c3 c2 hσ h) rfl rfl (Nat.le_of_ble_eq_true rfl) dX7_eliminate_44 (fun σ3 r2 hσ3 h => ?_)
    refine g_aload_0 E dX7_eliminate_47 ?_
    refine g_iload_2 E dX7_eliminate_48 ?_
    refine g_aload_0 E dX7_eliminate_49 ?_
    refine g_getR E fl_RX7_31 (kC_45 b) (sC_45 b) rfl dX7_eliminate_50 ?_
    refine g_iload_2 E dX7_eliminate_53 ?_
    refine g_bipush E (by decide) dX7_eliminate_54 ?_
    refine g_imul E dX7_eliminate_56 ?_
    refine g_iload_2 E dX7_eliminate_57 ?_
    refine g_iadd E dX7_eliminate_58 ?_
    refine g_iald E (kC_48 b) (sC_48 b) (by decide) h.1 dX7_eliminate_59 ?_
    replace h := h.2
    refine g_callsI E my_X7_inverse ms_X7_inverse ml_RX7_110 (rm_ok (by decide) (by decide)) ⟨Nat.zero_le _, Nat.zero_le _⟩ (m_X7_inverse E.2.2.1 (aC_48 hσ3 _) hσ3 h) rfl rfl (Nat.le_of_ble_eq_true rfl) dX7_eliminate_60 (fun r4 σ5 cr4 hσ5 h => ?_)
    refine g_callvV E my_X7_scaleRow mi_X7_scaleRow msel_X7_scaleRow ml_RX7_113 (rm_ok (by decide) (by decide)) ⟨Nat.zero_le _, Nat.zero_le _⟩ (kC_45 b) (sC_45 b) rfl (m_X7_scaleRow E.2.2.1 c2 cr4 hσ5 h) rfl rfl (Nat.le_of_ble_eq_true rfl) dX7_eliminate_63 (fun σ7 r6 hσ7 h => ?_)
    refine g_iconst E dX7_eliminate_66 ?_
    refine g_istore_4 E rfl (by decide) dX7_eliminate_67 ?_
    exact (t_X7_eliminate_l69 E hr hK2 bigN x1 x2 0 σ7 c1 c2 cl_0 hσ7 h).weak (w_k (w_k (w_k (w_d (w_k w_n)))))
  · replace h := h.2 hc
    refine g_iconst E dX7_eliminate_39 ?_
    exact g_zret E hr (Or.inl rfl) h hσ dX7_eliminate_40
set_option maxHeartbeats 4000000 in
set_option maxRecDepth 100000 in
theorem t_X7_eliminate_l9 (E : Ev p s m args meth c cX7_eliminate 5 RX7 A0 D cA ad (NC b) Z) (hr : meth.sig.returnType = (some .boolean)) {K2 : Int → Int → St → Prop} (hK2 : ∀ (x1 : Int) (x2 : Int) (σ : St), C32 x1 → C32 x2 → CanS (shC b) (NC b) σ → K2 x1 x2 σ → G p l e (rmL 3 0 0) s m args below meth c 5 A0 D cA ad (shC b) (NC b) 0 0 (MQ below (QIc D cA ad (shC b) (NC b) Q A0) args s 0 0 A0) σ 2 [some (.ref (ad 45)), some (vI x1), some (vI x2), none, none] []) : ∀ (n : Nat) (x1 : Int) (x2 : Int) (x3 : Int) (σ : St), C32 x1 → C32 x2 → C32 x3 → CanS (shC b) (NC b) σ → wp_X7_eliminate_l9 Q K2 n x1 x2 x3 σ → G p l e (rmL 3 0 0) s m args below meth c 5 A0 D cA ad (shC b) (NC b) 0 0 (MQ below (QIc D cA ad (shC b) (NC b) Q A0) args s 0 0 A0) σ 9 [some (.ref (ad 45)), some (vI x1), some (vI x2), some (vI x3), none] [] := by
  intro n
  induction n with
  | zero => intro _ _ _ _ _ _ _ _ h; exact h.elim
  | succ n ih =>
    intro x1 x2 x3 σ c1 c2 c3 hσ h
    unfold wp_X7_eliminate_l9 at h
    refine g_iload_3 E dX7_eliminate_9 ?_
    refine g_iload_1 E dX7_eliminate_10 ?_
    refine g_icmp_ge E c3 c1 djX7_eliminate_11 (fun hc => ?_) (fun hc => ?_)
    · replace h := h.1 hc
      exact (t_X7_eliminate_b34 E hr hK2 x1 x2 x3 σ c1 c2 c3 hσ h).weak (w_k (w_k (w_k (w_k (w_d w_n)))))
    · replace h := h.2 hc
      refine g_aload_0 E dX7_eliminate_14 ?_
      refine g_getR E fl_RX7_31 (kC_45 b) (sC_45 b) rfl dX7_eliminate_15 ?_
      refine g_iload_3 E dX7_eliminate_18 ?_
      refine g_bipush E (by decide) dX7_eliminate_19 ?_
      refine g_imul E dX7_eliminate_21 ?_
      refine g_iload_2 E dX7_eliminate_22 ?_
      refine g_iadd E dX7_eliminate_23 ?_
      refine g_iald E (kC_48 b) (sC_48 b) (by decide) h.1 dX7_eliminate_24 ?_
      replace h := h.2
      refine g_if_ne E (aC_48 hσ _) djX7_eliminate_25 (fun hc => ?_) (fun hc => ?_)
      · replace h := h.1 hc
        exact (t_X7_eliminate_b34 E hr hK2 x1 x2 x3 σ c1 c2 c3 hσ h).weak (w_k (w_k (w_k (w_k (w_d w_n)))))
      · replace h := h.2 hc
        refine g_iinc_3 E rfl (by decide) dX7_eliminate_28 (fun v1 ev1 => ?_)
        replace h := h v1 ev1
        have cv1 : C32 v1 := by rw [ev1]; exact c32_w _
        refine g_goto E djX7_eliminate_31 ?_
        exact (ih x1 x2 v1 σ c1 c2 cv1 hσ h).weak (w_k (w_k (w_k (w_k (w_d w_n)))))
set_option maxHeartbeats 4000000 in
set_option maxRecDepth 100000 in
theorem t_X7_eliminate_l2 (E : Ev p s m args meth c cX7_eliminate 5 RX7 A0 D cA ad (NC b) Z) (hr : meth.sig.returnType = (some .boolean)) : ∀ (n : Nat) (x1 : Int) (x2 : Int) (σ : St), C32 x1 → C32 x2 → CanS (shC b) (NC b) σ → wp_X7_eliminate_l2 Q n x1 x2 σ → G p l e (rmL 3 0 0) s m args below meth c 5 A0 D cA ad (shC b) (NC b) 0 0 (MQ below (QIc D cA ad (shC b) (NC b) Q A0) args s 0 0 A0) σ 2 [some (.ref (ad 45)), some (vI x1), some (vI x2), none, none] [] := by
  intro n
  induction n with
  | zero => intro _ _ _ _ _ _ h; exact h.elim
  | succ n ih =>
    intro x1 x2 σ c1 c2 hσ h
    unfold wp_X7_eliminate_l2 at h
    refine g_iload_2 E dX7_eliminate_2 ?_
    refine g_iload_1 E dX7_eliminate_3 ?_
    refine g_icmp_ge E c2 c1 djX7_eliminate_4 (fun hc => ?_) (fun hc => ?_)
    · replace h := h.1 hc
      refine g_iconst E dX7_eliminate_112 ?_
      exact g_zret E hr (Or.inr rfl) h hσ dX7_eliminate_113
    · replace h := h.2 hc
      refine g_iload_2 E dX7_eliminate_7 ?_
      refine g_istore_3 E rfl (by decide) dX7_eliminate_8 ?_
      exact (t_X7_eliminate_l9 E hr ih bigN x1 x2 x2 σ c1 c2 c2 hσ h).weak (w_k (w_k (w_k (w_k (w_d w_n)))))
set_option maxHeartbeats 4000000 in
set_option maxRecDepth 100000 in
theorem t_X7_eliminate (E : Ev p s m args meth c cX7_eliminate 5 RX7 A0 D cA ad (NC b) Z) (hr : meth.sig.returnType = (some .boolean)) (x1 : Int) (σ : St) (c1 : C32 x1) (hσ : CanS (shC b) (NC b) σ) (h : wp_X7_eliminate x1 σ Q) : G p l e (rmL 3 0 0) s m args below meth c 5 A0 D cA ad (shC b) (NC b) 0 0 (MQ below (QIc D cA ad (shC b) (NC b) Q A0) args s 0 0 A0) σ 0 [some (.ref (ad 45)), some (vI x1), none, none, none] [] := by
  unfold wp_X7_eliminate at h
  refine g_iconst E dX7_eliminate_0 ?_
  refine g_istore_2 E rfl (by decide) dX7_eliminate_1 ?_
  exact (t_X7_eliminate_l2 E hr bigN x1 0 σ c1 cl_0 hσ h).weak (w_k (w_k (w_k (w_d (w_d w_n)))))
end
theorem m_X7_eliminate {Z : (Nat → Nat) × (Nat → Nat)} {l : Launch} {D : va_G} {cA : Nat → ClassId} {ad : Nat → Nat} {b : Bool} {x1 : Int} {σ : St} {Q : Int → St → Prop} (hA : AdOk (NC b) ad) (c1 : C32 x1) (hσ : CanS (shC b) (NC b) σ) (h : wp_X7_eliminate x1 σ Q) : KtI Z l D cA ad (shC b) (NC b) yX7_eliminate cX7_eliminate 5 (some .boolean) 3 [.ref (ad 45), vI x1] σ Q :=
  KtI.of my_X7_eliminate hA [some (.ref (ad 45)), some (vI x1), none, none, none] (Nat.le_of_ble_eq_true rfl) rfl (fun p e s m args below meth c A0 E hr => t_X7_eliminate E hr x1 σ c1 hσ h)
theorem dX7_setEquation_0 : Dc cX7_setEquation 0 (.iload_n 2) 1 1 := ⟨by decide +kernel, rfl⟩
theorem dX7_setEquation_1 : Dc cX7_setEquation 1 (.bipush 13) 2 3 := ⟨by decide +kernel, rfl⟩
theorem dX7_setEquation_3 : Dc cX7_setEquation 3 (.imul) 1 4 := ⟨by decide +kernel, rfl⟩
theorem dX7_setEquation_4 : Dc cX7_setEquation 4 (.istore_n 3) 1 5 := ⟨by decide +kernel, rfl⟩
theorem dX7_setEquation_5 : Dc cX7_setEquation 5 (.aload_n 0) 1 6 := ⟨by decide +kernel, rfl⟩
theorem dX7_setEquation_6 : Dc cX7_setEquation 6 (.getfield 31) 3 9 := ⟨by decide +kernel, rfl⟩
theorem dX7_setEquation_9 : Dc cX7_setEquation 9 (.iload_n 3) 1 10 := ⟨by decide +kernel, rfl⟩
theorem dX7_setEquation_10 : Dc cX7_setEquation 10 (.iload_n 2) 1 11 := ⟨by decide +kernel, rfl⟩
theorem dX7_setEquation_11 : Dc cX7_setEquation 11 (.iadd) 1 12 := ⟨by decide +kernel, rfl⟩
theorem dX7_setEquation_12 : Dc cX7_setEquation 12 (.iconst 1) 1 13 := ⟨by decide +kernel, rfl⟩
theorem dX7_setEquation_13 : Dc cX7_setEquation 13 (.iastore) 1 14 := ⟨by decide +kernel, rfl⟩
theorem dX7_setEquation_14 : Dc cX7_setEquation 14 (.aload_n 0) 1 15 := ⟨by decide +kernel, rfl⟩
theorem dX7_setEquation_15 : Dc cX7_setEquation 15 (.getfield 15) 3 18 := ⟨by decide +kernel, rfl⟩
theorem dX7_setEquation_18 : Dc cX7_setEquation 18 (.iload_n 1) 1 19 := ⟨by decide +kernel, rfl⟩
theorem dX7_setEquation_19 : Dc cX7_setEquation 19 (.invokevirtual 73) 3 22 := ⟨by decide +kernel, rfl⟩
theorem dX7_setEquation_22 : Dc cX7_setEquation 22 (.istore 4) 2 24 := ⟨by decide +kernel, rfl⟩
theorem dX7_setEquation_24 : Dc cX7_setEquation 24 (.iload 4) 2 26 := ⟨by decide +kernel, rfl⟩
theorem dX7_setEquation_26 : Dc cX7_setEquation 26 (.aload_n 0) 1 27 := ⟨by decide +kernel, rfl⟩
theorem dX7_setEquation_27 : Dc cX7_setEquation 27 (.getfield 15) 3 30 := ⟨by decide +kernel, rfl⟩
theorem dX7_setEquation_30 : Dc cX7_setEquation 30 (.iload_n 1) 1 31 := ⟨by decide +kernel, rfl⟩
theorem dX7_setEquation_31 : Dc cX7_setEquation 31 (.invokevirtual 77) 3 34 := ⟨by decide +kernel, rfl⟩
theorem djX7_setEquation_34 : Dj cX7_setEquation 34 (.if_icmp .ge 233) 3 37 233 267 := ⟨by decide +kernel, rfl, by decide⟩
theorem dX7_setEquation_37 : Dc cX7_setEquation 37 (.aload_n 0) 1 38 := ⟨by decide +kernel, rfl⟩
theorem dX7_setEquation_38 : Dc cX7_setEquation 38 (.getfield 9) 3 41 := ⟨by decide +kernel, rfl⟩
theorem dX7_setEquation_41 : Dc cX7_setEquation 41 (.getfield 80) 3 44 := ⟨by decide +kernel, rfl⟩
theorem dX7_setEquation_44 : Dc cX7_setEquation 44 (.aload_n 0) 1 45 := ⟨by decide +kernel, rfl⟩
theorem dX7_setEquation_45 : Dc cX7_setEquation 45 (.getfield 15) 3 48 := ⟨by decide +kernel, rfl⟩
theorem dX7_setEquation_48 : Dc cX7_setEquation 48 (.getfield 85) 3 51 := ⟨by decide +kernel, rfl⟩
theorem dX7_setEquation_51 : Dc cX7_setEquation 51 (.iload 4) 2 53 := ⟨by decide +kernel, rfl⟩
theorem dX7_setEquation_53 : Dc cX7_setEquation 53 (.iaload) 1 54 := ⟨by decide +kernel, rfl⟩
theorem dX7_setEquation_54 : Dc cX7_setEquation 54 (.iaload) 1 55 := ⟨by decide +kernel, rfl⟩
theorem dX7_setEquation_55 : Dc cX7_setEquation 55 (.istore 5) 2 57 := ⟨by decide +kernel, rfl⟩
theorem dX7_setEquation_57 : Dc cX7_setEquation 57 (.aload_n 0) 1 58 := ⟨by decide +kernel, rfl⟩
theorem dX7_setEquation_58 : Dc cX7_setEquation 58 (.getfield 15) 3 61 := ⟨by decide +kernel, rfl⟩
theorem dX7_setEquation_61 : Dc cX7_setEquation 61 (.getfield 88) 3 64 := ⟨by decide +kernel, rfl⟩
theorem dX7_setEquation_64 : Dc cX7_setEquation 64 (.iload 4) 2 66 := ⟨by decide +kernel, rfl⟩
theorem dX7_setEquation_66 : Dc cX7_setEquation 66 (.iaload) 1 67 := ⟨by decide +kernel, rfl⟩
theorem dX7_setEquation_67 : Dc cX7_setEquation 67 (.istore 6) 2 69 := ⟨by decide +kernel, rfl⟩
theorem dX7_setEquation_69 : Dc cX7_setEquation 69 (.aload_n 0) 1 70 := ⟨by decide +kernel, rfl⟩
theorem dX7_setEquation_70 : Dc cX7_setEquation 70 (.getfield 15) 3 73 := ⟨by decide +kernel, rfl⟩
theorem dX7_setEquation_73 : Dc cX7_setEquation 73 (.getfield 91) 3 76 := ⟨by decide +kernel, rfl⟩
theorem dX7_setEquation_76 : Dc cX7_setEquation 76 (.iload 4) 2 78 := ⟨by decide +kernel, rfl⟩
theorem dX7_setEquation_78 : Dc cX7_setEquation 78 (.iaload) 1 79 := ⟨by decide +kernel, rfl⟩
theorem dX7_setEquation_79 : Dc cX7_setEquation 79 (.istore 7) 2 81 := ⟨by decide +kernel, rfl⟩
theorem dX7_setEquation_81 : Dc cX7_setEquation 81 (.aload_n 0) 1 82 := ⟨by decide +kernel, rfl⟩
theorem dX7_setEquation_82 : Dc cX7_setEquation 82 (.getfield 19) 3 85 := ⟨by decide +kernel, rfl⟩
theorem dX7_setEquation_85 : Dc cX7_setEquation 85 (.iload 4) 2 87 := ⟨by decide +kernel, rfl⟩
theorem dX7_setEquation_87 : Dc cX7_setEquation 87 (.invokevirtual 94) 3 90 := ⟨by decide +kernel, rfl⟩
theorem djX7_setEquation_90 : Dj cX7_setEquation 90 (.ifCond .ne 6) 3 93 6 96 := ⟨by decide +kernel, rfl, by decide⟩
theorem djX7_setEquation_93 : Dj cX7_setEquation 93 (.goto 168) 3 96 168 261 := ⟨by decide +kernel, rfl, by decide⟩
theorem dX7_setEquation_96 : Dc cX7_setEquation 96 (.aload_n 0) 1 97 := ⟨by decide +kernel, rfl⟩
theorem dX7_setEquation_97 : Dc cX7_setEquation 97 (.getfield 15) 3 100 := ⟨by decide +kernel, rfl⟩
theorem dX7_setEquation_100 : Dc cX7_setEquation 100 (.iload 4) 2 102 := ⟨by decide +kernel, rfl⟩
theorem dX7_setEquation_102 : Dc cX7_setEquation 102 (.invokevirtual 97) 3 105 := ⟨by decide +kernel, rfl⟩
theorem djX7_setEquation_105 : Dj cX7_setEquation 105 (.ifCond .eq 43) 3 108 43 148 := ⟨by decide +kernel, rfl, by decide⟩
theorem dX7_setEquation_108 : Dc cX7_setEquation 108 (.iload_n 3) 1 109 := ⟨by decide +kernel, rfl⟩
theorem dX7_setEquation_109 : Dc cX7_setEquation 109 (.aload_n 0) 1 110 := ⟨by decide +kernel, rfl⟩
theorem dX7_setEquation_110 : Dc cX7_setEquation 110 (.getfield 34) 3 113 := ⟨by decide +kernel, rfl⟩
theorem dX7_setEquation_113 : Dc cX7_setEquation 113 (.iload 6) 2 115 := ⟨by decide +kernel, rfl⟩
theorem dX7_setEquation_115 : Dc cX7_setEquation 115 (.bipush 12) 2 117 := ⟨by decide +kernel, rfl⟩
theorem dX7_setEquation_117 : Dc cX7_setEquation 117 (.irem) 1 118 := ⟨by decide +kernel, rfl⟩
theorem dX7_setEquation_118 : Dc cX7_setEquation 118 (.iaload) 1 119 := ⟨by decide +kernel, rfl⟩
theorem dX7_setEquation_119 : Dc cX7_setEquation 119 (.iadd) 1 120 := ⟨by decide +kernel, rfl⟩
theorem dX7_setEquation_120 : Dc cX7_setEquation 120 (.istore 8) 2 122 := ⟨by decide +kernel, rfl⟩
theorem dX7_setEquation_122 : Dc cX7_setEquation 122 (.aload_n 0) 1 123 := ⟨by decide +kernel, rfl⟩
theorem dX7_setEquation_123 : Dc cX7_setEquation 123 (.getfield 31) 3 126 := ⟨by decide +kernel, rfl⟩
theorem dX7_setEquation_126 : Dc cX7_setEquation 126 (.iload 8) 2 128 := ⟨by decide +kernel, rfl⟩
theorem dX7_setEquation_128 : Dc cX7_setEquation 128 (.aload_n 0) 1 129 := ⟨by decide +kernel, rfl⟩
theorem dX7_setEquation_129 : Dc cX7_setEquation 129 (.getfield 31) 3 132 := ⟨by decide +kernel, rfl⟩
theorem dX7_setEquation_132 : Dc cX7_setEquation 132 (.iload 8) 2 134 := ⟨by decide +kernel, rfl⟩
theorem dX7_setEquation_134 : Dc cX7_setEquation 134 (.iaload) 1 135 := ⟨by decide +kernel, rfl⟩
theorem dX7_setEquation_135 : Dc cX7_setEquation 135 (.iload 5) 2 137 := ⟨by decide +kernel, rfl⟩
theorem dX7_setEquation_137 : Dc cX7_setEquation 137 (.isub) 1 138 := ⟨by decide +kernel, rfl⟩
theorem dX7_setEquation_138 : Dc cX7_setEquation 138 (.sipush 9973) 3 141 := ⟨by decide +kernel, rfl⟩
theorem dX7_setEquation_141 : Dc cX7_setEquation 141 (.invokestatic 100) 3 144 := ⟨by decide +kernel, rfl⟩
theorem dX7_setEquation_144 : Dc cX7_setEquation 144 (.iastore) 1 145 := ⟨by decide +kernel, rfl⟩
theorem djX7_setEquation_145 : Dj cX7_setEquation 145 (.goto 116) 3 148 116 261 := ⟨by decide +kernel, rfl, by decide⟩
theorem dX7_setEquation_148 : Dc cX7_setEquation 148 (.iload 6) 2 150 := ⟨by decide +kernel, rfl⟩
theorem djX7_setEquation_150 : Dj cX7_setEquation 150 (.ifCond .lt 16) 3 153 16 166 := ⟨by decide +kernel, rfl, by decide⟩
theorem dX7_setEquation_153 : Dc cX7_setEquation 153 (.aload_n 0) 1 154 := ⟨by decide +kernel, rfl⟩
theorem dX7_setEquation_154 : Dc cX7_setEquation 154 (.getfield 27) 3 157 := ⟨by decide +kernel, rfl⟩
theorem dX7_setEquation_157 : Dc cX7_setEquation 157 (.iload 6) 2 159 := ⟨by decide +kernel, rfl⟩
theorem dX7_setEquation_159 : Dc cX7_setEquation 159 (.bipush 12) 2 161 := ⟨by decide +kernel, rfl⟩
theorem dX7_setEquation_161 : Dc cX7_setEquation 161 (.idiv) 1 162 := ⟨by decide +kernel, rfl⟩
theorem dX7_setEquation_162 : Dc cX7_setEquation 162 (.baload) 1 163 := ⟨by decide +kernel, rfl⟩
theorem djX7_setEquation_163 : Dj cX7_setEquation 163 (.ifCond .ne 21) 3 166 21 184 := ⟨by decide +kernel, rfl, by decide⟩
theorem dX7_setEquation_166 : Dc cX7_setEquation 166 (.iload 7) 2 168 := ⟨by decide +kernel, rfl⟩
theorem djX7_setEquation_168 : Dj cX7_setEquation 168 (.ifCond .lt 18) 3 171 18 186 := ⟨by decide +kernel, rfl, by decide⟩
theorem dX7_setEquation_171 : Dc cX7_setEquation 171 (.aload_n 0) 1 172 := ⟨by decide +kernel, rfl⟩
theorem dX7_setEquation_172 : Dc cX7_setEquation 172 (.getfield 27) 3 175 := ⟨by decide +kernel, rfl⟩
theorem dX7_setEquation_175 : Dc cX7_setEquation 175 (.iload 7) 2 177 := ⟨by decide +kernel, rfl⟩
theorem dX7_setEquation_177 : Dc cX7_setEquation 177 (.bipush 12) 2 179 := ⟨by decide +kernel, rfl⟩
theorem dX7_setEquation_179 : Dc cX7_setEquation 179 (.idiv) 1 180 := ⟨by decide +kernel, rfl⟩
theorem dX7_setEquation_180 : Dc cX7_setEquation 180 (.baload) 1 181 := ⟨by decide +kernel, rfl⟩
theorem djX7_setEquation_181 : Dj cX7_setEquation 181 (.ifCond .eq 5) 3 184 5 186 := ⟨by decide +kernel, rfl, by decide⟩
theorem dX7_setEquation_184 : Dc cX7_setEquation 184 (.iconst 0) 1 185 := ⟨by decide +kernel, rfl⟩
theorem dX7_setEquation_185 : Dc cX7_setEquation 185 (.ireturn) 1 186 := ⟨by decide +kernel, rfl⟩
theorem dX7_setEquation_186 : Dc cX7_setEquation 186 (.iload 5) 2 188 := ⟨by decide +kernel, rfl⟩
theorem dX7_setEquation_188 : Dc cX7_setEquation 188 (.iload 6) 2 190 := ⟨by decide +kernel, rfl⟩
theorem djX7_setEquation_190 : Dj cX7_setEquation 190 (.ifCond .ge 7) 3 193 7 197 := ⟨by decide +kernel, rfl, by decide⟩
theorem dX7_setEquation_193 : Dc cX7_setEquation 193 (.iconst 1) 1 194 := ⟨by decide +kernel, rfl⟩
theorem djX7_setEquation_194 : Dj cX7_setEquation 194 (.goto 10) 3 197 10 204 := ⟨by decide +kernel, rfl, by decide⟩
theorem dX7_setEquation_197 : Dc cX7_setEquation 197 (.aload_n 0) 1 198 := ⟨by decide +kernel, rfl⟩
theorem dX7_setEquation_198 : Dc cX7_setEquation 198 (.getfield 23) 3 201 := ⟨by decide +kernel, rfl⟩
theorem dX7_setEquation_201 : Dc cX7_setEquation 201 (.iload 6) 2 203 := ⟨by decide +kernel, rfl⟩
theorem dX7_setEquation_203 : Dc cX7_setEquation 203 (.iaload) 1 204 := ⟨by decide +kernel, rfl⟩
theorem dX7_setEquation_204 : Dc cX7_setEquation 204 (.imul) 1 205 := ⟨by decide +kernel, rfl⟩
theorem dX7_setEquation_205 : Dc cX7_setEquation 205 (.sipush 9973) 3 208 := ⟨by decide +kernel, rfl⟩
theorem dX7_setEquation_208 : Dc cX7_setEquation 208 (.irem) 1 209 := ⟨by decide +kernel, rfl⟩
theorem dX7_setEquation_209 : Dc cX7_setEquation 209 (.istore 8) 2 211 := ⟨by decide +kernel, rfl⟩
theorem dX7_setEquation_211 : Dc cX7_setEquation 211 (.iload 8) 2 213 := ⟨by decide +kernel, rfl⟩
theorem dX7_setEquation_213 : Dc cX7_setEquation 213 (.iload 7) 2 215 := ⟨by decide +kernel, rfl⟩
theorem djX7_setEquation_215 : Dj cX7_setEquation 215 (.ifCond .ge 7) 3 218 7 222 := ⟨by decide +kernel, rfl, by decide⟩
theorem dX7_setEquation_218 : Dc cX7_setEquation 218 (.iconst 1) 1 219 := ⟨by decide +kernel, rfl⟩
theorem djX7_setEquation_219 : Dj cX7_setEquation 219 (.goto 10) 3 222 10 229 := ⟨by decide +kernel, rfl, by decide⟩
theorem dX7_setEquation_222 : Dc cX7_setEquation 222 (.aload_n 0) 1 223 := ⟨by decide +kernel, rfl⟩
theorem dX7_setEquation_223 : Dc cX7_setEquation 223 (.getfield 23) 3 226 := ⟨by decide +kernel, rfl⟩
theorem dX7_setEquation_226 : Dc cX7_setEquation 226 (.iload 7) 2 228 := ⟨by decide +kernel, rfl⟩
theorem dX7_setEquation_228 : Dc cX7_setEquation 228 (.iaload) 1 229 := ⟨by decide +kernel, rfl⟩
theorem dX7_setEquation_229 : Dc cX7_setEquation 229 (.imul) 1 230 := ⟨by decide +kernel, rfl⟩
theorem dX7_setEquation_230 : Dc cX7_setEquation 230 (.sipush 9973) 3 233 := ⟨by decide +kernel, rfl⟩
theorem dX7_setEquation_233 : Dc cX7_setEquation 233 (.irem) 1 234 := ⟨by decide +kernel, rfl⟩
theorem dX7_setEquation_234 : Dc cX7_setEquation 234 (.istore 8) 2 236 := ⟨by decide +kernel, rfl⟩
theorem dX7_setEquation_236 : Dc cX7_setEquation 236 (.aload_n 0) 1 237 := ⟨by decide +kernel, rfl⟩
theorem dX7_setEquation_237 : Dc cX7_setEquation 237 (.getfield 31) 3 240 := ⟨by decide +kernel, rfl⟩
theorem dX7_setEquation_240 : Dc cX7_setEquation 240 (.iload_n 3) 1 241 := ⟨by decide +kernel, rfl⟩
theorem dX7_setEquation_241 : Dc cX7_setEquation 241 (.bipush 12) 2 243 := ⟨by decide +kernel, rfl⟩
theorem dX7_setEquation_243 : Dc cX7_setEquation 243 (.iadd) 1 244 := ⟨by decide +kernel, rfl⟩
theorem dX7_setEquation_244 : Dc cX7_setEquation 244 (.aload_n 0) 1 245 := ⟨by decide +kernel, rfl⟩
theorem dX7_setEquation_245 : Dc cX7_setEquation 245 (.getfield 31) 3 248 := ⟨by decide +kernel, rfl⟩
theorem dX7_setEquation_248 : Dc cX7_setEquation 248 (.iload_n 3) 1 249 := ⟨by decide +kernel, rfl⟩
theorem dX7_setEquation_249 : Dc cX7_setEquation 249 (.bipush 12) 2 251 := ⟨by decide +kernel, rfl⟩
theorem dX7_setEquation_251 : Dc cX7_setEquation 251 (.iadd) 1 252 := ⟨by decide +kernel, rfl⟩
theorem dX7_setEquation_252 : Dc cX7_setEquation 252 (.iaload) 1 253 := ⟨by decide +kernel, rfl⟩
theorem dX7_setEquation_253 : Dc cX7_setEquation 253 (.iload 8) 2 255 := ⟨by decide +kernel, rfl⟩
theorem dX7_setEquation_255 : Dc cX7_setEquation 255 (.iadd) 1 256 := ⟨by decide +kernel, rfl⟩
theorem dX7_setEquation_256 : Dc cX7_setEquation 256 (.sipush 9973) 3 259 := ⟨by decide +kernel, rfl⟩
theorem dX7_setEquation_259 : Dc cX7_setEquation 259 (.irem) 1 260 := ⟨by decide +kernel, rfl⟩
theorem dX7_setEquation_260 : Dc cX7_setEquation 260 (.iastore) 1 261 := ⟨by decide +kernel, rfl⟩
theorem dX7_setEquation_261 : Dc cX7_setEquation 261 (.iinc 4 1) 3 264 := ⟨by decide +kernel, rfl⟩
theorem djX7_setEquation_264 : Dj cX7_setEquation 264 (.goto (-240)) 3 267 (-240) 24 := ⟨by decide +kernel, rfl, by decide⟩
theorem dX7_setEquation_267 : Dc cX7_setEquation 267 (.iconst 1) 1 268 := ⟨by decide +kernel, rfl⟩
theorem dX7_setEquation_268 : Dc cX7_setEquation 268 (.ireturn) 1 269 := ⟨by decide +kernel, rfl⟩
section
variable {p : Program} {l : Launch} {e : Env} {s : State} {m : MethodId} {args : Array Value} {below : List Frame} {meth : Method} {c : Code} {A0 : Nat → Prop} {D : va_G} {cA : Nat → ClassId} {ad : Nat → Nat} {Z : (Nat → Nat) × (Nat → Nat)} {Q : Int → St → Prop} {b : Bool}
set_option maxHeartbeats 4000000 in
set_option maxRecDepth 100000 in
theorem t_X7_setEquation_b261 (E : Ev p s m args meth c cX7_setEquation 9 RX7 A0 D cA ad (NC b) Z) (hr : meth.sig.returnType = (some .boolean)) {K24 : Int → Int → Int → St → Prop} (hK24 : ∀ (x1 : Int) (x3 : Int) (x4 : Int) (σ : St), C32 x1 → C32 x3 → C32 x4 → CanS (shC b) (NC b) σ → K24 x1 x3 x4 σ → G p l e (rmL 3 0 0) s m args below meth c 9 A0 D cA ad (shC b) (NC b) 0 0 (MQ below (QIc D cA ad (shC b) (NC b) Q A0) args s 0 0 A0) σ 24 [some (.ref (ad 45)), some (vI x1), none, some (vI x3), some (vI x4), none, none, none, none] []) (x1 : Int) (x3 : Int) (x4 : Int) (σ : St) (c1 : C32 x1) (c3 : C32 x3) (c4 : C32 x4) (hσ : CanS (shC b) (NC b) σ) (h : wp_X7_setEquation_b261 Q K24 x1 x3 x4 σ) : G p l e (rmL 3 0 0) s m args below meth c 9 A0 D cA ad (shC b) (NC b) 0 0 (MQ below (QIc D cA ad (shC b) (NC b) Q A0) args s 0 0 A0) σ 261 [some (.ref (ad 45)), some (vI x1), none, some (vI x3), some (vI x4), none, none, none, none] [] := by
  unfold wp_X7_setEquation_b261 at h
  refine g_iinc_4 E rfl (by decide) dX7_setEquation_261 (fun v18 ev18 => ?_)
  replace h := h v18 ev18
  have cv18 : C32 v18 := by rw [ev18]; exact c32_w _
  refine g_goto E djX7_setEquation_264 ?_
  exact (hK24 x1 x3 v18 σ c1 c3 cv18 hσ h).weak (w_k (w_k (w_d (w_k (w_k (w_d (w_d (w_d (w_d w_n)))))))))
set_option maxHeartbeats 4000000 in
set_option maxRecDepth 100000 in
theorem t_X7_setEquation_b229 (E : Ev p s m args meth c cX7_setEquation 9 RX7 A0 D cA ad (NC b) Z) (hr : meth.sig.returnType = (some .boolean)) {K24 : Int → Int → Int → St → Prop} (hK24 : ∀ (x1 : Int) (x3 : Int) (x4 : Int) (σ : St), C32 x1 → C32 x3 → C32 x4 → CanS (shC b) (NC b) σ → K24 x1 x3 x4 σ → G p l e (rmL 3 0 0) s m args below meth c 9 A0 D cA ad (shC b) (NC b) 0 0 (MQ below (QIc D cA ad (shC b) (NC b) Q A0) args s 0 0 A0) σ 24 [some (.ref (ad 45)), some (vI x1), none, some (vI x3), some (vI x4), none, none, none, none] []) (x1 : Int) (x3 : Int) (x4 : Int) (s0 : Int) (s1 : Int) (σ : St) (c1 : C32 x1) (c3 : C32 x3) (c4 : C32 x4) (cs0 : C32 s0) (cs1 : C32 s1) (hσ : CanS (shC b) (NC b) σ) (h : wp_X7_setEquation_b229 Q K24 x1 x3 x4 s0 s1 σ) : G p l e (rmL 3 0 0) s m args below meth c 9 A0 D cA ad (shC b) (NC b) 0 0 (MQ below (QIc D cA ad (shC b) (NC b) Q A0) args s 0 0 A0) σ 229 [some (.ref (ad 45)), some (vI x1), none, some (vI x3), some (vI x4), none, none, none, none] [vI s0, vI s1] := by
  unfold wp_X7_setEquation_b229 at h
  refine g_imul E dX7_setEquation_229 ?_
  refine g_sipush E (by decide) dX7_setEquation_230 ?_
  refine g_irem E cl_9973 (by decide) dX7_setEquation_233 ?_
  refine g_nmI (fun v20 ev20 => ?_)
  replace h := h v20 ev20
  have cv20 : C32 v20 := by rw [ev20]; exact (c32_t _)
  refine g_istore_8 E rfl (by decide) dX7_setEquation_234 ?_
  refine g_aload_0 E dX7_setEquation_236 ?_
  refine g_getR E fl_RX7_31 (kC_45 b) (sC_45 b) rfl dX7_setEquation_237 ?_
  refine g_iload_3 E dX7_setEquation_240 ?_
  refine g_bipush E (by decide) dX7_setEquation_241 ?_
  refine g_iadd E dX7_setEquation_243 ?_
  refine g_aload_0 E dX7_setEquation_244 ?_
  refine g_getR E fl_RX7_31 (kC_45 b) (sC_45 b) rfl dX7_setEquation_245 ?_
  refine g_iload_3 E dX7_setEquation_248 ?_
  refine g_bipush E (by decide) dX7_setEquation_249 ?_
  refine g_iadd E dX7_setEquation_251 ?_
  refine g_iald E (kC_48 b) (sC_48 b) (by decide) h.1 dX7_setEquation_252 ?_
  replace h := h.2
  refine g_iload_8 E dX7_setEquation_253 ?_
  refine g_iadd E dX7_setEquation_255 ?_
  refine g_sipush E (by decide) dX7_setEquation_256 ?_
  refine g_irem E cl_9973 (by decide) dX7_setEquation_259 ?_
  refine g_iast E (kC_48 b) (sC_48 b) (by decide) h.1 dX7_setEquation_260 (g_nmS (fun σ21 eσ21 => ?_))
  replace h := h.2 σ21 eσ21
  have hσ21 : CanS (shC b) (NC b) σ21 := by rw [eσ21]; exact wC_48 hσ (c32_t _)
  exact (t_X7_setEquation_b261 E hr hK24 x1 x3 x4 σ21 c1 c3 c4 hσ21 h).weak (w_k (w_k (w_d (w_k (w_k (w_d (w_d (w_d (w_d w_n)))))))))
set_option maxHeartbeats 4000000 in
set_option maxRecDepth 100000 in
theorem t_X7_setEquation_b204 (E : Ev p s m args meth c cX7_setEquation 9 RX7 A0 D cA ad (NC b) Z) (hr : meth.sig.returnType = (some .boolean)) {K24 : Int → Int → Int → St → Prop} (hK24 : ∀ (x1 : Int) (x3 : Int) (x4 : Int) (σ : St), C32 x1 → C32 x3 → C32 x4 → CanS (shC b) (NC b) σ → K24 x1 x3 x4 σ → G p l e (rmL 3 0 0) s m args below meth c 9 A0 D cA ad (shC b) (NC b) 0 0 (MQ below (QIc D cA ad (shC b) (NC b) Q A0) args s 0 0 A0) σ 24 [some (.ref (ad 45)), some (vI x1), none, some (vI x3), some (vI x4), none, none, none, none] []) (x1 : Int) (x3 : Int) (x4 : Int) (x7 : Int) (s0 : Int) (s1 : Int) (σ : St) (c1 : C32 x1) (c3 : C32 x3) (c4 : C32 x4) (c7 : C32 x7) (cs0 : C32 s0) (cs1 : C32 s1) (hσ : CanS (shC b) (NC b) σ) (h : wp_X7_setEquation_b204 Q K24 x1 x3 x4 x7 s0 s1 σ) : G p l e (rmL 3 0 0) s m args below meth c 9 A0 D cA ad (shC b) (NC b) 0 0 (MQ below (QIc D cA ad (shC b) (NC b) Q A0) args s 0 0 A0) σ 204 [some (.ref (ad 45)), some (vI x1), none, some (vI x3), some (vI x4), none, none, some (vI x7), none] [vI s0, vI s1] := by
  unfold wp_X7_setEquation_b204 at h
  refine g_imul E dX7_setEquation_204 ?_
  refine g_sipush E (by decide) dX7_setEquation_205 ?_
  refine g_irem E cl_9973 (by decide) dX7_setEquation_208 ?_
  refine g_nmI (fun v19 ev19 => ?_)
  replace h := h v19 ev19
  have cv19 : C32 v19 := by rw [ev19]; exact (c32_t _)
  refine g_istore_8 E rfl (by decide) dX7_setEquation_209 ?_
  refine g_iload_8 E dX7_setEquation_211 ?_
  refine g_iload_7 E dX7_setEquation_213 ?_
  refine g_if_ge E c7 djX7_setEquation_215 (fun hc => ?_) (fun hc => ?_)
  · replace h := h.1 hc
    refine g_aload_0 E dX7_setEquation_222 ?_
    refine g_getR E fl_RX7_23 (kC_45 b) (sC_45 b) rfl dX7_setEquation_223 ?_
    refine g_iload_7 E dX7_setEquation_226 ?_
    refine g_iald E (kC_46 b) (sC_46 b) (by decide) h.1 dX7_setEquation_228 ?_
    replace h := h.2
    exact (t_X7_setEquation_b229 E hr hK24 x1 x3 x4 (σ 46 (x7.toNat)) v19 σ c1 c3 c4 (aC_46 hσ _) cv19 hσ h).weak (w_k (w_k (w_d (w_k (w_k (w_d (w_d (w_d (w_d w_n)))))))))
  · replace h := h.2 hc
    refine g_iconst E dX7_setEquation_218 ?_
    refine g_goto E djX7_setEquation_219 ?_
    exact (t_X7_setEquation_b229 E hr hK24 x1 x3 x4 1 v19 σ c1 c3 c4 cl_1 cv19 hσ h).weak (w_k (w_k (w_d (w_k (w_k (w_d (w_d (w_d (w_d w_n)))))))))
set_option maxHeartbeats 4000000 in
set_option maxRecDepth 100000 in
theorem t_X7_setEquation_b186 (E : Ev p s m args meth c cX7_setEquation 9 RX7 A0 D cA ad (NC b) Z) (hr : meth.sig.returnType = (some .boolean)) {K24 : Int → Int → Int → St → Prop} (hK24 : ∀ (x1 : Int) (x3 : Int) (x4 : Int) (σ : St), C32 x1 → C32 x3 → C32 x4 → CanS (shC b) (NC b) σ → K24 x1 x3 x4 σ → G p l e (rmL 3 0 0) s m args below meth c 9 A0 D cA ad (shC b) (NC b) 0 0 (MQ below (QIc D cA ad (shC b) (NC b) Q A0) args s 0 0 A0) σ 24 [some (.ref (ad 45)), some (vI x1), none, some (vI x3), some (vI x4), none, none, none, none] []) (x1 : Int) (x3 : Int) (x4 : Int) (x5 : Int) (x6 : Int) (x7 : Int) (σ : St) (c1 : C32 x1) (c3 : C32 x3) (c4 : C32 x4) (c5 : C32 x5) (c6 : C32 x6) (c7 : C32 x7) (hσ : CanS (shC b) (NC b) σ) (h : wp_X7_setEquation_b186 Q K24 x1 x3 x4 x5 x6 x7 σ) : G p l e (rmL 3 0 0) s m args below meth c 9 A0 D cA ad (shC b) (NC b) 0 0 (MQ below (QIc D cA ad (shC b) (NC b) Q A0) args s 0 0 A0) σ 186 [some (.ref (ad 45)), some (vI x1), none, some (vI x3), some (vI x4), some (vI x5), some (vI x6), some (vI x7), none] [] := by
  unfold wp_X7_setEquation_b186 at h
  refine g_iload_5 E dX7_setEquation_186 ?_
  refine g_iload_6 E dX7_setEquation_188 ?_
  refine g_if_ge E c6 djX7_setEquation_190 (fun hc => ?_) (fun hc => ?_)
  · replace h := h.1 hc
    refine g_aload_0 E dX7_setEquation_197 ?_
    refine g_getR E fl_RX7_23 (kC_45 b) (sC_45 b) rfl dX7_setEquation_198 ?_
    refine g_iload_6 E dX7_setEquation_201 ?_
    refine g_iald E (kC_46 b) (sC_46 b) (by decide) h.1 dX7_setEquation_203 ?_
    replace h := h.2
    exact (t_X7_setEquation_b204 E hr hK24 x1 x3 x4 x7 (σ 46 (x6.toNat)) x5 σ c1 c3 c4 c7 (aC_46 hσ _) c5 hσ h).weak (w_k (w_k (w_d (w_k (w_k (w_d (w_d (w_k (w_d w_n)))))))))
  · replace h := h.2 hc
    refine g_iconst E dX7_setEquation_193 ?_
    refine g_goto E djX7_setEquation_194 ?_
    exact (t_X7_setEquation_b204 E hr hK24 x1 x3 x4 x7 1 x5 σ c1 c3 c4 c7 cl_1 c5 hσ h).weak (w_k (w_k (w_d (w_k (w_k (w_d (w_d (w_k (w_d w_n)))))))))
set_option maxHeartbeats 4000000 in
set_option maxRecDepth 100000 in
theorem t_X7_setEquation_b166 (E : Ev p s m args meth c cX7_setEquation 9 RX7 A0 D cA ad (NC b) Z) (hr : meth.sig.returnType = (some .boolean)) {K24 : Int → Int → Int → St → Prop} (hK24 : ∀ (x1 : Int) (x3 : Int) (x4 : Int) (σ : St), C32 x1 → C32 x3 → C32 x4 → CanS (shC b) (NC b) σ → K24 x1 x3 x4 σ → G p l e (rmL 3 0 0) s m args below meth c 9 A0 D cA ad (shC b) (NC b) 0 0 (MQ below (QIc D cA ad (shC b) (NC b) Q A0) args s 0 0 A0) σ 24 [some (.ref (ad 45)), some (vI x1), none, some (vI x3), some (vI x4), none, none, none, none] []) (x1 : Int) (x3 : Int) (x4 : Int) (x5 : Int) (x6 : Int) (x7 : Int) (σ : St) (c1 : C32 x1) (c3 : C32 x3) (c4 : C32 x4) (c5 : C32 x5) (c6 : C32 x6) (c7 : C32 x7) (hσ : CanS (shC b) (NC b) σ) (h : wp_X7_setEquation_b166 Q K24 x1 x3 x4 x5 x6 x7 σ) : G p l e (rmL 3 0 0) s m args below meth c 9 A0 D cA ad (shC b) (NC b) 0 0 (MQ below (QIc D cA ad (shC b) (NC b) Q A0) args s 0 0 A0) σ 166 [some (.ref (ad 45)), some (vI x1), none, some (vI x3), some (vI x4), some (vI x5), some (vI x6), some (vI x7), none] [] := by
  unfold wp_X7_setEquation_b166 at h
  refine g_iload_7 E dX7_setEquation_166 ?_
  refine g_if_lt E c7 djX7_setEquation_168 (fun hc => ?_) (fun hc => ?_)
  · replace h := h.1 hc
    exact (t_X7_setEquation_b186 E hr hK24 x1 x3 x4 x5 x6 x7 σ c1 c3 c4 c5 c6 c7 hσ h).weak (w_k (w_k (w_d (w_k (w_k (w_k (w_k (w_k (w_d w_n)))))))))
  · replace h := h.2 hc
    refine g_aload_0 E dX7_setEquation_171 ?_
    refine g_getR E fl_RX7_27 (kC_45 b) (sC_45 b) rfl dX7_setEquation_172 ?_
    refine g_iload_7 E dX7_setEquation_175 ?_
    refine g_bipush E (by decide) dX7_setEquation_177 ?_
    refine g_idiv E cl_12 (by decide) dX7_setEquation_179 ?_
    refine g_zald E (kC_47 b) (sC_47 b) (by decide) h.1 dX7_setEquation_180 ?_
    replace h := h.2
    refine g_if_eq E (aC_47 hσ _) djX7_setEquation_181 (fun hc => ?_) (fun hc => ?_)
    · replace h := h.1 hc
      exact (t_X7_setEquation_b186 E hr hK24 x1 x3 x4 x5 x6 x7 σ c1 c3 c4 c5 c6 c7 hσ h).weak (w_k (w_k (w_d (w_k (w_k (w_k (w_k (w_k (w_d w_n)))))))))
    · replace h := h.2 hc
      refine g_iconst E dX7_setEquation_184 ?_
      exact g_zret E hr (Or.inl rfl) h hσ dX7_setEquation_185
set_option maxHeartbeats 4000000 in
set_option maxRecDepth 100000 in
theorem t_X7_setEquation_l24 (E : Ev p s m args meth c cX7_setEquation 9 RX7 A0 D cA ad (NC b) Z) (hr : meth.sig.returnType = (some .boolean)) : ∀ (n : Nat) (x1 : Int) (x3 : Int) (x4 : Int) (σ : St), C32 x1 → C32 x3 → C32 x4 → CanS (shC b) (NC b) σ → wp_X7_setEquation_l24 Q n x1 x3 x4 σ → G p l e (rmL 3 0 0) s m args below meth c 9 A0 D cA ad (shC b) (NC b) 0 0 (MQ below (QIc D cA ad (shC b) (NC b) Q A0) args s 0 0 A0) σ 24 [some (.ref (ad 45)), some (vI x1), none, some (vI x3), some (vI x4), none, none, none, none] [] := by
  intro n
  induction n with
  | zero => intro _ _ _ _ _ _ _ _ h; exact h.elim
  | succ n ih =>
    intro x1 x3 x4 σ c1 c3 c4 hσ h
    unfold wp_X7_setEquation_l24 at h
    refine g_iload_4 E dX7_setEquation_24 ?_
    refine g_aload_0 E dX7_setEquation_26 ?_
    refine g_getR E fl_RX7_15 (kC_45 b) (sC_45 b) rfl dX7_setEquation_27 ?_
    refine g_iload_1 E dX7_setEquation_30 ?_
    refine g_callvI E my_X0_caseEnd mi_X0_caseEnd msel_X0_caseEnd ml_RX7_77 (rm_ok (by decide) (by decide)) ⟨Nat.zero_le _, Nat.zero_le _⟩ (kC_24 b) (sC_24 b) rfl (m_X0_caseEnd E.2.2.1 c1 hσ h) rfl rfl (Nat.le_of_ble_eq_true rfl) dX7_setEquation_31 (fun r5 σ6 cr5 hσ6 h => ?_)
    refine g_icmp_ge E c4 cr5 djX7_setEquation_34 (fun hc => ?_) (fun hc => ?_)
    · replace h := h.1 hc
      refine g_iconst E dX7_setEquation_267 ?_
      exact g_zret E hr (Or.inr rfl) h hσ6 dX7_setEquation_268
    · replace h := h.2 hc
      refine g_aload_0 E dX7_setEquation_37 ?_
      refine g_getR E fl_RX7_9 (kC_45 b) (sC_45 b) rfl dX7_setEquation_38 ?_
      refine g_getR E fl_RX7_80 (kC_14 b) (sC_14 b) rfl dX7_setEquation_41 ?_
      refine g_aload_0 E dX7_setEquation_44 ?_
      refine g_getR E fl_RX7_15 (kC_45 b) (sC_45 b) rfl dX7_setEquation_45 ?_
      refine g_getR E fl_RX7_85 (kC_24 b) (sC_24 b) rfl dX7_setEquation_48 ?_
      refine g_iload_4 E dX7_setEquation_51 ?_
      refine g_iald E (kC_29 b) (sC_29 b) (by decide) h.1 dX7_setEquation_53 ?_
      replace h := h.2
      refine g_iald E (kC_18 b) (sC_18 b) (by decide) h.1 dX7_setEquation_54 ?_
      replace h := h.2
      refine g_nmI (fun v7 ev7 => ?_)
      replace h := h v7 ev7
      have cv7 : C32 v7 := by rw [ev7]; exact (aC_18 hσ6 _)
      refine g_istore_5 E rfl (by decide) dX7_setEquation_55 ?_
      refine g_aload_0 E dX7_setEquation_57 ?_
      refine g_getR E fl_RX7_15 (kC_45 b) (sC_45 b) rfl dX7_setEquation_58 ?_
      refine g_getR E fl_RX7_88 (kC_24 b) (sC_24 b) rfl dX7_setEquation_61 ?_
      refine g_iload_4 E dX7_setEquation_64 ?_
      refine g_iald E (kC_31 b) (sC_31 b) (by decide) h.1 dX7_setEquation_66 ?_
      replace h := h.2
      refine g_nmI (fun v8 ev8 => ?_)
      replace h := h v8 ev8
      have cv8 : C32 v8 := by rw [ev8]; exact (aC_31 hσ6 _)
      refine g_istore_6 E rfl (by decide) dX7_setEquation_67 ?_
      refine g_aload_0 E dX7_setEquation_69 ?_
      refine g_getR E fl_RX7_15 (kC_45 b) (sC_45 b) rfl dX7_setEquation_70 ?_
      refine g_getR E fl_RX7_91 (kC_24 b) (sC_24 b) rfl dX7_setEquation_73 ?_
      refine g_iload_4 E dX7_setEquation_76 ?_
      refine g_iald E (kC_32 b) (sC_32 b) (by decide) h.1 dX7_setEquation_78 ?_
      replace h := h.2
      refine g_nmI (fun v9 ev9 => ?_)
      replace h := h v9 ev9
      have cv9 : C32 v9 := by rw [ev9]; exact (aC_32 hσ6 _)
      refine g_istore_7 E rfl (by decide) dX7_setEquation_79 ?_
      refine g_aload_0 E dX7_setEquation_81 ?_
      refine g_getR E fl_RX7_19 (kC_45 b) (sC_45 b) rfl dX7_setEquation_82 ?_
      refine g_iload_4 E dX7_setEquation_85 ?_
      refine g_callvI E my_X1_isFull mi_X1_isFull msel_X1_isFull ml_RX7_94 (rm_ok (by decide) (by decide)) ⟨Nat.zero_le _, Nat.zero_le _⟩ (kC_36 b) (sC_36 b) rfl (m_X1_isFull E.2.2.1 c4 hσ6 h) rfl rfl (Nat.le_of_ble_eq_true rfl) dX7_setEquation_87 (fun r10 σ11 cr10 hσ11 h => ?_)
      refine g_if_ne E cr10 djX7_setEquation_90 (fun hc => ?_) (fun hc => ?_)
      · replace h := h.1 hc
        refine g_aload_0 E dX7_setEquation_96 ?_
        refine g_getR E fl_RX7_15 (kC_45 b) (sC_45 b) rfl dX7_setEquation_97 ?_
        refine g_iload_4 E dX7_setEquation_100 ?_
        refine g_callvI E my_X0_goesOn mi_X0_goesOn msel_X0_goesOn ml_RX7_97 (rm_ok (by decide) (by decide)) ⟨Nat.zero_le _, Nat.zero_le _⟩ (kC_24 b) (sC_24 b) rfl (m_X0_goesOn E.2.2.1 c4 hσ11 h) rfl rfl (Nat.le_of_ble_eq_true rfl) dX7_setEquation_102 (fun r12 σ13 cr12 hσ13 h => ?_)
        refine g_if_eq E cr12 djX7_setEquation_105 (fun hc => ?_) (fun hc => ?_)
        · replace h := h.1 hc
          refine g_iload_6 E dX7_setEquation_148 ?_
          refine g_if_lt E cv8 djX7_setEquation_150 (fun hc => ?_) (fun hc => ?_)
          · replace h := h.1 hc
            exact (t_X7_setEquation_b166 E hr ih x1 x3 x4 v7 v8 v9 σ13 c1 c3 c4 cv7 cv8 cv9 hσ13 h).weak (w_k (w_k (w_d (w_k (w_k (w_k (w_k (w_k (w_d w_n)))))))))
          · replace h := h.2 hc
            refine g_aload_0 E dX7_setEquation_153 ?_
            refine g_getR E fl_RX7_27 (kC_45 b) (sC_45 b) rfl dX7_setEquation_154 ?_
            refine g_iload_6 E dX7_setEquation_157 ?_
            refine g_bipush E (by decide) dX7_setEquation_159 ?_
            refine g_idiv E cl_12 (by decide) dX7_setEquation_161 ?_
            refine g_zald E (kC_47 b) (sC_47 b) (by decide) h.1 dX7_setEquation_162 ?_
            replace h := h.2
            refine g_if_ne E (aC_47 hσ13 _) djX7_setEquation_163 (fun hc => ?_) (fun hc => ?_)
            · replace h := h.1 hc
              refine g_iconst E dX7_setEquation_184 ?_
              exact g_zret E hr (Or.inl rfl) h hσ13 dX7_setEquation_185
            · replace h := h.2 hc
              exact (t_X7_setEquation_b166 E hr ih x1 x3 x4 v7 v8 v9 σ13 c1 c3 c4 cv7 cv8 cv9 hσ13 h).weak (w_k (w_k (w_d (w_k (w_k (w_k (w_k (w_k (w_d w_n)))))))))
        · replace h := h.2 hc
          refine g_iload_3 E dX7_setEquation_108 ?_
          refine g_aload_0 E dX7_setEquation_109 ?_
          refine g_getR E fl_RX7_34 (kC_45 b) (sC_45 b) rfl dX7_setEquation_110 ?_
          refine g_iload_6 E dX7_setEquation_113 ?_
          refine g_bipush E (by decide) dX7_setEquation_115 ?_
          refine g_irem E cl_12 (by decide) dX7_setEquation_117 ?_
          refine g_iald E (kC_49 b) (sC_49 b) (by decide) h.1 dX7_setEquation_118 ?_
          replace h := h.2
          refine g_iadd E dX7_setEquation_119 ?_
          refine g_nmI (fun v14 ev14 => ?_)
          replace h := h v14 ev14
          have cv14 : C32 v14 := by rw [ev14]; exact (c32_w _)
          refine g_istore_8 E rfl (by decide) dX7_setEquation_120 ?_
          refine g_aload_0 E dX7_setEquation_122 ?_
          refine g_getR E fl_RX7_31 (kC_45 b) (sC_45 b) rfl dX7_setEquation_123 ?_
          refine g_iload_8 E dX7_setEquation_126 ?_
          refine g_aload_0 E dX7_setEquation_128 ?_
          refine g_getR E fl_RX7_31 (kC_45 b) (sC_45 b) rfl dX7_setEquation_129 ?_
          refine g_iload_8 E dX7_setEquation_132 ?_
          refine g_iald E (kC_48 b) (sC_48 b) (by decide) h.1 dX7_setEquation_134 ?_
          replace h := h.2
          refine g_iload_5 E dX7_setEquation_135 ?_
          refine g_isub E dX7_setEquation_137 ?_
          refine g_sipush E (by decide) dX7_setEquation_138 ?_
          refine g_callsI E my_J9_floorMod_7cf53 ms_J9_floorMod_7cf53 ml_RX7_100 (rm_ok (by decide) (by decide)) ⟨Nat.zero_le _, Nat.zero_le _⟩ (m_J9_floorMod_7cf53_C E.2.2.1 (c32_w _) cl_9973 hσ13 h) rfl rfl (Nat.le_of_ble_eq_true rfl) dX7_setEquation_141 (fun r15 σ16 cr15 hσ16 h => ?_)
          refine g_iast E (kC_48 b) (sC_48 b) (by decide) h.1 dX7_setEquation_144 (g_nmS (fun σ17 eσ17 => ?_))
          replace h := h.2 σ17 eσ17
          have hσ17 : CanS (shC b) (NC b) σ17 := by rw [eσ17]; exact wC_48 hσ16 cr15
          refine g_goto E djX7_setEquation_145 ?_
          exact (t_X7_setEquation_b261 E hr ih x1 x3 x4 σ17 c1 c3 c4 hσ17 h).weak (w_k (w_k (w_d (w_k (w_k (w_d (w_d (w_d (w_d w_n)))))))))
      · replace h := h.2 hc
        refine g_goto E djX7_setEquation_93 ?_
        exact (t_X7_setEquation_b261 E hr ih x1 x3 x4 σ11 c1 c3 c4 hσ11 h).weak (w_k (w_k (w_d (w_k (w_k (w_d (w_d (w_d (w_d w_n)))))))))
set_option maxHeartbeats 4000000 in
set_option maxRecDepth 100000 in
theorem t_X7_setEquation (E : Ev p s m args meth c cX7_setEquation 9 RX7 A0 D cA ad (NC b) Z) (hr : meth.sig.returnType = (some .boolean)) (x1 : Int) (x2 : Int) (σ : St) (c1 : C32 x1) (c2 : C32 x2) (hσ : CanS (shC b) (NC b) σ) (h : wp_X7_setEquation x1 x2 σ Q) : G p l e (rmL 3 0 0) s m args below meth c 9 A0 D cA ad (shC b) (NC b) 0 0 (MQ below (QIc D cA ad (shC b) (NC b) Q A0) args s 0 0 A0) σ 0 [some (.ref (ad 45)), some (vI x1), some (vI x2), none, none, none, none, none, none] [] := by
  unfold wp_X7_setEquation at h
  refine g_iload_2 E dX7_setEquation_0 ?_
  refine g_bipush E (by decide) dX7_setEquation_1 ?_
  refine g_imul E dX7_setEquation_3 ?_
  refine g_nmI (fun v1 ev1 => ?_)
  replace h := h v1 ev1
  have cv1 : C32 v1 := by rw [ev1]; exact (c32_w _)
  refine g_istore_3 E rfl (by decide) dX7_setEquation_4 ?_
  refine g_aload_0 E dX7_setEquation_5 ?_
  refine g_getR E fl_RX7_31 (kC_45 b) (sC_45 b) rfl dX7_setEquation_6 ?_
  refine g_iload_3 E dX7_setEquation_9 ?_
  refine g_iload_2 E dX7_setEquation_10 ?_
  refine g_iadd E dX7_setEquation_11 ?_
  refine g_iconst E dX7_setEquation_12 ?_
  refine g_iast E (kC_48 b) (sC_48 b) (by decide) h.1 dX7_setEquation_13 (g_nmS (fun σ2 eσ2 => ?_))
  replace h := h.2 σ2 eσ2
  have hσ2 : CanS (shC b) (NC b) σ2 := by rw [eσ2]; exact wC_48 hσ cl_1
  refine g_aload_0 E dX7_setEquation_14 ?_
  refine g_getR E fl_RX7_15 (kC_45 b) (sC_45 b) rfl dX7_setEquation_15 ?_
  refine g_iload_1 E dX7_setEquation_18 ?_
  refine g_callvI E my_X0_caseStart mi_X0_caseStart msel_X0_caseStart ml_RX7_73 (rm_ok (by decide) (by decide)) ⟨Nat.zero_le _, Nat.zero_le _⟩ (kC_24 b) (sC_24 b) rfl (m_X0_caseStart E.2.2.1 c1 hσ2 h) rfl rfl (Nat.le_of_ble_eq_true rfl) dX7_setEquation_19 (fun r3 σ4 cr3 hσ4 h => ?_)
  refine g_istore_4 E rfl (by decide) dX7_setEquation_22 ?_
  exact (t_X7_setEquation_l24 E hr bigN x1 v1 r3 σ4 c1 cv1 cr3 hσ4 h).weak (w_k (w_k (w_d (w_k (w_k (w_d (w_d (w_d (w_d w_n)))))))))
end
theorem m_X7_setEquation {Z : (Nat → Nat) × (Nat → Nat)} {l : Launch} {D : va_G} {cA : Nat → ClassId} {ad : Nat → Nat} {b : Bool} {x1 x2 : Int} {σ : St} {Q : Int → St → Prop} (hA : AdOk (NC b) ad) (c1 : C32 x1) (c2 : C32 x2) (hσ : CanS (shC b) (NC b) σ) (h : wp_X7_setEquation x1 x2 σ Q) : KtI Z l D cA ad (shC b) (NC b) yX7_setEquation cX7_setEquation 9 (some .boolean) 3 [.ref (ad 45), vI x1, vI x2] σ Q :=
  KtI.of my_X7_setEquation hA [some (.ref (ad 45)), some (vI x1), some (vI x2), none, none, none, none, none, none] (Nat.le_of_ble_eq_true rfl) rfl (fun p e s m args below meth c A0 E hr => t_X7_setEquation E hr x1 x2 σ c1 c2 hσ h)
theorem dX7_solveSpan_0 : Dc cX7_solveSpan 0 (.iload_n 1) 1 1 := ⟨by decide +kernel, rfl⟩
theorem dX7_solveSpan_1 : Dc cX7_solveSpan 1 (.bipush 12) 2 3 := ⟨by decide +kernel, rfl⟩
theorem dX7_solveSpan_3 : Dc cX7_solveSpan 3 (.imul) 1 4 := ⟨by decide +kernel, rfl⟩
theorem dX7_solveSpan_4 : Dc cX7_solveSpan 4 (.istore_n 2) 1 5 := ⟨by decide +kernel, rfl⟩
theorem dX7_solveSpan_5 : Dc cX7_solveSpan 5 (.iconst 0) 1 6 := ⟨by decide +kernel, rfl⟩
theorem dX7_solveSpan_6 : Dc cX7_solveSpan 6 (.istore_n 3) 1 7 := ⟨by decide +kernel, rfl⟩
theorem dX7_solveSpan_7 : Dc cX7_solveSpan 7 (.iconst 0) 1 8 := ⟨by decide +kernel, rfl⟩
theorem dX7_solveSpan_8 : Dc cX7_solveSpan 8 (.istore 4) 2 10 := ⟨by decide +kernel, rfl⟩
theorem dX7_solveSpan_10 : Dc cX7_solveSpan 10 (.iload 4) 2 12 := ⟨by decide +kernel, rfl⟩
theorem dX7_solveSpan_12 : Dc cX7_solveSpan 12 (.bipush 12) 2 14 := ⟨by decide +kernel, rfl⟩
theorem djX7_solveSpan_14 : Dj cX7_solveSpan 14 (.if_icmp .ge 34) 3 17 34 48 := ⟨by decide +kernel, rfl, by decide⟩
theorem dX7_solveSpan_17 : Dc cX7_solveSpan 17 (.aload_n 0) 1 18 := ⟨by decide +kernel, rfl⟩
theorem dX7_solveSpan_18 : Dc cX7_solveSpan 18 (.getfield 34) 3 21 := ⟨by decide +kernel, rfl⟩
theorem dX7_solveSpan_21 : Dc cX7_solveSpan 21 (.iload 4) 2 23 := ⟨by decide +kernel, rfl⟩
theorem dX7_solveSpan_23 : Dc cX7_solveSpan 23 (.iload_n 3) 1 24 := ⟨by decide +kernel, rfl⟩
theorem dX7_solveSpan_24 : Dc cX7_solveSpan 24 (.iastore) 1 25 := ⟨by decide +kernel, rfl⟩
theorem dX7_solveSpan_25 : Dc cX7_solveSpan 25 (.aload_n 0) 1 26 := ⟨by decide +kernel, rfl⟩
theorem dX7_solveSpan_26 : Dc cX7_solveSpan 26 (.getfield 19) 3 29 := ⟨by decide +kernel, rfl⟩
theorem dX7_solveSpan_29 : Dc cX7_solveSpan 29 (.iload_n 2) 1 30 := ⟨by decide +kernel, rfl⟩
theorem dX7_solveSpan_30 : Dc cX7_solveSpan 30 (.iload 4) 2 32 := ⟨by decide +kernel, rfl⟩
theorem dX7_solveSpan_32 : Dc cX7_solveSpan 32 (.iadd) 1 33 := ⟨by decide +kernel, rfl⟩
theorem dX7_solveSpan_33 : Dc cX7_solveSpan 33 (.invokevirtual 56) 3 36 := ⟨by decide +kernel, rfl⟩
theorem djX7_solveSpan_36 : Dj cX7_solveSpan 36 (.ifCond .eq 6) 3 39 6 42 := ⟨by decide +kernel, rfl, by decide⟩
theorem dX7_solveSpan_39 : Dc cX7_solveSpan 39 (.iinc 3 1) 3 42 := ⟨by decide +kernel, rfl⟩
theorem dX7_solveSpan_42 : Dc cX7_solveSpan 42 (.iinc 4 1) 3 45 := ⟨by decide +kernel, rfl⟩
theorem djX7_solveSpan_45 : Dj cX7_solveSpan 45 (.goto (-35)) 3 48 (-35) 10 := ⟨by decide +kernel, rfl, by decide⟩
theorem dX7_solveSpan_48 : Dc cX7_solveSpan 48 (.aload_n 0) 1 49 := ⟨by decide +kernel, rfl⟩
theorem dX7_solveSpan_49 : Dc cX7_solveSpan 49 (.getfield 31) 3 52 := ⟨by decide +kernel, rfl⟩
theorem dX7_solveSpan_52 : Dc cX7_solveSpan 52 (.iconst 0) 1 53 := ⟨by decide +kernel, rfl⟩
theorem dX7_solveSpan_53 : Dc cX7_solveSpan 53 (.invokestatic 60) 3 56 := ⟨by decide +kernel, rfl⟩
theorem dX7_solveSpan_56 : Dc cX7_solveSpan 56 (.iconst 1) 1 57 := ⟨by decide +kernel, rfl⟩
theorem dX7_solveSpan_57 : Dc cX7_solveSpan 57 (.istore 4) 2 59 := ⟨by decide +kernel, rfl⟩
theorem dX7_solveSpan_59 : Dc cX7_solveSpan 59 (.iconst 0) 1 60 := ⟨by decide +kernel, rfl⟩
theorem dX7_solveSpan_60 : Dc cX7_solveSpan 60 (.istore 5) 2 62 := ⟨by decide +kernel, rfl⟩
theorem dX7_solveSpan_62 : Dc cX7_solveSpan 62 (.iload 5) 2 64 := ⟨by decide +kernel, rfl⟩
theorem dX7_solveSpan_64 : Dc cX7_solveSpan 64 (.bipush 12) 2 66 := ⟨by decide +kernel, rfl⟩
theorem djX7_solveSpan_66 : Dj cX7_solveSpan 66 (.if_icmp .ge 43) 3 69 43 109 := ⟨by decide +kernel, rfl, by decide⟩
theorem dX7_solveSpan_69 : Dc cX7_solveSpan 69 (.aload_n 0) 1 70 := ⟨by decide +kernel, rfl⟩
theorem dX7_solveSpan_70 : Dc cX7_solveSpan 70 (.getfield 19) 3 73 := ⟨by decide +kernel, rfl⟩
theorem dX7_solveSpan_73 : Dc cX7_solveSpan 73 (.iload_n 2) 1 74 := ⟨by decide +kernel, rfl⟩
theorem dX7_solveSpan_74 : Dc cX7_solveSpan 74 (.iload 5) 2 76 := ⟨by decide +kernel, rfl⟩
theorem dX7_solveSpan_76 : Dc cX7_solveSpan 76 (.iadd) 1 77 := ⟨by decide +kernel, rfl⟩
theorem dX7_solveSpan_77 : Dc cX7_solveSpan 77 (.invokevirtual 56) 3 80 := ⟨by decide +kernel, rfl⟩
theorem djX7_solveSpan_80 : Dj cX7_solveSpan 80 (.ifCond .eq 23) 3 83 23 103 := ⟨by decide +kernel, rfl, by decide⟩
theorem dX7_solveSpan_83 : Dc cX7_solveSpan 83 (.iload 4) 2 85 := ⟨by decide +kernel, rfl⟩
theorem dX7_solveSpan_85 : Dc cX7_solveSpan 85 (.aload_n 0) 1 86 := ⟨by decide +kernel, rfl⟩
theorem dX7_solveSpan_86 : Dc cX7_solveSpan 86 (.iload_n 2) 1 87 := ⟨by decide +kernel, rfl⟩
theorem dX7_solveSpan_87 : Dc cX7_solveSpan 87 (.iload 5) 2 89 := ⟨by decide +kernel, rfl⟩
theorem dX7_solveSpan_89 : Dc cX7_solveSpan 89 (.iadd) 1 90 := ⟨by decide +kernel, rfl⟩
theorem dX7_solveSpan_90 : Dc cX7_solveSpan 90 (.aload_n 0) 1 91 := ⟨by decide +kernel, rfl⟩
theorem dX7_solveSpan_91 : Dc cX7_solveSpan 91 (.getfield 34) 3 94 := ⟨by decide +kernel, rfl⟩
theorem dX7_solveSpan_94 : Dc cX7_solveSpan 94 (.iload 5) 2 96 := ⟨by decide +kernel, rfl⟩
theorem dX7_solveSpan_96 : Dc cX7_solveSpan 96 (.iaload) 1 97 := ⟨by decide +kernel, rfl⟩
theorem dX7_solveSpan_97 : Dc cX7_solveSpan 97 (.invokevirtual 66) 3 100 := ⟨by decide +kernel, rfl⟩
theorem dX7_solveSpan_100 : Dc cX7_solveSpan 100 (.iand) 1 101 := ⟨by decide +kernel, rfl⟩
theorem dX7_solveSpan_101 : Dc cX7_solveSpan 101 (.istore 4) 2 103 := ⟨by decide +kernel, rfl⟩
theorem dX7_solveSpan_103 : Dc cX7_solveSpan 103 (.iinc 5 1) 3 106 := ⟨by decide +kernel, rfl⟩
theorem djX7_solveSpan_106 : Dj cX7_solveSpan 106 (.goto (-44)) 3 109 (-44) 62 := ⟨by decide +kernel, rfl, by decide⟩
theorem dX7_solveSpan_109 : Dc cX7_solveSpan 109 (.iload 4) 2 111 := ⟨by decide +kernel, rfl⟩
theorem djX7_solveSpan_111 : Dj cX7_solveSpan 111 (.ifCond .eq 15) 3 114 15 126 := ⟨by decide +kernel, rfl, by decide⟩
theorem dX7_solveSpan_114 : Dc cX7_solveSpan 114 (.aload_n 0) 1 115 := ⟨by decide +kernel, rfl⟩
theorem dX7_solveSpan_115 : Dc cX7_solveSpan 115 (.iload_n 3) 1 116 := ⟨by decide +kernel, rfl⟩
theorem dX7_solveSpan_116 : Dc cX7_solveSpan 116 (.invokevirtual 70) 3 119 := ⟨by decide +kernel, rfl⟩
theorem djX7_solveSpan_119 : Dj cX7_solveSpan 119 (.ifCond .eq 7) 3 122 7 126 := ⟨by decide +kernel, rfl, by decide⟩
theorem dX7_solveSpan_122 : Dc cX7_solveSpan 122 (.iconst 1) 1 123 := ⟨by decide +kernel, rfl⟩
theorem djX7_solveSpan_123 : Dj cX7_solveSpan 123 (.goto 4) 3 126 4 127 := ⟨by decide +kernel, rfl, by decide⟩
theorem dX7_solveSpan_126 : Dc cX7_solveSpan 126 (.iconst 0) 1 127 := ⟨by decide +kernel, rfl⟩
theorem dX7_solveSpan_127 : Dc cX7_solveSpan 127 (.istore 4) 2 129 := ⟨by decide +kernel, rfl⟩
theorem dX7_solveSpan_129 : Dc cX7_solveSpan 129 (.aload_n 0) 1 130 := ⟨by decide +kernel, rfl⟩
theorem dX7_solveSpan_130 : Dc cX7_solveSpan 130 (.getfield 27) 3 133 := ⟨by decide +kernel, rfl⟩
theorem dX7_solveSpan_133 : Dc cX7_solveSpan 133 (.iload_n 1) 1 134 := ⟨by decide +kernel, rfl⟩
theorem dX7_solveSpan_134 : Dc cX7_solveSpan 134 (.iload 4) 2 136 := ⟨by decide +kernel, rfl⟩
theorem djX7_solveSpan_136 : Dj cX7_solveSpan 136 (.ifCond .ne 7) 3 139 7 143 := ⟨by decide +kernel, rfl, by decide⟩
theorem dX7_solveSpan_139 : Dc cX7_solveSpan 139 (.iconst 1) 1 140 := ⟨by decide +kernel, rfl⟩
theorem djX7_solveSpan_140 : Dj cX7_solveSpan 140 (.goto 4) 3 143 4 144 := ⟨by decide +kernel, rfl, by decide⟩
theorem dX7_solveSpan_143 : Dc cX7_solveSpan 143 (.iconst 0) 1 144 := ⟨by decide +kernel, rfl⟩
theorem dX7_solveSpan_144 : Dc cX7_solveSpan 144 (.bastore) 1 145 := ⟨by decide +kernel, rfl⟩
theorem dX7_solveSpan_145 : Dc cX7_solveSpan 145 (.iconst 0) 1 146 := ⟨by decide +kernel, rfl⟩
theorem dX7_solveSpan_146 : Dc cX7_solveSpan 146 (.istore 5) 2 148 := ⟨by decide +kernel, rfl⟩
theorem dX7_solveSpan_148 : Dc cX7_solveSpan 148 (.iload 5) 2 150 := ⟨by decide +kernel, rfl⟩
theorem dX7_solveSpan_150 : Dc cX7_solveSpan 150 (.bipush 12) 2 152 := ⟨by decide +kernel, rfl⟩
theorem djX7_solveSpan_152 : Dj cX7_solveSpan 152 (.if_icmp .ge 71) 3 155 71 223 := ⟨by decide +kernel, rfl, by decide⟩
theorem dX7_solveSpan_155 : Dc cX7_solveSpan 155 (.iload 4) 2 157 := ⟨by decide +kernel, rfl⟩
theorem djX7_solveSpan_157 : Dj cX7_solveSpan 157 (.ifCond .eq 21) 3 160 21 178 := ⟨by decide +kernel, rfl, by decide⟩
theorem dX7_solveSpan_160 : Dc cX7_solveSpan 160 (.aload_n 0) 1 161 := ⟨by decide +kernel, rfl⟩
theorem dX7_solveSpan_161 : Dc cX7_solveSpan 161 (.getfield 19) 3 164 := ⟨by decide +kernel, rfl⟩
theorem dX7_solveSpan_164 : Dc cX7_solveSpan 164 (.iload_n 2) 1 165 := ⟨by decide +kernel, rfl⟩
theorem dX7_solveSpan_165 : Dc cX7_solveSpan 165 (.iload 5) 2 167 := ⟨by decide +kernel, rfl⟩
theorem dX7_solveSpan_167 : Dc cX7_solveSpan 167 (.iadd) 1 168 := ⟨by decide +kernel, rfl⟩
theorem dX7_solveSpan_168 : Dc cX7_solveSpan 168 (.invokevirtual 56) 3 171 := ⟨by decide +kernel, rfl⟩
theorem djX7_solveSpan_171 : Dj cX7_solveSpan 171 (.ifCond .eq 7) 3 174 7 178 := ⟨by decide +kernel, rfl, by decide⟩
theorem dX7_solveSpan_174 : Dc cX7_solveSpan 174 (.iconst 1) 1 175 := ⟨by decide +kernel, rfl⟩
theorem djX7_solveSpan_175 : Dj cX7_solveSpan 175 (.goto 4) 3 178 4 179 := ⟨by decide +kernel, rfl, by decide⟩
theorem dX7_solveSpan_178 : Dc cX7_solveSpan 178 (.iconst 0) 1 179 := ⟨by decide +kernel, rfl⟩
theorem dX7_solveSpan_179 : Dc cX7_solveSpan 179 (.istore 6) 2 181 := ⟨by decide +kernel, rfl⟩
theorem dX7_solveSpan_181 : Dc cX7_solveSpan 181 (.aload_n 0) 1 182 := ⟨by decide +kernel, rfl⟩
theorem dX7_solveSpan_182 : Dc cX7_solveSpan 182 (.getfield 23) 3 185 := ⟨by decide +kernel, rfl⟩
theorem dX7_solveSpan_185 : Dc cX7_solveSpan 185 (.iload_n 2) 1 186 := ⟨by decide +kernel, rfl⟩
theorem dX7_solveSpan_186 : Dc cX7_solveSpan 186 (.iload 5) 2 188 := ⟨by decide +kernel, rfl⟩
theorem dX7_solveSpan_188 : Dc cX7_solveSpan 188 (.iadd) 1 189 := ⟨by decide +kernel, rfl⟩
theorem dX7_solveSpan_189 : Dc cX7_solveSpan 189 (.iload 6) 2 191 := ⟨by decide +kernel, rfl⟩
theorem djX7_solveSpan_191 : Dj cX7_solveSpan 191 (.ifCond .eq 24) 3 194 24 215 := ⟨by decide +kernel, rfl, by decide⟩
theorem dX7_solveSpan_194 : Dc cX7_solveSpan 194 (.aload_n 0) 1 195 := ⟨by decide +kernel, rfl⟩
theorem dX7_solveSpan_195 : Dc cX7_solveSpan 195 (.getfield 31) 3 198 := ⟨by decide +kernel, rfl⟩
theorem dX7_solveSpan_198 : Dc cX7_solveSpan 198 (.aload_n 0) 1 199 := ⟨by decide +kernel, rfl⟩
theorem dX7_solveSpan_199 : Dc cX7_solveSpan 199 (.getfield 34) 3 202 := ⟨by decide +kernel, rfl⟩
theorem dX7_solveSpan_202 : Dc cX7_solveSpan 202 (.iload 5) 2 204 := ⟨by decide +kernel, rfl⟩
theorem dX7_solveSpan_204 : Dc cX7_solveSpan 204 (.iaload) 1 205 := ⟨by decide +kernel, rfl⟩
theorem dX7_solveSpan_205 : Dc cX7_solveSpan 205 (.bipush 13) 2 207 := ⟨by decide +kernel, rfl⟩
theorem dX7_solveSpan_207 : Dc cX7_solveSpan 207 (.imul) 1 208 := ⟨by decide +kernel, rfl⟩
theorem dX7_solveSpan_208 : Dc cX7_solveSpan 208 (.bipush 12) 2 210 := ⟨by decide +kernel, rfl⟩
theorem dX7_solveSpan_210 : Dc cX7_solveSpan 210 (.iadd) 1 211 := ⟨by decide +kernel, rfl⟩
theorem dX7_solveSpan_211 : Dc cX7_solveSpan 211 (.iaload) 1 212 := ⟨by decide +kernel, rfl⟩
theorem djX7_solveSpan_212 : Dj cX7_solveSpan 212 (.goto 4) 3 215 4 216 := ⟨by decide +kernel, rfl, by decide⟩
theorem dX7_solveSpan_215 : Dc cX7_solveSpan 215 (.iconst 0) 1 216 := ⟨by decide +kernel, rfl⟩
theorem dX7_solveSpan_216 : Dc cX7_solveSpan 216 (.iastore) 1 217 := ⟨by decide +kernel, rfl⟩
theorem dX7_solveSpan_217 : Dc cX7_solveSpan 217 (.iinc 5 1) 3 220 := ⟨by decide +kernel, rfl⟩
theorem djX7_solveSpan_220 : Dj cX7_solveSpan 220 (.goto (-72)) 3 223 (-72) 148 := ⟨by decide +kernel, rfl, by decide⟩
theorem dX7_solveSpan_223 : Dc cX7_solveSpan 223 (.return_) 1 224 := ⟨by decide +kernel, rfl⟩
section
variable {p : Program} {l : Launch} {e : Env} {s : State} {m : MethodId} {args : Array Value} {below : List Frame} {meth : Method} {c : Code} {A0 : Nat → Prop} {D : va_G} {cA : Nat → ClassId} {ad : Nat → Nat} {Z : (Nat → Nat) × (Nat → Nat)} {Q : Int → St → Prop} {b : Bool}
set_option maxHeartbeats 4000000 in
set_option maxRecDepth 100000 in
theorem t_X7_solveSpan_b42 (E : Ev p s m args meth c cX7_solveSpan 7 RX7 A0 D cA ad (NC b) Z) (hr : meth.sig.returnType = none) {K10 : Int → Int → Int → Int → St → Prop} (hK10 : ∀ (x1 : Int) (x2 : Int) (x3 : Int) (x4 : Int) (σ : St), C32 x1 → C32 x2 → C32 x3 → C32 x4 → CanS (shC b) (NC b) σ → K10 x1 x2 x3 x4 σ → G p l e (rmL 4 0 0) s m args below meth c 7 A0 D cA ad (shC b) (NC b) 0 0 (MQ below (QVc D cA ad (shC b) (NC b) Q A0) args s 0 0 A0) σ 10 [some (.ref (ad 45)), some (vI x1), some (vI x2), some (vI x3), some (vI x4), none, none] []) (x1 : Int) (x2 : Int) (x3 : Int) (x4 : Int) (σ : St) (c1 : C32 x1) (c2 : C32 x2) (c3 : C32 x3) (c4 : C32 x4) (hσ : CanS (shC b) (NC b) σ) (h : wp_X7_solveSpan_b42 Q K10 x1 x2 x3 x4 σ) : G p l e (rmL 4 0 0) s m args below meth c 7 A0 D cA ad (shC b) (NC b) 0 0 (MQ below (QVc D cA ad (shC b) (NC b) Q A0) args s 0 0 A0) σ 42 [some (.ref (ad 45)), some (vI x1), some (vI x2), some (vI x3), some (vI x4), none, none] [] := by
  unfold wp_X7_solveSpan_b42 at h
  refine g_iinc_4 E rfl (by decide) dX7_solveSpan_42 (fun v15 ev15 => ?_)
  replace h := h v15 ev15
  have cv15 : C32 v15 := by rw [ev15]; exact c32_w _
  refine g_goto E djX7_solveSpan_45 ?_
  exact (hK10 x1 x2 x3 v15 σ c1 c2 c3 cv15 hσ h).weak (w_k (w_k (w_k (w_k (w_k (w_d (w_d w_n)))))))
set_option maxHeartbeats 4000000 in
set_option maxRecDepth 100000 in
theorem t_X7_solveSpan_b103 (E : Ev p s m args meth c cX7_solveSpan 7 RX7 A0 D cA ad (NC b) Z) (hr : meth.sig.returnType = none) {K62 : Int → Int → Int → Int → Int → St → Prop} (hK62 : ∀ (x1 : Int) (x2 : Int) (x3 : Int) (x4 : Int) (x5 : Int) (σ : St), C32 x1 → C32 x2 → C32 x3 → C32 x4 → C32 x5 → CanS (shC b) (NC b) σ → K62 x1 x2 x3 x4 x5 σ → G p l e (rmL 4 0 0) s m args below meth c 7 A0 D cA ad (shC b) (NC b) 0 0 (MQ below (QVc D cA ad (shC b) (NC b) Q A0) args s 0 0 A0) σ 62 [some (.ref (ad 45)), some (vI x1), some (vI x2), some (vI x3), some (vI x4), some (vI x5), none] []) (x1 : Int) (x2 : Int) (x3 : Int) (x4 : Int) (x5 : Int) (σ : St) (c1 : C32 x1) (c2 : C32 x2) (c3 : C32 x3) (c4 : C32 x4) (c5 : C32 x5) (hσ : CanS (shC b) (NC b) σ) (h : wp_X7_solveSpan_b103 Q K62 x1 x2 x3 x4 x5 σ) : G p l e (rmL 4 0 0) s m args below meth c 7 A0 D cA ad (shC b) (NC b) 0 0 (MQ below (QVc D cA ad (shC b) (NC b) Q A0) args s 0 0 A0) σ 103 [some (.ref (ad 45)), some (vI x1), some (vI x2), some (vI x3), some (vI x4), some (vI x5), none] [] := by
  unfold wp_X7_solveSpan_b103 at h
  refine g_iinc_5 E rfl (by decide) dX7_solveSpan_103 (fun v16 ev16 => ?_)
  replace h := h v16 ev16
  have cv16 : C32 v16 := by rw [ev16]; exact c32_w _
  refine g_goto E djX7_solveSpan_106 ?_
  exact (hK62 x1 x2 x3 x4 v16 σ c1 c2 c3 c4 cv16 hσ h).weak (w_k (w_k (w_k (w_k (w_k (w_k (w_d w_n)))))))
set_option maxHeartbeats 4000000 in
set_option maxRecDepth 100000 in
theorem t_X7_solveSpan_b216 (E : Ev p s m args meth c cX7_solveSpan 7 RX7 A0 D cA ad (NC b) Z) (hr : meth.sig.returnType = none) {K148 : Int → Int → Int → St → Prop} (hK148 : ∀ (x2 : Int) (x4 : Int) (x5 : Int) (σ : St), C32 x2 → C32 x4 → C32 x5 → CanS (shC b) (NC b) σ → K148 x2 x4 x5 σ → G p l e (rmL 4 0 0) s m args below meth c 7 A0 D cA ad (shC b) (NC b) 0 0 (MQ below (QVc D cA ad (shC b) (NC b) Q A0) args s 0 0 A0) σ 148 [some (.ref (ad 45)), none, some (vI x2), none, some (vI x4), some (vI x5), none] []) (x2 : Int) (x4 : Int) (x5 : Int) (s0 : Int) (s1 : Int) (σ : St) (c2 : C32 x2) (c4 : C32 x4) (c5 : C32 x5) (cs0 : C32 s0) (cs1 : C32 s1) (hσ : CanS (shC b) (NC b) σ) (h : wp_X7_solveSpan_b216 Q K148 x2 x4 x5 s0 s1 σ) : G p l e (rmL 4 0 0) s m args below meth c 7 A0 D cA ad (shC b) (NC b) 0 0 (MQ below (QVc D cA ad (shC b) (NC b) Q A0) args s 0 0 A0) σ 216 [some (.ref (ad 45)), none, some (vI x2), none, some (vI x4), some (vI x5), none] [vI s0, vI s1, .ref (ad 46)] := by
  unfold wp_X7_solveSpan_b216 at h
  refine g_iast E (kC_46 b) (sC_46 b) (by decide) h.1 dX7_solveSpan_216 (g_nmS (fun σ20 eσ20 => ?_))
  replace h := h.2 σ20 eσ20
  have hσ20 : CanS (shC b) (NC b) σ20 := by rw [eσ20]; exact wC_46 hσ cs0
  refine g_iinc_5 E rfl (by decide) dX7_solveSpan_217 (fun v21 ev21 => ?_)
  replace h := h v21 ev21
  have cv21 : C32 v21 := by rw [ev21]; exact c32_w _
  refine g_goto E djX7_solveSpan_220 ?_
  exact (hK148 x2 x4 v21 σ20 c2 c4 cv21 hσ20 h).weak (w_k (w_d (w_k (w_d (w_k (w_k (w_d w_n)))))))
set_option maxHeartbeats 4000000 in
set_option maxRecDepth 100000 in
theorem t_X7_solveSpan_b179 (E : Ev p s m args meth c cX7_solveSpan 7 RX7 A0 D cA ad (NC b) Z) (hr : meth.sig.returnType = none) {K148 : Int → Int → Int → St → Prop} (hK148 : ∀ (x2 : Int) (x4 : Int) (x5 : Int) (σ : St), C32 x2 → C32 x4 → C32 x5 → CanS (shC b) (NC b) σ → K148 x2 x4 x5 σ → G p l e (rmL 4 0 0) s m args below meth c 7 A0 D cA ad (shC b) (NC b) 0 0 (MQ below (QVc D cA ad (shC b) (NC b) Q A0) args s 0 0 A0) σ 148 [some (.ref (ad 45)), none, some (vI x2), none, some (vI x4), some (vI x5), none] []) (x2 : Int) (x4 : Int) (x5 : Int) (s0 : Int) (σ : St) (c2 : C32 x2) (c4 : C32 x4) (c5 : C32 x5) (cs0 : C32 s0) (hσ : CanS (shC b) (NC b) σ) (h : wp_X7_solveSpan_b179 Q K148 x2 x4 x5 s0 σ) : G p l e (rmL 4 0 0) s m args below meth c 7 A0 D cA ad (shC b) (NC b) 0 0 (MQ below (QVc D cA ad (shC b) (NC b) Q A0) args s 0 0 A0) σ 179 [some (.ref (ad 45)), none, some (vI x2), none, some (vI x4), some (vI x5), none] [vI s0] := by
  unfold wp_X7_solveSpan_b179 at h
  refine g_istore_6 E rfl (by decide) dX7_solveSpan_179 ?_
  refine g_aload_0 E dX7_solveSpan_181 ?_
  refine g_getR E fl_RX7_23 (kC_45 b) (sC_45 b) rfl dX7_solveSpan_182 ?_
  refine g_iload_2 E dX7_solveSpan_185 ?_
  refine g_iload_5 E dX7_solveSpan_186 ?_
  refine g_iadd E dX7_solveSpan_188 ?_
  refine g_iload_6 E dX7_solveSpan_189 ?_
  refine g_if_eq E cs0 djX7_solveSpan_191 (fun hc => ?_) (fun hc => ?_)
  · replace h := h.1 hc
    refine g_iconst E dX7_solveSpan_215 ?_
    exact (t_X7_solveSpan_b216 E hr hK148 x2 x4 x5 0 (w32 (x2 + x5)) σ c2 c4 c5 cl_0 (c32_w _) hσ h).weak (w_k (w_d (w_k (w_d (w_k (w_k (w_d w_n)))))))
  · replace h := h.2 hc
    refine g_aload_0 E dX7_solveSpan_194 ?_
    refine g_getR E fl_RX7_31 (kC_45 b) (sC_45 b) rfl dX7_solveSpan_195 ?_
    refine g_aload_0 E dX7_solveSpan_198 ?_
    refine g_getR E fl_RX7_34 (kC_45 b) (sC_45 b) rfl dX7_solveSpan_199 ?_
    refine g_iload_5 E dX7_solveSpan_202 ?_
    refine g_iald E (kC_49 b) (sC_49 b) (by decide) h.1 dX7_solveSpan_204 ?_
    replace h := h.2
    refine g_bipush E (by decide) dX7_solveSpan_205 ?_
    refine g_imul E dX7_solveSpan_207 ?_
    refine g_bipush E (by decide) dX7_solveSpan_208 ?_
    refine g_iadd E dX7_solveSpan_210 ?_
    refine g_iald E (kC_48 b) (sC_48 b) (by decide) h.1 dX7_solveSpan_211 ?_
    replace h := h.2
    refine g_goto E djX7_solveSpan_212 ?_
    exact (t_X7_solveSpan_b216 E hr hK148 x2 x4 x5 (σ 48 ((w32 ((w32 ((σ 49 (x5.toNat)) * 13)) + 12)).toNat)) (w32 (x2 + x5)) σ c2 c4 c5 (aC_48 hσ _) (c32_w _) hσ h).weak (w_k (w_d (w_k (w_d (w_k (w_k (w_d w_n)))))))
set_option maxHeartbeats 4000000 in
set_option maxRecDepth 100000 in
theorem t_X7_solveSpan_b178 (E : Ev p s m args meth c cX7_solveSpan 7 RX7 A0 D cA ad (NC b) Z) (hr : meth.sig.returnType = none) {K148 : Int → Int → Int → St → Prop} (hK148 : ∀ (x2 : Int) (x4 : Int) (x5 : Int) (σ : St), C32 x2 → C32 x4 → C32 x5 → CanS (shC b) (NC b) σ → K148 x2 x4 x5 σ → G p l e (rmL 4 0 0) s m args below meth c 7 A0 D cA ad (shC b) (NC b) 0 0 (MQ below (QVc D cA ad (shC b) (NC b) Q A0) args s 0 0 A0) σ 148 [some (.ref (ad 45)), none, some (vI x2), none, some (vI x4), some (vI x5), none] []) (x2 : Int) (x4 : Int) (x5 : Int) (σ : St) (c2 : C32 x2) (c4 : C32 x4) (c5 : C32 x5) (hσ : CanS (shC b) (NC b) σ) (h : wp_X7_solveSpan_b178 Q K148 x2 x4 x5 σ) : G p l e (rmL 4 0 0) s m args below meth c 7 A0 D cA ad (shC b) (NC b) 0 0 (MQ below (QVc D cA ad (shC b) (NC b) Q A0) args s 0 0 A0) σ 178 [some (.ref (ad 45)), none, some (vI x2), none, some (vI x4), some (vI x5), none] [] := by
  unfold wp_X7_solveSpan_b178 at h
  refine g_iconst E dX7_solveSpan_178 ?_
  exact (t_X7_solveSpan_b179 E hr hK148 x2 x4 x5 0 σ c2 c4 c5 cl_0 hσ h).weak (w_k (w_d (w_k (w_d (w_k (w_k (w_d w_n)))))))
set_option maxHeartbeats 4000000 in
set_option maxRecDepth 100000 in
theorem t_X7_solveSpan_l148 (E : Ev p s m args meth c cX7_solveSpan 7 RX7 A0 D cA ad (NC b) Z) (hr : meth.sig.returnType = none) : ∀ (n : Nat) (x2 : Int) (x4 : Int) (x5 : Int) (σ : St), C32 x2 → C32 x4 → C32 x5 → CanS (shC b) (NC b) σ → wp_X7_solveSpan_l148 Q n x2 x4 x5 σ → G p l e (rmL 4 0 0) s m args below meth c 7 A0 D cA ad (shC b) (NC b) 0 0 (MQ below (QVc D cA ad (shC b) (NC b) Q A0) args s 0 0 A0) σ 148 [some (.ref (ad 45)), none, some (vI x2), none, some (vI x4), some (vI x5), none] [] := by
  intro n
  induction n with
  | zero => intro _ _ _ _ _ _ _ _ h; exact h.elim
  | succ n ih =>
    intro x2 x4 x5 σ c2 c4 c5 hσ h
    unfold wp_X7_solveSpan_l148 at h
    refine g_iload_5 E dX7_solveSpan_148 ?_
    refine g_bipush E (by decide) dX7_solveSpan_150 ?_
    refine g_icmp_ge E c5 cl_12 djX7_solveSpan_152 (fun hc => ?_) (fun hc => ?_)
    · replace h := h.1 hc
      exact g_vret E hr h hσ dX7_solveSpan_223
    · replace h := h.2 hc
      refine g_iload_4 E dX7_solveSpan_155 ?_
      refine g_if_eq E c4 djX7_solveSpan_157 (fun hc => ?_) (fun hc => ?_)
      · replace h := h.1 hc
        exact (t_X7_solveSpan_b178 E hr ih x2 x4 x5 σ c2 c4 c5 hσ h).weak (w_k (w_d (w_k (w_d (w_k (w_k (w_d w_n)))))))
      · replace h := h.2 hc
        refine g_aload_0 E dX7_solveSpan_160 ?_
        refine g_getR E fl_RX7_19 (kC_45 b) (sC_45 b) rfl dX7_solveSpan_161 ?_
        refine g_iload_2 E dX7_solveSpan_164 ?_
        refine g_iload_5 E dX7_solveSpan_165 ?_
        refine g_iadd E dX7_solveSpan_167 ?_
        refine g_callvI E my_X1_has mi_X1_has msel_X1_has ml_RX7_56 (rm_ok (by decide) (by decide)) ⟨Nat.zero_le _, Nat.zero_le _⟩ (kC_36 b) (sC_36 b) rfl (m_X1_has E.2.2.1 (c32_w _) hσ h) rfl rfl (Nat.le_of_ble_eq_true rfl) dX7_solveSpan_168 (fun r18 σ19 cr18 hσ19 h => ?_)
        refine g_if_eq E cr18 djX7_solveSpan_171 (fun hc => ?_) (fun hc => ?_)
        · replace h := h.1 hc
          exact (t_X7_solveSpan_b178 E hr ih x2 x4 x5 σ19 c2 c4 c5 hσ19 h).weak (w_k (w_d (w_k (w_d (w_k (w_k (w_d w_n)))))))
        · replace h := h.2 hc
          refine g_iconst E dX7_solveSpan_174 ?_
          refine g_goto E djX7_solveSpan_175 ?_
          exact (t_X7_solveSpan_b179 E hr ih x2 x4 x5 1 σ19 c2 c4 c5 cl_1 hσ19 h).weak (w_k (w_d (w_k (w_d (w_k (w_k (w_d w_n)))))))
set_option maxHeartbeats 4000000 in
set_option maxRecDepth 100000 in
theorem t_X7_solveSpan_b144 (E : Ev p s m args meth c cX7_solveSpan 7 RX7 A0 D cA ad (NC b) Z) (hr : meth.sig.returnType = none) (x2 : Int) (x4 : Int) (s0 : Int) (s1 : Int) (σ : St) (c2 : C32 x2) (c4 : C32 x4) (cs0 : C32 s0) (cs1 : C32 s1) (hσ : CanS (shC b) (NC b) σ) (h : wp_X7_solveSpan_b144 Q x2 x4 s0 s1 σ) : G p l e (rmL 4 0 0) s m args below meth c 7 A0 D cA ad (shC b) (NC b) 0 0 (MQ below (QVc D cA ad (shC b) (NC b) Q A0) args s 0 0 A0) σ 144 [some (.ref (ad 45)), none, some (vI x2), none, some (vI x4), none, none] [vI s0, vI s1, .ref (ad 47)] := by
  unfold wp_X7_solveSpan_b144 at h
  refine g_zast E (kC_47 b) (sC_47 b) (by decide) h.1 dX7_solveSpan_144 (g_nmS (fun σ17 eσ17 => ?_))
  replace h := h.2 σ17 eσ17
  have hσ17 : CanS (shC b) (NC b) σ17 := by rw [eσ17]; exact wC_47 hσ (c32_t _)
  refine g_iconst E dX7_solveSpan_145 ?_
  refine g_istore_5 E rfl (by decide) dX7_solveSpan_146 ?_
  exact (t_X7_solveSpan_l148 E hr bigN x2 x4 0 σ17 c2 c4 cl_0 hσ17 h).weak (w_k (w_d (w_k (w_d (w_k (w_k (w_d w_n)))))))
set_option maxHeartbeats 4000000 in
set_option maxRecDepth 100000 in
theorem t_X7_solveSpan_b127 (E : Ev p s m args meth c cX7_solveSpan 7 RX7 A0 D cA ad (NC b) Z) (hr : meth.sig.returnType = none) (x1 : Int) (x2 : Int) (s0 : Int) (σ : St) (c1 : C32 x1) (c2 : C32 x2) (cs0 : C32 s0) (hσ : CanS (shC b) (NC b) σ) (h : wp_X7_solveSpan_b127 Q x1 x2 s0 σ) : G p l e (rmL 4 0 0) s m args below meth c 7 A0 D cA ad (shC b) (NC b) 0 0 (MQ below (QVc D cA ad (shC b) (NC b) Q A0) args s 0 0 A0) σ 127 [some (.ref (ad 45)), some (vI x1), some (vI x2), none, none, none, none] [vI s0] := by
  unfold wp_X7_solveSpan_b127 at h
  refine g_istore_4 E rfl (by decide) dX7_solveSpan_127 ?_
  refine g_aload_0 E dX7_solveSpan_129 ?_
  refine g_getR E fl_RX7_27 (kC_45 b) (sC_45 b) rfl dX7_solveSpan_130 ?_
  refine g_iload_1 E dX7_solveSpan_133 ?_
  refine g_iload_4 E dX7_solveSpan_134 ?_
  refine g_if_ne E cs0 djX7_solveSpan_136 (fun hc => ?_) (fun hc => ?_)
  · replace h := h.1 hc
    refine g_iconst E dX7_solveSpan_143 ?_
    exact (t_X7_solveSpan_b144 E hr x2 s0 0 x1 σ c2 cs0 cl_0 c1 hσ h).weak (w_k (w_d (w_k (w_d (w_k (w_d (w_d w_n)))))))
  · replace h := h.2 hc
    refine g_iconst E dX7_solveSpan_139 ?_
    refine g_goto E djX7_solveSpan_140 ?_
    exact (t_X7_solveSpan_b144 E hr x2 s0 1 x1 σ c2 cs0 cl_1 c1 hσ h).weak (w_k (w_d (w_k (w_d (w_k (w_d (w_d w_n)))))))
set_option maxHeartbeats 4000000 in
set_option maxRecDepth 100000 in
theorem t_X7_solveSpan_b126 (E : Ev p s m args meth c cX7_solveSpan 7 RX7 A0 D cA ad (NC b) Z) (hr : meth.sig.returnType = none) (x1 : Int) (x2 : Int) (σ : St) (c1 : C32 x1) (c2 : C32 x2) (hσ : CanS (shC b) (NC b) σ) (h : wp_X7_solveSpan_b126 Q x1 x2 σ) : G p l e (rmL 4 0 0) s m args below meth c 7 A0 D cA ad (shC b) (NC b) 0 0 (MQ below (QVc D cA ad (shC b) (NC b) Q A0) args s 0 0 A0) σ 126 [some (.ref (ad 45)), some (vI x1), some (vI x2), none, none, none, none] [] := by
  unfold wp_X7_solveSpan_b126 at h
  refine g_iconst E dX7_solveSpan_126 ?_
  exact (t_X7_solveSpan_b127 E hr x1 x2 0 σ c1 c2 cl_0 hσ h).weak (w_k (w_k (w_k (w_d (w_d (w_d (w_d w_n)))))))
set_option maxHeartbeats 4000000 in
set_option maxRecDepth 100000 in
theorem t_X7_solveSpan_l62 (E : Ev p s m args meth c cX7_solveSpan 7 RX7 A0 D cA ad (NC b) Z) (hr : meth.sig.returnType = none) : ∀ (n : Nat) (x1 : Int) (x2 : Int) (x3 : Int) (x4 : Int) (x5 : Int) (σ : St), C32 x1 → C32 x2 → C32 x3 → C32 x4 → C32 x5 → CanS (shC b) (NC b) σ → wp_X7_solveSpan_l62 Q n x1 x2 x3 x4 x5 σ → G p l e (rmL 4 0 0) s m args below meth c 7 A0 D cA ad (shC b) (NC b) 0 0 (MQ below (QVc D cA ad (shC b) (NC b) Q A0) args s 0 0 A0) σ 62 [some (.ref (ad 45)), some (vI x1), some (vI x2), some (vI x3), some (vI x4), some (vI x5), none] [] := by
  intro n
  induction n with
  | zero => intro _ _ _ _ _ _ _ _ _ _ _ _ h; exact h.elim
  | succ n ih =>
    intro x1 x2 x3 x4 x5 σ c1 c2 c3 c4 c5 hσ h
    unfold wp_X7_solveSpan_l62 at h
    refine g_iload_5 E dX7_solveSpan_62 ?_
    refine g_bipush E (by decide) dX7_solveSpan_64 ?_
    refine g_icmp_ge E c5 cl_12 djX7_solveSpan_66 (fun hc => ?_) (fun hc => ?_)
    · replace h := h.1 hc
      refine g_iload_4 E dX7_solveSpan_109 ?_
      refine g_if_eq E c4 djX7_solveSpan_111 (fun hc => ?_) (fun hc => ?_)
      · replace h := h.1 hc
        exact (t_X7_solveSpan_b126 E hr x1 x2 σ c1 c2 hσ h).weak (w_k (w_k (w_k (w_d (w_d (w_d (w_d w_n)))))))
      · replace h := h.2 hc
        refine g_aload_0 E dX7_solveSpan_114 ?_
        refine g_iload_3 E dX7_solveSpan_115 ?_
        refine g_callvI E my_X7_eliminate mi_X7_eliminate msel_X7_eliminate ml_RX7_70 (rm_ok (by decide) (by decide)) ⟨Nat.zero_le _, Nat.zero_le _⟩ (kC_45 b) (sC_45 b) rfl (m_X7_eliminate E.2.2.1 c3 hσ h) rfl rfl (Nat.le_of_ble_eq_true rfl) dX7_solveSpan_116 (fun r8 σ9 cr8 hσ9 h => ?_)
        refine g_if_eq E cr8 djX7_solveSpan_119 (fun hc => ?_) (fun hc => ?_)
        · replace h := h.1 hc
          exact (t_X7_solveSpan_b126 E hr x1 x2 σ9 c1 c2 hσ9 h).weak (w_k (w_k (w_k (w_d (w_d (w_d (w_d w_n)))))))
        · replace h := h.2 hc
          refine g_iconst E dX7_solveSpan_122 ?_
          refine g_goto E djX7_solveSpan_123 ?_
          exact (t_X7_solveSpan_b127 E hr x1 x2 1 σ9 c1 c2 cl_1 hσ9 h).weak (w_k (w_k (w_k (w_d (w_d (w_d (w_d w_n)))))))
    · replace h := h.2 hc
      refine g_aload_0 E dX7_solveSpan_69 ?_
      refine g_getR E fl_RX7_19 (kC_45 b) (sC_45 b) rfl dX7_solveSpan_70 ?_
      refine g_iload_2 E dX7_solveSpan_73 ?_
      refine g_iload_5 E dX7_solveSpan_74 ?_
      refine g_iadd E dX7_solveSpan_76 ?_
      refine g_callvI E my_X1_has mi_X1_has msel_X1_has ml_RX7_56 (rm_ok (by decide) (by decide)) ⟨Nat.zero_le _, Nat.zero_le _⟩ (kC_36 b) (sC_36 b) rfl (m_X1_has E.2.2.1 (c32_w _) hσ h) rfl rfl (Nat.le_of_ble_eq_true rfl) dX7_solveSpan_77 (fun r10 σ11 cr10 hσ11 h => ?_)
      refine g_if_eq E cr10 djX7_solveSpan_80 (fun hc => ?_) (fun hc => ?_)
      · replace h := h.1 hc
        exact (t_X7_solveSpan_b103 E hr ih x1 x2 x3 x4 x5 σ11 c1 c2 c3 c4 c5 hσ11 h).weak (w_k (w_k (w_k (w_k (w_k (w_k (w_d w_n)))))))
      · replace h := h.2 hc
        refine g_iload_4 E dX7_solveSpan_83 ?_
        refine g_aload_0 E dX7_solveSpan_85 ?_
        refine g_iload_2 E dX7_solveSpan_86 ?_
        refine g_iload_5 E dX7_solveSpan_87 ?_
        refine g_iadd E dX7_solveSpan_89 ?_
        refine g_aload_0 E dX7_solveSpan_90 ?_
        refine g_getR E fl_RX7_34 (kC_45 b) (sC_45 b) rfl dX7_solveSpan_91 ?_
        refine g_iload_5 E dX7_solveSpan_94 ?_
        refine g_iald E (kC_49 b) (sC_49 b) (by decide) h.1 dX7_solveSpan_96 ?_
        replace h := h.2
        refine g_callvI E my_X7_setEquation mi_X7_setEquation msel_X7_setEquation ml_RX7_66 (rm_ok (by decide) (by decide)) ⟨Nat.zero_le _, Nat.zero_le _⟩ (kC_45 b) (sC_45 b) rfl (m_X7_setEquation E.2.2.1 (c32_w _) (aC_49 hσ11 _) hσ11 h) rfl rfl (Nat.le_of_ble_eq_true rfl) dX7_solveSpan_97 (fun r12 σ13 cr12 hσ13 h => ?_)
        refine g_iand E dX7_solveSpan_100 ?_
        refine g_nmI (fun v14 ev14 => ?_)
        replace h := h v14 ev14
        have cv14 : C32 v14 := by rw [ev14]; exact (c32_t _)
        refine g_istore_4 E rfl (by decide) dX7_solveSpan_101 ?_
        exact (t_X7_solveSpan_b103 E hr ih x1 x2 x3 v14 x5 σ13 c1 c2 c3 cv14 c5 hσ13 h).weak (w_k (w_k (w_k (w_k (w_k (w_k (w_d w_n)))))))
set_option maxHeartbeats 4000000 in
set_option maxRecDepth 100000 in
theorem t_X7_solveSpan_l10 (E : Ev p s m args meth c cX7_solveSpan 7 RX7 A0 D cA ad (NC b) Z) (hr : meth.sig.returnType = none) : ∀ (n : Nat) (x1 : Int) (x2 : Int) (x3 : Int) (x4 : Int) (σ : St), C32 x1 → C32 x2 → C32 x3 → C32 x4 → CanS (shC b) (NC b) σ → wp_X7_solveSpan_l10 Q n x1 x2 x3 x4 σ → G p l e (rmL 4 0 0) s m args below meth c 7 A0 D cA ad (shC b) (NC b) 0 0 (MQ below (QVc D cA ad (shC b) (NC b) Q A0) args s 0 0 A0) σ 10 [some (.ref (ad 45)), some (vI x1), some (vI x2), some (vI x3), some (vI x4), none, none] [] := by
  intro n
  induction n with
  | zero => intro _ _ _ _ _ _ _ _ _ _ h; exact h.elim
  | succ n ih =>
    intro x1 x2 x3 x4 σ c1 c2 c3 c4 hσ h
    unfold wp_X7_solveSpan_l10 at h
    refine g_iload_4 E dX7_solveSpan_10 ?_
    refine g_bipush E (by decide) dX7_solveSpan_12 ?_
    refine g_icmp_ge E c4 cl_12 djX7_solveSpan_14 (fun hc => ?_) (fun hc => ?_)
    · replace h := h.1 hc
      refine g_aload_0 E dX7_solveSpan_48 ?_
      refine g_getR E fl_RX7_31 (kC_45 b) (sC_45 b) rfl dX7_solveSpan_49 ?_
      refine g_iconst E dX7_solveSpan_52 ?_
      refine g_callsV E my_J7_fill_53178 ms_J7_fill_53178 ml_RX7_60 (rm_ok (by decide) (by decide)) ⟨Nat.zero_le _, Nat.zero_le _⟩ (m_J7_fill_53178_C_c48 E.2.2.1 cl_0 hσ h) rfl rfl (Nat.le_of_ble_eq_true rfl) dX7_solveSpan_53 (fun σ3 r2 hσ3 h => ?_)
      refine g_iconst E dX7_solveSpan_56 ?_
      refine g_istore_4 E rfl (by decide) dX7_solveSpan_57 ?_
      refine g_iconst E dX7_solveSpan_59 ?_
      refine g_istore_5 E rfl (by decide) dX7_solveSpan_60 ?_
      exact (t_X7_solveSpan_l62 E hr bigN x1 x2 x3 1 0 σ3 c1 c2 c3 cl_1 cl_0 hσ3 h).weak (w_k (w_k (w_k (w_k (w_k (w_k (w_d w_n)))))))
    · replace h := h.2 hc
      refine g_aload_0 E dX7_solveSpan_17 ?_
      refine g_getR E fl_RX7_34 (kC_45 b) (sC_45 b) rfl dX7_solveSpan_18 ?_
      refine g_iload_4 E dX7_solveSpan_21 ?_
      refine g_iload_3 E dX7_solveSpan_23 ?_
      refine g_iast E (kC_49 b) (sC_49 b) (by decide) h.1 dX7_solveSpan_24 (g_nmS (fun σ4 eσ4 => ?_))
      replace h := h.2 σ4 eσ4
      have hσ4 : CanS (shC b) (NC b) σ4 := by rw [eσ4]; exact wC_49 hσ c3
      refine g_aload_0 E dX7_solveSpan_25 ?_
      refine g_getR E fl_RX7_19 (kC_45 b) (sC_45 b) rfl dX7_solveSpan_26 ?_
      refine g_iload_2 E dX7_solveSpan_29 ?_
      refine g_iload_4 E dX7_solveSpan_30 ?_
      refine g_iadd E dX7_solveSpan_32 ?_
      refine g_callvI E my_X1_has mi_X1_has msel_X1_has ml_RX7_56 (rm_ok (by decide) (by decide)) ⟨Nat.zero_le _, Nat.zero_le _⟩ (kC_36 b) (sC_36 b) rfl (m_X1_has E.2.2.1 (c32_w _) hσ4 h) rfl rfl (Nat.le_of_ble_eq_true rfl) dX7_solveSpan_33 (fun r5 σ6 cr5 hσ6 h => ?_)
      refine g_if_eq E cr5 djX7_solveSpan_36 (fun hc => ?_) (fun hc => ?_)
      · replace h := h.1 hc
        exact (t_X7_solveSpan_b42 E hr ih x1 x2 x3 x4 σ6 c1 c2 c3 c4 hσ6 h).weak (w_k (w_k (w_k (w_k (w_k (w_d (w_d w_n)))))))
      · replace h := h.2 hc
        refine g_iinc_3 E rfl (by decide) dX7_solveSpan_39 (fun v7 ev7 => ?_)
        replace h := h v7 ev7
        have cv7 : C32 v7 := by rw [ev7]; exact c32_w _
        exact (t_X7_solveSpan_b42 E hr ih x1 x2 v7 x4 σ6 c1 c2 cv7 c4 hσ6 h).weak (w_k (w_k (w_k (w_k (w_k (w_d (w_d w_n)))))))
set_option maxHeartbeats 4000000 in
set_option maxRecDepth 100000 in
theorem t_X7_solveSpan (E : Ev p s m args meth c cX7_solveSpan 7 RX7 A0 D cA ad (NC b) Z) (hr : meth.sig.returnType = none) (x1 : Int) (σ : St) (c1 : C32 x1) (hσ : CanS (shC b) (NC b) σ) (h : wp_X7_solveSpan x1 σ Q) : G p l e (rmL 4 0 0) s m args below meth c 7 A0 D cA ad (shC b) (NC b) 0 0 (MQ below (QVc D cA ad (shC b) (NC b) Q A0) args s 0 0 A0) σ 0 [some (.ref (ad 45)), some (vI x1), none, none, none, none, none] [] := by
  unfold wp_X7_solveSpan at h
  refine g_iload_1 E dX7_solveSpan_0 ?_
  refine g_bipush E (by decide) dX7_solveSpan_1 ?_
  refine g_imul E dX7_solveSpan_3 ?_
  refine g_nmI (fun v1 ev1 => ?_)
  replace h := h v1 ev1
  have cv1 : C32 v1 := by rw [ev1]; exact (c32_w _)
  refine g_istore_2 E rfl (by decide) dX7_solveSpan_4 ?_
  refine g_iconst E dX7_solveSpan_5 ?_
  refine g_istore_3 E rfl (by decide) dX7_solveSpan_6 ?_
  refine g_iconst E dX7_solveSpan_7 ?_
  refine g_istore_4 E rfl (by decide) dX7_solveSpan_8 ?_
  exact (t_X7_solveSpan_l10 E hr bigN x1 v1 0 0 σ c1 cv1 cl_0 cl_0 hσ h).weak (w_k (w_k (w_k (w_k (w_k (w_d (w_d w_n)))))))
end
theorem m_X7_solveSpan {Z : (Nat → Nat) × (Nat → Nat)} {l : Launch} {D : va_G} {cA : Nat → ClassId} {ad : Nat → Nat} {b : Bool} {x1 : Int} {σ : St} {Q : Int → St → Prop} (hA : AdOk (NC b) ad) (c1 : C32 x1) (hσ : CanS (shC b) (NC b) σ) (h : wp_X7_solveSpan x1 σ Q) : KtV Z l D cA ad (shC b) (NC b) yX7_solveSpan cX7_solveSpan 7 none 4 [.ref (ad 45), vI x1] σ Q :=
  KtV.of my_X7_solveSpan hA [some (.ref (ad 45)), some (vI x1), none, none, none, none, none] (Nat.le_of_ble_eq_true rfl) rfl (fun p e s m args below meth c A0 E hr => t_X7_solveSpan E hr x1 σ c1 hσ h)
theorem dX7_sumOf_0 : Dc cX7_sumOf 0 (.aload_n 0) 1 1 := ⟨by decide +kernel, rfl⟩
theorem dX7_sumOf_1 : Dc cX7_sumOf 1 (.getfield 19) 3 4 := ⟨by decide +kernel, rfl⟩
theorem dX7_sumOf_4 : Dc cX7_sumOf 4 (.invokevirtual 41) 3 7 := ⟨by decide +kernel, rfl⟩
theorem dX7_sumOf_7 : Dc cX7_sumOf 7 (.aload_n 0) 1 8 := ⟨by decide +kernel, rfl⟩
theorem dX7_sumOf_8 : Dc cX7_sumOf 8 (.getfield 37) 3 11 := ⟨by decide +kernel, rfl⟩
theorem djX7_sumOf_11 : Dj cX7_sumOf 11 (.ifCond .ne 32) 3 14 32 43 := ⟨by decide +kernel, rfl, by decide⟩
theorem dX7_sumOf_14 : Dc cX7_sumOf 14 (.aload_n 0) 1 15 := ⟨by decide +kernel, rfl⟩
theorem dX7_sumOf_15 : Dc cX7_sumOf 15 (.iconst 1) 1 16 := ⟨by decide +kernel, rfl⟩
theorem dX7_sumOf_16 : Dc cX7_sumOf 16 (.putfield 37) 3 19 := ⟨by decide +kernel, rfl⟩
theorem dX7_sumOf_19 : Dc cX7_sumOf 19 (.iconst 0) 1 20 := ⟨by decide +kernel, rfl⟩
theorem dX7_sumOf_20 : Dc cX7_sumOf 20 (.istore_n 2) 1 21 := ⟨by decide +kernel, rfl⟩
theorem dX7_sumOf_21 : Dc cX7_sumOf 21 (.iload_n 2) 1 22 := ⟨by decide +kernel, rfl⟩
theorem dX7_sumOf_22 : Dc cX7_sumOf 22 (.aload_n 0) 1 23 := ⟨by decide +kernel, rfl⟩
theorem dX7_sumOf_23 : Dc cX7_sumOf 23 (.getfield 15) 3 26 := ⟨by decide +kernel, rfl⟩
theorem dX7_sumOf_26 : Dc cX7_sumOf 26 (.getfield 46) 3 29 := ⟨by decide +kernel, rfl⟩
theorem djX7_sumOf_29 : Dj cX7_sumOf 29 (.if_icmp .ge 14) 3 32 14 43 := ⟨by decide +kernel, rfl, by decide⟩
theorem dX7_sumOf_32 : Dc cX7_sumOf 32 (.aload_n 0) 1 33 := ⟨by decide +kernel, rfl⟩
theorem dX7_sumOf_33 : Dc cX7_sumOf 33 (.iload_n 2) 1 34 := ⟨by decide +kernel, rfl⟩
theorem dX7_sumOf_34 : Dc cX7_sumOf 34 (.invokevirtual 52) 3 37 := ⟨by decide +kernel, rfl⟩
theorem dX7_sumOf_37 : Dc cX7_sumOf 37 (.iinc 2 1) 3 40 := ⟨by decide +kernel, rfl⟩
theorem djX7_sumOf_40 : Dj cX7_sumOf 40 (.goto (-19)) 3 43 (-19) 21 := ⟨by decide +kernel, rfl, by decide⟩
theorem dX7_sumOf_43 : Dc cX7_sumOf 43 (.aload_n 0) 1 44 := ⟨by decide +kernel, rfl⟩
theorem dX7_sumOf_44 : Dc cX7_sumOf 44 (.getfield 19) 3 47 := ⟨by decide +kernel, rfl⟩
theorem dX7_sumOf_47 : Dc cX7_sumOf 47 (.iload_n 1) 1 48 := ⟨by decide +kernel, rfl⟩
theorem dX7_sumOf_48 : Dc cX7_sumOf 48 (.invokevirtual 56) 3 51 := ⟨by decide +kernel, rfl⟩
theorem djX7_sumOf_51 : Dj cX7_sumOf 51 (.ifCond .ne 5) 3 54 5 56 := ⟨by decide +kernel, rfl, by decide⟩
theorem dX7_sumOf_54 : Dc cX7_sumOf 54 (.iconst 0) 1 55 := ⟨by decide +kernel, rfl⟩
theorem dX7_sumOf_55 : Dc cX7_sumOf 55 (.ireturn) 1 56 := ⟨by decide +kernel, rfl⟩
theorem dX7_sumOf_56 : Dc cX7_sumOf 56 (.aload_n 0) 1 57 := ⟨by decide +kernel, rfl⟩
theorem dX7_sumOf_57 : Dc cX7_sumOf 57 (.getfield 27) 3 60 := ⟨by decide +kernel, rfl⟩
theorem dX7_sumOf_60 : Dc cX7_sumOf 60 (.iload_n 1) 1 61 := ⟨by decide +kernel, rfl⟩
theorem dX7_sumOf_61 : Dc cX7_sumOf 61 (.bipush 12) 2 63 := ⟨by decide +kernel, rfl⟩
theorem dX7_sumOf_63 : Dc cX7_sumOf 63 (.idiv) 1 64 := ⟨by decide +kernel, rfl⟩
theorem dX7_sumOf_64 : Dc cX7_sumOf 64 (.baload) 1 65 := ⟨by decide +kernel, rfl⟩
theorem djX7_sumOf_65 : Dj cX7_sumOf 65 (.ifCond .eq 7) 3 68 7 72 := ⟨by decide +kernel, rfl, by decide⟩
theorem dX7_sumOf_68 : Dc cX7_sumOf 68 (.iconst (-1)) 1 69 := ⟨by decide +kernel, rfl⟩
theorem djX7_sumOf_69 : Dj cX7_sumOf 69 (.goto 9) 3 72 9 78 := ⟨by decide +kernel, rfl, by decide⟩
theorem dX7_sumOf_72 : Dc cX7_sumOf 72 (.aload_n 0) 1 73 := ⟨by decide +kernel, rfl⟩
theorem dX7_sumOf_73 : Dc cX7_sumOf 73 (.getfield 23) 3 76 := ⟨by decide +kernel, rfl⟩
theorem dX7_sumOf_76 : Dc cX7_sumOf 76 (.iload_n 1) 1 77 := ⟨by decide +kernel, rfl⟩
theorem dX7_sumOf_77 : Dc cX7_sumOf 77 (.iaload) 1 78 := ⟨by decide +kernel, rfl⟩
theorem dX7_sumOf_78 : Dc cX7_sumOf 78 (.ireturn) 1 79 := ⟨by decide +kernel, rfl⟩
section
variable {p : Program} {l : Launch} {e : Env} {s : State} {m : MethodId} {args : Array Value} {below : List Frame} {meth : Method} {c : Code} {A0 : Nat → Prop} {D : va_G} {cA : Nat → ClassId} {ad : Nat → Nat} {Z : (Nat → Nat) × (Nat → Nat)} {Q : Int → St → Prop} {b : Bool}
set_option maxHeartbeats 4000000 in
set_option maxRecDepth 100000 in
theorem t_X7_sumOf_b43 (E : Ev p s m args meth c cX7_sumOf 3 RX7 A0 D cA ad (NC b) Z) (hr : meth.sig.returnType = (some .int)) (x1 : Int) (σ : St) (c1 : C32 x1) (hσ : CanS (shC b) (NC b) σ) (h : wp_X7_sumOf_b43 Q x1 σ) : G p l e (rmL 6 0 0) s m args below meth c 3 A0 D cA ad (shC b) (NC b) 0 0 (MQ below (QIc D cA ad (shC b) (NC b) Q A0) args s 0 0 A0) σ 43 [some (.ref (ad 45)), some (vI x1), none] [] := by
  unfold wp_X7_sumOf_b43 at h
  refine g_aload_0 E dX7_sumOf_43 ?_
  refine g_getR E fl_RX7_19 (kC_45 b) (sC_45 b) rfl dX7_sumOf_44 ?_
  refine g_iload_1 E dX7_sumOf_47 ?_
  refine g_callvI E my_X1_has mi_X1_has msel_X1_has ml_RX7_56 (rm_ok (by decide) (by decide)) ⟨Nat.zero_le _, Nat.zero_le _⟩ (kC_36 b) (sC_36 b) rfl (m_X1_has E.2.2.1 c1 hσ h) rfl rfl (Nat.le_of_ble_eq_true rfl) dX7_sumOf_48 (fun r4 σ5 cr4 hσ5 h => ?_)
  refine g_if_ne E cr4 djX7_sumOf_51 (fun hc => ?_) (fun hc => ?_)
  · replace h := h.1 hc
    refine g_aload_0 E dX7_sumOf_56 ?_
    refine g_getR E fl_RX7_27 (kC_45 b) (sC_45 b) rfl dX7_sumOf_57 ?_
    refine g_iload_1 E dX7_sumOf_60 ?_
    refine g_bipush E (by decide) dX7_sumOf_61 ?_
    refine g_idiv E cl_12 (by decide) dX7_sumOf_63 ?_
    refine g_zald E (kC_47 b) (sC_47 b) (by decide) h.1 dX7_sumOf_64 ?_
    replace h := h.2
    refine g_if_eq E (aC_47 hσ5 _) djX7_sumOf_65 (fun hc => ?_) (fun hc => ?_)
    · replace h := h.1 hc
      refine g_aload_0 E dX7_sumOf_72 ?_
      refine g_getR E fl_RX7_23 (kC_45 b) (sC_45 b) rfl dX7_sumOf_73 ?_
      refine g_iload_1 E dX7_sumOf_76 ?_
      refine g_iald E (kC_46 b) (sC_46 b) (by decide) h.1 dX7_sumOf_77 ?_
      replace h := h.2
      exact g_iret E hr (aC_46 hσ5 _) h hσ5 dX7_sumOf_78
    · replace h := h.2 hc
      refine g_iconst E dX7_sumOf_68 ?_
      refine g_goto E djX7_sumOf_69 ?_
      exact g_iret E hr cl_m1 h hσ5 dX7_sumOf_78
  · replace h := h.2 hc
    refine g_iconst E dX7_sumOf_54 ?_
    exact g_iret E hr cl_0 h hσ5 dX7_sumOf_55
set_option maxHeartbeats 4000000 in
set_option maxRecDepth 100000 in
theorem t_X7_sumOf_l21 (E : Ev p s m args meth c cX7_sumOf 3 RX7 A0 D cA ad (NC b) Z) (hr : meth.sig.returnType = (some .int)) : ∀ (n : Nat) (x1 : Int) (x2 : Int) (σ : St), C32 x1 → C32 x2 → CanS (shC b) (NC b) σ → wp_X7_sumOf_l21 Q n x1 x2 σ → G p l e (rmL 6 0 0) s m args below meth c 3 A0 D cA ad (shC b) (NC b) 0 0 (MQ below (QIc D cA ad (shC b) (NC b) Q A0) args s 0 0 A0) σ 21 [some (.ref (ad 45)), some (vI x1), some (vI x2)] [] := by
  intro n
  induction n with
  | zero => intro _ _ _ _ _ _ h; exact h.elim
  | succ n ih =>
    intro x1 x2 σ c1 c2 hσ h
    unfold wp_X7_sumOf_l21 at h
    refine g_iload_2 E dX7_sumOf_21 ?_
    refine g_aload_0 E dX7_sumOf_22 ?_
    refine g_getR E fl_RX7_15 (kC_45 b) (sC_45 b) rfl dX7_sumOf_23 ?_
    refine g_getI E fl_RX7_46 (kC_24 b) (sC_24 b) rfl dX7_sumOf_26 ?_
    refine g_icmp_ge E c2 (fC_24_3 hσ) djX7_sumOf_29 (fun hc => ?_) (fun hc => ?_)
    · replace h := h.1 hc
      exact (t_X7_sumOf_b43 E hr x1 σ c1 hσ h).weak (w_k (w_k (w_d w_n)))
    · replace h := h.2 hc
      refine g_aload_0 E dX7_sumOf_32 ?_
      refine g_iload_2 E dX7_sumOf_33 ?_
      refine g_callvV E my_X7_solveSpan mi_X7_solveSpan msel_X7_solveSpan ml_RX7_52 (rm_ok (by decide) (by decide)) ⟨Nat.zero_le _, Nat.zero_le _⟩ (kC_45 b) (sC_45 b) rfl (m_X7_solveSpan E.2.2.1 c2 hσ h) rfl rfl (Nat.le_of_ble_eq_true rfl) dX7_sumOf_34 (fun σ7 r6 hσ7 h => ?_)
      refine g_iinc_2 E rfl (by decide) dX7_sumOf_37 (fun v8 ev8 => ?_)
      replace h := h v8 ev8
      have cv8 : C32 v8 := by rw [ev8]; exact c32_w _
      refine g_goto E djX7_sumOf_40 ?_
      exact (ih x1 v8 σ7 c1 cv8 hσ7 h).weak (w_k (w_k (w_k w_n)))
set_option maxHeartbeats 4000000 in
set_option maxRecDepth 100000 in
theorem t_X7_sumOf (E : Ev p s m args meth c cX7_sumOf 3 RX7 A0 D cA ad (NC b) Z) (hr : meth.sig.returnType = (some .int)) (x1 : Int) (σ : St) (c1 : C32 x1) (hσ : CanS (shC b) (NC b) σ) (h : wp_X7_sumOf x1 σ Q) : G p l e (rmL 6 0 0) s m args below meth c 3 A0 D cA ad (shC b) (NC b) 0 0 (MQ below (QIc D cA ad (shC b) (NC b) Q A0) args s 0 0 A0) σ 0 [some (.ref (ad 45)), some (vI x1), none] [] := by
  unfold wp_X7_sumOf at h
  refine g_aload_0 E dX7_sumOf_0 ?_
  refine g_getR E fl_RX7_19 (kC_45 b) (sC_45 b) rfl dX7_sumOf_1 ?_
  refine g_callvV E my_X1_prepare mi_X1_prepare msel_X1_prepare ml_RX7_41 (rm_ok (by decide) (by decide)) ⟨Nat.zero_le _, Nat.zero_le _⟩ (kC_36 b) (sC_36 b) rfl (m_X1_prepare E.2.2.1 hσ h) rfl rfl (Nat.le_of_ble_eq_true rfl) dX7_sumOf_4 (fun σ2 r1 hσ2 h => ?_)
  refine g_aload_0 E dX7_sumOf_7 ?_
  refine g_getI E fl_RX7_37 (kC_45 b) (sC_45 b) rfl dX7_sumOf_8 ?_
  refine g_if_ne E (fC_45_7 hσ2) djX7_sumOf_11 (fun hc => ?_) (fun hc => ?_)
  · replace h := h.1 hc
    exact (t_X7_sumOf_b43 E hr x1 σ2 c1 hσ2 h).weak (w_k (w_k (w_d w_n)))
  · replace h := h.2 hc
    refine g_aload_0 E dX7_sumOf_14 ?_
    refine g_iconst E dX7_sumOf_15 ?_
    refine g_putZ E fl_RX7_37 rfl rfl (Or.inr rfl) (kC_45 b) (sC_45 b) rfl dX7_sumOf_16 (g_nmS (fun σ3 eσ3 => ?_))
    replace h := h σ3 eσ3
    have hσ3 : CanS (shC b) (NC b) σ3 := by rw [eσ3]; exact uC_45_7 hσ2 cl_1
    refine g_iconst E dX7_sumOf_19 ?_
    refine g_istore_2 E rfl (by decide) dX7_sumOf_20 ?_
    exact (t_X7_sumOf_l21 E hr bigN x1 0 σ3 c1 cl_0 hσ3 h).weak (w_k (w_k (w_k w_n)))
end
theorem m_X7_sumOf {Z : (Nat → Nat) × (Nat → Nat)} {l : Launch} {D : va_G} {cA : Nat → ClassId} {ad : Nat → Nat} {b : Bool} {x1 : Int} {σ : St} {Q : Int → St → Prop} (hA : AdOk (NC b) ad) (c1 : C32 x1) (hσ : CanS (shC b) (NC b) σ) (h : wp_X7_sumOf x1 σ Q) : KtI Z l D cA ad (shC b) (NC b) yX7_sumOf cX7_sumOf 3 (some .int) 6 [.ref (ad 45), vI x1] σ Q :=
  KtI.of my_X7_sumOf hA [some (.ref (ad 45)), some (vI x1), none] (Nat.le_of_ble_eq_true rfl) rfl (fun p e s m args below meth c A0 E hr => t_X7_sumOf E hr x1 σ c1 hσ h)
theorem dX11_sum_0 : Dc cX11_sum 0 (.aload_n 0) 1 1 := ⟨by decide +kernel, rfl⟩
theorem dX11_sum_1 : Dc cX11_sum 1 (.iload_n 1) 1 2 := ⟨by decide +kernel, rfl⟩
theorem dX11_sum_2 : Dc cX11_sum 2 (.iload_n 2) 1 3 := ⟨by decide +kernel, rfl⟩
theorem dX11_sum_3 : Dc cX11_sum 3 (.iload_n 3) 1 4 := ⟨by decide +kernel, rfl⟩
theorem dX11_sum_4 : Dc cX11_sum 4 (.invokevirtual 223) 3 7 := ⟨by decide +kernel, rfl⟩
theorem dX11_sum_7 : Dc cX11_sum 7 (.istore 4) 2 9 := ⟨by decide +kernel, rfl⟩
theorem dX11_sum_9 : Dc cX11_sum 9 (.iload 4) 2 11 := ⟨by decide +kernel, rfl⟩
theorem djX11_sum_11 : Dj cX11_sum 11 (.ifCond .ge 8) 3 14 8 19 := ⟨by decide +kernel, rfl, by decide⟩
theorem dX11_sum_14 : Dc cX11_sum 14 (.bipush (-2)) 2 16 := ⟨by decide +kernel, rfl⟩
theorem djX11_sum_16 : Dj cX11_sum 16 (.goto 12) 3 19 12 28 := ⟨by decide +kernel, rfl, by decide⟩
theorem dX11_sum_19 : Dc cX11_sum 19 (.aload_n 0) 1 20 := ⟨by decide +kernel, rfl⟩
theorem dX11_sum_20 : Dc cX11_sum 20 (.getfield 62) 3 23 := ⟨by decide +kernel, rfl⟩
theorem dX11_sum_23 : Dc cX11_sum 23 (.iload 4) 2 25 := ⟨by decide +kernel, rfl⟩
theorem dX11_sum_25 : Dc cX11_sum 25 (.invokevirtual 253) 3 28 := ⟨by decide +kernel, rfl⟩
theorem dX11_sum_28 : Dc cX11_sum 28 (.ireturn) 1 29 := ⟨by decide +kernel, rfl⟩
section
variable {p : Program} {l : Launch} {e : Env} {s : State} {m : MethodId} {args : Array Value} {below : List Frame} {meth : Method} {c : Code} {A0 : Nat → Prop} {D : va_G} {cA : Nat → ClassId} {ad : Nat → Nat} {Z : (Nat → Nat) × (Nat → Nat)} {Q : Int → St → Prop} {b : Bool}
set_option maxHeartbeats 4000000 in
set_option maxRecDepth 100000 in
theorem t_X11_sum (E : Ev p s m args meth c cX11_sum 5 RX11 A0 D cA ad (NC b) Z) (hr : meth.sig.returnType = (some .int)) (x1 : Int) (x2 : Int) (x3 : Int) (σ : St) (c1 : C32 x1) (c2 : C32 x2) (c3 : C32 x3) (hσ : CanS (shC b) (NC b) σ) (h : wp_X11_sum x1 x2 x3 σ Q) : G p l e (rmL 7 0 0) s m args below meth c 5 A0 D cA ad (shC b) (NC b) 0 0 (MQ below (QIc D cA ad (shC b) (NC b) Q A0) args s 0 0 A0) σ 0 [some (.ref (ad 0)), some (vI x1), some (vI x2), some (vI x3), none] [] := by
  unfold wp_X11_sum at h
  refine g_aload_0 E dX11_sum_0 ?_
  refine g_iload_1 E dX11_sum_1 ?_
  refine g_iload_2 E dX11_sum_2 ?_
  refine g_iload_3 E dX11_sum_3 ?_
  refine g_callvI E my_X11_itemOf mi_X11_itemOf msel_X11_itemOf ml_RX11_223 (rm_ok (by decide) (by decide)) ⟨Nat.zero_le _, Nat.zero_le _⟩ (kC_0 b) (sC_0 b) rfl (m_X11_itemOf E.2.2.1 c1 c2 c3 hσ h) rfl rfl (Nat.le_of_ble_eq_true rfl) dX11_sum_4 (fun r1 σ2 cr1 hσ2 h => ?_)
  refine g_istore_4 E rfl (by decide) dX11_sum_7 ?_
  refine g_iload_4 E dX11_sum_9 ?_
  refine g_if_ge E cr1 djX11_sum_11 (fun hc => ?_) (fun hc => ?_)
  · replace h := h.1 hc
    refine g_aload_0 E dX11_sum_19 ?_
    refine g_getR E fl_RX11_62 (kC_0 b) (sC_0 b) rfl dX11_sum_20 ?_
    refine g_iload_4 E dX11_sum_23 ?_
    refine g_callvI E my_X7_sumOf mi_X7_sumOf msel_X7_sumOf ml_RX11_253 (rm_ok (by decide) (by decide)) ⟨Nat.zero_le _, Nat.zero_le _⟩ (kC_45 b) (sC_45 b) rfl (m_X7_sumOf E.2.2.1 cr1 hσ2 h) rfl rfl (Nat.le_of_ble_eq_true rfl) dX11_sum_25 (fun r3 σ4 cr3 hσ4 h => ?_)
    exact g_iret E hr cr3 h hσ4 dX11_sum_28
  · replace h := h.2 hc
    refine g_bipush E (by decide) dX11_sum_14 ?_
    refine g_goto E djX11_sum_16 ?_
    exact g_iret E hr cl_m2 h hσ2 dX11_sum_28
end
theorem m_X11_sum {Z : (Nat → Nat) × (Nat → Nat)} {l : Launch} {D : va_G} {cA : Nat → ClassId} {ad : Nat → Nat} {b : Bool} {x1 x2 x3 : Int} {σ : St} {Q : Int → St → Prop} (hA : AdOk (NC b) ad) (c1 : C32 x1) (c2 : C32 x2) (c3 : C32 x3) (hσ : CanS (shC b) (NC b) σ) (h : wp_X11_sum x1 x2 x3 σ Q) : KtI Z l D cA ad (shC b) (NC b) yX11_sum cX11_sum 5 (some .int) 7 [.ref (ad 0), vI x1, vI x2, vI x3] σ Q :=
  KtI.of my_X11_sum hA [some (.ref (ad 0)), some (vI x1), some (vI x2), some (vI x3), none] (Nat.le_of_ble_eq_true rfl) rfl (fun p e s m args below meth c A0 E hr => t_X11_sum E hr x1 x2 x3 σ c1 c2 c3 hσ h)
section
variable {p : Program} {l : Launch} {e : Env} {s : State} {m : MethodId} {args : Array Value} {below : List Frame} {meth : Method} {c : Code} {A0 : Nat → Prop} {D : va_G} {cA : Nat → ClassId} {ad : Nat → Nat} {Z : (Nat → Nat) × (Nat → Nat)} {Q : Int → St → Prop} {b : Bool}
set_option maxHeartbeats 4000000 in
set_option maxRecDepth 100000 in
theorem t_J7_fill_53178_C_c51_l5 (E : Ev p s m args meth c cJ7_fill_53178 4 RJ7 A0 D cA ad (NC b) Z) (hr : meth.sig.returnType = none) : ∀ (n : Nat) (x1 : Int) (x2 : Int) (x3 : Int) (σ : St), C32 x1 → C32 x2 → C32 x3 → CanS (shC b) (NC b) σ → wp_J7_fill_53178_C_c51_l5 Q n x1 x2 x3 σ → G p l e (rmL 1 0 0) s m args below meth c 4 A0 D cA ad (shC b) (NC b) 0 0 (MQ below (QVc D cA ad (shC b) (NC b) Q A0) args s 0 0 A0) σ 5 [some (.ref (ad 51)), some (vI x1), some (vI x2), some (vI x3)] [] := by
  intro n
  induction n with
  | zero => intro _ _ _ _ _ _ _ _ h; exact h.elim
  | succ n ih =>
    intro x1 x2 x3 σ c1 c2 c3 hσ h
    unfold wp_J7_fill_53178_C_c51_l5 at h
    refine g_iload_2 E dJ7_fill_53178_5 ?_
    refine g_iload_3 E dJ7_fill_53178_6 ?_
    refine g_icmp_ge E c2 c3 djJ7_fill_53178_7 (fun hc => ?_) (fun hc => ?_)
    · replace h := h.1 hc
      exact g_vret E hr h hσ dJ7_fill_53178_20
    · replace h := h.2 hc
      refine g_aload_0 E dJ7_fill_53178_10 ?_
      refine g_iload_2 E dJ7_fill_53178_11 ?_
      refine g_iload_1 E dJ7_fill_53178_12 ?_
      refine g_iast E (kC_51 b) (sC_51 b) (by decide) h.1 dJ7_fill_53178_13 (g_nmS (fun σ1 eσ1 => ?_))
      replace h := h.2 σ1 eσ1
      have hσ1 : CanS (shC b) (NC b) σ1 := by rw [eσ1]; exact wC_51 hσ c1
      refine g_iinc_2 E rfl (by decide) dJ7_fill_53178_14 (fun v2 ev2 => ?_)
      replace h := h v2 ev2
      have cv2 : C32 v2 := by rw [ev2]; exact c32_w _
      refine g_goto E djJ7_fill_53178_17 ?_
      exact (ih x1 v2 x3 σ1 c1 cv2 c3 hσ1 h).weak (w_k (w_k (w_k (w_k w_n))))
set_option maxHeartbeats 4000000 in
set_option maxRecDepth 100000 in
theorem t_J7_fill_53178_C_c51 (E : Ev p s m args meth c cJ7_fill_53178 4 RJ7 A0 D cA ad (NC b) Z) (hr : meth.sig.returnType = none) (x1 : Int) (σ : St) (c1 : C32 x1) (hσ : CanS (shC b) (NC b) σ) (h : wp_J7_fill_53178_C_c51 x1 σ Q) : G p l e (rmL 1 0 0) s m args below meth c 4 A0 D cA ad (shC b) (NC b) 0 0 (MQ below (QVc D cA ad (shC b) (NC b) Q A0) args s 0 0 A0) σ 0 [some (.ref (ad 51)), some (vI x1), none, none] [] := by
  unfold wp_J7_fill_53178_C_c51 at h
  refine g_iconst E dJ7_fill_53178_0 ?_
  refine g_istore_2 E rfl (by decide) dJ7_fill_53178_1 ?_
  refine g_aload_0 E dJ7_fill_53178_2 ?_
  refine g_alen E (kC_51 b) (sC_51 b) (by decide) (by decide) dJ7_fill_53178_3 ?_
  refine g_istore_3 E rfl (by decide) dJ7_fill_53178_4 ?_
  exact (t_J7_fill_53178_C_c51_l5 E hr bigN x1 0 432 σ c1 cl_0 cl_432 hσ h).weak (w_k (w_k (w_k (w_k w_n))))
end
theorem m_J7_fill_53178_C_c51 {Z : (Nat → Nat) × (Nat → Nat)} {l : Launch} {D : va_G} {cA : Nat → ClassId} {ad : Nat → Nat} {b : Bool} {x1 : Int} {σ : St} {Q : Int → St → Prop} (hA : AdOk (NC b) ad) (c1 : C32 x1) (hσ : CanS (shC b) (NC b) σ) (h : wp_J7_fill_53178_C_c51 x1 σ Q) : KtV Z l D cA ad (shC b) (NC b) yJ7_fill_53178 cJ7_fill_53178 4 none 1 [.ref (ad 51), vI x1] σ Q :=
  KtV.of my_J7_fill_53178 hA [some (.ref (ad 51)), some (vI x1), none, none] (Nat.le_of_ble_eq_true rfl) rfl (fun p e s m args below meth c A0 E hr => t_J7_fill_53178_C_c51 E hr x1 σ c1 hσ h)
theorem dX9_partValue_0 : Dc cX9_partValue 0 (.iload_n 1) 1 1 := ⟨by decide +kernel, rfl⟩
theorem djX9_partValue_1 : Dj cX9_partValue 1 (.ifCond .ge 13) 3 4 13 14 := ⟨by decide +kernel, rfl, by decide⟩
theorem dX9_partValue_4 : Dc cX9_partValue 4 (.aload_n 0) 1 5 := ⟨by decide +kernel, rfl⟩
theorem dX9_partValue_5 : Dc cX9_partValue 5 (.getfield 9) 3 8 := ⟨by decide +kernel, rfl⟩
theorem dX9_partValue_8 : Dc cX9_partValue 8 (.getfield 106) 3 11 := ⟨by decide +kernel, rfl⟩
theorem djX9_partValue_11 : Dj cX9_partValue 11 (.goto 9) 3 14 9 20 := ⟨by decide +kernel, rfl, by decide⟩
theorem dX9_partValue_14 : Dc cX9_partValue 14 (.aload_n 0) 1 15 := ⟨by decide +kernel, rfl⟩
theorem dX9_partValue_15 : Dc cX9_partValue 15 (.getfield 19) 3 18 := ⟨by decide +kernel, rfl⟩
theorem dX9_partValue_18 : Dc cX9_partValue 18 (.iload_n 1) 1 19 := ⟨by decide +kernel, rfl⟩
theorem dX9_partValue_19 : Dc cX9_partValue 19 (.iaload) 1 20 := ⟨by decide +kernel, rfl⟩
theorem dX9_partValue_20 : Dc cX9_partValue 20 (.ireturn) 1 21 := ⟨by decide +kernel, rfl⟩
section
variable {p : Program} {l : Launch} {e : Env} {s : State} {m : MethodId} {args : Array Value} {below : List Frame} {meth : Method} {c : Code} {A0 : Nat → Prop} {D : va_G} {cA : Nat → ClassId} {ad : Nat → Nat} {Z : (Nat → Nat) × (Nat → Nat)} {Q : Int → St → Prop} {b : Bool}
set_option maxHeartbeats 4000000 in
set_option maxRecDepth 100000 in
theorem t_X9_partValue (E : Ev p s m args meth c cX9_partValue 2 RX9 A0 D cA ad (NC b) Z) (hr : meth.sig.returnType = (some .int)) (x1 : Int) (σ : St) (c1 : C32 x1) (hσ : CanS (shC b) (NC b) σ) (h : wp_X9_partValue x1 σ Q) : G p l e (rmL 1 0 0) s m args below meth c 2 A0 D cA ad (shC b) (NC b) 0 0 (MQ below (QIc D cA ad (shC b) (NC b) Q A0) args s 0 0 A0) σ 0 [some (.ref (ad 50)), some (vI x1)] [] := by
  unfold wp_X9_partValue at h
  refine g_iload_1 E dX9_partValue_0 ?_
  refine g_if_ge E c1 djX9_partValue_1 (fun hc => ?_) (fun hc => ?_)
  · replace h := h.1 hc
    refine g_aload_0 E dX9_partValue_14 ?_
    refine g_getR E fl_RX9_19 (kC_50 b) (sC_50 b) rfl dX9_partValue_15 ?_
    refine g_iload_1 E dX9_partValue_18 ?_
    refine g_iald E (kC_51 b) (sC_51 b) (by decide) h.1 dX9_partValue_19 ?_
    replace h := h.2
    exact g_iret E hr (aC_51 hσ _) h hσ dX9_partValue_20
  · replace h := h.2 hc
    refine g_aload_0 E dX9_partValue_4 ?_
    refine g_getR E fl_RX9_9 (kC_50 b) (sC_50 b) rfl dX9_partValue_5 ?_
    refine g_getI E fl_RX9_106 (kC_14 b) (sC_14 b) rfl dX9_partValue_8 ?_
    refine g_goto E djX9_partValue_11 ?_
    exact g_iret E hr (fC_14_9 hσ) h hσ dX9_partValue_20
end
theorem m_X9_partValue {Z : (Nat → Nat) × (Nat → Nat)} {l : Launch} {D : va_G} {cA : Nat → ClassId} {ad : Nat → Nat} {b : Bool} {x1 : Int} {σ : St} {Q : Int → St → Prop} (hA : AdOk (NC b) ad) (c1 : C32 x1) (hσ : CanS (shC b) (NC b) σ) (h : wp_X9_partValue x1 σ Q) : KtI Z l D cA ad (shC b) (NC b) yX9_partValue cX9_partValue 2 (some .int) 1 [.ref (ad 50), vI x1] σ Q :=
  KtI.of my_X9_partValue hA [some (.ref (ad 50)), some (vI x1)] (Nat.le_of_ble_eq_true rfl) rfl (fun p e s m args below meth c A0 E hr => t_X9_partValue E hr x1 σ c1 hσ h)
theorem dX9_renewed_0 : Dc cX9_renewed 0 (.aload_n 0) 1 1 := ⟨by decide +kernel, rfl⟩
theorem dX9_renewed_1 : Dc cX9_renewed 1 (.getfield 9) 3 4 := ⟨by decide +kernel, rfl⟩
theorem dX9_renewed_4 : Dc cX9_renewed 4 (.getfield 47) 3 7 := ⟨by decide +kernel, rfl⟩
theorem dX9_renewed_7 : Dc cX9_renewed 7 (.istore_n 2) 1 8 := ⟨by decide +kernel, rfl⟩
theorem dX9_renewed_8 : Dc cX9_renewed 8 (.aload_n 0) 1 9 := ⟨by decide +kernel, rfl⟩
theorem dX9_renewed_9 : Dc cX9_renewed 9 (.getfield 15) 3 12 := ⟨by decide +kernel, rfl⟩
theorem dX9_renewed_12 : Dc cX9_renewed 12 (.iload_n 1) 1 13 := ⟨by decide +kernel, rfl⟩
theorem dX9_renewed_13 : Dc cX9_renewed 13 (.invokevirtual 75) 3 16 := ⟨by decide +kernel, rfl⟩
theorem dX9_renewed_16 : Dc cX9_renewed 16 (.istore_n 3) 1 17 := ⟨by decide +kernel, rfl⟩
theorem dX9_renewed_17 : Dc cX9_renewed 17 (.iload_n 3) 1 18 := ⟨by decide +kernel, rfl⟩
theorem dX9_renewed_18 : Dc cX9_renewed 18 (.aload_n 0) 1 19 := ⟨by decide +kernel, rfl⟩
theorem dX9_renewed_19 : Dc cX9_renewed 19 (.getfield 15) 3 22 := ⟨by decide +kernel, rfl⟩
theorem dX9_renewed_22 : Dc cX9_renewed 22 (.iload_n 1) 1 23 := ⟨by decide +kernel, rfl⟩
theorem dX9_renewed_23 : Dc cX9_renewed 23 (.invokevirtual 78) 3 26 := ⟨by decide +kernel, rfl⟩
theorem djX9_renewed_26 : Dj cX9_renewed 26 (.if_icmp .ge 96) 3 29 96 122 := ⟨by decide +kernel, rfl, by decide⟩
theorem dX9_renewed_29 : Dc cX9_renewed 29 (.aload_n 0) 1 30 := ⟨by decide +kernel, rfl⟩
theorem dX9_renewed_30 : Dc cX9_renewed 30 (.getfield 9) 3 33 := ⟨by decide +kernel, rfl⟩
theorem dX9_renewed_33 : Dc cX9_renewed 33 (.aload_n 0) 1 34 := ⟨by decide +kernel, rfl⟩
theorem dX9_renewed_34 : Dc cX9_renewed 34 (.getfield 9) 3 37 := ⟨by decide +kernel, rfl⟩
theorem dX9_renewed_37 : Dc cX9_renewed 37 (.getfield 81) 3 40 := ⟨by decide +kernel, rfl⟩
theorem dX9_renewed_40 : Dc cX9_renewed 40 (.aload_n 0) 1 41 := ⟨by decide +kernel, rfl⟩
theorem dX9_renewed_41 : Dc cX9_renewed 41 (.getfield 15) 3 44 := ⟨by decide +kernel, rfl⟩
theorem dX9_renewed_44 : Dc cX9_renewed 44 (.getfield 84) 3 47 := ⟨by decide +kernel, rfl⟩
theorem dX9_renewed_47 : Dc cX9_renewed 47 (.iload_n 3) 1 48 := ⟨by decide +kernel, rfl⟩
theorem dX9_renewed_48 : Dc cX9_renewed 48 (.iaload) 1 49 := ⟨by decide +kernel, rfl⟩
theorem dX9_renewed_49 : Dc cX9_renewed 49 (.iaload) 1 50 := ⟨by decide +kernel, rfl⟩
theorem dX9_renewed_50 : Dc cX9_renewed 50 (.aload_n 0) 1 51 := ⟨by decide +kernel, rfl⟩
theorem dX9_renewed_51 : Dc cX9_renewed 51 (.aload_n 0) 1 52 := ⟨by decide +kernel, rfl⟩
theorem dX9_renewed_52 : Dc cX9_renewed 52 (.getfield 15) 3 55 := ⟨by decide +kernel, rfl⟩
theorem dX9_renewed_55 : Dc cX9_renewed 55 (.getfield 87) 3 58 := ⟨by decide +kernel, rfl⟩
theorem dX9_renewed_58 : Dc cX9_renewed 58 (.iload_n 3) 1 59 := ⟨by decide +kernel, rfl⟩
theorem dX9_renewed_59 : Dc cX9_renewed 59 (.iaload) 1 60 := ⟨by decide +kernel, rfl⟩
theorem dX9_renewed_60 : Dc cX9_renewed 60 (.invokevirtual 90) 3 63 := ⟨by decide +kernel, rfl⟩
theorem dX9_renewed_63 : Dc cX9_renewed 63 (.invokevirtual 93) 3 66 := ⟨by decide +kernel, rfl⟩
theorem dX9_renewed_66 : Dc cX9_renewed 66 (.istore 4) 2 68 := ⟨by decide +kernel, rfl⟩
theorem dX9_renewed_68 : Dc cX9_renewed 68 (.aload_n 0) 1 69 := ⟨by decide +kernel, rfl⟩
theorem dX9_renewed_69 : Dc cX9_renewed 69 (.getfield 15) 3 72 := ⟨by decide +kernel, rfl⟩
theorem dX9_renewed_72 : Dc cX9_renewed 72 (.getfield 97) 3 75 := ⟨by decide +kernel, rfl⟩
theorem dX9_renewed_75 : Dc cX9_renewed 75 (.iload_n 3) 1 76 := ⟨by decide +kernel, rfl⟩
theorem dX9_renewed_76 : Dc cX9_renewed 76 (.iaload) 1 77 := ⟨by decide +kernel, rfl⟩
theorem dX9_renewed_77 : Dc cX9_renewed 77 (.iconst (-1)) 1 78 := ⟨by decide +kernel, rfl⟩
theorem djX9_renewed_78 : Dj cX9_renewed 78 (.if_icmp .eq 27) 3 81 27 105 := ⟨by decide +kernel, rfl, by decide⟩
theorem dX9_renewed_81 : Dc cX9_renewed 81 (.aload_n 0) 1 82 := ⟨by decide +kernel, rfl⟩
theorem dX9_renewed_82 : Dc cX9_renewed 82 (.getfield 9) 3 85 := ⟨by decide +kernel, rfl⟩
theorem dX9_renewed_85 : Dc cX9_renewed 85 (.iload 4) 2 87 := ⟨by decide +kernel, rfl⟩
theorem dX9_renewed_87 : Dc cX9_renewed 87 (.aload_n 0) 1 88 := ⟨by decide +kernel, rfl⟩
theorem dX9_renewed_88 : Dc cX9_renewed 88 (.aload_n 0) 1 89 := ⟨by decide +kernel, rfl⟩
theorem dX9_renewed_89 : Dc cX9_renewed 89 (.getfield 15) 3 92 := ⟨by decide +kernel, rfl⟩
theorem dX9_renewed_92 : Dc cX9_renewed 92 (.getfield 100) 3 95 := ⟨by decide +kernel, rfl⟩
theorem dX9_renewed_95 : Dc cX9_renewed 95 (.iload_n 3) 1 96 := ⟨by decide +kernel, rfl⟩
theorem dX9_renewed_96 : Dc cX9_renewed 96 (.iaload) 1 97 := ⟨by decide +kernel, rfl⟩
theorem dX9_renewed_97 : Dc cX9_renewed 97 (.invokevirtual 90) 3 100 := ⟨by decide +kernel, rfl⟩
theorem dX9_renewed_100 : Dc cX9_renewed 100 (.invokevirtual 93) 3 103 := ⟨by decide +kernel, rfl⟩
theorem dX9_renewed_103 : Dc cX9_renewed 103 (.istore 4) 2 105 := ⟨by decide +kernel, rfl⟩
theorem dX9_renewed_105 : Dc cX9_renewed 105 (.aload_n 0) 1 106 := ⟨by decide +kernel, rfl⟩
theorem dX9_renewed_106 : Dc cX9_renewed 106 (.getfield 9) 3 109 := ⟨by decide +kernel, rfl⟩
theorem dX9_renewed_109 : Dc cX9_renewed 109 (.iload_n 2) 1 110 := ⟨by decide +kernel, rfl⟩
theorem dX9_renewed_110 : Dc cX9_renewed 110 (.iload 4) 2 112 := ⟨by decide +kernel, rfl⟩
theorem dX9_renewed_112 : Dc cX9_renewed 112 (.invokevirtual 103) 3 115 := ⟨by decide +kernel, rfl⟩
theorem dX9_renewed_115 : Dc cX9_renewed 115 (.istore_n 2) 1 116 := ⟨by decide +kernel, rfl⟩
theorem dX9_renewed_116 : Dc cX9_renewed 116 (.iinc 3 1) 3 119 := ⟨by decide +kernel, rfl⟩
theorem djX9_renewed_119 : Dj cX9_renewed 119 (.goto (-102)) 3 122 (-102) 17 := ⟨by decide +kernel, rfl, by decide⟩
theorem dX9_renewed_122 : Dc cX9_renewed 122 (.iload_n 2) 1 123 := ⟨by decide +kernel, rfl⟩
theorem dX9_renewed_123 : Dc cX9_renewed 123 (.ireturn) 1 124 := ⟨by decide +kernel, rfl⟩
section
variable {p : Program} {l : Launch} {e : Env} {s : State} {m : MethodId} {args : Array Value} {below : List Frame} {meth : Method} {c : Code} {A0 : Nat → Prop} {D : va_G} {cA : Nat → ClassId} {ad : Nat → Nat} {Z : (Nat → Nat) × (Nat → Nat)} {Q : Int → St → Prop} {b : Bool}
set_option maxHeartbeats 4000000 in
set_option maxRecDepth 100000 in
theorem t_X9_renewed_b105 (E : Ev p s m args meth c cX9_renewed 5 RX9 A0 D cA ad (NC b) Z) (hr : meth.sig.returnType = (some .int)) {K17 : Int → Int → Int → St → Prop} (hK17 : ∀ (x1 : Int) (x2 : Int) (x3 : Int) (σ : St), C32 x1 → C32 x2 → C32 x3 → CanS (shC b) (NC b) σ → K17 x1 x2 x3 σ → G p l e (rmL 2 0 0) s m args below meth c 5 A0 D cA ad (shC b) (NC b) 0 0 (MQ below (QIc D cA ad (shC b) (NC b) Q A0) args s 0 0 A0) σ 17 [some (.ref (ad 50)), some (vI x1), some (vI x2), some (vI x3), none] []) (x1 : Int) (x2 : Int) (x3 : Int) (x4 : Int) (σ : St) (c1 : C32 x1) (c2 : C32 x2) (c3 : C32 x3) (c4 : C32 x4) (hσ : CanS (shC b) (NC b) σ) (h : wp_X9_renewed_b105 Q K17 x1 x2 x3 x4 σ) : G p l e (rmL 2 0 0) s m args below meth c 5 A0 D cA ad (shC b) (NC b) 0 0 (MQ below (QIc D cA ad (shC b) (NC b) Q A0) args s 0 0 A0) σ 105 [some (.ref (ad 50)), some (vI x1), some (vI x2), some (vI x3), some (vI x4)] [] := by
  unfold wp_X9_renewed_b105 at h
  refine g_aload_0 E dX9_renewed_105 ?_
  refine g_getR E fl_RX9_9 (kC_50 b) (sC_50 b) rfl dX9_renewed_106 ?_
  refine g_iload_2 E dX9_renewed_109 ?_
  refine g_iload_4 E dX9_renewed_110 ?_
  refine g_callvI E my_X4_plus mi_X4_plus msel_X4_plus ml_RX9_103 (rm_ok (by decide) (by decide)) ⟨Nat.zero_le _, Nat.zero_le _⟩ (kC_14 b) (sC_14 b) rfl (m_X4_plus E.2.2.1 c2 c4 hσ h) rfl rfl (Nat.le_of_ble_eq_true rfl) dX9_renewed_112 (fun r14 σ15 cr14 hσ15 h => ?_)
  refine g_istore_2 E rfl (by decide) dX9_renewed_115 ?_
  refine g_iinc_3 E rfl (by decide) dX9_renewed_116 (fun v16 ev16 => ?_)
  replace h := h v16 ev16
  have cv16 : C32 v16 := by rw [ev16]; exact c32_w _
  refine g_goto E djX9_renewed_119 ?_
  exact (hK17 x1 r14 v16 σ15 c1 cr14 cv16 hσ15 h).weak (w_k (w_k (w_k (w_k (w_d w_n)))))
set_option maxHeartbeats 4000000 in
set_option maxRecDepth 100000 in
theorem t_X9_renewed_l17 (E : Ev p s m args meth c cX9_renewed 5 RX9 A0 D cA ad (NC b) Z) (hr : meth.sig.returnType = (some .int)) : ∀ (n : Nat) (x1 : Int) (x2 : Int) (x3 : Int) (σ : St), C32 x1 → C32 x2 → C32 x3 → CanS (shC b) (NC b) σ → wp_X9_renewed_l17 Q n x1 x2 x3 σ → G p l e (rmL 2 0 0) s m args below meth c 5 A0 D cA ad (shC b) (NC b) 0 0 (MQ below (QIc D cA ad (shC b) (NC b) Q A0) args s 0 0 A0) σ 17 [some (.ref (ad 50)), some (vI x1), some (vI x2), some (vI x3), none] [] := by
  intro n
  induction n with
  | zero => intro _ _ _ _ _ _ _ _ h; exact h.elim
  | succ n ih =>
    intro x1 x2 x3 σ c1 c2 c3 hσ h
    unfold wp_X9_renewed_l17 at h
    refine g_iload_3 E dX9_renewed_17 ?_
    refine g_aload_0 E dX9_renewed_18 ?_
    refine g_getR E fl_RX9_15 (kC_50 b) (sC_50 b) rfl dX9_renewed_19 ?_
    refine g_iload_1 E dX9_renewed_22 ?_
    refine g_callvI E my_X0_caseEnd mi_X0_caseEnd msel_X0_caseEnd ml_RX9_78 (rm_ok (by decide) (by decide)) ⟨Nat.zero_le _, Nat.zero_le _⟩ (kC_24 b) (sC_24 b) rfl (m_X0_caseEnd E.2.2.1 c1 hσ h) rfl rfl (Nat.le_of_ble_eq_true rfl) dX9_renewed_23 (fun r4 σ5 cr4 hσ5 h => ?_)
    refine g_icmp_ge E c3 cr4 djX9_renewed_26 (fun hc => ?_) (fun hc => ?_)
    · replace h := h.1 hc
      refine g_iload_2 E dX9_renewed_122 ?_
      exact g_iret E hr c2 h hσ5 dX9_renewed_123
    · replace h := h.2 hc
      refine g_aload_0 E dX9_renewed_29 ?_
      refine g_getR E fl_RX9_9 (kC_50 b) (sC_50 b) rfl dX9_renewed_30 ?_
      refine g_aload_0 E dX9_renewed_33 ?_
      refine g_getR E fl_RX9_9 (kC_50 b) (sC_50 b) rfl dX9_renewed_34 ?_
      refine g_getR E fl_RX9_81 (kC_14 b) (sC_14 b) rfl dX9_renewed_37 ?_
      refine g_aload_0 E dX9_renewed_40 ?_
      refine g_getR E fl_RX9_15 (kC_50 b) (sC_50 b) rfl dX9_renewed_41 ?_
      refine g_getR E fl_RX9_84 (kC_24 b) (sC_24 b) rfl dX9_renewed_44 ?_
      refine g_iload_3 E dX9_renewed_47 ?_
      refine g_iald E (kC_29 b) (sC_29 b) (by decide) h.1 dX9_renewed_48 ?_
      replace h := h.2
      refine g_iald E (kC_19 b) (sC_19 b) (by decide) h.1 dX9_renewed_49 ?_
      replace h := h.2
      refine g_aload_0 E dX9_renewed_50 ?_
      refine g_aload_0 E dX9_renewed_51 ?_
      refine g_getR E fl_RX9_15 (kC_50 b) (sC_50 b) rfl dX9_renewed_52 ?_
      refine g_getR E fl_RX9_87 (kC_24 b) (sC_24 b) rfl dX9_renewed_55 ?_
      refine g_iload_3 E dX9_renewed_58 ?_
      refine g_iald E (kC_31 b) (sC_31 b) (by decide) h.1 dX9_renewed_59 ?_
      replace h := h.2
      refine g_callvI E my_X9_partValue mi_X9_partValue msel_X9_partValue ml_RX9_90 (rm_ok (by decide) (by decide)) ⟨Nat.zero_le _, Nat.zero_le _⟩ (kC_50 b) (sC_50 b) rfl (m_X9_partValue E.2.2.1 (aC_31 hσ5 _) hσ5 h) rfl rfl (Nat.le_of_ble_eq_true rfl) dX9_renewed_60 (fun r6 σ7 cr6 hσ7 h => ?_)
      refine g_callvI E my_X4_times mi_X4_times msel_X4_times ml_RX9_93 (rm_ok (by decide) (by decide)) ⟨Nat.zero_le _, Nat.zero_le _⟩ (kC_14 b) (sC_14 b) rfl (m_X4_times E.2.2.1 (aC_19 hσ5 _) cr6 hσ7 h) rfl rfl (Nat.le_of_ble_eq_true rfl) dX9_renewed_63 (fun r8 σ9 cr8 hσ9 h => ?_)
      refine g_istore_4 E rfl (by decide) dX9_renewed_66 ?_
      refine g_aload_0 E dX9_renewed_68 ?_
      refine g_getR E fl_RX9_15 (kC_50 b) (sC_50 b) rfl dX9_renewed_69 ?_
      refine g_getR E fl_RX9_97 (kC_24 b) (sC_24 b) rfl dX9_renewed_72 ?_
      refine g_iload_3 E dX9_renewed_75 ?_
      refine g_iald E (kC_30 b) (sC_30 b) (by decide) h.1 dX9_renewed_76 ?_
      replace h := h.2
      refine g_iconst E dX9_renewed_77 ?_
      refine g_icmp_eq E (aC_30 hσ9 _) cl_m1 djX9_renewed_78 (fun hc => ?_) (fun hc => ?_)
      · replace h := h.1 hc
        exact (t_X9_renewed_b105 E hr ih x1 x2 x3 r8 σ9 c1 c2 c3 cr8 hσ9 h).weak (w_k (w_k (w_k (w_k (w_k w_n)))))
      · replace h := h.2 hc
        refine g_aload_0 E dX9_renewed_81 ?_
        refine g_getR E fl_RX9_9 (kC_50 b) (sC_50 b) rfl dX9_renewed_82 ?_
        refine g_iload_4 E dX9_renewed_85 ?_
        refine g_aload_0 E dX9_renewed_87 ?_
        refine g_aload_0 E dX9_renewed_88 ?_
        refine g_getR E fl_RX9_15 (kC_50 b) (sC_50 b) rfl dX9_renewed_89 ?_
        refine g_getR E fl_RX9_100 (kC_24 b) (sC_24 b) rfl dX9_renewed_92 ?_
        refine g_iload_3 E dX9_renewed_95 ?_
        refine g_iald E (kC_32 b) (sC_32 b) (by decide) h.1 dX9_renewed_96 ?_
        replace h := h.2
        refine g_callvI E my_X9_partValue mi_X9_partValue msel_X9_partValue ml_RX9_90 (rm_ok (by decide) (by decide)) ⟨Nat.zero_le _, Nat.zero_le _⟩ (kC_50 b) (sC_50 b) rfl (m_X9_partValue E.2.2.1 (aC_32 hσ9 _) hσ9 h) rfl rfl (Nat.le_of_ble_eq_true rfl) dX9_renewed_97 (fun r10 σ11 cr10 hσ11 h => ?_)
        refine g_callvI E my_X4_times mi_X4_times msel_X4_times ml_RX9_93 (rm_ok (by decide) (by decide)) ⟨Nat.zero_le _, Nat.zero_le _⟩ (kC_14 b) (sC_14 b) rfl (m_X4_times E.2.2.1 cr8 cr10 hσ11 h) rfl rfl (Nat.le_of_ble_eq_true rfl) dX9_renewed_100 (fun r12 σ13 cr12 hσ13 h => ?_)
        refine g_istore_4 E rfl (by decide) dX9_renewed_103 ?_
        exact (t_X9_renewed_b105 E hr ih x1 x2 x3 r12 σ13 c1 c2 c3 cr12 hσ13 h).weak (w_k (w_k (w_k (w_k (w_k w_n)))))
set_option maxHeartbeats 4000000 in
set_option maxRecDepth 100000 in
theorem t_X9_renewed (E : Ev p s m args meth c cX9_renewed 5 RX9 A0 D cA ad (NC b) Z) (hr : meth.sig.returnType = (some .int)) (x1 : Int) (σ : St) (c1 : C32 x1) (hσ : CanS (shC b) (NC b) σ) (h : wp_X9_renewed x1 σ Q) : G p l e (rmL 2 0 0) s m args below meth c 5 A0 D cA ad (shC b) (NC b) 0 0 (MQ below (QIc D cA ad (shC b) (NC b) Q A0) args s 0 0 A0) σ 0 [some (.ref (ad 50)), some (vI x1), none, none, none] [] := by
  unfold wp_X9_renewed at h
  refine g_aload_0 E dX9_renewed_0 ?_
  refine g_getR E fl_RX9_9 (kC_50 b) (sC_50 b) rfl dX9_renewed_1 ?_
  refine g_getI E fl_RX9_47 (kC_14 b) (sC_14 b) rfl dX9_renewed_4 ?_
  refine g_nmI (fun v1 ev1 => ?_)
  replace h := h v1 ev1
  have cv1 : C32 v1 := by rw [ev1]; exact (fC_14_8 hσ)
  refine g_istore_2 E rfl (by decide) dX9_renewed_7 ?_
  refine g_aload_0 E dX9_renewed_8 ?_
  refine g_getR E fl_RX9_15 (kC_50 b) (sC_50 b) rfl dX9_renewed_9 ?_
  refine g_iload_1 E dX9_renewed_12 ?_
  refine g_callvI E my_X0_caseStart mi_X0_caseStart msel_X0_caseStart ml_RX9_75 (rm_ok (by decide) (by decide)) ⟨Nat.zero_le _, Nat.zero_le _⟩ (kC_24 b) (sC_24 b) rfl (m_X0_caseStart E.2.2.1 c1 hσ h) rfl rfl (Nat.le_of_ble_eq_true rfl) dX9_renewed_13 (fun r2 σ3 cr2 hσ3 h => ?_)
  refine g_istore_3 E rfl (by decide) dX9_renewed_16 ?_
  exact (t_X9_renewed_l17 E hr bigN x1 v1 r2 σ3 c1 cv1 cr2 hσ3 h).weak (w_k (w_k (w_k (w_k (w_d w_n)))))
end
theorem m_X9_renewed {Z : (Nat → Nat) × (Nat → Nat)} {l : Launch} {D : va_G} {cA : Nat → ClassId} {ad : Nat → Nat} {b : Bool} {x1 : Int} {σ : St} {Q : Int → St → Prop} (hA : AdOk (NC b) ad) (c1 : C32 x1) (hσ : CanS (shC b) (NC b) σ) (h : wp_X9_renewed x1 σ Q) : KtI Z l D cA ad (shC b) (NC b) yX9_renewed cX9_renewed 5 (some .int) 2 [.ref (ad 50), vI x1] σ Q :=
  KtI.of my_X9_renewed hA [some (.ref (ad 50)), some (vI x1), none, none, none] (Nat.le_of_ble_eq_true rfl) rfl (fun p e s m args below meth c A0 E hr => t_X9_renewed E hr x1 σ c1 hσ h)
theorem dX9_changeAll_0 : Dc cX9_changeAll 0 (.iconst 0) 1 1 := ⟨by decide +kernel, rfl⟩
theorem dX9_changeAll_1 : Dc cX9_changeAll 1 (.istore_n 1) 1 2 := ⟨by decide +kernel, rfl⟩
theorem dX9_changeAll_2 : Dc cX9_changeAll 2 (.aload_n 0) 1 3 := ⟨by decide +kernel, rfl⟩
theorem dX9_changeAll_3 : Dc cX9_changeAll 3 (.getfield 15) 3 6 := ⟨by decide +kernel, rfl⟩
theorem dX9_changeAll_6 : Dc cX9_changeAll 6 (.invokevirtual 62) 3 9 := ⟨by decide +kernel, rfl⟩
theorem dX9_changeAll_9 : Dc cX9_changeAll 9 (.istore_n 2) 1 10 := ⟨by decide +kernel, rfl⟩
theorem dX9_changeAll_10 : Dc cX9_changeAll 10 (.iconst 0) 1 11 := ⟨by decide +kernel, rfl⟩
theorem dX9_changeAll_11 : Dc cX9_changeAll 11 (.istore_n 3) 1 12 := ⟨by decide +kernel, rfl⟩
theorem dX9_changeAll_12 : Dc cX9_changeAll 12 (.iload_n 3) 1 13 := ⟨by decide +kernel, rfl⟩
theorem dX9_changeAll_13 : Dc cX9_changeAll 13 (.iload_n 2) 1 14 := ⟨by decide +kernel, rfl⟩
theorem djX9_changeAll_14 : Dj cX9_changeAll 14 (.if_icmp .ge 43) 3 17 43 57 := ⟨by decide +kernel, rfl, by decide⟩
theorem dX9_changeAll_17 : Dc cX9_changeAll 17 (.aload_n 0) 1 18 := ⟨by decide +kernel, rfl⟩
theorem dX9_changeAll_18 : Dc cX9_changeAll 18 (.getfield 23) 3 21 := ⟨by decide +kernel, rfl⟩
theorem dX9_changeAll_21 : Dc cX9_changeAll 21 (.iload_n 3) 1 22 := ⟨by decide +kernel, rfl⟩
theorem dX9_changeAll_22 : Dc cX9_changeAll 22 (.aload_n 0) 1 23 := ⟨by decide +kernel, rfl⟩
theorem dX9_changeAll_23 : Dc cX9_changeAll 23 (.iload_n 3) 1 24 := ⟨by decide +kernel, rfl⟩
theorem dX9_changeAll_24 : Dc cX9_changeAll 24 (.invokevirtual 65) 3 27 := ⟨by decide +kernel, rfl⟩
theorem dX9_changeAll_27 : Dc cX9_changeAll 27 (.iastore) 1 28 := ⟨by decide +kernel, rfl⟩
theorem dX9_changeAll_28 : Dc cX9_changeAll 28 (.iload_n 1) 1 29 := ⟨by decide +kernel, rfl⟩
theorem dX9_changeAll_29 : Dc cX9_changeAll 29 (.aload_n 0) 1 30 := ⟨by decide +kernel, rfl⟩
theorem dX9_changeAll_30 : Dc cX9_changeAll 30 (.getfield 23) 3 33 := ⟨by decide +kernel, rfl⟩
theorem dX9_changeAll_33 : Dc cX9_changeAll 33 (.iload_n 3) 1 34 := ⟨by decide +kernel, rfl⟩
theorem dX9_changeAll_34 : Dc cX9_changeAll 34 (.iaload) 1 35 := ⟨by decide +kernel, rfl⟩
theorem dX9_changeAll_35 : Dc cX9_changeAll 35 (.aload_n 0) 1 36 := ⟨by decide +kernel, rfl⟩
theorem dX9_changeAll_36 : Dc cX9_changeAll 36 (.getfield 19) 3 39 := ⟨by decide +kernel, rfl⟩
theorem dX9_changeAll_39 : Dc cX9_changeAll 39 (.iload_n 3) 1 40 := ⟨by decide +kernel, rfl⟩
theorem dX9_changeAll_40 : Dc cX9_changeAll 40 (.iaload) 1 41 := ⟨by decide +kernel, rfl⟩
theorem djX9_changeAll_41 : Dj cX9_changeAll 41 (.if_icmp .eq 7) 3 44 7 48 := ⟨by decide +kernel, rfl, by decide⟩
theorem dX9_changeAll_44 : Dc cX9_changeAll 44 (.iconst 1) 1 45 := ⟨by decide +kernel, rfl⟩
theorem djX9_changeAll_45 : Dj cX9_changeAll 45 (.goto 4) 3 48 4 49 := ⟨by decide +kernel, rfl, by decide⟩
theorem dX9_changeAll_48 : Dc cX9_changeAll 48 (.iconst 0) 1 49 := ⟨by decide +kernel, rfl⟩
theorem dX9_changeAll_49 : Dc cX9_changeAll 49 (.ior) 1 50 := ⟨by decide +kernel, rfl⟩
theorem dX9_changeAll_50 : Dc cX9_changeAll 50 (.istore_n 1) 1 51 := ⟨by decide +kernel, rfl⟩
theorem dX9_changeAll_51 : Dc cX9_changeAll 51 (.iinc 3 1) 3 54 := ⟨by decide +kernel, rfl⟩
theorem djX9_changeAll_54 : Dj cX9_changeAll 54 (.goto (-42)) 3 57 (-42) 12 := ⟨by decide +kernel, rfl, by decide⟩
theorem dX9_changeAll_57 : Dc cX9_changeAll 57 (.aload_n 0) 1 58 := ⟨by decide +kernel, rfl⟩
theorem dX9_changeAll_58 : Dc cX9_changeAll 58 (.getfield 23) 3 61 := ⟨by decide +kernel, rfl⟩
theorem dX9_changeAll_61 : Dc cX9_changeAll 61 (.iconst 0) 1 62 := ⟨by decide +kernel, rfl⟩
theorem dX9_changeAll_62 : Dc cX9_changeAll 62 (.aload_n 0) 1 63 := ⟨by decide +kernel, rfl⟩
theorem dX9_changeAll_63 : Dc cX9_changeAll 63 (.getfield 19) 3 66 := ⟨by decide +kernel, rfl⟩
theorem dX9_changeAll_66 : Dc cX9_changeAll 66 (.iconst 0) 1 67 := ⟨by decide +kernel, rfl⟩
theorem dX9_changeAll_67 : Dc cX9_changeAll 67 (.iload_n 2) 1 68 := ⟨by decide +kernel, rfl⟩
theorem dX9_changeAll_68 : Dc cX9_changeAll 68 (.invokestatic 69) 3 71 := ⟨by decide +kernel, rfl⟩
theorem dX9_changeAll_71 : Dc cX9_changeAll 71 (.iload_n 1) 1 72 := ⟨by decide +kernel, rfl⟩
theorem dX9_changeAll_72 : Dc cX9_changeAll 72 (.ireturn) 1 73 := ⟨by decide +kernel, rfl⟩
section
variable {p : Program} {l : Launch} {e : Env} {s : State} {m : MethodId} {args : Array Value} {below : List Frame} {meth : Method} {c : Code} {A0 : Nat → Prop} {D : va_G} {cA : Nat → ClassId} {ad : Nat → Nat} {Z : (Nat → Nat) × (Nat → Nat)} {Q : Int → St → Prop} {b : Bool}
set_option maxHeartbeats 4000000 in
set_option maxRecDepth 100000 in
theorem t_X9_changeAll_b49 (E : Ev p s m args meth c cX9_changeAll 4 RX9 A0 D cA ad (NC b) Z) (hr : meth.sig.returnType = (some .boolean)) {K12 : Int → Int → Int → St → Prop} (hK12 : ∀ (x1 : Int) (x2 : Int) (x3 : Int) (σ : St), C32 x1 → C32 x2 → C32 x3 → CanS (shC b) (NC b) σ → K12 x1 x2 x3 σ → G p l e (rmL 3 0 0) s m args below meth c 4 A0 D cA ad (shC b) (NC b) 0 0 (MQ below (QIc D cA ad (shC b) (NC b) Q A0) args s 0 0 A0) σ 12 [some (.ref (ad 50)), some (vI x1), some (vI x2), some (vI x3)] []) (x2 : Int) (x3 : Int) (s0 : Int) (s1 : Int) (σ : St) (c2 : C32 x2) (c3 : C32 x3) (cs0 : C32 s0) (cs1 : C32 s1) (hσ : CanS (shC b) (NC b) σ) (h : wp_X9_changeAll_b49 Q K12 x2 x3 s0 s1 σ) : G p l e (rmL 3 0 0) s m args below meth c 4 A0 D cA ad (shC b) (NC b) 0 0 (MQ below (QIc D cA ad (shC b) (NC b) Q A0) args s 0 0 A0) σ 49 [some (.ref (ad 50)), none, some (vI x2), some (vI x3)] [vI s0, vI s1] := by
  unfold wp_X9_changeAll_b49 at h
  refine g_ior E dX9_changeAll_49 ?_
  refine g_nmI (fun v7 ev7 => ?_)
  replace h := h v7 ev7
  have cv7 : C32 v7 := by rw [ev7]; exact (c32_t _)
  refine g_istore_1 E rfl (by decide) dX9_changeAll_50 ?_
  refine g_iinc_3 E rfl (by decide) dX9_changeAll_51 (fun v8 ev8 => ?_)
  replace h := h v8 ev8
  have cv8 : C32 v8 := by rw [ev8]; exact c32_w _
  refine g_goto E djX9_changeAll_54 ?_
  exact (hK12 v7 x2 v8 σ cv7 c2 cv8 hσ h).weak (w_k (w_k (w_k (w_k w_n))))
set_option maxHeartbeats 4000000 in
set_option maxRecDepth 100000 in
theorem t_X9_changeAll_l12 (E : Ev p s m args meth c cX9_changeAll 4 RX9 A0 D cA ad (NC b) Z) (hr : meth.sig.returnType = (some .boolean)) : ∀ (n : Nat) (x1 : Int) (x2 : Int) (x3 : Int) (σ : St), C32 x1 → C32 x2 → C32 x3 → CanS (shC b) (NC b) σ → wp_X9_changeAll_l12 Q n x1 x2 x3 σ → G p l e (rmL 3 0 0) s m args below meth c 4 A0 D cA ad (shC b) (NC b) 0 0 (MQ below (QIc D cA ad (shC b) (NC b) Q A0) args s 0 0 A0) σ 12 [some (.ref (ad 50)), some (vI x1), some (vI x2), some (vI x3)] [] := by
  intro n
  induction n with
  | zero => intro _ _ _ _ _ _ _ _ h; exact h.elim
  | succ n ih =>
    intro x1 x2 x3 σ c1 c2 c3 hσ h
    unfold wp_X9_changeAll_l12 at h
    refine g_iload_3 E dX9_changeAll_12 ?_
    refine g_iload_2 E dX9_changeAll_13 ?_
    refine g_icmp_ge E c3 c2 djX9_changeAll_14 (fun hc => ?_) (fun hc => ?_)
    · replace h := h.1 hc
      refine g_aload_0 E dX9_changeAll_57 ?_
      refine g_getR E fl_RX9_23 (kC_50 b) (sC_50 b) rfl dX9_changeAll_58 ?_
      refine g_iconst E dX9_changeAll_61 ?_
      refine g_aload_0 E dX9_changeAll_62 ?_
      refine g_getR E fl_RX9_19 (kC_50 b) (sC_50 b) rfl dX9_changeAll_63 ?_
      refine g_iconst E dX9_changeAll_66 ?_
      refine g_iload_2 E dX9_changeAll_67 ?_
      refine g_acopy E ml_RX9_69 (kC_52 b) (sC_52 b) (kC_51 b) (sC_51 b) (by decide) (by decide) h.1 h.2.1 h.2.2.1 h.2.2.2.1 h.2.2.2.2.1 (Nat.le_of_ble_eq_true rfl) (rm_1 3) dX9_changeAll_68 (g_nmS (fun σ3 eσ3 => ?_))
      replace h := h.2.2.2.2.2 σ3 eσ3
      have hσ3 : CanS (shC b) (NC b) σ3 := by rw [eσ3]; exact can_copy hσ (kC_52 b) (sC_52 b) (kC_51 b) (sC_51 b)
      refine g_iload_1 E dX9_changeAll_71 ?_
      exact g_zret E hr h.1 h.2 hσ3 dX9_changeAll_72
    · replace h := h.2 hc
      refine g_aload_0 E dX9_changeAll_17 ?_
      refine g_getR E fl_RX9_23 (kC_50 b) (sC_50 b) rfl dX9_changeAll_18 ?_
      refine g_iload_3 E dX9_changeAll_21 ?_
      refine g_aload_0 E dX9_changeAll_22 ?_
      refine g_iload_3 E dX9_changeAll_23 ?_
      refine g_callvI E my_X9_renewed mi_X9_renewed msel_X9_renewed ml_RX9_65 (rm_ok (by decide) (by decide)) ⟨Nat.zero_le _, Nat.zero_le _⟩ (kC_50 b) (sC_50 b) rfl (m_X9_renewed E.2.2.1 c3 hσ h) rfl rfl (Nat.le_of_ble_eq_true rfl) dX9_changeAll_24 (fun r4 σ5 cr4 hσ5 h => ?_)
      refine g_iast E (kC_52 b) (sC_52 b) (by decide) h.1 dX9_changeAll_27 (g_nmS (fun σ6 eσ6 => ?_))
      replace h := h.2 σ6 eσ6
      have hσ6 : CanS (shC b) (NC b) σ6 := by rw [eσ6]; exact wC_52 hσ5 cr4
      refine g_iload_1 E dX9_changeAll_28 ?_
      refine g_aload_0 E dX9_changeAll_29 ?_
      refine g_getR E fl_RX9_23 (kC_50 b) (sC_50 b) rfl dX9_changeAll_30 ?_
      refine g_iload_3 E dX9_changeAll_33 ?_
      refine g_iald E (kC_52 b) (sC_52 b) (by decide) h.1 dX9_changeAll_34 ?_
      replace h := h.2
      refine g_aload_0 E dX9_changeAll_35 ?_
      refine g_getR E fl_RX9_19 (kC_50 b) (sC_50 b) rfl dX9_changeAll_36 ?_
      refine g_iload_3 E dX9_changeAll_39 ?_
      refine g_iald E (kC_51 b) (sC_51 b) (by decide) h.1 dX9_changeAll_40 ?_
      replace h := h.2
      refine g_icmp_eq E (aC_52 hσ6 _) (aC_51 hσ6 _) djX9_changeAll_41 (fun hc => ?_) (fun hc => ?_)
      · replace h := h.1 hc
        refine g_iconst E dX9_changeAll_48 ?_
        exact (t_X9_changeAll_b49 E hr ih x2 x3 0 x1 σ6 c2 c3 cl_0 c1 hσ6 h).weak (w_k (w_d (w_k (w_k w_n))))
      · replace h := h.2 hc
        refine g_iconst E dX9_changeAll_44 ?_
        refine g_goto E djX9_changeAll_45 ?_
        exact (t_X9_changeAll_b49 E hr ih x2 x3 1 x1 σ6 c2 c3 cl_1 c1 hσ6 h).weak (w_k (w_d (w_k (w_k w_n))))
set_option maxHeartbeats 4000000 in
set_option maxRecDepth 100000 in
theorem t_X9_changeAll (E : Ev p s m args meth c cX9_changeAll 4 RX9 A0 D cA ad (NC b) Z) (hr : meth.sig.returnType = (some .boolean)) (σ : St) (hσ : CanS (shC b) (NC b) σ) (h : wp_X9_changeAll  σ Q) : G p l e (rmL 3 0 0) s m args below meth c 4 A0 D cA ad (shC b) (NC b) 0 0 (MQ below (QIc D cA ad (shC b) (NC b) Q A0) args s 0 0 A0) σ 0 [some (.ref (ad 50)), none, none, none] [] := by
  unfold wp_X9_changeAll at h
  refine g_iconst E dX9_changeAll_0 ?_
  refine g_istore_1 E rfl (by decide) dX9_changeAll_1 ?_
  refine g_aload_0 E dX9_changeAll_2 ?_
  refine g_getR E fl_RX9_15 (kC_50 b) (sC_50 b) rfl dX9_changeAll_3 ?_
  refine g_callvI E my_X0_itemCount mi_X0_itemCount msel_X0_itemCount ml_RX9_62 (rm_ok (by decide) (by decide)) ⟨Nat.zero_le _, Nat.zero_le _⟩ (kC_24 b) (sC_24 b) rfl (m_X0_itemCount E.2.2.1 hσ h) rfl rfl (Nat.le_of_ble_eq_true rfl) dX9_changeAll_6 (fun r1 σ2 cr1 hσ2 h => ?_)
  refine g_istore_2 E rfl (by decide) dX9_changeAll_9 ?_
  refine g_iconst E dX9_changeAll_10 ?_
  refine g_istore_3 E rfl (by decide) dX9_changeAll_11 ?_
  exact (t_X9_changeAll_l12 E hr bigN 0 r1 0 σ2 cl_0 cr1 cl_0 hσ2 h).weak (w_k (w_k (w_k (w_k w_n))))
end
theorem m_X9_changeAll {Z : (Nat → Nat) × (Nat → Nat)} {l : Launch} {D : va_G} {cA : Nat → ClassId} {ad : Nat → Nat} {b : Bool} {σ : St} {Q : Int → St → Prop} (hA : AdOk (NC b) ad) (hσ : CanS (shC b) (NC b) σ) (h : wp_X9_changeAll  σ Q) : KtI Z l D cA ad (shC b) (NC b) yX9_changeAll cX9_changeAll 4 (some .boolean) 3 [.ref (ad 50)] σ Q :=
  KtI.of my_X9_changeAll hA [some (.ref (ad 50)), none, none, none] (Nat.le_of_ble_eq_true rfl) rfl (fun p e s m args below meth c A0 E hr => t_X9_changeAll E hr σ hσ h)
theorem dX9_roundsTaken_0 : Dc cX9_roundsTaken 0 (.aload_n 0) 1 1 := ⟨by decide +kernel, rfl⟩
theorem dX9_roundsTaken_1 : Dc cX9_roundsTaken 1 (.getfield 15) 3 4 := ⟨by decide +kernel, rfl⟩
theorem dX9_roundsTaken_4 : Dc cX9_roundsTaken 4 (.invokevirtual 38) 3 7 := ⟨by decide +kernel, rfl⟩
theorem dX9_roundsTaken_7 : Dc cX9_roundsTaken 7 (.aload_n 0) 1 8 := ⟨by decide +kernel, rfl⟩
theorem dX9_roundsTaken_8 : Dc cX9_roundsTaken 8 (.getfield 30) 3 11 := ⟨by decide +kernel, rfl⟩
theorem djX9_roundsTaken_11 : Dj cX9_roundsTaken 11 (.ifCond .ne 63) 3 14 63 74 := ⟨by decide +kernel, rfl, by decide⟩
theorem dX9_roundsTaken_14 : Dc cX9_roundsTaken 14 (.aload_n 0) 1 15 := ⟨by decide +kernel, rfl⟩
theorem dX9_roundsTaken_15 : Dc cX9_roundsTaken 15 (.iconst 1) 1 16 := ⟨by decide +kernel, rfl⟩
theorem dX9_roundsTaken_16 : Dc cX9_roundsTaken 16 (.putfield 30) 3 19 := ⟨by decide +kernel, rfl⟩
theorem dX9_roundsTaken_19 : Dc cX9_roundsTaken 19 (.aload_n 0) 1 20 := ⟨by decide +kernel, rfl⟩
theorem dX9_roundsTaken_20 : Dc cX9_roundsTaken 20 (.bipush (-6)) 2 22 := ⟨by decide +kernel, rfl⟩
theorem dX9_roundsTaken_22 : Dc cX9_roundsTaken 22 (.putfield 43) 3 25 := ⟨by decide +kernel, rfl⟩
theorem dX9_roundsTaken_25 : Dc cX9_roundsTaken 25 (.aload_n 0) 1 26 := ⟨by decide +kernel, rfl⟩
theorem dX9_roundsTaken_26 : Dc cX9_roundsTaken 26 (.getfield 19) 3 29 := ⟨by decide +kernel, rfl⟩
theorem dX9_roundsTaken_29 : Dc cX9_roundsTaken 29 (.aload_n 0) 1 30 := ⟨by decide +kernel, rfl⟩
theorem dX9_roundsTaken_30 : Dc cX9_roundsTaken 30 (.getfield 9) 3 33 := ⟨by decide +kernel, rfl⟩
theorem dX9_roundsTaken_33 : Dc cX9_roundsTaken 33 (.getfield 47) 3 36 := ⟨by decide +kernel, rfl⟩
theorem dX9_roundsTaken_36 : Dc cX9_roundsTaken 36 (.invokestatic 52) 3 39 := ⟨by decide +kernel, rfl⟩
theorem dX9_roundsTaken_39 : Dc cX9_roundsTaken 39 (.iconst 1) 1 40 := ⟨by decide +kernel, rfl⟩
theorem dX9_roundsTaken_40 : Dc cX9_roundsTaken 40 (.istore_n 1) 1 41 := ⟨by decide +kernel, rfl⟩
theorem dX9_roundsTaken_41 : Dc cX9_roundsTaken 41 (.iload_n 1) 1 42 := ⟨by decide +kernel, rfl⟩
theorem dX9_roundsTaken_42 : Dc cX9_roundsTaken 42 (.bipush 100) 2 44 := ⟨by decide +kernel, rfl⟩
theorem djX9_roundsTaken_44 : Dj cX9_roundsTaken 44 (.if_icmp .gt 30) 3 47 30 74 := ⟨by decide +kernel, rfl, by decide⟩
theorem dX9_roundsTaken_47 : Dc cX9_roundsTaken 47 (.aload_n 0) 1 48 := ⟨by decide +kernel, rfl⟩
theorem dX9_roundsTaken_48 : Dc cX9_roundsTaken 48 (.getfield 43) 3 51 := ⟨by decide +kernel, rfl⟩
theorem dX9_roundsTaken_51 : Dc cX9_roundsTaken 51 (.bipush (-6)) 2 53 := ⟨by decide +kernel, rfl⟩
theorem djX9_roundsTaken_53 : Dj cX9_roundsTaken 53 (.if_icmp .ne 21) 3 56 21 74 := ⟨by decide +kernel, rfl, by decide⟩
theorem dX9_roundsTaken_56 : Dc cX9_roundsTaken 56 (.aload_n 0) 1 57 := ⟨by decide +kernel, rfl⟩
theorem dX9_roundsTaken_57 : Dc cX9_roundsTaken 57 (.invokevirtual 58) 3 60 := ⟨by decide +kernel, rfl⟩
theorem djX9_roundsTaken_60 : Dj cX9_roundsTaken 60 (.ifCond .ne 8) 3 63 8 68 := ⟨by decide +kernel, rfl, by decide⟩
theorem dX9_roundsTaken_63 : Dc cX9_roundsTaken 63 (.aload_n 0) 1 64 := ⟨by decide +kernel, rfl⟩
theorem dX9_roundsTaken_64 : Dc cX9_roundsTaken 64 (.iload_n 1) 1 65 := ⟨by decide +kernel, rfl⟩
theorem dX9_roundsTaken_65 : Dc cX9_roundsTaken 65 (.putfield 43) 3 68 := ⟨by decide +kernel, rfl⟩
theorem dX9_roundsTaken_68 : Dc cX9_roundsTaken 68 (.iinc 1 1) 3 71 := ⟨by decide +kernel, rfl⟩
theorem djX9_roundsTaken_71 : Dj cX9_roundsTaken 71 (.goto (-30)) 3 74 (-30) 41 := ⟨by decide +kernel, rfl, by decide⟩
theorem dX9_roundsTaken_74 : Dc cX9_roundsTaken 74 (.aload_n 0) 1 75 := ⟨by decide +kernel, rfl⟩
theorem dX9_roundsTaken_75 : Dc cX9_roundsTaken 75 (.getfield 43) 3 78 := ⟨by decide +kernel, rfl⟩
theorem dX9_roundsTaken_78 : Dc cX9_roundsTaken 78 (.ireturn) 1 79 := ⟨by decide +kernel, rfl⟩
section
variable {p : Program} {l : Launch} {e : Env} {s : State} {m : MethodId} {args : Array Value} {below : List Frame} {meth : Method} {c : Code} {A0 : Nat → Prop} {D : va_G} {cA : Nat → ClassId} {ad : Nat → Nat} {Z : (Nat → Nat) × (Nat → Nat)} {Q : Int → St → Prop} {b : Bool}
set_option maxHeartbeats 4000000 in
set_option maxRecDepth 100000 in
theorem t_X9_roundsTaken_b68 (E : Ev p s m args meth c cX9_roundsTaken 2 RX9 A0 D cA ad (NC b) Z) (hr : meth.sig.returnType = (some .int)) {K41 : Int → St → Prop} (hK41 : ∀ (x1 : Int) (σ : St), C32 x1 → CanS (shC b) (NC b) σ → K41 x1 σ → G p l e (rmL 5 0 0) s m args below meth c 2 A0 D cA ad (shC b) (NC b) 0 0 (MQ below (QIc D cA ad (shC b) (NC b) Q A0) args s 0 0 A0) σ 41 [some (.ref (ad 50)), some (vI x1)] []) (x1 : Int) (σ : St) (c1 : C32 x1) (hσ : CanS (shC b) (NC b) σ) (h : wp_X9_roundsTaken_b68 Q K41 x1 σ) : G p l e (rmL 5 0 0) s m args below meth c 2 A0 D cA ad (shC b) (NC b) 0 0 (MQ below (QIc D cA ad (shC b) (NC b) Q A0) args s 0 0 A0) σ 68 [some (.ref (ad 50)), some (vI x1)] [] := by
  unfold wp_X9_roundsTaken_b68 at h
  refine g_iinc_1 E rfl (by decide) dX9_roundsTaken_68 (fun v10 ev10 => ?_)
  replace h := h v10 ev10
  have cv10 : C32 v10 := by rw [ev10]; exact c32_w _
  refine g_goto E djX9_roundsTaken_71 ?_
  exact (hK41 v10 σ cv10 hσ h).weak (w_k (w_k w_n))
set_option maxHeartbeats 4000000 in
set_option maxRecDepth 100000 in
theorem t_X9_roundsTaken_l41 (E : Ev p s m args meth c cX9_roundsTaken 2 RX9 A0 D cA ad (NC b) Z) (hr : meth.sig.returnType = (some .int)) : ∀ (n : Nat) (x1 : Int) (σ : St), C32 x1 → CanS (shC b) (NC b) σ → wp_X9_roundsTaken_l41 Q n x1 σ → G p l e (rmL 5 0 0) s m args below meth c 2 A0 D cA ad (shC b) (NC b) 0 0 (MQ below (QIc D cA ad (shC b) (NC b) Q A0) args s 0 0 A0) σ 41 [some (.ref (ad 50)), some (vI x1)] [] := by
  intro n
  induction n with
  | zero => intro _ _ _ _ h; exact h.elim
  | succ n ih =>
    intro x1 σ c1 hσ h
    unfold wp_X9_roundsTaken_l41 at h
    refine g_iload_1 E dX9_roundsTaken_41 ?_
    refine g_bipush E (by decide) dX9_roundsTaken_42 ?_
    refine g_icmp_gt E c1 cl_100 djX9_roundsTaken_44 (fun hc => ?_) (fun hc => ?_)
    · replace h := h.1 hc
      refine g_aload_0 E dX9_roundsTaken_74 ?_
      refine g_getI E fl_RX9_43 (kC_50 b) (sC_50 b) rfl dX9_roundsTaken_75 ?_
      exact g_iret E hr (fC_50_5 hσ) h hσ dX9_roundsTaken_78
    · replace h := h.2 hc
      refine g_aload_0 E dX9_roundsTaken_47 ?_
      refine g_getI E fl_RX9_43 (kC_50 b) (sC_50 b) rfl dX9_roundsTaken_48 ?_
      refine g_bipush E (by decide) dX9_roundsTaken_51 ?_
      refine g_icmp_ne E (fC_50_5 hσ) cl_m6 djX9_roundsTaken_53 (fun hc => ?_) (fun hc => ?_)
      · replace h := h.1 hc
        refine g_aload_0 E dX9_roundsTaken_74 ?_
        refine g_getI E fl_RX9_43 (kC_50 b) (sC_50 b) rfl dX9_roundsTaken_75 ?_
        exact g_iret E hr (fC_50_5 hσ) h hσ dX9_roundsTaken_78
      · replace h := h.2 hc
        refine g_aload_0 E dX9_roundsTaken_56 ?_
        refine g_callvI E my_X9_changeAll mi_X9_changeAll msel_X9_changeAll ml_RX9_58 (rm_ok (by decide) (by decide)) ⟨Nat.zero_le _, Nat.zero_le _⟩ (kC_50 b) (sC_50 b) rfl (m_X9_changeAll E.2.2.1 hσ h) rfl rfl (Nat.le_of_ble_eq_true rfl) dX9_roundsTaken_57 (fun r7 σ8 cr7 hσ8 h => ?_)
        refine g_if_ne E cr7 djX9_roundsTaken_60 (fun hc => ?_) (fun hc => ?_)
        · replace h := h.1 hc
          exact (t_X9_roundsTaken_b68 E hr ih x1 σ8 c1 hσ8 h).weak (w_k (w_k w_n))
        · replace h := h.2 hc
          refine g_aload_0 E dX9_roundsTaken_63 ?_
          refine g_iload_1 E dX9_roundsTaken_64 ?_
          refine g_putI E fl_RX9_43 rfl rfl (kC_50 b) (sC_50 b) rfl dX9_roundsTaken_65 (g_nmS (fun σ9 eσ9 => ?_))
          replace h := h σ9 eσ9
          have hσ9 : CanS (shC b) (NC b) σ9 := by rw [eσ9]; exact uC_50_5 hσ8 c1
          exact (t_X9_roundsTaken_b68 E hr ih x1 σ9 c1 hσ9 h).weak (w_k (w_k w_n))
set_option maxHeartbeats 4000000 in
set_option maxRecDepth 100000 in
theorem t_X9_roundsTaken (E : Ev p s m args meth c cX9_roundsTaken 2 RX9 A0 D cA ad (NC b) Z) (hr : meth.sig.returnType = (some .int)) (σ : St) (hσ : CanS (shC b) (NC b) σ) (h : wp_X9_roundsTaken  σ Q) : G p l e (rmL 5 0 0) s m args below meth c 2 A0 D cA ad (shC b) (NC b) 0 0 (MQ below (QIc D cA ad (shC b) (NC b) Q A0) args s 0 0 A0) σ 0 [some (.ref (ad 50)), none] [] := by
  unfold wp_X9_roundsTaken at h
  refine g_aload_0 E dX9_roundsTaken_0 ?_
  refine g_getR E fl_RX9_15 (kC_50 b) (sC_50 b) rfl dX9_roundsTaken_1 ?_
  refine g_callvV E my_X0_build mi_X0_build msel_X0_build ml_RX9_38 (rm_ok (by decide) (by decide)) ⟨Nat.zero_le _, Nat.zero_le _⟩ (kC_24 b) (sC_24 b) rfl (m_X0_build E.2.2.1 hσ h) rfl rfl (Nat.le_of_ble_eq_true rfl) dX9_roundsTaken_4 (fun σ2 r1 hσ2 h => ?_)
  refine g_aload_0 E dX9_roundsTaken_7 ?_
  refine g_getI E fl_RX9_30 (kC_50 b) (sC_50 b) rfl dX9_roundsTaken_8 ?_
  refine g_if_ne E (fC_50_6 hσ2) djX9_roundsTaken_11 (fun hc => ?_) (fun hc => ?_)
  · replace h := h.1 hc
    refine g_aload_0 E dX9_roundsTaken_74 ?_
    refine g_getI E fl_RX9_43 (kC_50 b) (sC_50 b) rfl dX9_roundsTaken_75 ?_
    exact g_iret E hr (fC_50_5 hσ2) h hσ2 dX9_roundsTaken_78
  · replace h := h.2 hc
    refine g_aload_0 E dX9_roundsTaken_14 ?_
    refine g_iconst E dX9_roundsTaken_15 ?_
    refine g_putZ E fl_RX9_30 rfl rfl (Or.inr rfl) (kC_50 b) (sC_50 b) rfl dX9_roundsTaken_16 (g_nmS (fun σ3 eσ3 => ?_))
    replace h := h σ3 eσ3
    have hσ3 : CanS (shC b) (NC b) σ3 := by rw [eσ3]; exact uC_50_6 hσ2 cl_1
    refine g_aload_0 E dX9_roundsTaken_19 ?_
    refine g_bipush E (by decide) dX9_roundsTaken_20 ?_
    refine g_putI E fl_RX9_43 rfl rfl (kC_50 b) (sC_50 b) rfl dX9_roundsTaken_22 (g_nmS (fun σ4 eσ4 => ?_))
    replace h := h σ4 eσ4
    have hσ4 : CanS (shC b) (NC b) σ4 := by rw [eσ4]; exact uC_50_5 hσ3 cl_m6
    refine g_aload_0 E dX9_roundsTaken_25 ?_
    refine g_getR E fl_RX9_19 (kC_50 b) (sC_50 b) rfl dX9_roundsTaken_26 ?_
    refine g_aload_0 E dX9_roundsTaken_29 ?_
    refine g_getR E fl_RX9_9 (kC_50 b) (sC_50 b) rfl dX9_roundsTaken_30 ?_
    refine g_getI E fl_RX9_47 (kC_14 b) (sC_14 b) rfl dX9_roundsTaken_33 ?_
    refine g_callsV E my_J7_fill_53178 ms_J7_fill_53178 ml_RX9_52 (rm_ok (by decide) (by decide)) ⟨Nat.zero_le _, Nat.zero_le _⟩ (m_J7_fill_53178_C_c51 E.2.2.1 (fC_14_8 hσ4) hσ4 h) rfl rfl (Nat.le_of_ble_eq_true rfl) dX9_roundsTaken_36 (fun σ6 r5 hσ6 h => ?_)
    refine g_iconst E dX9_roundsTaken_39 ?_
    refine g_istore_1 E rfl (by decide) dX9_roundsTaken_40 ?_
    exact (t_X9_roundsTaken_l41 E hr bigN 1 σ6 cl_1 hσ6 h).weak (w_k (w_k w_n))
end
theorem m_X9_roundsTaken {Z : (Nat → Nat) × (Nat → Nat)} {l : Launch} {D : va_G} {cA : Nat → ClassId} {ad : Nat → Nat} {b : Bool} {σ : St} {Q : Int → St → Prop} (hA : AdOk (NC b) ad) (hσ : CanS (shC b) (NC b) σ) (h : wp_X9_roundsTaken  σ Q) : KtI Z l D cA ad (shC b) (NC b) yX9_roundsTaken cX9_roundsTaken 2 (some .int) 5 [.ref (ad 50)] σ Q :=
  KtI.of my_X9_roundsTaken hA [some (.ref (ad 50)), none] (Nat.le_of_ble_eq_true rfl) rfl (fun p e s m args below meth c A0 E hr => t_X9_roundsTaken E hr σ hσ h)
theorem dX9_valueOf_0 : Dc cX9_valueOf 0 (.aload_n 0) 1 1 := ⟨by decide +kernel, rfl⟩
theorem dX9_valueOf_1 : Dc cX9_valueOf 1 (.invokevirtual 34) 3 4 := ⟨by decide +kernel, rfl⟩
theorem dX9_valueOf_4 : Dc cX9_valueOf 4 (.bipush (-6)) 2 6 := ⟨by decide +kernel, rfl⟩
theorem djX9_valueOf_6 : Dj cX9_valueOf 6 (.if_icmp .ne 8) 3 9 8 14 := ⟨by decide +kernel, rfl, by decide⟩
theorem dX9_valueOf_9 : Dc cX9_valueOf 9 (.bipush (-6)) 2 11 := ⟨by decide +kernel, rfl⟩
theorem djX9_valueOf_11 : Dj cX9_valueOf 11 (.goto 9) 3 14 9 20 := ⟨by decide +kernel, rfl, by decide⟩
theorem dX9_valueOf_14 : Dc cX9_valueOf 14 (.aload_n 0) 1 15 := ⟨by decide +kernel, rfl⟩
theorem dX9_valueOf_15 : Dc cX9_valueOf 15 (.getfield 19) 3 18 := ⟨by decide +kernel, rfl⟩
theorem dX9_valueOf_18 : Dc cX9_valueOf 18 (.iload_n 1) 1 19 := ⟨by decide +kernel, rfl⟩
theorem dX9_valueOf_19 : Dc cX9_valueOf 19 (.iaload) 1 20 := ⟨by decide +kernel, rfl⟩
theorem dX9_valueOf_20 : Dc cX9_valueOf 20 (.ireturn) 1 21 := ⟨by decide +kernel, rfl⟩
section
variable {p : Program} {l : Launch} {e : Env} {s : State} {m : MethodId} {args : Array Value} {below : List Frame} {meth : Method} {c : Code} {A0 : Nat → Prop} {D : va_G} {cA : Nat → ClassId} {ad : Nat → Nat} {Z : (Nat → Nat) × (Nat → Nat)} {Q : Int → St → Prop} {b : Bool}
set_option maxHeartbeats 4000000 in
set_option maxRecDepth 100000 in
theorem t_X9_valueOf (E : Ev p s m args meth c cX9_valueOf 2 RX9 A0 D cA ad (NC b) Z) (hr : meth.sig.returnType = (some .int)) (x1 : Int) (σ : St) (c1 : C32 x1) (hσ : CanS (shC b) (NC b) σ) (h : wp_X9_valueOf x1 σ Q) : G p l e (rmL 6 0 0) s m args below meth c 2 A0 D cA ad (shC b) (NC b) 0 0 (MQ below (QIc D cA ad (shC b) (NC b) Q A0) args s 0 0 A0) σ 0 [some (.ref (ad 50)), some (vI x1)] [] := by
  unfold wp_X9_valueOf at h
  refine g_aload_0 E dX9_valueOf_0 ?_
  refine g_callvI E my_X9_roundsTaken mi_X9_roundsTaken msel_X9_roundsTaken ml_RX9_34 (rm_ok (by decide) (by decide)) ⟨Nat.zero_le _, Nat.zero_le _⟩ (kC_50 b) (sC_50 b) rfl (m_X9_roundsTaken E.2.2.1 hσ h) rfl rfl (Nat.le_of_ble_eq_true rfl) dX9_valueOf_1 (fun r1 σ2 cr1 hσ2 h => ?_)
  refine g_bipush E (by decide) dX9_valueOf_4 ?_
  refine g_icmp_ne E cr1 cl_m6 djX9_valueOf_6 (fun hc => ?_) (fun hc => ?_)
  · replace h := h.1 hc
    refine g_aload_0 E dX9_valueOf_14 ?_
    refine g_getR E fl_RX9_19 (kC_50 b) (sC_50 b) rfl dX9_valueOf_15 ?_
    refine g_iload_1 E dX9_valueOf_18 ?_
    refine g_iald E (kC_51 b) (sC_51 b) (by decide) h.1 dX9_valueOf_19 ?_
    replace h := h.2
    exact g_iret E hr (aC_51 hσ2 _) h hσ2 dX9_valueOf_20
  · replace h := h.2 hc
    refine g_bipush E (by decide) dX9_valueOf_9 ?_
    refine g_goto E djX9_valueOf_11 ?_
    exact g_iret E hr cl_m6 h hσ2 dX9_valueOf_20
end
theorem m_X9_valueOf {Z : (Nat → Nat) × (Nat → Nat)} {l : Launch} {D : va_G} {cA : Nat → ClassId} {ad : Nat → Nat} {b : Bool} {x1 : Int} {σ : St} {Q : Int → St → Prop} (hA : AdOk (NC b) ad) (c1 : C32 x1) (hσ : CanS (shC b) (NC b) σ) (h : wp_X9_valueOf x1 σ Q) : KtI Z l D cA ad (shC b) (NC b) yX9_valueOf cX9_valueOf 2 (some .int) 6 [.ref (ad 50), vI x1] σ Q :=
  KtI.of my_X9_valueOf hA [some (.ref (ad 50)), some (vI x1)] (Nat.le_of_ble_eq_true rfl) rfl (fun p e s m args below meth c A0 E hr => t_X9_valueOf E hr x1 σ c1 hσ h)
theorem dX11_value_0 : Dc cX11_value 0 (.aload_n 0) 1 1 := ⟨by decide +kernel, rfl⟩
theorem dX11_value_1 : Dc cX11_value 1 (.iload_n 1) 1 2 := ⟨by decide +kernel, rfl⟩
theorem dX11_value_2 : Dc cX11_value 2 (.iload_n 2) 1 3 := ⟨by decide +kernel, rfl⟩
theorem dX11_value_3 : Dc cX11_value 3 (.iload_n 3) 1 4 := ⟨by decide +kernel, rfl⟩
theorem dX11_value_4 : Dc cX11_value 4 (.invokevirtual 223) 3 7 := ⟨by decide +kernel, rfl⟩
theorem dX11_value_7 : Dc cX11_value 7 (.istore 4) 2 9 := ⟨by decide +kernel, rfl⟩
theorem dX11_value_9 : Dc cX11_value 9 (.iload 4) 2 11 := ⟨by decide +kernel, rfl⟩
theorem djX11_value_11 : Dj cX11_value 11 (.ifCond .ge 8) 3 14 8 19 := ⟨by decide +kernel, rfl, by decide⟩
theorem dX11_value_14 : Dc cX11_value 14 (.bipush (-2)) 2 16 := ⟨by decide +kernel, rfl⟩
theorem djX11_value_16 : Dj cX11_value 16 (.goto 12) 3 19 12 28 := ⟨by decide +kernel, rfl, by decide⟩
theorem dX11_value_19 : Dc cX11_value 19 (.aload_n 0) 1 20 := ⟨by decide +kernel, rfl⟩
theorem dX11_value_20 : Dc cX11_value 20 (.getfield 69) 3 23 := ⟨by decide +kernel, rfl⟩
theorem dX11_value_23 : Dc cX11_value 23 (.iload 4) 2 25 := ⟨by decide +kernel, rfl⟩
theorem dX11_value_25 : Dc cX11_value 25 (.invokevirtual 256) 3 28 := ⟨by decide +kernel, rfl⟩
theorem dX11_value_28 : Dc cX11_value 28 (.ireturn) 1 29 := ⟨by decide +kernel, rfl⟩
section
variable {p : Program} {l : Launch} {e : Env} {s : State} {m : MethodId} {args : Array Value} {below : List Frame} {meth : Method} {c : Code} {A0 : Nat → Prop} {D : va_G} {cA : Nat → ClassId} {ad : Nat → Nat} {Z : (Nat → Nat) × (Nat → Nat)} {Q : Int → St → Prop} {b : Bool}
set_option maxHeartbeats 4000000 in
set_option maxRecDepth 100000 in
theorem t_X11_value (E : Ev p s m args meth c cX11_value 5 RX11 A0 D cA ad (NC b) Z) (hr : meth.sig.returnType = (some .int)) (x1 : Int) (x2 : Int) (x3 : Int) (σ : St) (c1 : C32 x1) (c2 : C32 x2) (c3 : C32 x3) (hσ : CanS (shC b) (NC b) σ) (h : wp_X11_value x1 x2 x3 σ Q) : G p l e (rmL 7 0 0) s m args below meth c 5 A0 D cA ad (shC b) (NC b) 0 0 (MQ below (QIc D cA ad (shC b) (NC b) Q A0) args s 0 0 A0) σ 0 [some (.ref (ad 0)), some (vI x1), some (vI x2), some (vI x3), none] [] := by
  unfold wp_X11_value at h
  refine g_aload_0 E dX11_value_0 ?_
  refine g_iload_1 E dX11_value_1 ?_
  refine g_iload_2 E dX11_value_2 ?_
  refine g_iload_3 E dX11_value_3 ?_
  refine g_callvI E my_X11_itemOf mi_X11_itemOf msel_X11_itemOf ml_RX11_223 (rm_ok (by decide) (by decide)) ⟨Nat.zero_le _, Nat.zero_le _⟩ (kC_0 b) (sC_0 b) rfl (m_X11_itemOf E.2.2.1 c1 c2 c3 hσ h) rfl rfl (Nat.le_of_ble_eq_true rfl) dX11_value_4 (fun r1 σ2 cr1 hσ2 h => ?_)
  refine g_istore_4 E rfl (by decide) dX11_value_7 ?_
  refine g_iload_4 E dX11_value_9 ?_
  refine g_if_ge E cr1 djX11_value_11 (fun hc => ?_) (fun hc => ?_)
  · replace h := h.1 hc
    refine g_aload_0 E dX11_value_19 ?_
    refine g_getR E fl_RX11_69 (kC_0 b) (sC_0 b) rfl dX11_value_20 ?_
    refine g_iload_4 E dX11_value_23 ?_
    refine g_callvI E my_X9_valueOf mi_X9_valueOf msel_X9_valueOf ml_RX11_256 (rm_ok (by decide) (by decide)) ⟨Nat.zero_le _, Nat.zero_le _⟩ (kC_50 b) (sC_50 b) rfl (m_X9_valueOf E.2.2.1 cr1 hσ2 h) rfl rfl (Nat.le_of_ble_eq_true rfl) dX11_value_25 (fun r3 σ4 cr3 hσ4 h => ?_)
    exact g_iret E hr cr3 h hσ4 dX11_value_28
  · replace h := h.2 hc
    refine g_bipush E (by decide) dX11_value_14 ?_
    refine g_goto E djX11_value_16 ?_
    exact g_iret E hr cl_m2 h hσ2 dX11_value_28
end
theorem m_X11_value {Z : (Nat → Nat) × (Nat → Nat)} {l : Launch} {D : va_G} {cA : Nat → ClassId} {ad : Nat → Nat} {b : Bool} {x1 x2 x3 : Int} {σ : St} {Q : Int → St → Prop} (hA : AdOk (NC b) ad) (c1 : C32 x1) (c2 : C32 x2) (c3 : C32 x3) (hσ : CanS (shC b) (NC b) σ) (h : wp_X11_value x1 x2 x3 σ Q) : KtI Z l D cA ad (shC b) (NC b) yX11_value cX11_value 5 (some .int) 7 [.ref (ad 0), vI x1, vI x2, vI x3] σ Q :=
  KtI.of my_X11_value hA [some (.ref (ad 0)), some (vI x1), some (vI x2), some (vI x3), none] (Nat.le_of_ble_eq_true rfl) rfl (fun p e s m args below meth c A0 E hr => t_X11_value E hr x1 x2 x3 σ c1 c2 c3 hσ h)
