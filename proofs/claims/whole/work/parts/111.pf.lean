theorem dX4_labelBit_0 : Dc cX4_labelBit 0 (.iload_n 0) 1 1 := ⟨by decide +kernel, rfl⟩
theorem djX4_labelBit_1 : Dj cX4_labelBit 1 (.ifCond .lt 15) 3 4 15 16 := ⟨by decide +kernel, rfl, by decide⟩
theorem dX4_labelBit_4 : Dc cX4_labelBit 4 (.iload_n 0) 1 5 := ⟨by decide +kernel, rfl⟩
theorem dX4_labelBit_5 : Dc cX4_labelBit 5 (.bipush 100) 2 7 := ⟨by decide +kernel, rfl⟩
theorem djX4_labelBit_7 : Dj cX4_labelBit 7 (.if_icmp .ge 9) 3 10 9 16 := ⟨by decide +kernel, rfl, by decide⟩
theorem dX4_labelBit_10 : Dc cX4_labelBit 10 (.iconst 1) 1 11 := ⟨by decide +kernel, rfl⟩
theorem dX4_labelBit_11 : Dc cX4_labelBit 11 (.iload_n 0) 1 12 := ⟨by decide +kernel, rfl⟩
theorem dX4_labelBit_12 : Dc cX4_labelBit 12 (.ishl) 1 13 := ⟨by decide +kernel, rfl⟩
theorem djX4_labelBit_13 : Dj cX4_labelBit 13 (.goto 4) 3 16 4 17 := ⟨by decide +kernel, rfl, by decide⟩
theorem dX4_labelBit_16 : Dc cX4_labelBit 16 (.iconst 0) 1 17 := ⟨by decide +kernel, rfl⟩
theorem dX4_labelBit_17 : Dc cX4_labelBit 17 (.ireturn) 1 18 := ⟨by decide +kernel, rfl⟩
section
variable {p : Program} {l : Launch} {e : Env} {s : State} {m : MethodId} {args : Array Value} {below : List Frame} {meth : Method} {c : Code} {A0 : Nat → Prop} {D : va_G} {cA : Nat → ClassId} {ad : Nat → Nat} {Z : (Nat → Nat) × (Nat → Nat)} {Q : Int → St → Prop} {b : Bool}
set_option maxHeartbeats 4000000 in
set_option maxRecDepth 100000 in
theorem t_X4_labelBit_b16 (E : Ev p s m args meth c cX4_labelBit 1 RX4 A0 D cA ad (NC b) Z) (hr : meth.sig.returnType = (some .int)) (σ : St) (hσ : CanS (shC b) (NC b) σ) (h : wp_X4_labelBit_b16 Q  σ) : G p l e (rmL 1 0 0) s m args below meth c 1 A0 D cA ad (shC b) (NC b) 0 0 (MQ below (QIc D cA ad (shC b) (NC b) Q A0) args s 0 0 A0) σ 16 [none] [] := by
  unfold wp_X4_labelBit_b16 at h
  refine g_iconst E dX4_labelBit_16 ?_
  exact g_iret E hr cl_0 h hσ dX4_labelBit_17
set_option maxHeartbeats 4000000 in
set_option maxRecDepth 100000 in
theorem t_X4_labelBit (E : Ev p s m args meth c cX4_labelBit 1 RX4 A0 D cA ad (NC b) Z) (hr : meth.sig.returnType = (some .int)) (x0 : Int) (σ : St) (c0 : C32 x0) (hσ : CanS (shC b) (NC b) σ) (h : wp_X4_labelBit x0 σ Q) : G p l e (rmL 1 0 0) s m args below meth c 1 A0 D cA ad (shC b) (NC b) 0 0 (MQ below (QIc D cA ad (shC b) (NC b) Q A0) args s 0 0 A0) σ 0 [some (vI x0)] [] := by
  unfold wp_X4_labelBit at h
  refine g_iload_0 E dX4_labelBit_0 ?_
  refine g_if_lt E c0 djX4_labelBit_1 (fun hc => ?_) (fun hc => ?_)
  · replace h := h.1 hc
    exact (t_X4_labelBit_b16 E hr σ hσ h).weak (w_d w_n)
  · replace h := h.2 hc
    refine g_iload_0 E dX4_labelBit_4 ?_
    refine g_bipush E (by decide) dX4_labelBit_5 ?_
    refine g_icmp_ge E c0 cl_100 djX4_labelBit_7 (fun hc => ?_) (fun hc => ?_)
    · replace h := h.1 hc
      exact (t_X4_labelBit_b16 E hr σ hσ h).weak (w_d w_n)
    · replace h := h.2 hc
      refine g_iconst E dX4_labelBit_10 ?_
      refine g_iload_0 E dX4_labelBit_11 ?_
      refine g_ishl E dX4_labelBit_12 ?_
      refine g_goto E djX4_labelBit_13 ?_
      exact g_iret E hr (c32_t _) h hσ dX4_labelBit_17
end
theorem m_X4_labelBit {Z : (Nat → Nat) × (Nat → Nat)} {l : Launch} {D : va_G} {cA : Nat → ClassId} {ad : Nat → Nat} {b : Bool} {x0 : Int} {σ : St} {Q : Int → St → Prop} (hA : AdOk (NC b) ad) (c0 : C32 x0) (hσ : CanS (shC b) (NC b) σ) (h : wp_X4_labelBit x0 σ Q) : KtI Z l D cA ad (shC b) (NC b) yX4_labelBit cX4_labelBit 1 (some .int) 1 [vI x0] σ Q :=
  KtI.of my_X4_labelBit hA [some (vI x0)] (Nat.le_of_ble_eq_true rfl) rfl (fun p e s m args below meth c A0 E hr => t_X4_labelBit E hr x0 σ c0 hσ h)
theorem dX4_partsWithin_0 : Dc cX4_partsWithin 0 (.aload_n 0) 1 1 := ⟨by decide +kernel, rfl⟩
theorem dX4_partsWithin_1 : Dc cX4_partsWithin 1 (.getfield 15) 3 4 := ⟨by decide +kernel, rfl⟩
theorem dX4_partsWithin_4 : Dc cX4_partsWithin 4 (.iload_n 1) 1 5 := ⟨by decide +kernel, rfl⟩
theorem dX4_partsWithin_5 : Dc cX4_partsWithin 5 (.iaload) 1 6 := ⟨by decide +kernel, rfl⟩
theorem dX4_partsWithin_6 : Dc cX4_partsWithin 6 (.invokestatic 71) 3 9 := ⟨by decide +kernel, rfl⟩
theorem dX4_partsWithin_9 : Dc cX4_partsWithin 9 (.aload_n 0) 1 10 := ⟨by decide +kernel, rfl⟩
theorem dX4_partsWithin_10 : Dc cX4_partsWithin 10 (.getfield 18) 3 13 := ⟨by decide +kernel, rfl⟩
theorem dX4_partsWithin_13 : Dc cX4_partsWithin 13 (.iload_n 1) 1 14 := ⟨by decide +kernel, rfl⟩
theorem dX4_partsWithin_14 : Dc cX4_partsWithin 14 (.iaload) 1 15 := ⟨by decide +kernel, rfl⟩
theorem dX4_partsWithin_15 : Dc cX4_partsWithin 15 (.invokestatic 71) 3 18 := ⟨by decide +kernel, rfl⟩
theorem dX4_partsWithin_18 : Dc cX4_partsWithin 18 (.ior) 1 19 := ⟨by decide +kernel, rfl⟩
theorem dX4_partsWithin_19 : Dc cX4_partsWithin 19 (.istore_n 3) 1 20 := ⟨by decide +kernel, rfl⟩
theorem dX4_partsWithin_20 : Dc cX4_partsWithin 20 (.iload_n 3) 1 21 := ⟨by decide +kernel, rfl⟩
theorem dX4_partsWithin_21 : Dc cX4_partsWithin 21 (.iload_n 2) 1 22 := ⟨by decide +kernel, rfl⟩
theorem dX4_partsWithin_22 : Dc cX4_partsWithin 22 (.iand) 1 23 := ⟨by decide +kernel, rfl⟩
theorem dX4_partsWithin_23 : Dc cX4_partsWithin 23 (.iload_n 3) 1 24 := ⟨by decide +kernel, rfl⟩
theorem djX4_partsWithin_24 : Dj cX4_partsWithin 24 (.if_icmp .ne 7) 3 27 7 31 := ⟨by decide +kernel, rfl, by decide⟩
theorem dX4_partsWithin_27 : Dc cX4_partsWithin 27 (.iconst 1) 1 28 := ⟨by decide +kernel, rfl⟩
theorem djX4_partsWithin_28 : Dj cX4_partsWithin 28 (.goto 4) 3 31 4 32 := ⟨by decide +kernel, rfl, by decide⟩
theorem dX4_partsWithin_31 : Dc cX4_partsWithin 31 (.iconst 0) 1 32 := ⟨by decide +kernel, rfl⟩
theorem dX4_partsWithin_32 : Dc cX4_partsWithin 32 (.ireturn) 1 33 := ⟨by decide +kernel, rfl⟩
section
variable {p : Program} {l : Launch} {e : Env} {s : State} {m : MethodId} {args : Array Value} {below : List Frame} {meth : Method} {c : Code} {A0 : Nat → Prop} {D : va_G} {cA : Nat → ClassId} {ad : Nat → Nat} {Z : (Nat → Nat) × (Nat → Nat)} {Q : Int → St → Prop} {b : Bool}
set_option maxHeartbeats 4000000 in
set_option maxRecDepth 100000 in
theorem t_X4_partsWithin (E : Ev p s m args meth c cX4_partsWithin 4 RX4 A0 D cA ad (NC b) Z) (hr : meth.sig.returnType = (some .boolean)) (x1 : Int) (x2 : Int) (σ : St) (c1 : C32 x1) (c2 : C32 x2) (hσ : CanS (shC b) (NC b) σ) (h : wp_X4_partsWithin x1 x2 σ Q) : G p l e (rmL 2 0 0) s m args below meth c 4 A0 D cA ad (shC b) (NC b) 0 0 (MQ below (QIc D cA ad (shC b) (NC b) Q A0) args s 0 0 A0) σ 0 [some (.ref (ad 14)), some (vI x1), some (vI x2), none] [] := by
  unfold wp_X4_partsWithin at h
  refine g_aload_0 E dX4_partsWithin_0 ?_
  refine g_getR E fl_RX4_15 (kC_14 b) (sC_14 b) rfl dX4_partsWithin_1 ?_
  refine g_iload_1 E dX4_partsWithin_4 ?_
  refine g_iald E (kC_16 b) (sC_16 b) (by decide) h.1 dX4_partsWithin_5 ?_
  replace h := h.2
  refine g_callsI E my_X4_labelBit ms_X4_labelBit ml_RX4_71 (rm_ok (by decide) (by decide)) ⟨Nat.zero_le _, Nat.zero_le _⟩ (m_X4_labelBit E.2.2.1 (aC_16 hσ _) hσ h) rfl rfl (Nat.le_of_ble_eq_true rfl) dX4_partsWithin_6 (fun r1 σ2 cr1 hσ2 h => ?_)
  refine g_aload_0 E dX4_partsWithin_9 ?_
  refine g_getR E fl_RX4_18 (kC_14 b) (sC_14 b) rfl dX4_partsWithin_10 ?_
  refine g_iload_1 E dX4_partsWithin_13 ?_
  refine g_iald E (kC_17 b) (sC_17 b) (by decide) h.1 dX4_partsWithin_14 ?_
  replace h := h.2
  refine g_callsI E my_X4_labelBit ms_X4_labelBit ml_RX4_71 (rm_ok (by decide) (by decide)) ⟨Nat.zero_le _, Nat.zero_le _⟩ (m_X4_labelBit E.2.2.1 (aC_17 hσ2 _) hσ2 h) rfl rfl (Nat.le_of_ble_eq_true rfl) dX4_partsWithin_15 (fun r3 σ4 cr3 hσ4 h => ?_)
  refine g_ior E dX4_partsWithin_18 ?_
  refine g_nmI (fun v5 ev5 => ?_)
  replace h := h v5 ev5
  have cv5 : C32 v5 := by rw [ev5]; exact (c32_t _)
  refine g_istore_3 E rfl (by decide) dX4_partsWithin_19 ?_
  refine g_iload_3 E dX4_partsWithin_20 ?_
  refine g_iload_2 E dX4_partsWithin_21 ?_
  refine g_iand E dX4_partsWithin_22 ?_
  refine g_iload_3 E dX4_partsWithin_23 ?_
  refine g_icmp_ne E (c32_t _) cv5 djX4_partsWithin_24 (fun hc => ?_) (fun hc => ?_)
  · replace h := h.1 hc
    refine g_iconst E dX4_partsWithin_31 ?_
    exact g_zret E hr (Or.inl rfl) h hσ4 dX4_partsWithin_32
  · replace h := h.2 hc
    refine g_iconst E dX4_partsWithin_27 ?_
    refine g_goto E djX4_partsWithin_28 ?_
    exact g_zret E hr (Or.inr rfl) h hσ4 dX4_partsWithin_32
end
theorem m_X4_partsWithin {Z : (Nat → Nat) × (Nat → Nat)} {l : Launch} {D : va_G} {cA : Nat → ClassId} {ad : Nat → Nat} {b : Bool} {x1 x2 : Int} {σ : St} {Q : Int → St → Prop} (hA : AdOk (NC b) ad) (c1 : C32 x1) (c2 : C32 x2) (hσ : CanS (shC b) (NC b) σ) (h : wp_X4_partsWithin x1 x2 σ Q) : KtI Z l D cA ad (shC b) (NC b) yX4_partsWithin cX4_partsWithin 4 (some .boolean) 2 [.ref (ad 14), vI x1, vI x2] σ Q :=
  KtI.of my_X4_partsWithin hA [some (.ref (ad 14)), some (vI x1), some (vI x2), none] (Nat.le_of_ble_eq_true rfl) rfl (fun p e s m args below meth c A0 E hr => t_X4_partsWithin E hr x1 x2 σ c1 c2 hσ h)
theorem dX4_fruitfulLabels_0 : Dc cX4_fruitfulLabels 0 (.iconst 0) 1 1 := ⟨by decide +kernel, rfl⟩
theorem dX4_fruitfulLabels_1 : Dc cX4_fruitfulLabels 1 (.istore_n 1) 1 2 := ⟨by decide +kernel, rfl⟩
theorem dX4_fruitfulLabels_2 : Dc cX4_fruitfulLabels 2 (.iconst 0) 1 3 := ⟨by decide +kernel, rfl⟩
theorem dX4_fruitfulLabels_3 : Dc cX4_fruitfulLabels 3 (.istore_n 2) 1 4 := ⟨by decide +kernel, rfl⟩
theorem dX4_fruitfulLabels_4 : Dc cX4_fruitfulLabels 4 (.iload_n 2) 1 5 := ⟨by decide +kernel, rfl⟩
theorem dX4_fruitfulLabels_5 : Dc cX4_fruitfulLabels 5 (.bipush 12) 2 7 := ⟨by decide +kernel, rfl⟩
theorem djX4_fruitfulLabels_7 : Dj cX4_fruitfulLabels 7 (.if_icmp .gt 54) 3 10 54 61 := ⟨by decide +kernel, rfl, by decide⟩
theorem dX4_fruitfulLabels_10 : Dc cX4_fruitfulLabels 10 (.iconst 0) 1 11 := ⟨by decide +kernel, rfl⟩
theorem dX4_fruitfulLabels_11 : Dc cX4_fruitfulLabels 11 (.istore_n 3) 1 12 := ⟨by decide +kernel, rfl⟩
theorem dX4_fruitfulLabels_12 : Dc cX4_fruitfulLabels 12 (.iload_n 3) 1 13 := ⟨by decide +kernel, rfl⟩
theorem dX4_fruitfulLabels_13 : Dc cX4_fruitfulLabels 13 (.aload_n 0) 1 14 := ⟨by decide +kernel, rfl⟩
theorem dX4_fruitfulLabels_14 : Dc cX4_fruitfulLabels 14 (.getfield 43) 3 17 := ⟨by decide +kernel, rfl⟩
theorem djX4_fruitfulLabels_17 : Dj cX4_fruitfulLabels 17 (.if_icmp .ge 38) 3 20 38 55 := ⟨by decide +kernel, rfl, by decide⟩
theorem dX4_fruitfulLabels_20 : Dc cX4_fruitfulLabels 20 (.aload_n 0) 1 21 := ⟨by decide +kernel, rfl⟩
theorem dX4_fruitfulLabels_21 : Dc cX4_fruitfulLabels 21 (.getfield 27) 3 24 := ⟨by decide +kernel, rfl⟩
theorem dX4_fruitfulLabels_24 : Dc cX4_fruitfulLabels 24 (.iload_n 3) 1 25 := ⟨by decide +kernel, rfl⟩
theorem dX4_fruitfulLabels_25 : Dc cX4_fruitfulLabels 25 (.baload) 1 26 := ⟨by decide +kernel, rfl⟩
theorem djX4_fruitfulLabels_26 : Dj cX4_fruitfulLabels 26 (.ifCond .ne 23) 3 29 23 49 := ⟨by decide +kernel, rfl, by decide⟩
theorem dX4_fruitfulLabels_29 : Dc cX4_fruitfulLabels 29 (.aload_n 0) 1 30 := ⟨by decide +kernel, rfl⟩
theorem dX4_fruitfulLabels_30 : Dc cX4_fruitfulLabels 30 (.iload_n 3) 1 31 := ⟨by decide +kernel, rfl⟩
theorem dX4_fruitfulLabels_31 : Dc cX4_fruitfulLabels 31 (.iload_n 1) 1 32 := ⟨by decide +kernel, rfl⟩
theorem dX4_fruitfulLabels_32 : Dc cX4_fruitfulLabels 32 (.invokevirtual 67) 3 35 := ⟨by decide +kernel, rfl⟩
theorem djX4_fruitfulLabels_35 : Dj cX4_fruitfulLabels 35 (.ifCond .eq 14) 3 38 14 49 := ⟨by decide +kernel, rfl, by decide⟩
theorem dX4_fruitfulLabels_38 : Dc cX4_fruitfulLabels 38 (.iload_n 1) 1 39 := ⟨by decide +kernel, rfl⟩
theorem dX4_fruitfulLabels_39 : Dc cX4_fruitfulLabels 39 (.iconst 1) 1 40 := ⟨by decide +kernel, rfl⟩
theorem dX4_fruitfulLabels_40 : Dc cX4_fruitfulLabels 40 (.aload_n 0) 1 41 := ⟨by decide +kernel, rfl⟩
theorem dX4_fruitfulLabels_41 : Dc cX4_fruitfulLabels 41 (.getfield 9) 3 44 := ⟨by decide +kernel, rfl⟩
theorem dX4_fruitfulLabels_44 : Dc cX4_fruitfulLabels 44 (.iload_n 3) 1 45 := ⟨by decide +kernel, rfl⟩
theorem dX4_fruitfulLabels_45 : Dc cX4_fruitfulLabels 45 (.iaload) 1 46 := ⟨by decide +kernel, rfl⟩
theorem dX4_fruitfulLabels_46 : Dc cX4_fruitfulLabels 46 (.ishl) 1 47 := ⟨by decide +kernel, rfl⟩
theorem dX4_fruitfulLabels_47 : Dc cX4_fruitfulLabels 47 (.ior) 1 48 := ⟨by decide +kernel, rfl⟩
theorem dX4_fruitfulLabels_48 : Dc cX4_fruitfulLabels 48 (.istore_n 1) 1 49 := ⟨by decide +kernel, rfl⟩
theorem dX4_fruitfulLabels_49 : Dc cX4_fruitfulLabels 49 (.iinc 3 1) 3 52 := ⟨by decide +kernel, rfl⟩
theorem djX4_fruitfulLabels_52 : Dj cX4_fruitfulLabels 52 (.goto (-40)) 3 55 (-40) 12 := ⟨by decide +kernel, rfl, by decide⟩
theorem dX4_fruitfulLabels_55 : Dc cX4_fruitfulLabels 55 (.iinc 2 1) 3 58 := ⟨by decide +kernel, rfl⟩
theorem djX4_fruitfulLabels_58 : Dj cX4_fruitfulLabels 58 (.goto (-54)) 3 61 (-54) 4 := ⟨by decide +kernel, rfl, by decide⟩
theorem dX4_fruitfulLabels_61 : Dc cX4_fruitfulLabels 61 (.iload_n 1) 1 62 := ⟨by decide +kernel, rfl⟩
theorem dX4_fruitfulLabels_62 : Dc cX4_fruitfulLabels 62 (.ireturn) 1 63 := ⟨by decide +kernel, rfl⟩
section
variable {p : Program} {l : Launch} {e : Env} {s : State} {m : MethodId} {args : Array Value} {below : List Frame} {meth : Method} {c : Code} {A0 : Nat → Prop} {D : va_G} {cA : Nat → ClassId} {ad : Nat → Nat} {Z : (Nat → Nat) × (Nat → Nat)} {Q : Int → St → Prop} {b : Bool}
set_option maxHeartbeats 4000000 in
set_option maxRecDepth 100000 in
theorem t_X4_fruitfulLabels_b49 (E : Ev p s m args meth c cX4_fruitfulLabels 4 RX4 A0 D cA ad (NC b) Z) (hr : meth.sig.returnType = (some .int)) {K4 : Int → Int → St → Prop} (hK4 : ∀ (x1 : Int) (x2 : Int) (σ : St), C32 x1 → C32 x2 → CanS (shC b) (NC b) σ → K4 x1 x2 σ → G p l e (rmL 3 0 0) s m args below meth c 4 A0 D cA ad (shC b) (NC b) 0 0 (MQ below (QIc D cA ad (shC b) (NC b) Q A0) args s 0 0 A0) σ 4 [some (.ref (ad 14)), some (vI x1), some (vI x2), none] []) {K12 : Int → Int → Int → St → Prop} (hK12 : ∀ (x1 : Int) (x2 : Int) (x3 : Int) (σ : St), C32 x1 → C32 x2 → C32 x3 → CanS (shC b) (NC b) σ → K12 x1 x2 x3 σ → G p l e (rmL 3 0 0) s m args below meth c 4 A0 D cA ad (shC b) (NC b) 0 0 (MQ below (QIc D cA ad (shC b) (NC b) Q A0) args s 0 0 A0) σ 12 [some (.ref (ad 14)), some (vI x1), some (vI x2), some (vI x3)] []) (x1 : Int) (x2 : Int) (x3 : Int) (σ : St) (c1 : C32 x1) (c2 : C32 x2) (c3 : C32 x3) (hσ : CanS (shC b) (NC b) σ) (h : wp_X4_fruitfulLabels_b49 Q K4 K12 x1 x2 x3 σ) : G p l e (rmL 3 0 0) s m args below meth c 4 A0 D cA ad (shC b) (NC b) 0 0 (MQ below (QIc D cA ad (shC b) (NC b) Q A0) args s 0 0 A0) σ 49 [some (.ref (ad 14)), some (vI x1), some (vI x2), some (vI x3)] [] := by
  unfold wp_X4_fruitfulLabels_b49 at h
  refine g_iinc_3 E rfl (by decide) dX4_fruitfulLabels_49 (fun v5 ev5 => ?_)
  replace h := h v5 ev5
  have cv5 : C32 v5 := by rw [ev5]; exact c32_w _
  refine g_goto E djX4_fruitfulLabels_52 ?_
  exact (hK12 x1 x2 v5 σ c1 c2 cv5 hσ h).weak (w_k (w_k (w_k (w_k w_n))))
set_option maxHeartbeats 4000000 in
set_option maxRecDepth 100000 in
theorem t_X4_fruitfulLabels_l12 (E : Ev p s m args meth c cX4_fruitfulLabels 4 RX4 A0 D cA ad (NC b) Z) (hr : meth.sig.returnType = (some .int)) {K4 : Int → Int → St → Prop} (hK4 : ∀ (x1 : Int) (x2 : Int) (σ : St), C32 x1 → C32 x2 → CanS (shC b) (NC b) σ → K4 x1 x2 σ → G p l e (rmL 3 0 0) s m args below meth c 4 A0 D cA ad (shC b) (NC b) 0 0 (MQ below (QIc D cA ad (shC b) (NC b) Q A0) args s 0 0 A0) σ 4 [some (.ref (ad 14)), some (vI x1), some (vI x2), none] []) : ∀ (n : Nat) (x1 : Int) (x2 : Int) (x3 : Int) (σ : St), C32 x1 → C32 x2 → C32 x3 → CanS (shC b) (NC b) σ → wp_X4_fruitfulLabels_l12 Q K4 n x1 x2 x3 σ → G p l e (rmL 3 0 0) s m args below meth c 4 A0 D cA ad (shC b) (NC b) 0 0 (MQ below (QIc D cA ad (shC b) (NC b) Q A0) args s 0 0 A0) σ 12 [some (.ref (ad 14)), some (vI x1), some (vI x2), some (vI x3)] [] := by
  intro n
  induction n with
  | zero => intro _ _ _ _ _ _ _ _ h; exact h.elim
  | succ n ih =>
    intro x1 x2 x3 σ c1 c2 c3 hσ h
    unfold wp_X4_fruitfulLabels_l12 at h
    refine g_iload_3 E dX4_fruitfulLabels_12 ?_
    refine g_aload_0 E dX4_fruitfulLabels_13 ?_
    refine g_getI E fl_RX4_43 (kC_14 b) (sC_14 b) rfl dX4_fruitfulLabels_14 ?_
    refine g_icmp_ge E c3 (fC_14_0 hσ) djX4_fruitfulLabels_17 (fun hc => ?_) (fun hc => ?_)
    · replace h := h.1 hc
      refine g_iinc_2 E rfl (by decide) dX4_fruitfulLabels_55 (fun v1 ev1 => ?_)
      replace h := h v1 ev1
      have cv1 : C32 v1 := by rw [ev1]; exact c32_w _
      refine g_goto E djX4_fruitfulLabels_58 ?_
      exact (hK4 x1 v1 σ c1 cv1 hσ h).weak (w_k (w_k (w_k (w_d w_n))))
    · replace h := h.2 hc
      refine g_aload_0 E dX4_fruitfulLabels_20 ?_
      refine g_getR E fl_RX4_27 (kC_14 b) (sC_14 b) rfl dX4_fruitfulLabels_21 ?_
      refine g_iload_3 E dX4_fruitfulLabels_24 ?_
      refine g_zald E (kC_20 b) (sC_20 b) (by decide) h.1 dX4_fruitfulLabels_25 ?_
      replace h := h.2
      refine g_if_ne E (aC_20 hσ _) djX4_fruitfulLabels_26 (fun hc => ?_) (fun hc => ?_)
      · replace h := h.1 hc
        exact (t_X4_fruitfulLabels_b49 E hr hK4 ih x1 x2 x3 σ c1 c2 c3 hσ h).weak (w_k (w_k (w_k (w_k w_n))))
      · replace h := h.2 hc
        refine g_aload_0 E dX4_fruitfulLabels_29 ?_
        refine g_iload_3 E dX4_fruitfulLabels_30 ?_
        refine g_iload_1 E dX4_fruitfulLabels_31 ?_
        refine g_callvI E my_X4_partsWithin mi_X4_partsWithin msel_X4_partsWithin ml_RX4_67 (rm_ok (by decide) (by decide)) ⟨Nat.zero_le _, Nat.zero_le _⟩ (kC_14 b) (sC_14 b) rfl (m_X4_partsWithin E.2.2.1 c3 c1 hσ h) rfl rfl (Nat.le_of_ble_eq_true rfl) dX4_fruitfulLabels_32 (fun r2 σ3 cr2 hσ3 h => ?_)
        refine g_if_eq E cr2 djX4_fruitfulLabels_35 (fun hc => ?_) (fun hc => ?_)
        · replace h := h.1 hc
          exact (t_X4_fruitfulLabels_b49 E hr hK4 ih x1 x2 x3 σ3 c1 c2 c3 hσ3 h).weak (w_k (w_k (w_k (w_k w_n))))
        · replace h := h.2 hc
          refine g_iload_1 E dX4_fruitfulLabels_38 ?_
          refine g_iconst E dX4_fruitfulLabels_39 ?_
          refine g_aload_0 E dX4_fruitfulLabels_40 ?_
          refine g_getR E fl_RX4_9 (kC_14 b) (sC_14 b) rfl dX4_fruitfulLabels_41 ?_
          refine g_iload_3 E dX4_fruitfulLabels_44 ?_
          refine g_iald E (kC_15 b) (sC_15 b) (by decide) h.1 dX4_fruitfulLabels_45 ?_
          replace h := h.2
          refine g_ishl E dX4_fruitfulLabels_46 ?_
          refine g_ior E dX4_fruitfulLabels_47 ?_
          refine g_nmI (fun v4 ev4 => ?_)
          replace h := h v4 ev4
          have cv4 : C32 v4 := by rw [ev4]; exact (c32_t _)
          refine g_istore_1 E rfl (by decide) dX4_fruitfulLabels_48 ?_
          exact (t_X4_fruitfulLabels_b49 E hr hK4 ih v4 x2 x3 σ3 cv4 c2 c3 hσ3 h).weak (w_k (w_k (w_k (w_k w_n))))
set_option maxHeartbeats 4000000 in
set_option maxRecDepth 100000 in
theorem t_X4_fruitfulLabels_l4 (E : Ev p s m args meth c cX4_fruitfulLabels 4 RX4 A0 D cA ad (NC b) Z) (hr : meth.sig.returnType = (some .int)) : ∀ (n : Nat) (x1 : Int) (x2 : Int) (σ : St), C32 x1 → C32 x2 → CanS (shC b) (NC b) σ → wp_X4_fruitfulLabels_l4 Q n x1 x2 σ → G p l e (rmL 3 0 0) s m args below meth c 4 A0 D cA ad (shC b) (NC b) 0 0 (MQ below (QIc D cA ad (shC b) (NC b) Q A0) args s 0 0 A0) σ 4 [some (.ref (ad 14)), some (vI x1), some (vI x2), none] [] := by
  intro n
  induction n with
  | zero => intro _ _ _ _ _ _ h; exact h.elim
  | succ n ih =>
    intro x1 x2 σ c1 c2 hσ h
    unfold wp_X4_fruitfulLabels_l4 at h
    refine g_iload_2 E dX4_fruitfulLabels_4 ?_
    refine g_bipush E (by decide) dX4_fruitfulLabels_5 ?_
    refine g_icmp_gt E c2 cl_12 djX4_fruitfulLabels_7 (fun hc => ?_) (fun hc => ?_)
    · replace h := h.1 hc
      refine g_iload_1 E dX4_fruitfulLabels_61 ?_
      exact g_iret E hr c1 h hσ dX4_fruitfulLabels_62
    · replace h := h.2 hc
      refine g_iconst E dX4_fruitfulLabels_10 ?_
      refine g_istore_3 E rfl (by decide) dX4_fruitfulLabels_11 ?_
      exact (t_X4_fruitfulLabels_l12 E hr ih bigN x1 x2 0 σ c1 c2 cl_0 hσ h).weak (w_k (w_k (w_k (w_k w_n))))
set_option maxHeartbeats 4000000 in
set_option maxRecDepth 100000 in
theorem t_X4_fruitfulLabels (E : Ev p s m args meth c cX4_fruitfulLabels 4 RX4 A0 D cA ad (NC b) Z) (hr : meth.sig.returnType = (some .int)) (σ : St) (hσ : CanS (shC b) (NC b) σ) (h : wp_X4_fruitfulLabels  σ Q) : G p l e (rmL 3 0 0) s m args below meth c 4 A0 D cA ad (shC b) (NC b) 0 0 (MQ below (QIc D cA ad (shC b) (NC b) Q A0) args s 0 0 A0) σ 0 [some (.ref (ad 14)), none, none, none] [] := by
  unfold wp_X4_fruitfulLabels at h
  refine g_iconst E dX4_fruitfulLabels_0 ?_
  refine g_istore_1 E rfl (by decide) dX4_fruitfulLabels_1 ?_
  refine g_iconst E dX4_fruitfulLabels_2 ?_
  refine g_istore_2 E rfl (by decide) dX4_fruitfulLabels_3 ?_
  exact (t_X4_fruitfulLabels_l4 E hr bigN 0 0 σ cl_0 cl_0 hσ h).weak (w_k (w_k (w_k (w_d w_n))))
end
theorem m_X4_fruitfulLabels {Z : (Nat → Nat) × (Nat → Nat)} {l : Launch} {D : va_G} {cA : Nat → ClassId} {ad : Nat → Nat} {b : Bool} {σ : St} {Q : Int → St → Prop} (hA : AdOk (NC b) ad) (hσ : CanS (shC b) (NC b) σ) (h : wp_X4_fruitfulLabels  σ Q) : KtI Z l D cA ad (shC b) (NC b) yX4_fruitfulLabels cX4_fruitfulLabels 4 (some .int) 3 [.ref (ad 14)] σ Q :=
  KtI.of my_X4_fruitfulLabels hA [some (.ref (ad 14)), none, none, none] (Nat.le_of_ble_eq_true rfl) rfl (fun p e s m args below meth c A0 E hr => t_X4_fruitfulLabels E hr σ hσ h)
theorem dX4_rulesAlive_0 : Dc cX4_rulesAlive 0 (.aload_n 0) 1 1 := ⟨by decide +kernel, rfl⟩
theorem dX4_rulesAlive_1 : Dc cX4_rulesAlive 1 (.getfield 43) 3 4 := ⟨by decide +kernel, rfl⟩
theorem djX4_rulesAlive_4 : Dj cX4_rulesAlive 4 (.ifCond .ne 5) 3 7 5 9 := ⟨by decide +kernel, rfl, by decide⟩
theorem dX4_rulesAlive_7 : Dc cX4_rulesAlive 7 (.lconst 0) 1 8 := ⟨by decide +kernel, rfl⟩
theorem dX4_rulesAlive_8 : Dc cX4_rulesAlive 8 (.lreturn) 1 9 := ⟨by decide +kernel, rfl⟩
theorem dX4_rulesAlive_9 : Dc cX4_rulesAlive 9 (.aload_n 0) 1 10 := ⟨by decide +kernel, rfl⟩
theorem dX4_rulesAlive_10 : Dc cX4_rulesAlive 10 (.invokevirtual 60) 3 13 := ⟨by decide +kernel, rfl⟩
theorem dX4_rulesAlive_13 : Dc cX4_rulesAlive 13 (.istore_n 1) 1 14 := ⟨by decide +kernel, rfl⟩
theorem dX4_rulesAlive_14 : Dc cX4_rulesAlive 14 (.iconst 1) 1 15 := ⟨by decide +kernel, rfl⟩
theorem dX4_rulesAlive_15 : Dc cX4_rulesAlive 15 (.aload_n 0) 1 16 := ⟨by decide +kernel, rfl⟩
theorem dX4_rulesAlive_16 : Dc cX4_rulesAlive 16 (.invokevirtual 64) 3 19 := ⟨by decide +kernel, rfl⟩
theorem dX4_rulesAlive_19 : Dc cX4_rulesAlive 19 (.ishl) 1 20 := ⟨by decide +kernel, rfl⟩
theorem dX4_rulesAlive_20 : Dc cX4_rulesAlive 20 (.istore_n 2) 1 21 := ⟨by decide +kernel, rfl⟩
theorem dX4_rulesAlive_21 : Dc cX4_rulesAlive 21 (.lconst 0) 1 22 := ⟨by decide +kernel, rfl⟩
theorem dX4_rulesAlive_22 : Dc cX4_rulesAlive 22 (.lstore_n 3) 1 23 := ⟨by decide +kernel, rfl⟩
theorem dX4_rulesAlive_23 : Dc cX4_rulesAlive 23 (.iconst 0) 1 24 := ⟨by decide +kernel, rfl⟩
theorem dX4_rulesAlive_24 : Dc cX4_rulesAlive 24 (.istore 5) 2 26 := ⟨by decide +kernel, rfl⟩
theorem dX4_rulesAlive_26 : Dc cX4_rulesAlive 26 (.iload 5) 2 28 := ⟨by decide +kernel, rfl⟩
theorem dX4_rulesAlive_28 : Dc cX4_rulesAlive 28 (.bipush 12) 2 30 := ⟨by decide +kernel, rfl⟩
theorem djX4_rulesAlive_30 : Dj cX4_rulesAlive 30 (.if_icmp .gt 93) 3 33 93 123 := ⟨by decide +kernel, rfl, by decide⟩
theorem dX4_rulesAlive_33 : Dc cX4_rulesAlive 33 (.iconst 0) 1 34 := ⟨by decide +kernel, rfl⟩
theorem dX4_rulesAlive_34 : Dc cX4_rulesAlive 34 (.istore 6) 2 36 := ⟨by decide +kernel, rfl⟩
theorem dX4_rulesAlive_36 : Dc cX4_rulesAlive 36 (.iload 6) 2 38 := ⟨by decide +kernel, rfl⟩
theorem dX4_rulesAlive_38 : Dc cX4_rulesAlive 38 (.aload_n 0) 1 39 := ⟨by decide +kernel, rfl⟩
theorem dX4_rulesAlive_39 : Dc cX4_rulesAlive 39 (.getfield 43) 3 42 := ⟨by decide +kernel, rfl⟩
theorem djX4_rulesAlive_42 : Dj cX4_rulesAlive 42 (.if_icmp .ge 75) 3 45 75 117 := ⟨by decide +kernel, rfl, by decide⟩
theorem dX4_rulesAlive_45 : Dc cX4_rulesAlive 45 (.aload_n 0) 1 46 := ⟨by decide +kernel, rfl⟩
theorem dX4_rulesAlive_46 : Dc cX4_rulesAlive 46 (.getfield 27) 3 49 := ⟨by decide +kernel, rfl⟩
theorem dX4_rulesAlive_49 : Dc cX4_rulesAlive 49 (.iload 6) 2 51 := ⟨by decide +kernel, rfl⟩
theorem dX4_rulesAlive_51 : Dc cX4_rulesAlive 51 (.baload) 1 52 := ⟨by decide +kernel, rfl⟩
theorem djX4_rulesAlive_52 : Dj cX4_rulesAlive 52 (.ifCond .ne 59) 3 55 59 111 := ⟨by decide +kernel, rfl, by decide⟩
theorem dX4_rulesAlive_55 : Dc cX4_rulesAlive 55 (.iload_n 2) 1 56 := ⟨by decide +kernel, rfl⟩
theorem dX4_rulesAlive_56 : Dc cX4_rulesAlive 56 (.aload_n 0) 1 57 := ⟨by decide +kernel, rfl⟩
theorem dX4_rulesAlive_57 : Dc cX4_rulesAlive 57 (.getfield 9) 3 60 := ⟨by decide +kernel, rfl⟩
theorem dX4_rulesAlive_60 : Dc cX4_rulesAlive 60 (.iload 6) 2 62 := ⟨by decide +kernel, rfl⟩
theorem dX4_rulesAlive_62 : Dc cX4_rulesAlive 62 (.iaload) 1 63 := ⟨by decide +kernel, rfl⟩
theorem dX4_rulesAlive_63 : Dc cX4_rulesAlive 63 (.ishr) 1 64 := ⟨by decide +kernel, rfl⟩
theorem dX4_rulesAlive_64 : Dc cX4_rulesAlive 64 (.iconst 1) 1 65 := ⟨by decide +kernel, rfl⟩
theorem dX4_rulesAlive_65 : Dc cX4_rulesAlive 65 (.iand) 1 66 := ⟨by decide +kernel, rfl⟩
theorem dX4_rulesAlive_66 : Dc cX4_rulesAlive 66 (.iconst 1) 1 67 := ⟨by decide +kernel, rfl⟩
theorem djX4_rulesAlive_67 : Dj cX4_rulesAlive 67 (.if_icmp .ne 44) 3 70 44 111 := ⟨by decide +kernel, rfl, by decide⟩
theorem dX4_rulesAlive_70 : Dc cX4_rulesAlive 70 (.aload_n 0) 1 71 := ⟨by decide +kernel, rfl⟩
theorem dX4_rulesAlive_71 : Dc cX4_rulesAlive 71 (.iload 6) 2 73 := ⟨by decide +kernel, rfl⟩
theorem dX4_rulesAlive_73 : Dc cX4_rulesAlive 73 (.iload_n 1) 1 74 := ⟨by decide +kernel, rfl⟩
theorem dX4_rulesAlive_74 : Dc cX4_rulesAlive 74 (.invokevirtual 67) 3 77 := ⟨by decide +kernel, rfl⟩
theorem djX4_rulesAlive_77 : Dj cX4_rulesAlive 77 (.ifCond .eq 34) 3 80 34 111 := ⟨by decide +kernel, rfl, by decide⟩
theorem dX4_rulesAlive_80 : Dc cX4_rulesAlive 80 (.lload_n 3) 1 81 := ⟨by decide +kernel, rfl⟩
theorem dX4_rulesAlive_81 : Dc cX4_rulesAlive 81 (.lconst 1) 1 82 := ⟨by decide +kernel, rfl⟩
theorem dX4_rulesAlive_82 : Dc cX4_rulesAlive 82 (.iload 6) 2 84 := ⟨by decide +kernel, rfl⟩
theorem dX4_rulesAlive_84 : Dc cX4_rulesAlive 84 (.lshl) 1 85 := ⟨by decide +kernel, rfl⟩
theorem dX4_rulesAlive_85 : Dc cX4_rulesAlive 85 (.lor) 1 86 := ⟨by decide +kernel, rfl⟩
theorem dX4_rulesAlive_86 : Dc cX4_rulesAlive 86 (.lstore_n 3) 1 87 := ⟨by decide +kernel, rfl⟩
theorem dX4_rulesAlive_87 : Dc cX4_rulesAlive 87 (.iload_n 2) 1 88 := ⟨by decide +kernel, rfl⟩
theorem dX4_rulesAlive_88 : Dc cX4_rulesAlive 88 (.aload_n 0) 1 89 := ⟨by decide +kernel, rfl⟩
theorem dX4_rulesAlive_89 : Dc cX4_rulesAlive 89 (.getfield 15) 3 92 := ⟨by decide +kernel, rfl⟩
theorem dX4_rulesAlive_92 : Dc cX4_rulesAlive 92 (.iload 6) 2 94 := ⟨by decide +kernel, rfl⟩
theorem dX4_rulesAlive_94 : Dc cX4_rulesAlive 94 (.iaload) 1 95 := ⟨by decide +kernel, rfl⟩
theorem dX4_rulesAlive_95 : Dc cX4_rulesAlive 95 (.invokestatic 71) 3 98 := ⟨by decide +kernel, rfl⟩
theorem dX4_rulesAlive_98 : Dc cX4_rulesAlive 98 (.aload_n 0) 1 99 := ⟨by decide +kernel, rfl⟩
theorem dX4_rulesAlive_99 : Dc cX4_rulesAlive 99 (.getfield 18) 3 102 := ⟨by decide +kernel, rfl⟩
theorem dX4_rulesAlive_102 : Dc cX4_rulesAlive 102 (.iload 6) 2 104 := ⟨by decide +kernel, rfl⟩
theorem dX4_rulesAlive_104 : Dc cX4_rulesAlive 104 (.iaload) 1 105 := ⟨by decide +kernel, rfl⟩
theorem dX4_rulesAlive_105 : Dc cX4_rulesAlive 105 (.invokestatic 71) 3 108 := ⟨by decide +kernel, rfl⟩
theorem dX4_rulesAlive_108 : Dc cX4_rulesAlive 108 (.ior) 1 109 := ⟨by decide +kernel, rfl⟩
theorem dX4_rulesAlive_109 : Dc cX4_rulesAlive 109 (.ior) 1 110 := ⟨by decide +kernel, rfl⟩
theorem dX4_rulesAlive_110 : Dc cX4_rulesAlive 110 (.istore_n 2) 1 111 := ⟨by decide +kernel, rfl⟩
theorem dX4_rulesAlive_111 : Dc cX4_rulesAlive 111 (.iinc 6 1) 3 114 := ⟨by decide +kernel, rfl⟩
theorem djX4_rulesAlive_114 : Dj cX4_rulesAlive 114 (.goto (-78)) 3 117 (-78) 36 := ⟨by decide +kernel, rfl, by decide⟩
theorem dX4_rulesAlive_117 : Dc cX4_rulesAlive 117 (.iinc 5 1) 3 120 := ⟨by decide +kernel, rfl⟩
theorem djX4_rulesAlive_120 : Dj cX4_rulesAlive 120 (.goto (-94)) 3 123 (-94) 26 := ⟨by decide +kernel, rfl, by decide⟩
theorem dX4_rulesAlive_123 : Dc cX4_rulesAlive 123 (.lload_n 3) 1 124 := ⟨by decide +kernel, rfl⟩
theorem dX4_rulesAlive_124 : Dc cX4_rulesAlive 124 (.lreturn) 1 125 := ⟨by decide +kernel, rfl⟩
section
variable {p : Program} {l : Launch} {e : Env} {s : State} {m : MethodId} {args : Array Value} {below : List Frame} {meth : Method} {c : Code} {A0 : Nat → Prop} {D : va_G} {cA : Nat → ClassId} {ad : Nat → Nat} {Z : (Nat → Nat) × (Nat → Nat)} {Q : Int → St → Prop} {b : Bool}
set_option maxHeartbeats 4000000 in
set_option maxRecDepth 100000 in
theorem t_X4_rulesAlive_b111 (E : Ev p s m args meth c cX4_rulesAlive 7 RX4 A0 D cA ad (NC b) Z) (hr : meth.sig.returnType = (some .long)) {K26 : Int → Int → Int → Int → St → Prop} (hK26 : ∀ (x1 : Int) (x2 : Int) (x3 : Int) (x5 : Int) (σ : St), C32 x1 → C32 x2 → C64 x3 → C32 x5 → CanS (shC b) (NC b) σ → K26 x1 x2 x3 x5 σ → G p l e (rmL 4 0 0) s m args below meth c 7 A0 D cA ad (shC b) (NC b) 0 0 (MQ below (QLc D cA ad (shC b) (NC b) Q A0) args s 0 0 A0) σ 26 [some (.ref (ad 14)), some (vI x1), some (vI x2), some (vL x3), none, some (vI x5), none] []) {K36 : Int → Int → Int → Int → Int → St → Prop} (hK36 : ∀ (x1 : Int) (x2 : Int) (x3 : Int) (x5 : Int) (x6 : Int) (σ : St), C32 x1 → C32 x2 → C64 x3 → C32 x5 → C32 x6 → CanS (shC b) (NC b) σ → K36 x1 x2 x3 x5 x6 σ → G p l e (rmL 4 0 0) s m args below meth c 7 A0 D cA ad (shC b) (NC b) 0 0 (MQ below (QLc D cA ad (shC b) (NC b) Q A0) args s 0 0 A0) σ 36 [some (.ref (ad 14)), some (vI x1), some (vI x2), some (vL x3), none, some (vI x5), some (vI x6)] []) (x1 : Int) (x2 : Int) (x3 : Int) (x5 : Int) (x6 : Int) (σ : St) (c1 : C32 x1) (c2 : C32 x2) (c3 : C64 x3) (c5 : C32 x5) (c6 : C32 x6) (hσ : CanS (shC b) (NC b) σ) (h : wp_X4_rulesAlive_b111 Q K26 K36 x1 x2 x3 x5 x6 σ) : G p l e (rmL 4 0 0) s m args below meth c 7 A0 D cA ad (shC b) (NC b) 0 0 (MQ below (QLc D cA ad (shC b) (NC b) Q A0) args s 0 0 A0) σ 111 [some (.ref (ad 14)), some (vI x1), some (vI x2), some (vL x3), none, some (vI x5), some (vI x6)] [] := by
  unfold wp_X4_rulesAlive_b111 at h
  refine g_iinc_6 E rfl (by decide) dX4_rulesAlive_111 (fun v15 ev15 => ?_)
  replace h := h v15 ev15
  have cv15 : C32 v15 := by rw [ev15]; exact c32_w _
  refine g_goto E djX4_rulesAlive_114 ?_
  exact (hK36 x1 x2 x3 x5 v15 σ c1 c2 c3 c5 cv15 hσ h).weak (w_k (w_k (w_k (w_k (w_d (w_k (w_k w_n)))))))
set_option maxHeartbeats 4000000 in
set_option maxRecDepth 100000 in
theorem t_X4_rulesAlive_l36 (E : Ev p s m args meth c cX4_rulesAlive 7 RX4 A0 D cA ad (NC b) Z) (hr : meth.sig.returnType = (some .long)) {K26 : Int → Int → Int → Int → St → Prop} (hK26 : ∀ (x1 : Int) (x2 : Int) (x3 : Int) (x5 : Int) (σ : St), C32 x1 → C32 x2 → C64 x3 → C32 x5 → CanS (shC b) (NC b) σ → K26 x1 x2 x3 x5 σ → G p l e (rmL 4 0 0) s m args below meth c 7 A0 D cA ad (shC b) (NC b) 0 0 (MQ below (QLc D cA ad (shC b) (NC b) Q A0) args s 0 0 A0) σ 26 [some (.ref (ad 14)), some (vI x1), some (vI x2), some (vL x3), none, some (vI x5), none] []) : ∀ (n : Nat) (x1 : Int) (x2 : Int) (x3 : Int) (x5 : Int) (x6 : Int) (σ : St), C32 x1 → C32 x2 → C64 x3 → C32 x5 → C32 x6 → CanS (shC b) (NC b) σ → wp_X4_rulesAlive_l36 Q K26 n x1 x2 x3 x5 x6 σ → G p l e (rmL 4 0 0) s m args below meth c 7 A0 D cA ad (shC b) (NC b) 0 0 (MQ below (QLc D cA ad (shC b) (NC b) Q A0) args s 0 0 A0) σ 36 [some (.ref (ad 14)), some (vI x1), some (vI x2), some (vL x3), none, some (vI x5), some (vI x6)] [] := by
  intro n
  induction n with
  | zero => intro _ _ _ _ _ _ _ _ _ _ _ _ h; exact h.elim
  | succ n ih =>
    intro x1 x2 x3 x5 x6 σ c1 c2 c3 c5 c6 hσ h
    unfold wp_X4_rulesAlive_l36 at h
    refine g_iload_6 E dX4_rulesAlive_36 ?_
    refine g_aload_0 E dX4_rulesAlive_38 ?_
    refine g_getI E fl_RX4_43 (kC_14 b) (sC_14 b) rfl dX4_rulesAlive_39 ?_
    refine g_icmp_ge E c6 (fC_14_0 hσ) djX4_rulesAlive_42 (fun hc => ?_) (fun hc => ?_)
    · replace h := h.1 hc
      refine g_iinc_5 E rfl (by decide) dX4_rulesAlive_117 (fun v6 ev6 => ?_)
      replace h := h v6 ev6
      have cv6 : C32 v6 := by rw [ev6]; exact c32_w _
      refine g_goto E djX4_rulesAlive_120 ?_
      exact (hK26 x1 x2 x3 v6 σ c1 c2 c3 cv6 hσ h).weak (w_k (w_k (w_k (w_k (w_d (w_k (w_d w_n)))))))
    · replace h := h.2 hc
      refine g_aload_0 E dX4_rulesAlive_45 ?_
      refine g_getR E fl_RX4_27 (kC_14 b) (sC_14 b) rfl dX4_rulesAlive_46 ?_
      refine g_iload_6 E dX4_rulesAlive_49 ?_
      refine g_zald E (kC_20 b) (sC_20 b) (by decide) h.1 dX4_rulesAlive_51 ?_
      replace h := h.2
      refine g_if_ne E (aC_20 hσ _) djX4_rulesAlive_52 (fun hc => ?_) (fun hc => ?_)
      · replace h := h.1 hc
        exact (t_X4_rulesAlive_b111 E hr hK26 ih x1 x2 x3 x5 x6 σ c1 c2 c3 c5 c6 hσ h).weak (w_k (w_k (w_k (w_k (w_d (w_k (w_k w_n)))))))
      · replace h := h.2 hc
        refine g_iload_2 E dX4_rulesAlive_55 ?_
        refine g_aload_0 E dX4_rulesAlive_56 ?_
        refine g_getR E fl_RX4_9 (kC_14 b) (sC_14 b) rfl dX4_rulesAlive_57 ?_
        refine g_iload_6 E dX4_rulesAlive_60 ?_
        refine g_iald E (kC_15 b) (sC_15 b) (by decide) h.1 dX4_rulesAlive_62 ?_
        replace h := h.2
        refine g_ishr E dX4_rulesAlive_63 ?_
        refine g_iconst E dX4_rulesAlive_64 ?_
        refine g_iand E dX4_rulesAlive_65 ?_
        refine g_iconst E dX4_rulesAlive_66 ?_
        refine g_icmp_ne E (c32_t _) cl_1 djX4_rulesAlive_67 (fun hc => ?_) (fun hc => ?_)
        · replace h := h.1 hc
          exact (t_X4_rulesAlive_b111 E hr hK26 ih x1 x2 x3 x5 x6 σ c1 c2 c3 c5 c6 hσ h).weak (w_k (w_k (w_k (w_k (w_d (w_k (w_k w_n)))))))
        · replace h := h.2 hc
          refine g_aload_0 E dX4_rulesAlive_70 ?_
          refine g_iload_6 E dX4_rulesAlive_71 ?_
          refine g_iload_1 E dX4_rulesAlive_73 ?_
          refine g_callvI E my_X4_partsWithin mi_X4_partsWithin msel_X4_partsWithin ml_RX4_67 (rm_ok (by decide) (by decide)) ⟨Nat.zero_le _, Nat.zero_le _⟩ (kC_14 b) (sC_14 b) rfl (m_X4_partsWithin E.2.2.1 c6 c1 hσ h) rfl rfl (Nat.le_of_ble_eq_true rfl) dX4_rulesAlive_74 (fun r7 σ8 cr7 hσ8 h => ?_)
          refine g_if_eq E cr7 djX4_rulesAlive_77 (fun hc => ?_) (fun hc => ?_)
          · replace h := h.1 hc
            exact (t_X4_rulesAlive_b111 E hr hK26 ih x1 x2 x3 x5 x6 σ8 c1 c2 c3 c5 c6 hσ8 h).weak (w_k (w_k (w_k (w_k (w_d (w_k (w_k w_n)))))))
          · replace h := h.2 hc
            refine g_lload_3 E dX4_rulesAlive_80 ?_
            refine g_lconst (n := 1) E (by decide) dX4_rulesAlive_81 ?_
            refine g_iload_6 E dX4_rulesAlive_82 ?_
            refine g_lshl E dX4_rulesAlive_84 ?_
            refine g_lor E dX4_rulesAlive_85 ?_
            refine g_nmL (fun v9 ev9 => ?_)
            replace h := h v9 ev9
            have cv9 : C64 v9 := by rw [ev9]; exact (c64_t _)
            refine g_lstore_3 E rfl (by decide) dX4_rulesAlive_86 ?_
            refine g_iload_2 E dX4_rulesAlive_87 ?_
            refine g_aload_0 E dX4_rulesAlive_88 ?_
            refine g_getR E fl_RX4_15 (kC_14 b) (sC_14 b) rfl dX4_rulesAlive_89 ?_
            refine g_iload_6 E dX4_rulesAlive_92 ?_
            refine g_iald E (kC_16 b) (sC_16 b) (by decide) h.1 dX4_rulesAlive_94 ?_
            replace h := h.2
            refine g_callsI E my_X4_labelBit ms_X4_labelBit ml_RX4_71 (rm_ok (by decide) (by decide)) ⟨Nat.zero_le _, Nat.zero_le _⟩ (m_X4_labelBit E.2.2.1 (aC_16 hσ8 _) hσ8 h) rfl rfl (Nat.le_of_ble_eq_true rfl) dX4_rulesAlive_95 (fun r10 σ11 cr10 hσ11 h => ?_)
            refine g_aload_0 E dX4_rulesAlive_98 ?_
            refine g_getR E fl_RX4_18 (kC_14 b) (sC_14 b) rfl dX4_rulesAlive_99 ?_
            refine g_iload_6 E dX4_rulesAlive_102 ?_
            refine g_iald E (kC_17 b) (sC_17 b) (by decide) h.1 dX4_rulesAlive_104 ?_
            replace h := h.2
            refine g_callsI E my_X4_labelBit ms_X4_labelBit ml_RX4_71 (rm_ok (by decide) (by decide)) ⟨Nat.zero_le _, Nat.zero_le _⟩ (m_X4_labelBit E.2.2.1 (aC_17 hσ11 _) hσ11 h) rfl rfl (Nat.le_of_ble_eq_true rfl) dX4_rulesAlive_105 (fun r12 σ13 cr12 hσ13 h => ?_)
            refine g_ior E dX4_rulesAlive_108 ?_
            refine g_ior E dX4_rulesAlive_109 ?_
            refine g_nmI (fun v14 ev14 => ?_)
            replace h := h v14 ev14
            have cv14 : C32 v14 := by rw [ev14]; exact (c32_t _)
            refine g_istore_2 E rfl (by decide) dX4_rulesAlive_110 ?_
            exact (t_X4_rulesAlive_b111 E hr hK26 ih x1 v14 v9 x5 x6 σ13 c1 cv14 cv9 c5 c6 hσ13 h).weak (w_k (w_k (w_k (w_k (w_d (w_k (w_k w_n)))))))
set_option maxHeartbeats 4000000 in
set_option maxRecDepth 100000 in
theorem t_X4_rulesAlive_l26 (E : Ev p s m args meth c cX4_rulesAlive 7 RX4 A0 D cA ad (NC b) Z) (hr : meth.sig.returnType = (some .long)) : ∀ (n : Nat) (x1 : Int) (x2 : Int) (x3 : Int) (x5 : Int) (σ : St), C32 x1 → C32 x2 → C64 x3 → C32 x5 → CanS (shC b) (NC b) σ → wp_X4_rulesAlive_l26 Q n x1 x2 x3 x5 σ → G p l e (rmL 4 0 0) s m args below meth c 7 A0 D cA ad (shC b) (NC b) 0 0 (MQ below (QLc D cA ad (shC b) (NC b) Q A0) args s 0 0 A0) σ 26 [some (.ref (ad 14)), some (vI x1), some (vI x2), some (vL x3), none, some (vI x5), none] [] := by
  intro n
  induction n with
  | zero => intro _ _ _ _ _ _ _ _ _ _ h; exact h.elim
  | succ n ih =>
    intro x1 x2 x3 x5 σ c1 c2 c3 c5 hσ h
    unfold wp_X4_rulesAlive_l26 at h
    refine g_iload_5 E dX4_rulesAlive_26 ?_
    refine g_bipush E (by decide) dX4_rulesAlive_28 ?_
    refine g_icmp_gt E c5 cl_12 djX4_rulesAlive_30 (fun hc => ?_) (fun hc => ?_)
    · replace h := h.1 hc
      refine g_lload_3 E dX4_rulesAlive_123 ?_
      exact g_lret E hr c3 h hσ dX4_rulesAlive_124
    · replace h := h.2 hc
      refine g_iconst E dX4_rulesAlive_33 ?_
      refine g_istore_6 E rfl (by decide) dX4_rulesAlive_34 ?_
      exact (t_X4_rulesAlive_l36 E hr ih bigN x1 x2 x3 x5 0 σ c1 c2 c3 c5 cl_0 hσ h).weak (w_k (w_k (w_k (w_k (w_d (w_k (w_k w_n)))))))
set_option maxHeartbeats 4000000 in
set_option maxRecDepth 100000 in
theorem t_X4_rulesAlive (E : Ev p s m args meth c cX4_rulesAlive 7 RX4 A0 D cA ad (NC b) Z) (hr : meth.sig.returnType = (some .long)) (σ : St) (hσ : CanS (shC b) (NC b) σ) (h : wp_X4_rulesAlive  σ Q) : G p l e (rmL 4 0 0) s m args below meth c 7 A0 D cA ad (shC b) (NC b) 0 0 (MQ below (QLc D cA ad (shC b) (NC b) Q A0) args s 0 0 A0) σ 0 [some (.ref (ad 14)), none, none, none, none, none, none] [] := by
  unfold wp_X4_rulesAlive at h
  refine g_aload_0 E dX4_rulesAlive_0 ?_
  refine g_getI E fl_RX4_43 (kC_14 b) (sC_14 b) rfl dX4_rulesAlive_1 ?_
  refine g_if_ne E (fC_14_0 hσ) djX4_rulesAlive_4 (fun hc => ?_) (fun hc => ?_)
  · replace h := h.1 hc
    refine g_aload_0 E dX4_rulesAlive_9 ?_
    refine g_callvI E my_X4_fruitfulLabels mi_X4_fruitfulLabels msel_X4_fruitfulLabels ml_RX4_60 (rm_ok (by decide) (by decide)) ⟨Nat.zero_le _, Nat.zero_le _⟩ (kC_14 b) (sC_14 b) rfl (m_X4_fruitfulLabels E.2.2.1 hσ h) rfl rfl (Nat.le_of_ble_eq_true rfl) dX4_rulesAlive_10 (fun r1 σ2 cr1 hσ2 h => ?_)
    refine g_istore_1 E rfl (by decide) dX4_rulesAlive_13 ?_
    refine g_iconst E dX4_rulesAlive_14 ?_
    refine g_aload_0 E dX4_rulesAlive_15 ?_
    refine g_callvI E my_X4_start mi_X4_start msel_X4_start ml_RX4_64 (rm_ok (by decide) (by decide)) ⟨Nat.zero_le _, Nat.zero_le _⟩ (kC_14 b) (sC_14 b) rfl (m_X4_start E.2.2.1 hσ2 h) rfl rfl (Nat.le_of_ble_eq_true rfl) dX4_rulesAlive_16 (fun r3 σ4 cr3 hσ4 h => ?_)
    refine g_ishl E dX4_rulesAlive_19 ?_
    refine g_nmI (fun v5 ev5 => ?_)
    replace h := h v5 ev5
    have cv5 : C32 v5 := by rw [ev5]; exact (c32_t _)
    refine g_istore_2 E rfl (by decide) dX4_rulesAlive_20 ?_
    refine g_lconst (n := 0) E (by decide) dX4_rulesAlive_21 ?_
    refine g_lstore_3 E rfl (by decide) dX4_rulesAlive_22 ?_
    refine g_iconst E dX4_rulesAlive_23 ?_
    refine g_istore_5 E rfl (by decide) dX4_rulesAlive_24 ?_
    exact (t_X4_rulesAlive_l26 E hr bigN r1 v5 0 0 σ4 cr1 cv5 cL_0 cl_0 hσ4 h).weak (w_k (w_k (w_k (w_k (w_d (w_k (w_d w_n)))))))
  · replace h := h.2 hc
    refine g_lconst (n := 0) E (by decide) dX4_rulesAlive_7 ?_
    exact g_lret E hr cL_0 h hσ dX4_rulesAlive_8
end
theorem m_X4_rulesAlive {Z : (Nat → Nat) × (Nat → Nat)} {l : Launch} {D : va_G} {cA : Nat → ClassId} {ad : Nat → Nat} {b : Bool} {σ : St} {Q : Int → St → Prop} (hA : AdOk (NC b) ad) (hσ : CanS (shC b) (NC b) σ) (h : wp_X4_rulesAlive  σ Q) : KtL Z l D cA ad (shC b) (NC b) yX4_rulesAlive cX4_rulesAlive 7 (some .long) 4 [.ref (ad 14)] σ Q :=
  KtL.of my_X4_rulesAlive hA [some (.ref (ad 14)), none, none, none, none, none, none] (Nat.le_of_ble_eq_true rfl) rfl (fun p e s m args below meth c A0 E hr => t_X4_rulesAlive E hr σ hσ h)
theorem dX11_alive_0 : Dc cX11_alive 0 (.aload_n 0) 1 1 := ⟨by decide +kernel, rfl⟩
theorem dX11_alive_1 : Dc cX11_alive 1 (.getfield 28) 3 4 := ⟨by decide +kernel, rfl⟩
theorem dX11_alive_4 : Dc cX11_alive 4 (.invokevirtual 348) 3 7 := ⟨by decide +kernel, rfl⟩
theorem dX11_alive_7 : Dc cX11_alive 7 (.lreturn) 1 8 := ⟨by decide +kernel, rfl⟩
section
variable {p : Program} {l : Launch} {e : Env} {s : State} {m : MethodId} {args : Array Value} {below : List Frame} {meth : Method} {c : Code} {A0 : Nat → Prop} {D : va_G} {cA : Nat → ClassId} {ad : Nat → Nat} {Z : (Nat → Nat) × (Nat → Nat)} {Q : Int → St → Prop} {b : Bool}
set_option maxHeartbeats 4000000 in
set_option maxRecDepth 100000 in
theorem t_X11_alive (E : Ev p s m args meth c cX11_alive 1 RX11 A0 D cA ad (NC b) Z) (hr : meth.sig.returnType = (some .long)) (σ : St) (hσ : CanS (shC b) (NC b) σ) (h : wp_X11_alive  σ Q) : G p l e (rmL 5 0 0) s m args below meth c 1 A0 D cA ad (shC b) (NC b) 0 0 (MQ below (QLc D cA ad (shC b) (NC b) Q A0) args s 0 0 A0) σ 0 [some (.ref (ad 0))] [] := by
  unfold wp_X11_alive at h
  refine g_aload_0 E dX11_alive_0 ?_
  refine g_getR E fl_RX11_28 (kC_0 b) (sC_0 b) rfl dX11_alive_1 ?_
  refine g_callvL E my_X4_rulesAlive mi_X4_rulesAlive msel_X4_rulesAlive ml_RX11_348 (rm_ok (by decide) (by decide)) ⟨Nat.zero_le _, Nat.zero_le _⟩ (kC_14 b) (sC_14 b) rfl (m_X4_rulesAlive E.2.2.1 hσ h) rfl rfl (Nat.le_of_ble_eq_true rfl) dX11_alive_4 (fun r1 σ2 cr1 hσ2 h => ?_)
  exact g_lret E hr cr1 h hσ2 dX11_alive_7
end
theorem m_X11_alive {Z : (Nat → Nat) × (Nat → Nat)} {l : Launch} {D : va_G} {cA : Nat → ClassId} {ad : Nat → Nat} {b : Bool} {σ : St} {Q : Int → St → Prop} (hA : AdOk (NC b) ad) (hσ : CanS (shC b) (NC b) σ) (h : wp_X11_alive  σ Q) : KtL Z l D cA ad (shC b) (NC b) yX11_alive cX11_alive 1 (some .long) 5 [.ref (ad 0)] σ Q :=
  KtL.of my_X11_alive hA [some (.ref (ad 0))] (Nat.le_of_ble_eq_true rfl) rfl (fun p e s m args below meth c A0 E hr => t_X11_alive E hr σ hσ h)
theorem dX12_feed_0 : Dc cX12_feed 0 (.aload_n 0) 1 1 := ⟨by decide +kernel, rfl⟩
theorem dX12_feed_1 : Dc cX12_feed 1 (.getfield 145) 3 4 := ⟨by decide +kernel, rfl⟩
theorem dX12_feed_4 : Dc cX12_feed 4 (.bipush 20) 2 6 := ⟨by decide +kernel, rfl⟩
theorem dX12_feed_6 : Dc cX12_feed 6 (.iadd) 1 7 := ⟨by decide +kernel, rfl⟩
theorem dX12_feed_7 : Dc cX12_feed 7 (.sipush 1000) 3 10 := ⟨by decide +kernel, rfl⟩
theorem djX12_feed_10 : Dj cX12_feed 10 (.if_icmp .le 5) 3 13 5 15 := ⟨by decide +kernel, rfl, by decide⟩
theorem dX12_feed_13 : Dc cX12_feed 13 (.iconst (-1)) 1 14 := ⟨by decide +kernel, rfl⟩
theorem dX12_feed_14 : Dc cX12_feed 14 (.ireturn) 1 15 := ⟨by decide +kernel, rfl⟩
theorem dX12_feed_15 : Dc cX12_feed 15 (.aload_n 0) 1 16 := ⟨by decide +kernel, rfl⟩
theorem dX12_feed_16 : Dc cX12_feed 16 (.getfield 51) 3 19 := ⟨by decide +kernel, rfl⟩
theorem dX12_feed_19 : Dc cX12_feed 19 (.iconst 0) 1 20 := ⟨by decide +kernel, rfl⟩
theorem dX12_feed_20 : Dc cX12_feed 20 (.iload_n 1) 1 21 := ⟨by decide +kernel, rfl⟩
theorem dX12_feed_21 : Dc cX12_feed 21 (.iastore) 1 22 := ⟨by decide +kernel, rfl⟩
theorem dX12_feed_22 : Dc cX12_feed 22 (.aload_n 0) 1 23 := ⟨by decide +kernel, rfl⟩
theorem dX12_feed_23 : Dc cX12_feed 23 (.getfield 51) 3 26 := ⟨by decide +kernel, rfl⟩
theorem dX12_feed_26 : Dc cX12_feed 26 (.iconst 1) 1 27 := ⟨by decide +kernel, rfl⟩
theorem dX12_feed_27 : Dc cX12_feed 27 (.iload_n 2) 1 28 := ⟨by decide +kernel, rfl⟩
theorem dX12_feed_28 : Dc cX12_feed 28 (.iastore) 1 29 := ⟨by decide +kernel, rfl⟩
theorem dX12_feed_29 : Dc cX12_feed 29 (.aload_n 0) 1 30 := ⟨by decide +kernel, rfl⟩
theorem dX12_feed_30 : Dc cX12_feed 30 (.getfield 51) 3 33 := ⟨by decide +kernel, rfl⟩
theorem dX12_feed_33 : Dc cX12_feed 33 (.iconst 2) 1 34 := ⟨by decide +kernel, rfl⟩
theorem dX12_feed_34 : Dc cX12_feed 34 (.iload_n 3) 1 35 := ⟨by decide +kernel, rfl⟩
theorem dX12_feed_35 : Dc cX12_feed 35 (.iastore) 1 36 := ⟨by decide +kernel, rfl⟩
theorem dX12_feed_36 : Dc cX12_feed 36 (.aload_n 0) 1 37 := ⟨by decide +kernel, rfl⟩
theorem dX12_feed_37 : Dc cX12_feed 37 (.getfield 51) 3 40 := ⟨by decide +kernel, rfl⟩
theorem dX12_feed_40 : Dc cX12_feed 40 (.iconst 3) 1 41 := ⟨by decide +kernel, rfl⟩
theorem dX12_feed_41 : Dc cX12_feed 41 (.iload 4) 2 43 := ⟨by decide +kernel, rfl⟩
theorem dX12_feed_43 : Dc cX12_feed 43 (.iastore) 1 44 := ⟨by decide +kernel, rfl⟩
theorem dX12_feed_44 : Dc cX12_feed 44 (.aload_n 0) 1 45 := ⟨by decide +kernel, rfl⟩
theorem dX12_feed_45 : Dc cX12_feed 45 (.getfield 51) 3 48 := ⟨by decide +kernel, rfl⟩
theorem dX12_feed_48 : Dc cX12_feed 48 (.iconst 4) 1 49 := ⟨by decide +kernel, rfl⟩
theorem dX12_feed_49 : Dc cX12_feed 49 (.iload 5) 2 51 := ⟨by decide +kernel, rfl⟩
theorem dX12_feed_51 : Dc cX12_feed 51 (.iastore) 1 52 := ⟨by decide +kernel, rfl⟩
theorem dX12_feed_52 : Dc cX12_feed 52 (.iconst 0) 1 53 := ⟨by decide +kernel, rfl⟩
theorem dX12_feed_53 : Dc cX12_feed 53 (.istore 6) 2 55 := ⟨by decide +kernel, rfl⟩
theorem dX12_feed_55 : Dc cX12_feed 55 (.iload 6) 2 57 := ⟨by decide +kernel, rfl⟩
theorem dX12_feed_57 : Dc cX12_feed 57 (.bipush 20) 2 59 := ⟨by decide +kernel, rfl⟩
theorem djX12_feed_59 : Dj cX12_feed 59 (.if_icmp .ge 42) 3 62 42 101 := ⟨by decide +kernel, rfl, by decide⟩
theorem dX12_feed_62 : Dc cX12_feed 62 (.aload_n 0) 1 63 := ⟨by decide +kernel, rfl⟩
theorem dX12_feed_63 : Dc cX12_feed 63 (.getfield 47) 3 66 := ⟨by decide +kernel, rfl⟩
theorem dX12_feed_66 : Dc cX12_feed 66 (.aload_n 0) 1 67 := ⟨by decide +kernel, rfl⟩
theorem dX12_feed_67 : Dc cX12_feed 67 (.getfield 145) 3 70 := ⟨by decide +kernel, rfl⟩
theorem dX12_feed_70 : Dc cX12_feed 70 (.iload 6) 2 72 := ⟨by decide +kernel, rfl⟩
theorem dX12_feed_72 : Dc cX12_feed 72 (.iadd) 1 73 := ⟨by decide +kernel, rfl⟩
theorem dX12_feed_73 : Dc cX12_feed 73 (.aload_n 0) 1 74 := ⟨by decide +kernel, rfl⟩
theorem dX12_feed_74 : Dc cX12_feed 74 (.getfield 51) 3 77 := ⟨by decide +kernel, rfl⟩
theorem dX12_feed_77 : Dc cX12_feed 77 (.iload 6) 2 79 := ⟨by decide +kernel, rfl⟩
theorem dX12_feed_79 : Dc cX12_feed 79 (.iconst 4) 1 80 := ⟨by decide +kernel, rfl⟩
theorem dX12_feed_80 : Dc cX12_feed 80 (.idiv) 1 81 := ⟨by decide +kernel, rfl⟩
theorem dX12_feed_81 : Dc cX12_feed 81 (.iaload) 1 82 := ⟨by decide +kernel, rfl⟩
theorem dX12_feed_82 : Dc cX12_feed 82 (.bipush 24) 2 84 := ⟨by decide +kernel, rfl⟩
theorem dX12_feed_84 : Dc cX12_feed 84 (.bipush 8) 2 86 := ⟨by decide +kernel, rfl⟩
theorem dX12_feed_86 : Dc cX12_feed 86 (.iload 6) 2 88 := ⟨by decide +kernel, rfl⟩
theorem dX12_feed_88 : Dc cX12_feed 88 (.iconst 4) 1 89 := ⟨by decide +kernel, rfl⟩
theorem dX12_feed_89 : Dc cX12_feed 89 (.irem) 1 90 := ⟨by decide +kernel, rfl⟩
theorem dX12_feed_90 : Dc cX12_feed 90 (.imul) 1 91 := ⟨by decide +kernel, rfl⟩
theorem dX12_feed_91 : Dc cX12_feed 91 (.isub) 1 92 := ⟨by decide +kernel, rfl⟩
theorem dX12_feed_92 : Dc cX12_feed 92 (.ishr) 1 93 := ⟨by decide +kernel, rfl⟩
theorem dX12_feed_93 : Dc cX12_feed 93 (.i2b) 1 94 := ⟨by decide +kernel, rfl⟩
theorem dX12_feed_94 : Dc cX12_feed 94 (.bastore) 1 95 := ⟨by decide +kernel, rfl⟩
theorem dX12_feed_95 : Dc cX12_feed 95 (.iinc 6 1) 3 98 := ⟨by decide +kernel, rfl⟩
theorem djX12_feed_98 : Dj cX12_feed 98 (.goto (-43)) 3 101 (-43) 55 := ⟨by decide +kernel, rfl, by decide⟩
theorem dX12_feed_101 : Dc cX12_feed 101 (.aload_n 0) 1 102 := ⟨by decide +kernel, rfl⟩
theorem dX12_feed_102 : Dc cX12_feed 102 (.dup) 1 103 := ⟨by decide +kernel, rfl⟩
theorem dX12_feed_103 : Dc cX12_feed 103 (.getfield 145) 3 106 := ⟨by decide +kernel, rfl⟩
theorem dX12_feed_106 : Dc cX12_feed 106 (.bipush 20) 2 108 := ⟨by decide +kernel, rfl⟩
theorem dX12_feed_108 : Dc cX12_feed 108 (.iadd) 1 109 := ⟨by decide +kernel, rfl⟩
theorem dX12_feed_109 : Dc cX12_feed 109 (.putfield 145) 3 112 := ⟨by decide +kernel, rfl⟩
theorem dX12_feed_112 : Dc cX12_feed 112 (.aload_n 0) 1 113 := ⟨by decide +kernel, rfl⟩
theorem dX12_feed_113 : Dc cX12_feed 113 (.getfield 145) 3 116 := ⟨by decide +kernel, rfl⟩
theorem dX12_feed_116 : Dc cX12_feed 116 (.ireturn) 1 117 := ⟨by decide +kernel, rfl⟩
section
variable {p : Program} {l : Launch} {e : Env} {s : State} {m : MethodId} {args : Array Value} {below : List Frame} {meth : Method} {c : Code} {A0 : Nat → Prop} {D : va_G} {cA : Nat → ClassId} {ad : Nat → Nat} {Z : (Nat → Nat) × (Nat → Nat)} {Q : Int → St → Prop}
set_option maxHeartbeats 4000000 in
set_option maxRecDepth 100000 in
theorem t_X12_feed_l55 (E : Ev p s m args meth c cX12_feed 7 RX12 A0 D cA ad NR Z) (hr : meth.sig.returnType = (some .int)) : ∀ (n : Nat) (x6 : Int) (σ : St), C32 x6 → CanS shR NR σ → wp_X12_feed_l55 Q n x6 σ → G p l e (rmL 1 0 0) s m args below meth c 7 A0 D cA ad shR NR 0 0 (MQ below (QIc D cA ad shR NR Q A0) args s 0 0 A0) σ 55 [some (.ref (ad 0)), none, none, none, none, none, some (vI x6)] [] := by
  intro n
  induction n with
  | zero => intro _ _ _ _ h; exact h.elim
  | succ n ih =>
    intro x6 σ c6 hσ h
    unfold wp_X12_feed_l55 at h
    refine g_iload_6 E dX12_feed_55 ?_
    refine g_bipush E (by decide) dX12_feed_57 ?_
    refine g_icmp_ge E c6 cl_20 djX12_feed_59 (fun hc => ?_) (fun hc => ?_)
    · replace h := h.1 hc
      refine g_aload_0 E dX12_feed_101 ?_
      refine g_dup E rfl dX12_feed_102 ?_
      refine g_getI E fl_RX12_145 kR_0 sR_0 rfl dX12_feed_103 ?_
      refine g_bipush E (by decide) dX12_feed_106 ?_
      refine g_iadd E dX12_feed_108 ?_
      refine g_putI E fl_RX12_145 rfl rfl kR_0 sR_0 rfl dX12_feed_109 (g_nmS (fun σ6 eσ6 => ?_))
      replace h := h σ6 eσ6
      have hσ6 : CanS shR NR σ6 := by rw [eσ6]; exact uR_0_17 hσ (c32_w _)
      refine g_aload_0 E dX12_feed_112 ?_
      refine g_getI E fl_RX12_145 kR_0 sR_0 rfl dX12_feed_113 ?_
      exact g_iret E hr (fR_0_17 hσ6) h hσ6 dX12_feed_116
    · replace h := h.2 hc
      refine g_aload_0 E dX12_feed_62 ?_
      refine g_getR E fl_RX12_47 kR_0 sR_0 rfl dX12_feed_63 ?_
      refine g_aload_0 E dX12_feed_66 ?_
      refine g_getI E fl_RX12_145 kR_0 sR_0 rfl dX12_feed_67 ?_
      refine g_iload_6 E dX12_feed_70 ?_
      refine g_iadd E dX12_feed_72 ?_
      refine g_aload_0 E dX12_feed_73 ?_
      refine g_getR E fl_RX12_51 kR_0 sR_0 rfl dX12_feed_74 ?_
      refine g_iload_6 E dX12_feed_77 ?_
      refine g_iconst E dX12_feed_79 ?_
      refine g_idiv E cl_4 (by decide) dX12_feed_80 ?_
      refine g_iald E kR_13 sR_13 (by decide) h.1 dX12_feed_81 ?_
      replace h := h.2
      refine g_bipush E (by decide) dX12_feed_82 ?_
      refine g_bipush E (by decide) dX12_feed_84 ?_
      refine g_iload_6 E dX12_feed_86 ?_
      refine g_iconst E dX12_feed_88 ?_
      refine g_irem E cl_4 (by decide) dX12_feed_89 ?_
      refine g_imul E dX12_feed_90 ?_
      refine g_isub E dX12_feed_91 ?_
      refine g_ishr E dX12_feed_92 ?_
      refine g_i2b E dX12_feed_93 ?_
      refine g_bast E kR_12 sR_12 (by decide) h.1 dX12_feed_94 (g_nmS (fun σ7 eσ7 => ?_))
      replace h := h.2 σ7 eσ7
      have hσ7 : CanS shR NR σ7 := by rw [eσ7]; exact wR_12 hσ (c32_t _)
      refine g_iinc_6 E rfl (by decide) dX12_feed_95 (fun v8 ev8 => ?_)
      replace h := h v8 ev8
      have cv8 : C32 v8 := by rw [ev8]; exact c32_w _
      refine g_goto E djX12_feed_98 ?_
      exact (ih v8 σ7 cv8 hσ7 h).weak (w_k (w_d (w_d (w_d (w_d (w_d (w_k w_n)))))))
set_option maxHeartbeats 4000000 in
set_option maxRecDepth 100000 in
theorem t_X12_feed (E : Ev p s m args meth c cX12_feed 7 RX12 A0 D cA ad NR Z) (hr : meth.sig.returnType = (some .int)) (x1 : Int) (x2 : Int) (x3 : Int) (x4 : Int) (x5 : Int) (σ : St) (c1 : C32 x1) (c2 : C32 x2) (c3 : C32 x3) (c4 : C32 x4) (c5 : C32 x5) (hσ : CanS shR NR σ) (h : wp_X12_feed x1 x2 x3 x4 x5 σ Q) : G p l e (rmL 1 0 0) s m args below meth c 7 A0 D cA ad shR NR 0 0 (MQ below (QIc D cA ad shR NR Q A0) args s 0 0 A0) σ 0 [some (.ref (ad 0)), some (vI x1), some (vI x2), some (vI x3), some (vI x4), some (vI x5), none] [] := by
  unfold wp_X12_feed at h
  refine g_aload_0 E dX12_feed_0 ?_
  refine g_getI E fl_RX12_145 kR_0 sR_0 rfl dX12_feed_1 ?_
  refine g_bipush E (by decide) dX12_feed_4 ?_
  refine g_iadd E dX12_feed_6 ?_
  refine g_sipush E (by decide) dX12_feed_7 ?_
  refine g_icmp_le E (c32_w _) cl_1000 djX12_feed_10 (fun hc => ?_) (fun hc => ?_)
  · replace h := h.1 hc
    refine g_aload_0 E dX12_feed_15 ?_
    refine g_getR E fl_RX12_51 kR_0 sR_0 rfl dX12_feed_16 ?_
    refine g_iconst E dX12_feed_19 ?_
    refine g_iload_1 E dX12_feed_20 ?_
    refine g_iast E kR_13 sR_13 (by decide) (by decide) dX12_feed_21 (g_nmS (fun σ1 eσ1 => ?_))
    replace h := h σ1 eσ1
    have hσ1 : CanS shR NR σ1 := by rw [eσ1]; exact wR_13 hσ c1
    refine g_aload_0 E dX12_feed_22 ?_
    refine g_getR E fl_RX12_51 kR_0 sR_0 rfl dX12_feed_23 ?_
    refine g_iconst E dX12_feed_26 ?_
    refine g_iload_2 E dX12_feed_27 ?_
    refine g_iast E kR_13 sR_13 (by decide) (by decide) dX12_feed_28 (g_nmS (fun σ2 eσ2 => ?_))
    replace h := h σ2 eσ2
    have hσ2 : CanS shR NR σ2 := by rw [eσ2]; exact wR_13 hσ1 c2
    refine g_aload_0 E dX12_feed_29 ?_
    refine g_getR E fl_RX12_51 kR_0 sR_0 rfl dX12_feed_30 ?_
    refine g_iconst E dX12_feed_33 ?_
    refine g_iload_3 E dX12_feed_34 ?_
    refine g_iast E kR_13 sR_13 (by decide) (by decide) dX12_feed_35 (g_nmS (fun σ3 eσ3 => ?_))
    replace h := h σ3 eσ3
    have hσ3 : CanS shR NR σ3 := by rw [eσ3]; exact wR_13 hσ2 c3
    refine g_aload_0 E dX12_feed_36 ?_
    refine g_getR E fl_RX12_51 kR_0 sR_0 rfl dX12_feed_37 ?_
    refine g_iconst E dX12_feed_40 ?_
    refine g_iload_4 E dX12_feed_41 ?_
    refine g_iast E kR_13 sR_13 (by decide) (by decide) dX12_feed_43 (g_nmS (fun σ4 eσ4 => ?_))
    replace h := h σ4 eσ4
    have hσ4 : CanS shR NR σ4 := by rw [eσ4]; exact wR_13 hσ3 c4
    refine g_aload_0 E dX12_feed_44 ?_
    refine g_getR E fl_RX12_51 kR_0 sR_0 rfl dX12_feed_45 ?_
    refine g_iconst E dX12_feed_48 ?_
    refine g_iload_5 E dX12_feed_49 ?_
    refine g_iast E kR_13 sR_13 (by decide) (by decide) dX12_feed_51 (g_nmS (fun σ5 eσ5 => ?_))
    replace h := h σ5 eσ5
    have hσ5 : CanS shR NR σ5 := by rw [eσ5]; exact wR_13 hσ4 c5
    refine g_iconst E dX12_feed_52 ?_
    refine g_istore_6 E rfl (by decide) dX12_feed_53 ?_
    exact (t_X12_feed_l55 E hr bigN 0 σ5 cl_0 hσ5 h).weak (w_k (w_d (w_d (w_d (w_d (w_d (w_k w_n)))))))
  · replace h := h.2 hc
    refine g_iconst E dX12_feed_13 ?_
    exact g_iret E hr cl_m1 h hσ dX12_feed_14
end
theorem m_X12_feed {Z : (Nat → Nat) × (Nat → Nat)} {l : Launch} {D : va_G} {cA : Nat → ClassId} {ad : Nat → Nat} {x1 x2 x3 x4 x5 : Int} {σ : St} {Q : Int → St → Prop} (hA : AdOk NR ad) (c1 : C32 x1) (c2 : C32 x2) (c3 : C32 x3) (c4 : C32 x4) (c5 : C32 x5) (hσ : CanS shR NR σ) (h : wp_X12_feed x1 x2 x3 x4 x5 σ Q) : KtI Z l D cA ad shR NR yX12_feed cX12_feed 7 (some .int) 1 [.ref (ad 0), vI x1, vI x2, vI x3, vI x4, vI x5] σ Q :=
  KtI.of my_X12_feed hA [some (.ref (ad 0)), some (vI x1), some (vI x2), some (vI x3), some (vI x4), some (vI x5), none] (Nat.le_of_ble_eq_true rfl) rfl (fun p e s m args below meth c A0 E hr => t_X12_feed E hr x1 x2 x3 x4 x5 σ c1 c2 c3 c4 c5 hσ h)
theorem dX12_in_0 : Dc cX12_in 0 (.lload_n 0) 1 1 := ⟨by decide +kernel, rfl⟩
theorem dX12_in_1 : Dc cX12_in 1 (.lload_n 2) 1 2 := ⟨by decide +kernel, rfl⟩
theorem dX12_in_2 : Dc cX12_in 2 (.lcmp) 1 3 := ⟨by decide +kernel, rfl⟩
theorem djX12_in_3 : Dj cX12_in 3 (.ifCond .lt 14) 3 6 14 17 := ⟨by decide +kernel, rfl, by decide⟩
theorem dX12_in_6 : Dc cX12_in 6 (.lload_n 0) 1 7 := ⟨by decide +kernel, rfl⟩
theorem dX12_in_7 : Dc cX12_in 7 (.lload 4) 2 9 := ⟨by decide +kernel, rfl⟩
theorem dX12_in_9 : Dc cX12_in 9 (.lcmp) 1 10 := ⟨by decide +kernel, rfl⟩
theorem djX12_in_10 : Dj cX12_in 10 (.ifCond .gt 7) 3 13 7 17 := ⟨by decide +kernel, rfl, by decide⟩
theorem dX12_in_13 : Dc cX12_in 13 (.iconst 1) 1 14 := ⟨by decide +kernel, rfl⟩
theorem djX12_in_14 : Dj cX12_in 14 (.goto 4) 3 17 4 18 := ⟨by decide +kernel, rfl, by decide⟩
theorem dX12_in_17 : Dc cX12_in 17 (.iconst 0) 1 18 := ⟨by decide +kernel, rfl⟩
theorem dX12_in_18 : Dc cX12_in 18 (.ireturn) 1 19 := ⟨by decide +kernel, rfl⟩
section
variable {p : Program} {l : Launch} {e : Env} {s : State} {m : MethodId} {args : Array Value} {below : List Frame} {meth : Method} {c : Code} {A0 : Nat → Prop} {D : va_G} {cA : Nat → ClassId} {ad : Nat → Nat} {Z : (Nat → Nat) × (Nat → Nat)} {Q : Int → St → Prop}
set_option maxHeartbeats 4000000 in
set_option maxRecDepth 100000 in
theorem t_X12_in_b17 (E : Ev p s m args meth c cX12_in 6 RX12 A0 D cA ad NR Z) (hr : meth.sig.returnType = (some .boolean)) (σ : St) (hσ : CanS shR NR σ) (h : wp_X12_in_b17 Q  σ) : G p l e (rmL 1 0 0) s m args below meth c 6 A0 D cA ad shR NR 0 0 (MQ below (QIc D cA ad shR NR Q A0) args s 0 0 A0) σ 17 [none, none, none, none, none, none] [] := by
  unfold wp_X12_in_b17 at h
  refine g_iconst E dX12_in_17 ?_
  exact g_zret E hr (Or.inl rfl) h hσ dX12_in_18
set_option maxHeartbeats 4000000 in
set_option maxRecDepth 100000 in
theorem t_X12_in (E : Ev p s m args meth c cX12_in 6 RX12 A0 D cA ad NR Z) (hr : meth.sig.returnType = (some .boolean)) (x0 : Int) (x2 : Int) (x4 : Int) (σ : St) (c0 : C64 x0) (c2 : C64 x2) (c4 : C64 x4) (hσ : CanS shR NR σ) (h : wp_X12_in x0 x2 x4 σ Q) : G p l e (rmL 1 0 0) s m args below meth c 6 A0 D cA ad shR NR 0 0 (MQ below (QIc D cA ad shR NR Q A0) args s 0 0 A0) σ 0 [some (vL x0), none, some (vL x2), none, some (vL x4), none] [] := by
  unfold wp_X12_in at h
  refine g_lload_0 E dX12_in_0 ?_
  refine g_lload_2 E dX12_in_1 ?_
  refine g_lcmp_lt E c0 c2 dX12_in_2 djX12_in_3 (fun hc => ?_) (fun hc => ?_)
  · replace h := h.1 hc
    exact (t_X12_in_b17 E hr σ hσ h).weak (w_d (w_d (w_d (w_d (w_d (w_d w_n))))))
  · replace h := h.2 hc
    refine g_lload_0 E dX12_in_6 ?_
    refine g_lload_4 E dX12_in_7 ?_
    refine g_lcmp_gt E c0 c4 dX12_in_9 djX12_in_10 (fun hc => ?_) (fun hc => ?_)
    · replace h := h.1 hc
      exact (t_X12_in_b17 E hr σ hσ h).weak (w_d (w_d (w_d (w_d (w_d (w_d w_n))))))
    · replace h := h.2 hc
      refine g_iconst E dX12_in_13 ?_
      refine g_goto E djX12_in_14 ?_
      exact g_zret E hr (Or.inr rfl) h hσ dX12_in_18
end
theorem m_X12_in {Z : (Nat → Nat) × (Nat → Nat)} {l : Launch} {D : va_G} {cA : Nat → ClassId} {ad : Nat → Nat} {x0 x2 x4 : Int} {σ : St} {Q : Int → St → Prop} (hA : AdOk NR ad) (c0 : C64 x0) (c2 : C64 x2) (c4 : C64 x4) (hσ : CanS shR NR σ) (h : wp_X12_in x0 x2 x4 σ Q) : KtI Z l D cA ad shR NR yX12_in cX12_in 6 (some .boolean) 1 [vL x0, vL x2, vL x4] σ Q :=
  KtI.of my_X12_in hA [some (vL x0), none, some (vL x2), none, some (vL x4), none] (Nat.le_of_ble_eq_true rfl) rfl (fun p e s m args below meth c A0 E hr => t_X12_in E hr x0 x2 x4 σ c0 c2 c4 hσ h)
theorem dX12_end_0 : Dc cX12_end 0 (.iload_n 1) 1 1 := ⟨by decide +kernel, rfl⟩
theorem dX12_end_1 : Dc cX12_end 1 (.i2l) 1 2 := ⟨by decide +kernel, rfl⟩
theorem dX12_end_2 : Dc cX12_end 2 (.lconst 0) 1 3 := ⟨by decide +kernel, rfl⟩
theorem dX12_end_3 : Dc cX12_end 3 (.aload_n 0) 1 4 := ⟨by decide +kernel, rfl⟩
theorem dX12_end_4 : Dc cX12_end 4 (.getfield 145) 3 7 := ⟨by decide +kernel, rfl⟩
theorem dX12_end_7 : Dc cX12_end 7 (.i2l) 1 8 := ⟨by decide +kernel, rfl⟩
theorem dX12_end_8 : Dc cX12_end 8 (.invokestatic 148) 3 11 := ⟨by decide +kernel, rfl⟩
theorem djX12_end_11 : Dj cX12_end 11 (.ifCond .ne 5) 3 14 5 16 := ⟨by decide +kernel, rfl, by decide⟩
theorem dX12_end_14 : Dc cX12_end 14 (.iconst (-1)) 1 15 := ⟨by decide +kernel, rfl⟩
theorem dX12_end_15 : Dc cX12_end 15 (.ireturn) 1 16 := ⟨by decide +kernel, rfl⟩
theorem dX12_end_16 : Dc cX12_end 16 (.aload_n 0) 1 17 := ⟨by decide +kernel, rfl⟩
theorem dX12_end_17 : Dc cX12_end 17 (.iload_n 1) 1 18 := ⟨by decide +kernel, rfl⟩
theorem dX12_end_18 : Dc cX12_end 18 (.putfield 145) 3 21 := ⟨by decide +kernel, rfl⟩
theorem dX12_end_21 : Dc cX12_end 21 (.iload_n 1) 1 22 := ⟨by decide +kernel, rfl⟩
theorem dX12_end_22 : Dc cX12_end 22 (.ireturn) 1 23 := ⟨by decide +kernel, rfl⟩
section
variable {p : Program} {l : Launch} {e : Env} {s : State} {m : MethodId} {args : Array Value} {below : List Frame} {meth : Method} {c : Code} {A0 : Nat → Prop} {D : va_G} {cA : Nat → ClassId} {ad : Nat → Nat} {Z : (Nat → Nat) × (Nat → Nat)} {Q : Int → St → Prop}
set_option maxHeartbeats 4000000 in
set_option maxRecDepth 100000 in
theorem t_X12_end (E : Ev p s m args meth c cX12_end 2 RX12 A0 D cA ad NR Z) (hr : meth.sig.returnType = (some .int)) (x1 : Int) (σ : St) (c1 : C32 x1) (hσ : CanS shR NR σ) (h : wp_X12_end x1 σ Q) : G p l e (rmL 2 0 0) s m args below meth c 2 A0 D cA ad shR NR 0 0 (MQ below (QIc D cA ad shR NR Q A0) args s 0 0 A0) σ 0 [some (.ref (ad 0)), some (vI x1)] [] := by
  unfold wp_X12_end at h
  refine g_iload_1 E dX12_end_0 ?_
  refine g_i2l E c1 dX12_end_1 ?_
  refine g_lconst (n := 0) E (by decide) dX12_end_2 ?_
  refine g_aload_0 E dX12_end_3 ?_
  refine g_getI E fl_RX12_145 kR_0 sR_0 rfl dX12_end_4 ?_
  refine g_i2l E (fR_0_17 hσ) dX12_end_7 ?_
  refine g_callsI E my_X12_in ms_X12_in ml_RX12_148 (rm_ok (by decide) (by decide)) ⟨Nat.zero_le _, Nat.zero_le _⟩ (m_X12_in E.2.2.1 (c32_of_c64 c1) cL_0 (c32_of_c64 (fR_0_17 hσ)) hσ h) rfl rfl (Nat.le_of_ble_eq_true rfl) dX12_end_8 (fun r1 σ2 cr1 hσ2 h => ?_)
  refine g_if_ne E cr1 djX12_end_11 (fun hc => ?_) (fun hc => ?_)
  · replace h := h.1 hc
    refine g_aload_0 E dX12_end_16 ?_
    refine g_iload_1 E dX12_end_17 ?_
    refine g_putI E fl_RX12_145 rfl rfl kR_0 sR_0 rfl dX12_end_18 (g_nmS (fun σ3 eσ3 => ?_))
    replace h := h σ3 eσ3
    have hσ3 : CanS shR NR σ3 := by rw [eσ3]; exact uR_0_17 hσ2 c1
    refine g_iload_1 E dX12_end_21 ?_
    exact g_iret E hr c1 h hσ3 dX12_end_22
  · replace h := h.2 hc
    refine g_iconst E dX12_end_14 ?_
    exact g_iret E hr cl_m1 h hσ2 dX12_end_15
end
theorem m_X12_end {Z : (Nat → Nat) × (Nat → Nat)} {l : Launch} {D : va_G} {cA : Nat → ClassId} {ad : Nat → Nat} {x1 : Int} {σ : St} {Q : Int → St → Prop} (hA : AdOk NR ad) (c1 : C32 x1) (hσ : CanS shR NR σ) (h : wp_X12_end x1 σ Q) : KtI Z l D cA ad shR NR yX12_end cX12_end 2 (some .int) 2 [.ref (ad 0), vI x1] σ Q :=
  KtI.of my_X12_end hA [some (.ref (ad 0)), some (vI x1)] (Nat.le_of_ble_eq_true rfl) rfl (fun p e s m args below meth c A0 E hr => t_X12_end E hr x1 σ c1 hσ h)
theorem dX12_see_0 : Dc cX12_see 0 (.iload_n 1) 1 1 := ⟨by decide +kernel, rfl⟩
theorem dX12_see_1 : Dc cX12_see 1 (.aload_n 0) 1 2 := ⟨by decide +kernel, rfl⟩
theorem dX12_see_2 : Dc cX12_see 2 (.getfield 152) 3 5 := ⟨by decide +kernel, rfl⟩
theorem djX12_see_5 : Dj cX12_see 5 (.if_icmp .ge 16) 3 8 16 21 := ⟨by decide +kernel, rfl, by decide⟩
theorem dX12_see_8 : Dc cX12_see 8 (.aload_n 0) 1 9 := ⟨by decide +kernel, rfl⟩
theorem dX12_see_9 : Dc cX12_see 9 (.getfield 47) 3 12 := ⟨by decide +kernel, rfl⟩
theorem dX12_see_12 : Dc cX12_see 12 (.iload_n 1) 1 13 := ⟨by decide +kernel, rfl⟩
theorem dX12_see_13 : Dc cX12_see 13 (.baload) 1 14 := ⟨by decide +kernel, rfl⟩
theorem dX12_see_14 : Dc cX12_see 14 (.sipush 255) 3 17 := ⟨by decide +kernel, rfl⟩
theorem dX12_see_17 : Dc cX12_see 17 (.iand) 1 18 := ⟨by decide +kernel, rfl⟩
theorem djX12_see_18 : Dj cX12_see 18 (.goto 4) 3 21 4 22 := ⟨by decide +kernel, rfl, by decide⟩
theorem dX12_see_21 : Dc cX12_see 21 (.iconst (-1)) 1 22 := ⟨by decide +kernel, rfl⟩
theorem dX12_see_22 : Dc cX12_see 22 (.ireturn) 1 23 := ⟨by decide +kernel, rfl⟩
section
variable {p : Program} {l : Launch} {e : Env} {s : State} {m : MethodId} {args : Array Value} {below : List Frame} {meth : Method} {c : Code} {A0 : Nat → Prop} {D : va_G} {cA : Nat → ClassId} {ad : Nat → Nat} {Z : (Nat → Nat) × (Nat → Nat)} {Q : Int → St → Prop}
set_option maxHeartbeats 4000000 in
set_option maxRecDepth 100000 in
theorem t_X12_see (E : Ev p s m args meth c cX12_see 2 RX12 A0 D cA ad NR Z) (hr : meth.sig.returnType = (some .int)) (x1 : Int) (σ : St) (c1 : C32 x1) (hσ : CanS shR NR σ) (h : wp_X12_see x1 σ Q) : G p l e (rmL 1 0 0) s m args below meth c 2 A0 D cA ad shR NR 0 0 (MQ below (QIc D cA ad shR NR Q A0) args s 0 0 A0) σ 0 [some (.ref (ad 0)), some (vI x1)] [] := by
  unfold wp_X12_see at h
  refine g_iload_1 E dX12_see_0 ?_
  refine g_aload_0 E dX12_see_1 ?_
  refine g_getI E fl_RX12_152 kR_0 sR_0 rfl dX12_see_2 ?_
  refine g_icmp_ge E c1 (fR_0_19 hσ) djX12_see_5 (fun hc => ?_) (fun hc => ?_)
  · replace h := h.1 hc
    refine g_iconst E dX12_see_21 ?_
    exact g_iret E hr cl_m1 h hσ dX12_see_22
  · replace h := h.2 hc
    refine g_aload_0 E dX12_see_8 ?_
    refine g_getR E fl_RX12_47 kR_0 sR_0 rfl dX12_see_9 ?_
    refine g_iload_1 E dX12_see_12 ?_
    refine g_bald E kR_12 sR_12 (by decide) h.1 dX12_see_13 ?_
    replace h := h.2
    refine g_sipush E (by decide) dX12_see_14 ?_
    refine g_iand E dX12_see_17 ?_
    refine g_goto E djX12_see_18 ?_
    exact g_iret E hr (c32_t _) h hσ dX12_see_22
end
theorem m_X12_see {Z : (Nat → Nat) × (Nat → Nat)} {l : Launch} {D : va_G} {cA : Nat → ClassId} {ad : Nat → Nat} {x1 : Int} {σ : St} {Q : Int → St → Prop} (hA : AdOk NR ad) (c1 : C32 x1) (hσ : CanS shR NR σ) (h : wp_X12_see x1 σ Q) : KtI Z l D cA ad shR NR yX12_see cX12_see 2 (some .int) 1 [.ref (ad 0), vI x1] σ Q :=
  KtI.of my_X12_see hA [some (.ref (ad 0)), some (vI x1)] (Nat.le_of_ble_eq_true rfl) rfl (fun p e s m args below meth c A0 E hr => t_X12_see E hr x1 σ c1 hσ h)
theorem dX12_advance_0 : Dc cX12_advance 0 (.aload_n 0) 1 1 := ⟨by decide +kernel, rfl⟩
theorem dX12_advance_1 : Dc cX12_advance 1 (.aload_n 0) 1 2 := ⟨by decide +kernel, rfl⟩
theorem dX12_advance_2 : Dc cX12_advance 2 (.getfield 155) 3 5 := ⟨by decide +kernel, rfl⟩
theorem dX12_advance_5 : Dc cX12_advance 5 (.invokevirtual 158) 3 8 := ⟨by decide +kernel, rfl⟩
theorem dX12_advance_8 : Dc cX12_advance 8 (.bipush 32) 2 10 := ⟨by decide +kernel, rfl⟩
theorem djX12_advance_10 : Dj cX12_advance 10 (.if_icmp .eq 16) 3 13 16 26 := ⟨by decide +kernel, rfl, by decide⟩
theorem dX12_advance_13 : Dc cX12_advance 13 (.aload_n 0) 1 14 := ⟨by decide +kernel, rfl⟩
theorem dX12_advance_14 : Dc cX12_advance 14 (.aload_n 0) 1 15 := ⟨by decide +kernel, rfl⟩
theorem dX12_advance_15 : Dc cX12_advance 15 (.getfield 155) 3 18 := ⟨by decide +kernel, rfl⟩
theorem dX12_advance_18 : Dc cX12_advance 18 (.invokevirtual 158) 3 21 := ⟨by decide +kernel, rfl⟩
theorem dX12_advance_21 : Dc cX12_advance 21 (.bipush 10) 2 23 := ⟨by decide +kernel, rfl⟩
theorem djX12_advance_23 : Dj cX12_advance 23 (.if_icmp .ne 16) 3 26 16 39 := ⟨by decide +kernel, rfl, by decide⟩
theorem dX12_advance_26 : Dc cX12_advance 26 (.aload_n 0) 1 27 := ⟨by decide +kernel, rfl⟩
theorem dX12_advance_27 : Dc cX12_advance 27 (.dup) 1 28 := ⟨by decide +kernel, rfl⟩
theorem dX12_advance_28 : Dc cX12_advance 28 (.getfield 155) 3 31 := ⟨by decide +kernel, rfl⟩
theorem dX12_advance_31 : Dc cX12_advance 31 (.iconst 1) 1 32 := ⟨by decide +kernel, rfl⟩
theorem dX12_advance_32 : Dc cX12_advance 32 (.iadd) 1 33 := ⟨by decide +kernel, rfl⟩
theorem dX12_advance_33 : Dc cX12_advance 33 (.putfield 155) 3 36 := ⟨by decide +kernel, rfl⟩
theorem djX12_advance_36 : Dj cX12_advance 36 (.goto (-36)) 3 39 (-36) 0 := ⟨by decide +kernel, rfl, by decide⟩
theorem dX12_advance_39 : Dc cX12_advance 39 (.aload_n 0) 1 40 := ⟨by decide +kernel, rfl⟩
theorem dX12_advance_40 : Dc cX12_advance 40 (.aload_n 0) 1 41 := ⟨by decide +kernel, rfl⟩
theorem dX12_advance_41 : Dc cX12_advance 41 (.getfield 155) 3 44 := ⟨by decide +kernel, rfl⟩
theorem dX12_advance_44 : Dc cX12_advance 44 (.putfield 162) 3 47 := ⟨by decide +kernel, rfl⟩
theorem dX12_advance_47 : Dc cX12_advance 47 (.aload_n 0) 1 48 := ⟨by decide +kernel, rfl⟩
theorem dX12_advance_48 : Dc cX12_advance 48 (.aload_n 0) 1 49 := ⟨by decide +kernel, rfl⟩
theorem dX12_advance_49 : Dc cX12_advance 49 (.getfield 155) 3 52 := ⟨by decide +kernel, rfl⟩
theorem dX12_advance_52 : Dc cX12_advance 52 (.invokevirtual 158) 3 55 := ⟨by decide +kernel, rfl⟩
theorem dX12_advance_55 : Dc cX12_advance 55 (.istore_n 1) 1 56 := ⟨by decide +kernel, rfl⟩
theorem dX12_advance_56 : Dc cX12_advance 56 (.iload_n 1) 1 57 := ⟨by decide +kernel, rfl⟩
theorem dX12_advance_57 : Dc cX12_advance 57 (.iconst (-1)) 1 58 := ⟨by decide +kernel, rfl⟩
theorem djX12_advance_58 : Dj cX12_advance 58 (.if_icmp .ne 11) 3 61 11 69 := ⟨by decide +kernel, rfl, by decide⟩
theorem dX12_advance_61 : Dc cX12_advance 61 (.aload_n 0) 1 62 := ⟨by decide +kernel, rfl⟩
theorem dX12_advance_62 : Dc cX12_advance 62 (.iconst 0) 1 63 := ⟨by decide +kernel, rfl⟩
theorem dX12_advance_63 : Dc cX12_advance 63 (.putfield 165) 3 66 := ⟨by decide +kernel, rfl⟩
theorem djX12_advance_66 : Dj cX12_advance 66 (.goto 224) 3 69 224 290 := ⟨by decide +kernel, rfl, by decide⟩
theorem dX12_advance_69 : Dc cX12_advance 69 (.iload_n 1) 1 70 := ⟨by decide +kernel, rfl⟩
theorem dX12_advance_70 : Dc cX12_advance 70 (.i2l) 1 71 := ⟨by decide +kernel, rfl⟩
theorem dX12_advance_71 : Dc cX12_advance 71 (.ldc2_w 168) 3 74 := ⟨by decide +kernel, rfl⟩
theorem dX12_advance_74 : Dc cX12_advance 74 (.ldc2_w 170) 3 77 := ⟨by decide +kernel, rfl⟩
theorem dX12_advance_77 : Dc cX12_advance 77 (.invokestatic 148) 3 80 := ⟨by decide +kernel, rfl⟩
theorem djX12_advance_80 : Dj cX12_advance 80 (.ifCond .eq 45) 3 83 45 125 := ⟨by decide +kernel, rfl, by decide⟩
theorem dX12_advance_83 : Dc cX12_advance 83 (.aload_n 0) 1 84 := ⟨by decide +kernel, rfl⟩
theorem dX12_advance_84 : Dc cX12_advance 84 (.aload_n 0) 1 85 := ⟨by decide +kernel, rfl⟩
theorem dX12_advance_85 : Dc cX12_advance 85 (.getfield 155) 3 88 := ⟨by decide +kernel, rfl⟩
theorem dX12_advance_88 : Dc cX12_advance 88 (.invokevirtual 158) 3 91 := ⟨by decide +kernel, rfl⟩
theorem dX12_advance_91 : Dc cX12_advance 91 (.i2l) 1 92 := ⟨by decide +kernel, rfl⟩
theorem dX12_advance_92 : Dc cX12_advance 92 (.ldc2_w 168) 3 95 := ⟨by decide +kernel, rfl⟩
theorem dX12_advance_95 : Dc cX12_advance 95 (.ldc2_w 170) 3 98 := ⟨by decide +kernel, rfl⟩
theorem dX12_advance_98 : Dc cX12_advance 98 (.invokestatic 148) 3 101 := ⟨by decide +kernel, rfl⟩
theorem djX12_advance_101 : Dj cX12_advance 101 (.ifCond .eq 16) 3 104 16 117 := ⟨by decide +kernel, rfl, by decide⟩
theorem dX12_advance_104 : Dc cX12_advance 104 (.aload_n 0) 1 105 := ⟨by decide +kernel, rfl⟩
theorem dX12_advance_105 : Dc cX12_advance 105 (.dup) 1 106 := ⟨by decide +kernel, rfl⟩
theorem dX12_advance_106 : Dc cX12_advance 106 (.getfield 155) 3 109 := ⟨by decide +kernel, rfl⟩
theorem dX12_advance_109 : Dc cX12_advance 109 (.iconst 1) 1 110 := ⟨by decide +kernel, rfl⟩
theorem dX12_advance_110 : Dc cX12_advance 110 (.iadd) 1 111 := ⟨by decide +kernel, rfl⟩
theorem dX12_advance_111 : Dc cX12_advance 111 (.putfield 155) 3 114 := ⟨by decide +kernel, rfl⟩
theorem djX12_advance_114 : Dj cX12_advance 114 (.goto (-31)) 3 117 (-31) 83 := ⟨by decide +kernel, rfl, by decide⟩
theorem dX12_advance_117 : Dc cX12_advance 117 (.aload_n 0) 1 118 := ⟨by decide +kernel, rfl⟩
theorem dX12_advance_118 : Dc cX12_advance 118 (.iconst 1) 1 119 := ⟨by decide +kernel, rfl⟩
theorem dX12_advance_119 : Dc cX12_advance 119 (.putfield 165) 3 122 := ⟨by decide +kernel, rfl⟩
theorem djX12_advance_122 : Dj cX12_advance 122 (.goto 168) 3 125 168 290 := ⟨by decide +kernel, rfl, by decide⟩
theorem dX12_advance_125 : Dc cX12_advance 125 (.iload_n 1) 1 126 := ⟨by decide +kernel, rfl⟩
theorem dX12_advance_126 : Dc cX12_advance 126 (.i2l) 1 127 := ⟨by decide +kernel, rfl⟩
theorem dX12_advance_127 : Dc cX12_advance 127 (.ldc2_w 172) 3 130 := ⟨by decide +kernel, rfl⟩
theorem dX12_advance_130 : Dc cX12_advance 130 (.ldc2_w 174) 3 133 := ⟨by decide +kernel, rfl⟩
theorem dX12_advance_133 : Dc cX12_advance 133 (.invokestatic 148) 3 136 := ⟨by decide +kernel, rfl⟩
theorem djX12_advance_136 : Dj cX12_advance 136 (.ifCond .eq 79) 3 139 79 215 := ⟨by decide +kernel, rfl, by decide⟩
theorem dX12_advance_139 : Dc cX12_advance 139 (.aload_n 0) 1 140 := ⟨by decide +kernel, rfl⟩
theorem dX12_advance_140 : Dc cX12_advance 140 (.iconst 0) 1 141 := ⟨by decide +kernel, rfl⟩
theorem dX12_advance_141 : Dc cX12_advance 141 (.putfield 176) 3 144 := ⟨by decide +kernel, rfl⟩
theorem dX12_advance_144 : Dc cX12_advance 144 (.aload_n 0) 1 145 := ⟨by decide +kernel, rfl⟩
theorem dX12_advance_145 : Dc cX12_advance 145 (.aload_n 0) 1 146 := ⟨by decide +kernel, rfl⟩
theorem dX12_advance_146 : Dc cX12_advance 146 (.getfield 155) 3 149 := ⟨by decide +kernel, rfl⟩
theorem dX12_advance_149 : Dc cX12_advance 149 (.invokevirtual 158) 3 152 := ⟨by decide +kernel, rfl⟩
theorem dX12_advance_152 : Dc cX12_advance 152 (.i2l) 1 153 := ⟨by decide +kernel, rfl⟩
theorem dX12_advance_153 : Dc cX12_advance 153 (.ldc2_w 172) 3 156 := ⟨by decide +kernel, rfl⟩
theorem dX12_advance_156 : Dc cX12_advance 156 (.ldc2_w 174) 3 159 := ⟨by decide +kernel, rfl⟩
theorem dX12_advance_159 : Dc cX12_advance 159 (.invokestatic 148) 3 162 := ⟨by decide +kernel, rfl⟩
theorem djX12_advance_162 : Dj cX12_advance 162 (.ifCond .eq 45) 3 165 45 207 := ⟨by decide +kernel, rfl, by decide⟩
theorem dX12_advance_165 : Dc cX12_advance 165 (.aload_n 0) 1 166 := ⟨by decide +kernel, rfl⟩
theorem dX12_advance_166 : Dc cX12_advance 166 (.sipush 9999) 3 169 := ⟨by decide +kernel, rfl⟩
theorem dX12_advance_169 : Dc cX12_advance 169 (.bipush 10) 2 171 := ⟨by decide +kernel, rfl⟩
theorem dX12_advance_171 : Dc cX12_advance 171 (.aload_n 0) 1 172 := ⟨by decide +kernel, rfl⟩
theorem dX12_advance_172 : Dc cX12_advance 172 (.getfield 176) 3 175 := ⟨by decide +kernel, rfl⟩
theorem dX12_advance_175 : Dc cX12_advance 175 (.imul) 1 176 := ⟨by decide +kernel, rfl⟩
theorem dX12_advance_176 : Dc cX12_advance 176 (.aload_n 0) 1 177 := ⟨by decide +kernel, rfl⟩
theorem dX12_advance_177 : Dc cX12_advance 177 (.aload_n 0) 1 178 := ⟨by decide +kernel, rfl⟩
theorem dX12_advance_178 : Dc cX12_advance 178 (.getfield 155) 3 181 := ⟨by decide +kernel, rfl⟩
theorem dX12_advance_181 : Dc cX12_advance 181 (.invokevirtual 158) 3 184 := ⟨by decide +kernel, rfl⟩
theorem dX12_advance_184 : Dc cX12_advance 184 (.iadd) 1 185 := ⟨by decide +kernel, rfl⟩
theorem dX12_advance_185 : Dc cX12_advance 185 (.bipush 48) 2 187 := ⟨by decide +kernel, rfl⟩
theorem dX12_advance_187 : Dc cX12_advance 187 (.isub) 1 188 := ⟨by decide +kernel, rfl⟩
theorem dX12_advance_188 : Dc cX12_advance 188 (.invokestatic 179) 3 191 := ⟨by decide +kernel, rfl⟩
theorem dX12_advance_191 : Dc cX12_advance 191 (.putfield 176) 3 194 := ⟨by decide +kernel, rfl⟩
theorem dX12_advance_194 : Dc cX12_advance 194 (.aload_n 0) 1 195 := ⟨by decide +kernel, rfl⟩
theorem dX12_advance_195 : Dc cX12_advance 195 (.dup) 1 196 := ⟨by decide +kernel, rfl⟩
theorem dX12_advance_196 : Dc cX12_advance 196 (.getfield 155) 3 199 := ⟨by decide +kernel, rfl⟩
theorem dX12_advance_199 : Dc cX12_advance 199 (.iconst 1) 1 200 := ⟨by decide +kernel, rfl⟩
theorem dX12_advance_200 : Dc cX12_advance 200 (.iadd) 1 201 := ⟨by decide +kernel, rfl⟩
theorem dX12_advance_201 : Dc cX12_advance 201 (.putfield 155) 3 204 := ⟨by decide +kernel, rfl⟩
theorem djX12_advance_204 : Dj cX12_advance 204 (.goto (-60)) 3 207 (-60) 144 := ⟨by decide +kernel, rfl, by decide⟩
theorem dX12_advance_207 : Dc cX12_advance 207 (.aload_n 0) 1 208 := ⟨by decide +kernel, rfl⟩
theorem dX12_advance_208 : Dc cX12_advance 208 (.iconst 2) 1 209 := ⟨by decide +kernel, rfl⟩
theorem dX12_advance_209 : Dc cX12_advance 209 (.putfield 165) 3 212 := ⟨by decide +kernel, rfl⟩
theorem djX12_advance_212 : Dj cX12_advance 212 (.goto 78) 3 215 78 290 := ⟨by decide +kernel, rfl, by decide⟩
theorem dX12_advance_215 : Dc cX12_advance 215 (.aload_n 0) 1 216 := ⟨by decide +kernel, rfl⟩
theorem dX12_advance_216 : Dc cX12_advance 216 (.dup) 1 217 := ⟨by decide +kernel, rfl⟩
theorem dX12_advance_217 : Dc cX12_advance 217 (.getfield 155) 3 220 := ⟨by decide +kernel, rfl⟩
theorem dX12_advance_220 : Dc cX12_advance 220 (.iconst 1) 1 221 := ⟨by decide +kernel, rfl⟩
theorem dX12_advance_221 : Dc cX12_advance 221 (.iadd) 1 222 := ⟨by decide +kernel, rfl⟩
theorem dX12_advance_222 : Dc cX12_advance 222 (.putfield 155) 3 225 := ⟨by decide +kernel, rfl⟩
theorem dX12_advance_225 : Dc cX12_advance 225 (.aload_n 0) 1 226 := ⟨by decide +kernel, rfl⟩
theorem dX12_advance_226 : Dc cX12_advance 226 (.iload_n 1) 1 227 := ⟨by decide +kernel, rfl⟩
theorem dX12_advance_227 : Dc cX12_advance 227 (.i2l) 1 228 := ⟨by decide +kernel, rfl⟩
theorem dX12_advance_228 : Dc cX12_advance 228 (.ldc2_w 185) 3 231 := ⟨by decide +kernel, rfl⟩
theorem dX12_advance_231 : Dc cX12_advance 231 (.ldc2_w 187) 3 234 := ⟨by decide +kernel, rfl⟩
theorem dX12_advance_234 : Dc cX12_advance 234 (.invokestatic 148) 3 237 := ⟨by decide +kernel, rfl⟩
theorem djX12_advance_237 : Dj cX12_advance 237 (.ifCond .eq 10) 3 240 10 247 := ⟨by decide +kernel, rfl, by decide⟩
theorem dX12_advance_240 : Dc cX12_advance 240 (.iload_n 1) 1 241 := ⟨by decide +kernel, rfl⟩
theorem dX12_advance_241 : Dc cX12_advance 241 (.bipush 65) 2 243 := ⟨by decide +kernel, rfl⟩
theorem dX12_advance_243 : Dc cX12_advance 243 (.isub) 1 244 := ⟨by decide +kernel, rfl⟩
theorem djX12_advance_244 : Dj cX12_advance 244 (.goto 4) 3 247 4 248 := ⟨by decide +kernel, rfl, by decide⟩
theorem dX12_advance_247 : Dc cX12_advance 247 (.iload_n 1) 1 248 := ⟨by decide +kernel, rfl⟩
theorem dX12_advance_248 : Dc cX12_advance 248 (.putfield 176) 3 251 := ⟨by decide +kernel, rfl⟩
theorem dX12_advance_251 : Dc cX12_advance 251 (.aload_n 0) 1 252 := ⟨by decide +kernel, rfl⟩
theorem dX12_advance_252 : Dc cX12_advance 252 (.iload_n 1) 1 253 := ⟨by decide +kernel, rfl⟩
theorem dX12_advance_253 : Dc cX12_advance 253 (.i2l) 1 254 := ⟨by decide +kernel, rfl⟩
theorem dX12_advance_254 : Dc cX12_advance 254 (.ldc2_w 185) 3 257 := ⟨by decide +kernel, rfl⟩
theorem dX12_advance_257 : Dc cX12_advance 257 (.ldc2_w 187) 3 260 := ⟨by decide +kernel, rfl⟩
theorem dX12_advance_260 : Dc cX12_advance 260 (.invokestatic 148) 3 263 := ⟨by decide +kernel, rfl⟩
theorem djX12_advance_263 : Dj cX12_advance 263 (.ifCond .eq 7) 3 266 7 270 := ⟨by decide +kernel, rfl, by decide⟩
theorem dX12_advance_266 : Dc cX12_advance 266 (.iconst 3) 1 267 := ⟨by decide +kernel, rfl⟩
theorem djX12_advance_267 : Dj cX12_advance 267 (.goto 20) 3 270 20 287 := ⟨by decide +kernel, rfl, by decide⟩
theorem dX12_advance_270 : Dc cX12_advance 270 (.iload_n 1) 1 271 := ⟨by decide +kernel, rfl⟩
theorem dX12_advance_271 : Dc cX12_advance 271 (.bipush 61) 2 273 := ⟨by decide +kernel, rfl⟩
theorem djX12_advance_273 : Dj cX12_advance 273 (.if_icmp .eq 9) 3 276 9 282 := ⟨by decide +kernel, rfl, by decide⟩
theorem dX12_advance_276 : Dc cX12_advance 276 (.iload_n 1) 1 277 := ⟨by decide +kernel, rfl⟩
theorem dX12_advance_277 : Dc cX12_advance 277 (.bipush 59) 2 279 := ⟨by decide +kernel, rfl⟩
theorem djX12_advance_279 : Dj cX12_advance 279 (.if_icmp .ne 7) 3 282 7 286 := ⟨by decide +kernel, rfl, by decide⟩
theorem dX12_advance_282 : Dc cX12_advance 282 (.iconst 4) 1 283 := ⟨by decide +kernel, rfl⟩
theorem djX12_advance_283 : Dj cX12_advance 283 (.goto 4) 3 286 4 287 := ⟨by decide +kernel, rfl, by decide⟩
theorem dX12_advance_286 : Dc cX12_advance 286 (.iconst 5) 1 287 := ⟨by decide +kernel, rfl⟩
theorem dX12_advance_287 : Dc cX12_advance 287 (.putfield 165) 3 290 := ⟨by decide +kernel, rfl⟩
theorem dX12_advance_290 : Dc cX12_advance 290 (.return_) 1 291 := ⟨by decide +kernel, rfl⟩
section
variable {p : Program} {l : Launch} {e : Env} {s : State} {m : MethodId} {args : Array Value} {below : List Frame} {meth : Method} {c : Code} {A0 : Nat → Prop} {D : va_G} {cA : Nat → ClassId} {ad : Nat → Nat} {Z : (Nat → Nat) × (Nat → Nat)} {Q : Int → St → Prop}
set_option maxHeartbeats 4000000 in
set_option maxRecDepth 100000 in
theorem t_X12_advance_b26 (E : Ev p s m args meth c cX12_advance 2 RX12 A0 D cA ad NR Z) (hr : meth.sig.returnType = none) {K0 : St → Prop} (hK0 : ∀ (σ : St), CanS shR NR σ → K0  σ → G p l e (rmL 2 0 0) s m args below meth c 2 A0 D cA ad shR NR 0 0 (MQ below (QVc D cA ad shR NR Q A0) args s 0 0 A0) σ 0 [some (.ref (ad 0)), none] []) (σ : St) (hσ : CanS shR NR σ) (h : wp_X12_advance_b26 Q K0  σ) : G p l e (rmL 2 0 0) s m args below meth c 2 A0 D cA ad shR NR 0 0 (MQ below (QVc D cA ad shR NR Q A0) args s 0 0 A0) σ 26 [some (.ref (ad 0)), none] [] := by
  unfold wp_X12_advance_b26 at h
  refine g_aload_0 E dX12_advance_26 ?_
  refine g_dup E rfl dX12_advance_27 ?_
  refine g_getI E fl_RX12_155 kR_0 sR_0 rfl dX12_advance_28 ?_
  refine g_iconst E dX12_advance_31 ?_
  refine g_iadd E dX12_advance_32 ?_
  refine g_putI E fl_RX12_155 rfl rfl kR_0 sR_0 rfl dX12_advance_33 (g_nmS (fun σ17 eσ17 => ?_))
  replace h := h σ17 eσ17
  have hσ17 : CanS shR NR σ17 := by rw [eσ17]; exact uR_0_20 hσ (c32_w _)
  refine g_goto E djX12_advance_36 ?_
  exact (hK0 σ17 hσ17 h).weak (w_k (w_d w_n))
set_option maxHeartbeats 4000000 in
set_option maxRecDepth 100000 in
theorem t_X12_advance_l83 (E : Ev p s m args meth c cX12_advance 2 RX12 A0 D cA ad NR Z) (hr : meth.sig.returnType = none) : ∀ (n : Nat) (σ : St), CanS shR NR σ → wp_X12_advance_l83 Q n  σ → G p l e (rmL 2 0 0) s m args below meth c 2 A0 D cA ad shR NR 0 0 (MQ below (QVc D cA ad shR NR Q A0) args s 0 0 A0) σ 83 [some (.ref (ad 0)), none] [] := by
  intro n
  induction n with
  | zero => intro _ _ h; exact h.elim
  | succ n ih =>
    intro σ hσ h
    unfold wp_X12_advance_l83 at h
    refine g_aload_0 E dX12_advance_83 ?_
    refine g_aload_0 E dX12_advance_84 ?_
    refine g_getI E fl_RX12_155 kR_0 sR_0 rfl dX12_advance_85 ?_
    refine g_callvI E my_X12_see mi_X12_see msel_X12_see ml_RX12_158 (rm_ok (by decide) (by decide)) ⟨Nat.zero_le _, Nat.zero_le _⟩ kR_0 sR_0 rfl (m_X12_see E.2.2.1 (fR_0_20 hσ) hσ h) rfl rfl (Nat.le_of_ble_eq_true rfl) dX12_advance_88 (fun r30 σ31 cr30 hσ31 h => ?_)
    refine g_i2l E cr30 dX12_advance_91 ?_
    refine g_ldc2 (n := 97) E wc_RX12_168 dX12_advance_92 ?_
    refine g_ldc2 (n := 122) E wc_RX12_170 dX12_advance_95 ?_
    refine g_callsI E my_X12_in ms_X12_in ml_RX12_148 (rm_ok (by decide) (by decide)) ⟨Nat.zero_le _, Nat.zero_le _⟩ (m_X12_in E.2.2.1 (c32_of_c64 cr30) cL_97 cL_122 hσ31 h) rfl rfl (Nat.le_of_ble_eq_true rfl) dX12_advance_98 (fun r32 σ33 cr32 hσ33 h => ?_)
    refine g_if_eq E cr32 djX12_advance_101 (fun hc => ?_) (fun hc => ?_)
    · replace h := h.1 hc
      refine g_aload_0 E dX12_advance_117 ?_
      refine g_iconst E dX12_advance_118 ?_
      refine g_putI E fl_RX12_165 rfl rfl kR_0 sR_0 rfl dX12_advance_119 (g_nmS (fun σ34 eσ34 => ?_))
      replace h := h σ34 eσ34
      have hσ34 : CanS shR NR σ34 := by rw [eσ34]; exact uR_0_22 hσ33 cl_1
      refine g_goto E djX12_advance_122 ?_
      exact g_vret E hr h hσ34 dX12_advance_290
    · replace h := h.2 hc
      refine g_aload_0 E dX12_advance_104 ?_
      refine g_dup E rfl dX12_advance_105 ?_
      refine g_getI E fl_RX12_155 kR_0 sR_0 rfl dX12_advance_106 ?_
      refine g_iconst E dX12_advance_109 ?_
      refine g_iadd E dX12_advance_110 ?_
      refine g_putI E fl_RX12_155 rfl rfl kR_0 sR_0 rfl dX12_advance_111 (g_nmS (fun σ35 eσ35 => ?_))
      replace h := h σ35 eσ35
      have hσ35 : CanS shR NR σ35 := by rw [eσ35]; exact uR_0_20 hσ33 (c32_w _)
      refine g_goto E djX12_advance_114 ?_
      exact (ih σ35 hσ35 h).weak (w_k (w_d w_n))
set_option maxHeartbeats 4000000 in
set_option maxRecDepth 100000 in
theorem t_X12_advance_l144 (E : Ev p s m args meth c cX12_advance 2 RX12 A0 D cA ad NR Z) (hr : meth.sig.returnType = none) : ∀ (n : Nat) (σ : St), CanS shR NR σ → wp_X12_advance_l144 Q n  σ → G p l e (rmL 2 0 0) s m args below meth c 2 A0 D cA ad shR NR 0 0 (MQ below (QVc D cA ad shR NR Q A0) args s 0 0 A0) σ 144 [some (.ref (ad 0)), none] [] := by
  intro n
  induction n with
  | zero => intro _ _ h; exact h.elim
  | succ n ih =>
    intro σ hσ h
    unfold wp_X12_advance_l144 at h
    refine g_aload_0 E dX12_advance_144 ?_
    refine g_aload_0 E dX12_advance_145 ?_
    refine g_getI E fl_RX12_155 kR_0 sR_0 rfl dX12_advance_146 ?_
    refine g_callvI E my_X12_see mi_X12_see msel_X12_see ml_RX12_158 (rm_ok (by decide) (by decide)) ⟨Nat.zero_le _, Nat.zero_le _⟩ kR_0 sR_0 rfl (m_X12_see E.2.2.1 (fR_0_20 hσ) hσ h) rfl rfl (Nat.le_of_ble_eq_true rfl) dX12_advance_149 (fun r21 σ22 cr21 hσ22 h => ?_)
    refine g_i2l E cr21 dX12_advance_152 ?_
    refine g_ldc2 (n := 48) E wc_RX12_172 dX12_advance_153 ?_
    refine g_ldc2 (n := 57) E wc_RX12_174 dX12_advance_156 ?_
    refine g_callsI E my_X12_in ms_X12_in ml_RX12_148 (rm_ok (by decide) (by decide)) ⟨Nat.zero_le _, Nat.zero_le _⟩ (m_X12_in E.2.2.1 (c32_of_c64 cr21) cL_48 cL_57 hσ22 h) rfl rfl (Nat.le_of_ble_eq_true rfl) dX12_advance_159 (fun r23 σ24 cr23 hσ24 h => ?_)
    refine g_if_eq E cr23 djX12_advance_162 (fun hc => ?_) (fun hc => ?_)
    · replace h := h.1 hc
      refine g_aload_0 E dX12_advance_207 ?_
      refine g_iconst E dX12_advance_208 ?_
      refine g_putI E fl_RX12_165 rfl rfl kR_0 sR_0 rfl dX12_advance_209 (g_nmS (fun σ25 eσ25 => ?_))
      replace h := h σ25 eσ25
      have hσ25 : CanS shR NR σ25 := by rw [eσ25]; exact uR_0_22 hσ24 cl_2
      refine g_goto E djX12_advance_212 ?_
      exact g_vret E hr h hσ25 dX12_advance_290
    · replace h := h.2 hc
      refine g_aload_0 E dX12_advance_165 ?_
      refine g_sipush E (by decide) dX12_advance_166 ?_
      refine g_bipush E (by decide) dX12_advance_169 ?_
      refine g_aload_0 E dX12_advance_171 ?_
      refine g_getI E fl_RX12_176 kR_0 sR_0 rfl dX12_advance_172 ?_
      refine g_imul E dX12_advance_175 ?_
      refine g_aload_0 E dX12_advance_176 ?_
      refine g_aload_0 E dX12_advance_177 ?_
      refine g_getI E fl_RX12_155 kR_0 sR_0 rfl dX12_advance_178 ?_
      refine g_callvI E my_X12_see mi_X12_see msel_X12_see ml_RX12_158 (rm_ok (by decide) (by decide)) ⟨Nat.zero_le _, Nat.zero_le _⟩ kR_0 sR_0 rfl (m_X12_see E.2.2.1 (fR_0_20 hσ24) hσ24 h) rfl rfl (Nat.le_of_ble_eq_true rfl) dX12_advance_181 (fun r26 σ27 cr26 hσ27 h => ?_)
      refine g_iadd E dX12_advance_184 ?_
      refine g_bipush E (by decide) dX12_advance_185 ?_
      refine g_isub E dX12_advance_187 ?_
      refine g_mmin E ml_RX12_179 cl_9999 (c32_w _) (Nat.le_of_ble_eq_true rfl) (rm_1 2) ⟨Nat.zero_le _, Nat.zero_le _⟩ dX12_advance_188 ?_
      refine g_putI E fl_RX12_176 rfl rfl kR_0 sR_0 rfl dX12_advance_191 (g_nmS (fun σ28 eσ28 => ?_))
      replace h := h σ28 eσ28
      have hσ28 : CanS shR NR σ28 := by rw [eσ28]; exact uR_0_23 hσ27 (c32_min cl_9999 (c32_w _))
      refine g_aload_0 E dX12_advance_194 ?_
      refine g_dup E rfl dX12_advance_195 ?_
      refine g_getI E fl_RX12_155 kR_0 sR_0 rfl dX12_advance_196 ?_
      refine g_iconst E dX12_advance_199 ?_
      refine g_iadd E dX12_advance_200 ?_
      refine g_putI E fl_RX12_155 rfl rfl kR_0 sR_0 rfl dX12_advance_201 (g_nmS (fun σ29 eσ29 => ?_))
      replace h := h σ29 eσ29
      have hσ29 : CanS shR NR σ29 := by rw [eσ29]; exact uR_0_20 hσ28 (c32_w _)
      refine g_goto E djX12_advance_204 ?_
      exact (ih σ29 hσ29 h).weak (w_k (w_d w_n))
set_option maxHeartbeats 4000000 in
set_option maxRecDepth 100000 in
theorem t_X12_advance_b287 (E : Ev p s m args meth c cX12_advance 2 RX12 A0 D cA ad NR Z) (hr : meth.sig.returnType = none) (s0 : Int) (σ : St) (cs0 : C32 s0) (hσ : CanS shR NR σ) (h : wp_X12_advance_b287 Q s0 σ) : G p l e (rmL 2 0 0) s m args below meth c 2 A0 D cA ad shR NR 0 0 (MQ below (QVc D cA ad shR NR Q A0) args s 0 0 A0) σ 287 [none, none] [vI s0, .ref (ad 0)] := by
  unfold wp_X12_advance_b287 at h
  refine g_putI E fl_RX12_165 rfl rfl kR_0 sR_0 rfl dX12_advance_287 (g_nmS (fun σ36 eσ36 => ?_))
  replace h := h σ36 eσ36
  have hσ36 : CanS shR NR σ36 := by rw [eσ36]; exact uR_0_22 hσ cs0
  exact g_vret E hr h hσ36 dX12_advance_290
set_option maxHeartbeats 4000000 in
set_option maxRecDepth 100000 in
theorem t_X12_advance_b282 (E : Ev p s m args meth c cX12_advance 2 RX12 A0 D cA ad NR Z) (hr : meth.sig.returnType = none) (σ : St) (hσ : CanS shR NR σ) (h : wp_X12_advance_b282 Q  σ) : G p l e (rmL 2 0 0) s m args below meth c 2 A0 D cA ad shR NR 0 0 (MQ below (QVc D cA ad shR NR Q A0) args s 0 0 A0) σ 282 [none, none] [.ref (ad 0)] := by
  unfold wp_X12_advance_b282 at h
  refine g_iconst E dX12_advance_282 ?_
  refine g_goto E djX12_advance_283 ?_
  exact (t_X12_advance_b287 E hr 4 σ cl_4 hσ h).weak (w_d (w_d w_n))
set_option maxHeartbeats 4000000 in
set_option maxRecDepth 100000 in
theorem t_X12_advance_b248 (E : Ev p s m args meth c cX12_advance 2 RX12 A0 D cA ad NR Z) (hr : meth.sig.returnType = none) (x1 : Int) (s0 : Int) (σ : St) (c1 : C32 x1) (cs0 : C32 s0) (hσ : CanS shR NR σ) (h : wp_X12_advance_b248 Q x1 s0 σ) : G p l e (rmL 2 0 0) s m args below meth c 2 A0 D cA ad shR NR 0 0 (MQ below (QVc D cA ad shR NR Q A0) args s 0 0 A0) σ 248 [some (.ref (ad 0)), some (vI x1)] [vI s0, .ref (ad 0)] := by
  unfold wp_X12_advance_b248 at h
  refine g_putI E fl_RX12_176 rfl rfl kR_0 sR_0 rfl dX12_advance_248 (g_nmS (fun σ18 eσ18 => ?_))
  replace h := h σ18 eσ18
  have hσ18 : CanS shR NR σ18 := by rw [eσ18]; exact uR_0_23 hσ cs0
  refine g_aload_0 E dX12_advance_251 ?_
  refine g_iload_1 E dX12_advance_252 ?_
  refine g_i2l E c1 dX12_advance_253 ?_
  refine g_ldc2 (n := 65) E wc_RX12_185 dX12_advance_254 ?_
  refine g_ldc2 (n := 76) E wc_RX12_187 dX12_advance_257 ?_
  refine g_callsI E my_X12_in ms_X12_in ml_RX12_148 (rm_ok (by decide) (by decide)) ⟨Nat.zero_le _, Nat.zero_le _⟩ (m_X12_in E.2.2.1 (c32_of_c64 c1) cL_65 cL_76 hσ18 h) rfl rfl (Nat.le_of_ble_eq_true rfl) dX12_advance_260 (fun r19 σ20 cr19 hσ20 h => ?_)
  refine g_if_eq E cr19 djX12_advance_263 (fun hc => ?_) (fun hc => ?_)
  · replace h := h.1 hc
    refine g_iload_1 E dX12_advance_270 ?_
    refine g_bipush E (by decide) dX12_advance_271 ?_
    refine g_icmp_eq E c1 cl_61 djX12_advance_273 (fun hc => ?_) (fun hc => ?_)
    · replace h := h.1 hc
      exact (t_X12_advance_b282 E hr σ20 hσ20 h).weak (w_d (w_d w_n))
    · replace h := h.2 hc
      refine g_iload_1 E dX12_advance_276 ?_
      refine g_bipush E (by decide) dX12_advance_277 ?_
      refine g_icmp_ne E c1 cl_59 djX12_advance_279 (fun hc => ?_) (fun hc => ?_)
      · replace h := h.1 hc
        refine g_iconst E dX12_advance_286 ?_
        exact (t_X12_advance_b287 E hr 5 σ20 cl_5 hσ20 h).weak (w_d (w_d w_n))
      · replace h := h.2 hc
        exact (t_X12_advance_b282 E hr σ20 hσ20 h).weak (w_d (w_d w_n))
  · replace h := h.2 hc
    refine g_iconst E dX12_advance_266 ?_
    refine g_goto E djX12_advance_267 ?_
    exact (t_X12_advance_b287 E hr 3 σ20 cl_3 hσ20 h).weak (w_d (w_d w_n))
set_option maxHeartbeats 4000000 in
set_option maxRecDepth 100000 in
theorem t_X12_advance_l0 (E : Ev p s m args meth c cX12_advance 2 RX12 A0 D cA ad NR Z) (hr : meth.sig.returnType = none) : ∀ (n : Nat) (σ : St), CanS shR NR σ → wp_X12_advance_l0 Q n  σ → G p l e (rmL 2 0 0) s m args below meth c 2 A0 D cA ad shR NR 0 0 (MQ below (QVc D cA ad shR NR Q A0) args s 0 0 A0) σ 0 [some (.ref (ad 0)), none] [] := by
  intro n
  induction n with
  | zero => intro _ _ h; exact h.elim
  | succ n ih =>
    intro σ hσ h
    unfold wp_X12_advance_l0 at h
    refine g_aload_0 E dX12_advance_0 ?_
    refine g_aload_0 E dX12_advance_1 ?_
    refine g_getI E fl_RX12_155 kR_0 sR_0 rfl dX12_advance_2 ?_
    refine g_callvI E my_X12_see mi_X12_see msel_X12_see ml_RX12_158 (rm_ok (by decide) (by decide)) ⟨Nat.zero_le _, Nat.zero_le _⟩ kR_0 sR_0 rfl (m_X12_see E.2.2.1 (fR_0_20 hσ) hσ h) rfl rfl (Nat.le_of_ble_eq_true rfl) dX12_advance_5 (fun r1 σ2 cr1 hσ2 h => ?_)
    refine g_bipush E (by decide) dX12_advance_8 ?_
    refine g_icmp_eq E cr1 cl_32 djX12_advance_10 (fun hc => ?_) (fun hc => ?_)
    · replace h := h.1 hc
      exact (t_X12_advance_b26 E hr ih σ2 hσ2 h).weak (w_k (w_d w_n))
    · replace h := h.2 hc
      refine g_aload_0 E dX12_advance_13 ?_
      refine g_aload_0 E dX12_advance_14 ?_
      refine g_getI E fl_RX12_155 kR_0 sR_0 rfl dX12_advance_15 ?_
      refine g_callvI E my_X12_see mi_X12_see msel_X12_see ml_RX12_158 (rm_ok (by decide) (by decide)) ⟨Nat.zero_le _, Nat.zero_le _⟩ kR_0 sR_0 rfl (m_X12_see E.2.2.1 (fR_0_20 hσ2) hσ2 h) rfl rfl (Nat.le_of_ble_eq_true rfl) dX12_advance_18 (fun r3 σ4 cr3 hσ4 h => ?_)
      refine g_bipush E (by decide) dX12_advance_21 ?_
      refine g_icmp_ne E cr3 cl_10 djX12_advance_23 (fun hc => ?_) (fun hc => ?_)
      · replace h := h.1 hc
        refine g_aload_0 E dX12_advance_39 ?_
        refine g_aload_0 E dX12_advance_40 ?_
        refine g_getI E fl_RX12_155 kR_0 sR_0 rfl dX12_advance_41 ?_
        refine g_putI E fl_RX12_162 rfl rfl kR_0 sR_0 rfl dX12_advance_44 (g_nmS (fun σ5 eσ5 => ?_))
        replace h := h σ5 eσ5
        have hσ5 : CanS shR NR σ5 := by rw [eσ5]; exact uR_0_21 hσ4 (fR_0_20 hσ4)
        refine g_aload_0 E dX12_advance_47 ?_
        refine g_aload_0 E dX12_advance_48 ?_
        refine g_getI E fl_RX12_155 kR_0 sR_0 rfl dX12_advance_49 ?_
        refine g_callvI E my_X12_see mi_X12_see msel_X12_see ml_RX12_158 (rm_ok (by decide) (by decide)) ⟨Nat.zero_le _, Nat.zero_le _⟩ kR_0 sR_0 rfl (m_X12_see E.2.2.1 (fR_0_20 hσ5) hσ5 h) rfl rfl (Nat.le_of_ble_eq_true rfl) dX12_advance_52 (fun r6 σ7 cr6 hσ7 h => ?_)
        refine g_istore_1 E rfl (by decide) dX12_advance_55 ?_
        refine g_iload_1 E dX12_advance_56 ?_
        refine g_iconst E dX12_advance_57 ?_
        refine g_icmp_ne E cr6 cl_m1 djX12_advance_58 (fun hc => ?_) (fun hc => ?_)
        · replace h := h.1 hc
          refine g_iload_1 E dX12_advance_69 ?_
          refine g_i2l E cr6 dX12_advance_70 ?_
          refine g_ldc2 (n := 97) E wc_RX12_168 dX12_advance_71 ?_
          refine g_ldc2 (n := 122) E wc_RX12_170 dX12_advance_74 ?_
          refine g_callsI E my_X12_in ms_X12_in ml_RX12_148 (rm_ok (by decide) (by decide)) ⟨Nat.zero_le _, Nat.zero_le _⟩ (m_X12_in E.2.2.1 (c32_of_c64 cr6) cL_97 cL_122 hσ7 h) rfl rfl (Nat.le_of_ble_eq_true rfl) dX12_advance_77 (fun r8 σ9 cr8 hσ9 h => ?_)
          refine g_if_eq E cr8 djX12_advance_80 (fun hc => ?_) (fun hc => ?_)
          · replace h := h.1 hc
            refine g_iload_1 E dX12_advance_125 ?_
            refine g_i2l E cr6 dX12_advance_126 ?_
            refine g_ldc2 (n := 48) E wc_RX12_172 dX12_advance_127 ?_
            refine g_ldc2 (n := 57) E wc_RX12_174 dX12_advance_130 ?_
            refine g_callsI E my_X12_in ms_X12_in ml_RX12_148 (rm_ok (by decide) (by decide)) ⟨Nat.zero_le _, Nat.zero_le _⟩ (m_X12_in E.2.2.1 (c32_of_c64 cr6) cL_48 cL_57 hσ9 h) rfl rfl (Nat.le_of_ble_eq_true rfl) dX12_advance_133 (fun r10 σ11 cr10 hσ11 h => ?_)
            refine g_if_eq E cr10 djX12_advance_136 (fun hc => ?_) (fun hc => ?_)
            · replace h := h.1 hc
              refine g_aload_0 E dX12_advance_215 ?_
              refine g_dup E rfl dX12_advance_216 ?_
              refine g_getI E fl_RX12_155 kR_0 sR_0 rfl dX12_advance_217 ?_
              refine g_iconst E dX12_advance_220 ?_
              refine g_iadd E dX12_advance_221 ?_
              refine g_putI E fl_RX12_155 rfl rfl kR_0 sR_0 rfl dX12_advance_222 (g_nmS (fun σ12 eσ12 => ?_))
              replace h := h σ12 eσ12
              have hσ12 : CanS shR NR σ12 := by rw [eσ12]; exact uR_0_20 hσ11 (c32_w _)
              refine g_aload_0 E dX12_advance_225 ?_
              refine g_iload_1 E dX12_advance_226 ?_
              refine g_i2l E cr6 dX12_advance_227 ?_
              refine g_ldc2 (n := 65) E wc_RX12_185 dX12_advance_228 ?_
              refine g_ldc2 (n := 76) E wc_RX12_187 dX12_advance_231 ?_
              refine g_callsI E my_X12_in ms_X12_in ml_RX12_148 (rm_ok (by decide) (by decide)) ⟨Nat.zero_le _, Nat.zero_le _⟩ (m_X12_in E.2.2.1 (c32_of_c64 cr6) cL_65 cL_76 hσ12 h) rfl rfl (Nat.le_of_ble_eq_true rfl) dX12_advance_234 (fun r13 σ14 cr13 hσ14 h => ?_)
              refine g_if_eq E cr13 djX12_advance_237 (fun hc => ?_) (fun hc => ?_)
              · replace h := h.1 hc
                refine g_iload_1 E dX12_advance_247 ?_
                exact (t_X12_advance_b248 E hr r6 r6 σ14 cr6 cr6 hσ14 h).weak (w_k (w_k w_n))
              · replace h := h.2 hc
                refine g_iload_1 E dX12_advance_240 ?_
                refine g_bipush E (by decide) dX12_advance_241 ?_
                refine g_isub E dX12_advance_243 ?_
                refine g_goto E djX12_advance_244 ?_
                exact (t_X12_advance_b248 E hr r6 (w32 (r6 - 65)) σ14 cr6 (c32_w _) hσ14 h).weak (w_k (w_k w_n))
            · replace h := h.2 hc
              refine g_aload_0 E dX12_advance_139 ?_
              refine g_iconst E dX12_advance_140 ?_
              refine g_putI E fl_RX12_176 rfl rfl kR_0 sR_0 rfl dX12_advance_141 (g_nmS (fun σ15 eσ15 => ?_))
              replace h := h σ15 eσ15
              have hσ15 : CanS shR NR σ15 := by rw [eσ15]; exact uR_0_23 hσ11 cl_0
              exact (t_X12_advance_l144 E hr bigN σ15 hσ15 h).weak (w_k (w_d w_n))
          · replace h := h.2 hc
            exact (t_X12_advance_l83 E hr bigN σ9 hσ9 h).weak (w_k (w_d w_n))
        · replace h := h.2 hc
          refine g_aload_0 E dX12_advance_61 ?_
          refine g_iconst E dX12_advance_62 ?_
          refine g_putI E fl_RX12_165 rfl rfl kR_0 sR_0 rfl dX12_advance_63 (g_nmS (fun σ16 eσ16 => ?_))
          replace h := h σ16 eσ16
          have hσ16 : CanS shR NR σ16 := by rw [eσ16]; exact uR_0_22 hσ7 cl_0
          refine g_goto E djX12_advance_66 ?_
          exact g_vret E hr h hσ16 dX12_advance_290
      · replace h := h.2 hc
        exact (t_X12_advance_b26 E hr ih σ4 hσ4 h).weak (w_k (w_d w_n))
set_option maxHeartbeats 4000000 in
set_option maxRecDepth 100000 in
theorem t_X12_advance (E : Ev p s m args meth c cX12_advance 2 RX12 A0 D cA ad NR Z) (hr : meth.sig.returnType = none) (σ : St) (hσ : CanS shR NR σ) (h : wp_X12_advance  σ Q) : G p l e (rmL 2 0 0) s m args below meth c 2 A0 D cA ad shR NR 0 0 (MQ below (QVc D cA ad shR NR Q A0) args s 0 0 A0) σ 0 [some (.ref (ad 0)), none] [] := by
  unfold wp_X12_advance at h
  exact (t_X12_advance_l0 E hr bigN σ hσ h).weak (w_k (w_d w_n))
end
theorem m_X12_advance {Z : (Nat → Nat) × (Nat → Nat)} {l : Launch} {D : va_G} {cA : Nat → ClassId} {ad : Nat → Nat} {σ : St} {Q : Int → St → Prop} (hA : AdOk NR ad) (hσ : CanS shR NR σ) (h : wp_X12_advance  σ Q) : KtV Z l D cA ad shR NR yX12_advance cX12_advance 2 none 2 [.ref (ad 0)] σ Q :=
  KtV.of my_X12_advance hA [some (.ref (ad 0)), none] (Nat.le_of_ble_eq_true rfl) rfl (fun p e s m args below meth c A0 E hr => t_X12_advance E hr σ hσ h)
theorem dX12_good_0 : Dc cX12_good 0 (.aload_n 0) 1 1 := ⟨by decide +kernel, rfl⟩
theorem dX12_good_1 : Dc cX12_good 1 (.getfield 189) 3 4 := ⟨by decide +kernel, rfl⟩
theorem djX12_good_4 : Dj cX12_good 4 (.ifCond .ne 7) 3 7 7 11 := ⟨by decide +kernel, rfl, by decide⟩
theorem dX12_good_7 : Dc cX12_good 7 (.iconst 1) 1 8 := ⟨by decide +kernel, rfl⟩
theorem djX12_good_8 : Dj cX12_good 8 (.goto 4) 3 11 4 12 := ⟨by decide +kernel, rfl, by decide⟩
theorem dX12_good_11 : Dc cX12_good 11 (.iconst 0) 1 12 := ⟨by decide +kernel, rfl⟩
theorem dX12_good_12 : Dc cX12_good 12 (.ireturn) 1 13 := ⟨by decide +kernel, rfl⟩
section
variable {p : Program} {l : Launch} {e : Env} {s : State} {m : MethodId} {args : Array Value} {below : List Frame} {meth : Method} {c : Code} {A0 : Nat → Prop} {D : va_G} {cA : Nat → ClassId} {ad : Nat → Nat} {Z : (Nat → Nat) × (Nat → Nat)} {Q : Int → St → Prop}
set_option maxHeartbeats 4000000 in
set_option maxRecDepth 100000 in
theorem t_X12_good (E : Ev p s m args meth c cX12_good 1 RX12 A0 D cA ad NR Z) (hr : meth.sig.returnType = (some .boolean)) (σ : St) (hσ : CanS shR NR σ) (h : wp_X12_good  σ Q) : G p l e (rmL 1 0 0) s m args below meth c 1 A0 D cA ad shR NR 0 0 (MQ below (QIc D cA ad shR NR Q A0) args s 0 0 A0) σ 0 [some (.ref (ad 0))] [] := by
  unfold wp_X12_good at h
  refine g_aload_0 E dX12_good_0 ?_
  refine g_getI E fl_RX12_189 kR_0 sR_0 rfl dX12_good_1 ?_
  refine g_if_ne E (fR_0_24 hσ) djX12_good_4 (fun hc => ?_) (fun hc => ?_)
  · replace h := h.1 hc
    refine g_iconst E dX12_good_11 ?_
    exact g_zret E hr (Or.inl rfl) h hσ dX12_good_12
  · replace h := h.2 hc
    refine g_iconst E dX12_good_7 ?_
    refine g_goto E djX12_good_8 ?_
    exact g_zret E hr (Or.inr rfl) h hσ dX12_good_12
end
theorem m_X12_good {Z : (Nat → Nat) × (Nat → Nat)} {l : Launch} {D : va_G} {cA : Nat → ClassId} {ad : Nat → Nat} {σ : St} {Q : Int → St → Prop} (hA : AdOk NR ad) (hσ : CanS shR NR σ) (h : wp_X12_good  σ Q) : KtI Z l D cA ad shR NR yX12_good cX12_good 1 (some .boolean) 1 [.ref (ad 0)] σ Q :=
  KtI.of my_X12_good hA [some (.ref (ad 0))] (Nat.le_of_ble_eq_true rfl) rfl (fun p e s m args below meth c A0 E hr => t_X12_good E hr σ hσ h)
theorem dX12_is_0 : Dc cX12_is 0 (.aload_n 0) 1 1 := ⟨by decide +kernel, rfl⟩
theorem dX12_is_1 : Dc cX12_is 1 (.invokevirtual 192) 3 4 := ⟨by decide +kernel, rfl⟩
theorem djX12_is_4 : Dj cX12_is 4 (.ifCond .eq 31) 3 7 31 35 := ⟨by decide +kernel, rfl, by decide⟩
theorem dX12_is_7 : Dc cX12_is 7 (.aload_n 0) 1 8 := ⟨by decide +kernel, rfl⟩
theorem dX12_is_8 : Dc cX12_is 8 (.getfield 165) 3 11 := ⟨by decide +kernel, rfl⟩
theorem dX12_is_11 : Dc cX12_is 11 (.iconst 1) 1 12 := ⟨by decide +kernel, rfl⟩
theorem djX12_is_12 : Dj cX12_is 12 (.if_icmp .ne 23) 3 15 23 35 := ⟨by decide +kernel, rfl, by decide⟩
theorem dX12_is_15 : Dc cX12_is 15 (.aload_n 0) 1 16 := ⟨by decide +kernel, rfl⟩
theorem dX12_is_16 : Dc cX12_is 16 (.getfield 155) 3 19 := ⟨by decide +kernel, rfl⟩
theorem dX12_is_19 : Dc cX12_is 19 (.aload_n 0) 1 20 := ⟨by decide +kernel, rfl⟩
theorem dX12_is_20 : Dc cX12_is 20 (.getfield 162) 3 23 := ⟨by decide +kernel, rfl⟩
theorem dX12_is_23 : Dc cX12_is 23 (.isub) 1 24 := ⟨by decide +kernel, rfl⟩
theorem dX12_is_24 : Dc cX12_is 24 (.aload_n 1) 1 25 := ⟨by decide +kernel, rfl⟩
theorem dX12_is_25 : Dc cX12_is 25 (.invokevirtual 196) 3 28 := ⟨by decide +kernel, rfl⟩
theorem djX12_is_28 : Dj cX12_is 28 (.if_icmp .ne 7) 3 31 7 35 := ⟨by decide +kernel, rfl, by decide⟩
theorem dX12_is_31 : Dc cX12_is 31 (.iconst 1) 1 32 := ⟨by decide +kernel, rfl⟩
theorem djX12_is_32 : Dj cX12_is 32 (.goto 4) 3 35 4 36 := ⟨by decide +kernel, rfl, by decide⟩
theorem dX12_is_35 : Dc cX12_is 35 (.iconst 0) 1 36 := ⟨by decide +kernel, rfl⟩
theorem dX12_is_36 : Dc cX12_is 36 (.istore_n 2) 1 37 := ⟨by decide +kernel, rfl⟩
theorem dX12_is_37 : Dc cX12_is 37 (.iconst 0) 1 38 := ⟨by decide +kernel, rfl⟩
theorem dX12_is_38 : Dc cX12_is 38 (.istore_n 3) 1 39 := ⟨by decide +kernel, rfl⟩
theorem dX12_is_39 : Dc cX12_is 39 (.iload_n 3) 1 40 := ⟨by decide +kernel, rfl⟩
theorem dX12_is_40 : Dc cX12_is 40 (.aload_n 1) 1 41 := ⟨by decide +kernel, rfl⟩
theorem dX12_is_41 : Dc cX12_is 41 (.invokevirtual 196) 3 44 := ⟨by decide +kernel, rfl⟩
theorem djX12_is_44 : Dj cX12_is 44 (.if_icmp .ge 38) 3 47 38 82 := ⟨by decide +kernel, rfl, by decide⟩
theorem dX12_is_47 : Dc cX12_is 47 (.iload_n 2) 1 48 := ⟨by decide +kernel, rfl⟩
theorem djX12_is_48 : Dj cX12_is 48 (.ifCond .eq 34) 3 51 34 82 := ⟨by decide +kernel, rfl, by decide⟩
theorem dX12_is_51 : Dc cX12_is 51 (.aload_n 0) 1 52 := ⟨by decide +kernel, rfl⟩
theorem dX12_is_52 : Dc cX12_is 52 (.getfield 47) 3 55 := ⟨by decide +kernel, rfl⟩
theorem dX12_is_55 : Dc cX12_is 55 (.aload_n 0) 1 56 := ⟨by decide +kernel, rfl⟩
theorem dX12_is_56 : Dc cX12_is 56 (.getfield 162) 3 59 := ⟨by decide +kernel, rfl⟩
theorem dX12_is_59 : Dc cX12_is 59 (.iload_n 3) 1 60 := ⟨by decide +kernel, rfl⟩
theorem dX12_is_60 : Dc cX12_is 60 (.iadd) 1 61 := ⟨by decide +kernel, rfl⟩
theorem dX12_is_61 : Dc cX12_is 61 (.baload) 1 62 := ⟨by decide +kernel, rfl⟩
theorem dX12_is_62 : Dc cX12_is 62 (.aload_n 1) 1 63 := ⟨by decide +kernel, rfl⟩
theorem dX12_is_63 : Dc cX12_is 63 (.iload_n 3) 1 64 := ⟨by decide +kernel, rfl⟩
theorem dX12_is_64 : Dc cX12_is 64 (.invokevirtual 201) 3 67 := ⟨by decide +kernel, rfl⟩
theorem djX12_is_67 : Dj cX12_is 67 (.if_icmp .ne 7) 3 70 7 74 := ⟨by decide +kernel, rfl, by decide⟩
theorem dX12_is_70 : Dc cX12_is 70 (.iconst 1) 1 71 := ⟨by decide +kernel, rfl⟩
theorem djX12_is_71 : Dj cX12_is 71 (.goto 4) 3 74 4 75 := ⟨by decide +kernel, rfl, by decide⟩
theorem dX12_is_74 : Dc cX12_is 74 (.iconst 0) 1 75 := ⟨by decide +kernel, rfl⟩
theorem dX12_is_75 : Dc cX12_is 75 (.istore_n 2) 1 76 := ⟨by decide +kernel, rfl⟩
theorem dX12_is_76 : Dc cX12_is 76 (.iinc 3 1) 3 79 := ⟨by decide +kernel, rfl⟩
theorem djX12_is_79 : Dj cX12_is 79 (.goto (-40)) 3 82 (-40) 39 := ⟨by decide +kernel, rfl, by decide⟩
theorem dX12_is_82 : Dc cX12_is 82 (.iload_n 2) 1 83 := ⟨by decide +kernel, rfl⟩
theorem dX12_is_83 : Dc cX12_is 83 (.ireturn) 1 84 := ⟨by decide +kernel, rfl⟩
section
variable {p : Program} {l : Launch} {e : Env} {s : State} {m : MethodId} {args : Array Value} {below : List Frame} {meth : Method} {c : Code} {A0 : Nat → Prop} {D : va_G} {cA : Nat → ClassId} {ad : Nat → Nat} {Z : (Nat → Nat) × (Nat → Nat)} {Q : Int → St → Prop}
set_option maxHeartbeats 4000000 in
set_option maxRecDepth 100000 in
theorem t_X12_is_s8_b75 (E : Ev p s m args meth c cX12_is 4 RX12 A0 D cA ad NR Z) (hr : meth.sig.returnType = (some .boolean)) {K39 : Int → Int → St → Prop} (hK39 : ∀ (x2 : Int) (x3 : Int) (σ : St), C32 x2 → C32 x3 → CanS shR NR σ → K39 x2 x3 σ → G p l e (rmL 6 0 0) s m args below meth c 4 A0 D cA ad shR NR 0 0 (MQ below (QIc D cA ad shR NR Q A0) args s 0 0 A0) σ 39 [some (.ref (ad 0)), some (.ref (Z.1 8)), some (vI x2), some (vI x3)] []) (x3 : Int) (s0 : Int) (σ : St) (c3 : C32 x3) (cs0 : C32 s0) (hσ : CanS shR NR σ) (h : wp_X12_is_s8_b75 Q K39 x3 s0 σ) : G p l e (rmL 6 0 0) s m args below meth c 4 A0 D cA ad shR NR 0 0 (MQ below (QIc D cA ad shR NR Q A0) args s 0 0 A0) σ 75 [some (.ref (ad 0)), some (.ref (Z.1 8)), none, some (vI x3)] [vI s0] := by
  unfold wp_X12_is_s8_b75 at h
  refine g_istore_2 E rfl (by decide) dX12_is_75 ?_
  refine g_iinc_3 E rfl (by decide) dX12_is_76 (fun v3 ev3 => ?_)
  replace h := h v3 ev3
  have cv3 : C32 v3 := by rw [ev3]; exact c32_w _
  refine g_goto E djX12_is_79 ?_
  exact (hK39 s0 v3 σ cs0 cv3 hσ h).weak (w_k (w_k (w_k (w_k w_n))))
set_option maxHeartbeats 4000000 in
set_option maxRecDepth 100000 in
theorem t_X12_is_s8_l39 (E : Ev p s m args meth c cX12_is 4 RX12 A0 D cA ad NR Z) (hr : meth.sig.returnType = (some .boolean)) : ∀ (n : Nat) (x2 : Int) (x3 : Int) (σ : St), C32 x2 → C32 x3 → CanS shR NR σ → wp_X12_is_s8_l39 Q n x2 x3 σ → G p l e (rmL 6 0 0) s m args below meth c 4 A0 D cA ad shR NR 0 0 (MQ below (QIc D cA ad shR NR Q A0) args s 0 0 A0) σ 39 [some (.ref (ad 0)), some (.ref (Z.1 8)), some (vI x2), some (vI x3)] [] := by
  intro n
  induction n with
  | zero => intro _ _ _ _ _ _ h; exact h.elim
  | succ n ih =>
    intro x2 x3 σ c2 c3 hσ h
    unfold wp_X12_is_s8_l39 at h
    refine g_iload_3 E dX12_is_39 ?_
    refine g_aload_1 E dX12_is_40 ?_
    refine g_slen E ml_RX12_196 (i := 8) (by decide) hσ (n := 5) rfl (Nat.le_of_ble_eq_true rfl) (rm_s 6 (by decide)) ⟨Nat.zero_le _, Nat.zero_le _⟩ dX12_is_41 ?_
    refine g_icmp_ge E c3 cl_5 djX12_is_44 (fun hc => ?_) (fun hc => ?_)
    · replace h := h.1 hc
      refine g_iload_2 E dX12_is_82 ?_
      exact g_zret E hr h.1 h.2 hσ dX12_is_83
    · replace h := h.2 hc
      refine g_iload_2 E dX12_is_47 ?_
      refine g_if_eq E c2 djX12_is_48 (fun hc => ?_) (fun hc => ?_)
      · replace h := h.1 hc
        refine g_iload_2 E dX12_is_82 ?_
        exact g_zret E hr h.1 h.2 hσ dX12_is_83
      · replace h := h.2 hc
        refine g_aload_0 E dX12_is_51 ?_
        refine g_getR E fl_RX12_47 kR_0 sR_0 rfl dX12_is_52 ?_
        refine g_aload_0 E dX12_is_55 ?_
        refine g_getI E fl_RX12_162 kR_0 sR_0 rfl dX12_is_56 ?_
        refine g_iload_3 E dX12_is_59 ?_
        refine g_iadd E dX12_is_60 ?_
        refine g_bald E kR_12 sR_12 (by decide) h.1 dX12_is_61 ?_
        replace h := h.2
        refine g_aload_1 E dX12_is_62 ?_
        refine g_iload_3 E dX12_is_63 ?_
        refine g_schar E ml_RX12_201 (i := 8) (by decide) hσ (n := 5) rfl h.1 (Nat.le_of_ble_eq_true rfl) (rm_s 6 (by decide)) ⟨Nat.zero_le _, Nat.zero_le _⟩ dX12_is_64 ?_
        replace h := h.2
        refine g_icmp_ne E (aR_12 hσ _) (c32_str 8 (by decide) _) djX12_is_67 (fun hc => ?_) (fun hc => ?_)
        · replace h := h.1 hc
          refine g_iconst E dX12_is_74 ?_
          exact (t_X12_is_s8_b75 E hr ih x3 0 σ c3 cl_0 hσ h).weak (w_k (w_k (w_d (w_k w_n))))
        · replace h := h.2 hc
          refine g_iconst E dX12_is_70 ?_
          refine g_goto E djX12_is_71 ?_
          exact (t_X12_is_s8_b75 E hr ih x3 1 σ c3 cl_1 hσ h).weak (w_k (w_k (w_d (w_k w_n))))
set_option maxHeartbeats 4000000 in
set_option maxRecDepth 100000 in
theorem t_X12_is_s8_b36 (E : Ev p s m args meth c cX12_is 4 RX12 A0 D cA ad NR Z) (hr : meth.sig.returnType = (some .boolean)) (s0 : Int) (σ : St) (cs0 : C32 s0) (hσ : CanS shR NR σ) (h : wp_X12_is_s8_b36 Q s0 σ) : G p l e (rmL 6 0 0) s m args below meth c 4 A0 D cA ad shR NR 0 0 (MQ below (QIc D cA ad shR NR Q A0) args s 0 0 A0) σ 36 [some (.ref (ad 0)), some (.ref (Z.1 8)), none, none] [vI s0] := by
  unfold wp_X12_is_s8_b36 at h
  refine g_istore_2 E rfl (by decide) dX12_is_36 ?_
  refine g_iconst E dX12_is_37 ?_
  refine g_istore_3 E rfl (by decide) dX12_is_38 ?_
  exact (t_X12_is_s8_l39 E hr bigN s0 0 σ cs0 cl_0 hσ h).weak (w_k (w_k (w_k (w_k w_n))))
set_option maxHeartbeats 4000000 in
set_option maxRecDepth 100000 in
theorem t_X12_is_s8_b35 (E : Ev p s m args meth c cX12_is 4 RX12 A0 D cA ad NR Z) (hr : meth.sig.returnType = (some .boolean)) (σ : St) (hσ : CanS shR NR σ) (h : wp_X12_is_s8_b35 Q  σ) : G p l e (rmL 6 0 0) s m args below meth c 4 A0 D cA ad shR NR 0 0 (MQ below (QIc D cA ad shR NR Q A0) args s 0 0 A0) σ 35 [some (.ref (ad 0)), some (.ref (Z.1 8)), none, none] [] := by
  unfold wp_X12_is_s8_b35 at h
  refine g_iconst E dX12_is_35 ?_
  exact (t_X12_is_s8_b36 E hr 0 σ cl_0 hσ h).weak (w_k (w_k (w_d (w_d w_n))))
set_option maxHeartbeats 4000000 in
set_option maxRecDepth 100000 in
theorem t_X12_is_s8 (E : Ev p s m args meth c cX12_is 4 RX12 A0 D cA ad NR Z) (hr : meth.sig.returnType = (some .boolean)) (σ : St) (hσ : CanS shR NR σ) (h : wp_X12_is_s8  σ Q) : G p l e (rmL 6 0 0) s m args below meth c 4 A0 D cA ad shR NR 0 0 (MQ below (QIc D cA ad shR NR Q A0) args s 0 0 A0) σ 0 [some (.ref (ad 0)), some (.ref (Z.1 8)), none, none] [] := by
  unfold wp_X12_is_s8 at h
  refine g_aload_0 E dX12_is_0 ?_
  refine g_callvI E my_X12_good mi_X12_good msel_X12_good ml_RX12_192 (rm_ok (by decide) (by decide)) ⟨Nat.zero_le _, Nat.zero_le _⟩ kR_0 sR_0 rfl (m_X12_good E.2.2.1 hσ h) rfl rfl (Nat.le_of_ble_eq_true rfl) dX12_is_1 (fun r1 σ2 cr1 hσ2 h => ?_)
  refine g_if_eq E cr1 djX12_is_4 (fun hc => ?_) (fun hc => ?_)
  · replace h := h.1 hc
    exact (t_X12_is_s8_b35 E hr σ2 hσ2 h).weak (w_k (w_k (w_d (w_d w_n))))
  · replace h := h.2 hc
    refine g_aload_0 E dX12_is_7 ?_
    refine g_getI E fl_RX12_165 kR_0 sR_0 rfl dX12_is_8 ?_
    refine g_iconst E dX12_is_11 ?_
    refine g_icmp_ne E (fR_0_22 hσ2) cl_1 djX12_is_12 (fun hc => ?_) (fun hc => ?_)
    · replace h := h.1 hc
      exact (t_X12_is_s8_b35 E hr σ2 hσ2 h).weak (w_k (w_k (w_d (w_d w_n))))
    · replace h := h.2 hc
      refine g_aload_0 E dX12_is_15 ?_
      refine g_getI E fl_RX12_155 kR_0 sR_0 rfl dX12_is_16 ?_
      refine g_aload_0 E dX12_is_19 ?_
      refine g_getI E fl_RX12_162 kR_0 sR_0 rfl dX12_is_20 ?_
      refine g_isub E dX12_is_23 ?_
      refine g_aload_1 E dX12_is_24 ?_
      refine g_slen E ml_RX12_196 (i := 8) (by decide) hσ2 (n := 5) rfl (Nat.le_of_ble_eq_true rfl) (rm_s 6 (by decide)) ⟨Nat.zero_le _, Nat.zero_le _⟩ dX12_is_25 ?_
      refine g_icmp_ne E (c32_w _) cl_5 djX12_is_28 (fun hc => ?_) (fun hc => ?_)
      · replace h := h.1 hc
        exact (t_X12_is_s8_b35 E hr σ2 hσ2 h).weak (w_k (w_k (w_d (w_d w_n))))
      · replace h := h.2 hc
        refine g_iconst E dX12_is_31 ?_
        refine g_goto E djX12_is_32 ?_
        exact (t_X12_is_s8_b36 E hr 1 σ2 cl_1 hσ2 h).weak (w_k (w_k (w_d (w_d w_n))))
end
theorem m_X12_is_s8 {Z : (Nat → Nat) × (Nat → Nat)} {l : Launch} {D : va_G} {cA : Nat → ClassId} {ad : Nat → Nat} {σ : St} {Q : Int → St → Prop} (hA : AdOk NR ad) (hσ : CanS shR NR σ) (h : wp_X12_is_s8  σ Q) : KtI Z l D cA ad shR NR yX12_is cX12_is 4 (some .boolean) 6 [.ref (ad 0), .ref (Z.1 8)] σ Q :=
  KtI.of my_X12_is hA [some (.ref (ad 0)), some (.ref (Z.1 8)), none, none] (Nat.le_of_ble_eq_true rfl) rfl (fun p e s m args below meth c A0 E hr => t_X12_is_s8 E hr σ hσ h)
theorem dX12_errs_0 : Dc cX12_errs 0 (.aload_n 0) 1 1 := ⟨by decide +kernel, rfl⟩
theorem dX12_errs_1 : Dc cX12_errs 1 (.invokevirtual 192) 3 4 := ⟨by decide +kernel, rfl⟩
theorem djX12_errs_4 : Dj cX12_errs 4 (.ifCond .ne 4) 3 7 4 8 := ⟨by decide +kernel, rfl, by decide⟩
theorem dX12_errs_7 : Dc cX12_errs 7 (.return_) 1 8 := ⟨by decide +kernel, rfl⟩
theorem dX12_errs_8 : Dc cX12_errs 8 (.aload_n 0) 1 9 := ⟨by decide +kernel, rfl⟩
theorem dX12_errs_9 : Dc cX12_errs 9 (.iload_n 1) 1 10 := ⟨by decide +kernel, rfl⟩
theorem dX12_errs_10 : Dc cX12_errs 10 (.putfield 189) 3 13 := ⟨by decide +kernel, rfl⟩
theorem dX12_errs_13 : Dc cX12_errs 13 (.aload_n 0) 1 14 := ⟨by decide +kernel, rfl⟩
theorem dX12_errs_14 : Dc cX12_errs 14 (.aload_n 0) 1 15 := ⟨by decide +kernel, rfl⟩
theorem dX12_errs_15 : Dc cX12_errs 15 (.getfield 162) 3 18 := ⟨by decide +kernel, rfl⟩
theorem dX12_errs_18 : Dc cX12_errs 18 (.putfield 54) 3 21 := ⟨by decide +kernel, rfl⟩
theorem dX12_errs_21 : Dc cX12_errs 21 (.return_) 1 22 := ⟨by decide +kernel, rfl⟩
section
variable {p : Program} {l : Launch} {e : Env} {s : State} {m : MethodId} {args : Array Value} {below : List Frame} {meth : Method} {c : Code} {A0 : Nat → Prop} {D : va_G} {cA : Nat → ClassId} {ad : Nat → Nat} {Z : (Nat → Nat) × (Nat → Nat)} {Q : Int → St → Prop}
set_option maxHeartbeats 4000000 in
set_option maxRecDepth 100000 in
theorem t_X12_errs (E : Ev p s m args meth c cX12_errs 2 RX12 A0 D cA ad NR Z) (hr : meth.sig.returnType = none) (x1 : Int) (σ : St) (c1 : C32 x1) (hσ : CanS shR NR σ) (h : wp_X12_errs x1 σ Q) : G p l e (rmL 2 0 0) s m args below meth c 2 A0 D cA ad shR NR 0 0 (MQ below (QVc D cA ad shR NR Q A0) args s 0 0 A0) σ 0 [some (.ref (ad 0)), some (vI x1)] [] := by
  unfold wp_X12_errs at h
  refine g_aload_0 E dX12_errs_0 ?_
  refine g_callvI E my_X12_good mi_X12_good msel_X12_good ml_RX12_192 (rm_ok (by decide) (by decide)) ⟨Nat.zero_le _, Nat.zero_le _⟩ kR_0 sR_0 rfl (m_X12_good E.2.2.1 hσ h) rfl rfl (Nat.le_of_ble_eq_true rfl) dX12_errs_1 (fun r1 σ2 cr1 hσ2 h => ?_)
  refine g_if_ne E cr1 djX12_errs_4 (fun hc => ?_) (fun hc => ?_)
  · replace h := h.1 hc
    refine g_aload_0 E dX12_errs_8 ?_
    refine g_iload_1 E dX12_errs_9 ?_
    refine g_putI E fl_RX12_189 rfl rfl kR_0 sR_0 rfl dX12_errs_10 (g_nmS (fun σ3 eσ3 => ?_))
    replace h := h σ3 eσ3
    have hσ3 : CanS shR NR σ3 := by rw [eσ3]; exact uR_0_24 hσ2 c1
    refine g_aload_0 E dX12_errs_13 ?_
    refine g_aload_0 E dX12_errs_14 ?_
    refine g_getI E fl_RX12_162 kR_0 sR_0 rfl dX12_errs_15 ?_
    refine g_putI E fl_RX12_54 rfl rfl kR_0 sR_0 rfl dX12_errs_18 (g_nmS (fun σ4 eσ4 => ?_))
    replace h := h σ4 eσ4
    have hσ4 : CanS shR NR σ4 := by rw [eσ4]; exact uR_0_25 hσ3 (fR_0_21 hσ3)
    exact g_vret E hr h hσ4 dX12_errs_21
  · replace h := h.2 hc
    exact g_vret E hr h hσ2 dX12_errs_7
end
theorem m_X12_errs {Z : (Nat → Nat) × (Nat → Nat)} {l : Launch} {D : va_G} {cA : Nat → ClassId} {ad : Nat → Nat} {x1 : Int} {σ : St} {Q : Int → St → Prop} (hA : AdOk NR ad) (c1 : C32 x1) (hσ : CanS shR NR σ) (h : wp_X12_errs x1 σ Q) : KtV Z l D cA ad shR NR yX12_errs cX12_errs 2 none 2 [.ref (ad 0), vI x1] σ Q :=
  KtV.of my_X12_errs hA [some (.ref (ad 0)), some (vI x1)] (Nat.le_of_ble_eq_true rfl) rfl (fun p e s m args below meth c A0 E hr => t_X12_errs E hr x1 σ c1 hσ h)
theorem dX12_takes_0 : Dc cX12_takes 0 (.aload_n 0) 1 1 := ⟨by decide +kernel, rfl⟩
theorem dX12_takes_1 : Dc cX12_takes 1 (.invokevirtual 192) 3 4 := ⟨by decide +kernel, rfl⟩
theorem djX12_takes_4 : Dj cX12_takes 4 (.ifCond .eq 16) 3 7 16 20 := ⟨by decide +kernel, rfl, by decide⟩
theorem dX12_takes_7 : Dc cX12_takes 7 (.aload_n 0) 1 8 := ⟨by decide +kernel, rfl⟩
theorem dX12_takes_8 : Dc cX12_takes 8 (.getfield 165) 3 11 := ⟨by decide +kernel, rfl⟩
theorem dX12_takes_11 : Dc cX12_takes 11 (.iconst 2) 1 12 := ⟨by decide +kernel, rfl⟩
theorem djX12_takes_12 : Dj cX12_takes 12 (.if_icmp .eq 8) 3 15 8 20 := ⟨by decide +kernel, rfl, by decide⟩
theorem dX12_takes_15 : Dc cX12_takes 15 (.aload_n 0) 1 16 := ⟨by decide +kernel, rfl⟩
theorem dX12_takes_16 : Dc cX12_takes 16 (.iconst 1) 1 17 := ⟨by decide +kernel, rfl⟩
theorem dX12_takes_17 : Dc cX12_takes 17 (.invokevirtual 209) 3 20 := ⟨by decide +kernel, rfl⟩
theorem dX12_takes_20 : Dc cX12_takes 20 (.aload_n 0) 1 21 := ⟨by decide +kernel, rfl⟩
theorem dX12_takes_21 : Dc cX12_takes 21 (.invokevirtual 192) 3 24 := ⟨by decide +kernel, rfl⟩
theorem djX12_takes_24 : Dj cX12_takes 24 (.ifCond .eq 23) 3 27 23 47 := ⟨by decide +kernel, rfl, by decide⟩
theorem dX12_takes_27 : Dc cX12_takes 27 (.aload_n 0) 1 28 := ⟨by decide +kernel, rfl⟩
theorem dX12_takes_28 : Dc cX12_takes 28 (.getfield 176) 3 31 := ⟨by decide +kernel, rfl⟩
theorem dX12_takes_31 : Dc cX12_takes 31 (.i2l) 1 32 := ⟨by decide +kernel, rfl⟩
theorem dX12_takes_32 : Dc cX12_takes 32 (.iload_n 1) 1 33 := ⟨by decide +kernel, rfl⟩
theorem dX12_takes_33 : Dc cX12_takes 33 (.i2l) 1 34 := ⟨by decide +kernel, rfl⟩
theorem dX12_takes_34 : Dc cX12_takes 34 (.iload_n 2) 1 35 := ⟨by decide +kernel, rfl⟩
theorem dX12_takes_35 : Dc cX12_takes 35 (.i2l) 1 36 := ⟨by decide +kernel, rfl⟩
theorem dX12_takes_36 : Dc cX12_takes 36 (.invokestatic 148) 3 39 := ⟨by decide +kernel, rfl⟩
theorem djX12_takes_39 : Dj cX12_takes 39 (.ifCond .ne 8) 3 42 8 47 := ⟨by decide +kernel, rfl, by decide⟩
theorem dX12_takes_42 : Dc cX12_takes 42 (.aload_n 0) 1 43 := ⟨by decide +kernel, rfl⟩
theorem dX12_takes_43 : Dc cX12_takes 43 (.iconst 2) 1 44 := ⟨by decide +kernel, rfl⟩
theorem dX12_takes_44 : Dc cX12_takes 44 (.invokevirtual 209) 3 47 := ⟨by decide +kernel, rfl⟩
theorem dX12_takes_47 : Dc cX12_takes 47 (.aload_n 0) 1 48 := ⟨by decide +kernel, rfl⟩
theorem dX12_takes_48 : Dc cX12_takes 48 (.invokevirtual 192) 3 51 := ⟨by decide +kernel, rfl⟩
theorem djX12_takes_51 : Dj cX12_takes 51 (.ifCond .ne 5) 3 54 5 56 := ⟨by decide +kernel, rfl, by decide⟩
theorem dX12_takes_54 : Dc cX12_takes 54 (.iload_n 1) 1 55 := ⟨by decide +kernel, rfl⟩
theorem dX12_takes_55 : Dc cX12_takes 55 (.ireturn) 1 56 := ⟨by decide +kernel, rfl⟩
theorem dX12_takes_56 : Dc cX12_takes 56 (.aload_n 0) 1 57 := ⟨by decide +kernel, rfl⟩
theorem dX12_takes_57 : Dc cX12_takes 57 (.getfield 176) 3 60 := ⟨by decide +kernel, rfl⟩
theorem dX12_takes_60 : Dc cX12_takes 60 (.istore_n 3) 1 61 := ⟨by decide +kernel, rfl⟩
theorem dX12_takes_61 : Dc cX12_takes 61 (.aload_n 0) 1 62 := ⟨by decide +kernel, rfl⟩
theorem dX12_takes_62 : Dc cX12_takes 62 (.invokevirtual 213) 3 65 := ⟨by decide +kernel, rfl⟩
theorem dX12_takes_65 : Dc cX12_takes 65 (.iload_n 3) 1 66 := ⟨by decide +kernel, rfl⟩
theorem dX12_takes_66 : Dc cX12_takes 66 (.ireturn) 1 67 := ⟨by decide +kernel, rfl⟩
section
variable {p : Program} {l : Launch} {e : Env} {s : State} {m : MethodId} {args : Array Value} {below : List Frame} {meth : Method} {c : Code} {A0 : Nat → Prop} {D : va_G} {cA : Nat → ClassId} {ad : Nat → Nat} {Z : (Nat → Nat) × (Nat → Nat)} {Q : Int → St → Prop}
set_option maxHeartbeats 4000000 in
set_option maxRecDepth 100000 in
theorem t_X12_takes_b47 (E : Ev p s m args meth c cX12_takes 4 RX12 A0 D cA ad NR Z) (hr : meth.sig.returnType = (some .int)) (x1 : Int) (σ : St) (c1 : C32 x1) (hσ : CanS shR NR σ) (h : wp_X12_takes_b47 Q x1 σ) : G p l e (rmL 3 0 0) s m args below meth c 4 A0 D cA ad shR NR 0 0 (MQ below (QIc D cA ad shR NR Q A0) args s 0 0 A0) σ 47 [some (.ref (ad 0)), some (vI x1), none, none] [] := by
  unfold wp_X12_takes_b47 at h
  refine g_aload_0 E dX12_takes_47 ?_
  refine g_callvI E my_X12_good mi_X12_good msel_X12_good ml_RX12_192 (rm_ok (by decide) (by decide)) ⟨Nat.zero_le _, Nat.zero_le _⟩ kR_0 sR_0 rfl (m_X12_good E.2.2.1 hσ h) rfl rfl (Nat.le_of_ble_eq_true rfl) dX12_takes_48 (fun r11 σ12 cr11 hσ12 h => ?_)
  refine g_if_ne E cr11 djX12_takes_51 (fun hc => ?_) (fun hc => ?_)
  · replace h := h.1 hc
    refine g_aload_0 E dX12_takes_56 ?_
    refine g_getI E fl_RX12_176 kR_0 sR_0 rfl dX12_takes_57 ?_
    refine g_nmI (fun v13 ev13 => ?_)
    replace h := h v13 ev13
    have cv13 : C32 v13 := by rw [ev13]; exact (fR_0_23 hσ12)
    refine g_istore_3 E rfl (by decide) dX12_takes_60 ?_
    refine g_aload_0 E dX12_takes_61 ?_
    refine g_callvV E my_X12_advance mi_X12_advance msel_X12_advance ml_RX12_213 (rm_ok (by decide) (by decide)) ⟨Nat.zero_le _, Nat.zero_le _⟩ kR_0 sR_0 rfl (m_X12_advance E.2.2.1 hσ12 h) rfl rfl (Nat.le_of_ble_eq_true rfl) dX12_takes_62 (fun σ15 r14 hσ15 h => ?_)
    refine g_iload_3 E dX12_takes_65 ?_
    exact g_iret E hr cv13 h hσ15 dX12_takes_66
  · replace h := h.2 hc
    refine g_iload_1 E dX12_takes_54 ?_
    exact g_iret E hr c1 h hσ12 dX12_takes_55
set_option maxHeartbeats 4000000 in
set_option maxRecDepth 100000 in
theorem t_X12_takes_b20 (E : Ev p s m args meth c cX12_takes 4 RX12 A0 D cA ad NR Z) (hr : meth.sig.returnType = (some .int)) (x1 : Int) (x2 : Int) (σ : St) (c1 : C32 x1) (c2 : C32 x2) (hσ : CanS shR NR σ) (h : wp_X12_takes_b20 Q x1 x2 σ) : G p l e (rmL 3 0 0) s m args below meth c 4 A0 D cA ad shR NR 0 0 (MQ below (QIc D cA ad shR NR Q A0) args s 0 0 A0) σ 20 [some (.ref (ad 0)), some (vI x1), some (vI x2), none] [] := by
  unfold wp_X12_takes_b20 at h
  refine g_aload_0 E dX12_takes_20 ?_
  refine g_callvI E my_X12_good mi_X12_good msel_X12_good ml_RX12_192 (rm_ok (by decide) (by decide)) ⟨Nat.zero_le _, Nat.zero_le _⟩ kR_0 sR_0 rfl (m_X12_good E.2.2.1 hσ h) rfl rfl (Nat.le_of_ble_eq_true rfl) dX12_takes_21 (fun r5 σ6 cr5 hσ6 h => ?_)
  refine g_if_eq E cr5 djX12_takes_24 (fun hc => ?_) (fun hc => ?_)
  · replace h := h.1 hc
    exact (t_X12_takes_b47 E hr x1 σ6 c1 hσ6 h).weak (w_k (w_k (w_d (w_d w_n))))
  · replace h := h.2 hc
    refine g_aload_0 E dX12_takes_27 ?_
    refine g_getI E fl_RX12_176 kR_0 sR_0 rfl dX12_takes_28 ?_
    refine g_i2l E (fR_0_23 hσ6) dX12_takes_31 ?_
    refine g_iload_1 E dX12_takes_32 ?_
    refine g_i2l E c1 dX12_takes_33 ?_
    refine g_iload_2 E dX12_takes_34 ?_
    refine g_i2l E c2 dX12_takes_35 ?_
    refine g_callsI E my_X12_in ms_X12_in ml_RX12_148 (rm_ok (by decide) (by decide)) ⟨Nat.zero_le _, Nat.zero_le _⟩ (m_X12_in E.2.2.1 (c32_of_c64 (fR_0_23 hσ6)) (c32_of_c64 c1) (c32_of_c64 c2) hσ6 h) rfl rfl (Nat.le_of_ble_eq_true rfl) dX12_takes_36 (fun r7 σ8 cr7 hσ8 h => ?_)
    refine g_if_ne E cr7 djX12_takes_39 (fun hc => ?_) (fun hc => ?_)
    · replace h := h.1 hc
      exact (t_X12_takes_b47 E hr x1 σ8 c1 hσ8 h).weak (w_k (w_k (w_d (w_d w_n))))
    · replace h := h.2 hc
      refine g_aload_0 E dX12_takes_42 ?_
      refine g_iconst E dX12_takes_43 ?_
      refine g_callvV E my_X12_errs mi_X12_errs msel_X12_errs ml_RX12_209 (rm_ok (by decide) (by decide)) ⟨Nat.zero_le _, Nat.zero_le _⟩ kR_0 sR_0 rfl (m_X12_errs E.2.2.1 cl_2 hσ8 h) rfl rfl (Nat.le_of_ble_eq_true rfl) dX12_takes_44 (fun σ10 r9 hσ10 h => ?_)
      exact (t_X12_takes_b47 E hr x1 σ10 c1 hσ10 h).weak (w_k (w_k (w_d (w_d w_n))))
set_option maxHeartbeats 4000000 in
set_option maxRecDepth 100000 in
theorem t_X12_takes (E : Ev p s m args meth c cX12_takes 4 RX12 A0 D cA ad NR Z) (hr : meth.sig.returnType = (some .int)) (x1 : Int) (x2 : Int) (σ : St) (c1 : C32 x1) (c2 : C32 x2) (hσ : CanS shR NR σ) (h : wp_X12_takes x1 x2 σ Q) : G p l e (rmL 3 0 0) s m args below meth c 4 A0 D cA ad shR NR 0 0 (MQ below (QIc D cA ad shR NR Q A0) args s 0 0 A0) σ 0 [some (.ref (ad 0)), some (vI x1), some (vI x2), none] [] := by
  unfold wp_X12_takes at h
  refine g_aload_0 E dX12_takes_0 ?_
  refine g_callvI E my_X12_good mi_X12_good msel_X12_good ml_RX12_192 (rm_ok (by decide) (by decide)) ⟨Nat.zero_le _, Nat.zero_le _⟩ kR_0 sR_0 rfl (m_X12_good E.2.2.1 hσ h) rfl rfl (Nat.le_of_ble_eq_true rfl) dX12_takes_1 (fun r1 σ2 cr1 hσ2 h => ?_)
  refine g_if_eq E cr1 djX12_takes_4 (fun hc => ?_) (fun hc => ?_)
  · replace h := h.1 hc
    exact (t_X12_takes_b20 E hr x1 x2 σ2 c1 c2 hσ2 h).weak (w_k (w_k (w_k (w_d w_n))))
  · replace h := h.2 hc
    refine g_aload_0 E dX12_takes_7 ?_
    refine g_getI E fl_RX12_165 kR_0 sR_0 rfl dX12_takes_8 ?_
    refine g_iconst E dX12_takes_11 ?_
    refine g_icmp_eq E (fR_0_22 hσ2) cl_2 djX12_takes_12 (fun hc => ?_) (fun hc => ?_)
    · replace h := h.1 hc
      exact (t_X12_takes_b20 E hr x1 x2 σ2 c1 c2 hσ2 h).weak (w_k (w_k (w_k (w_d w_n))))
    · replace h := h.2 hc
      refine g_aload_0 E dX12_takes_15 ?_
      refine g_iconst E dX12_takes_16 ?_
      refine g_callvV E my_X12_errs mi_X12_errs msel_X12_errs ml_RX12_209 (rm_ok (by decide) (by decide)) ⟨Nat.zero_le _, Nat.zero_le _⟩ kR_0 sR_0 rfl (m_X12_errs E.2.2.1 cl_1 hσ2 h) rfl rfl (Nat.le_of_ble_eq_true rfl) dX12_takes_17 (fun σ4 r3 hσ4 h => ?_)
      exact (t_X12_takes_b20 E hr x1 x2 σ4 c1 c2 hσ4 h).weak (w_k (w_k (w_k (w_d w_n))))
end
theorem m_X12_takes {Z : (Nat → Nat) × (Nat → Nat)} {l : Launch} {D : va_G} {cA : Nat → ClassId} {ad : Nat → Nat} {x1 x2 : Int} {σ : St} {Q : Int → St → Prop} (hA : AdOk NR ad) (c1 : C32 x1) (c2 : C32 x2) (hσ : CanS shR NR σ) (h : wp_X12_takes x1 x2 σ Q) : KtI Z l D cA ad shR NR yX12_takes cX12_takes 4 (some .int) 3 [.ref (ad 0), vI x1, vI x2] σ Q :=
  KtI.of my_X12_takes hA [some (.ref (ad 0)), some (vI x1), some (vI x2), none] (Nat.le_of_ble_eq_true rfl) rfl (fun p e s m args below meth c A0 E hr => t_X12_takes E hr x1 x2 σ c1 c2 hσ h)
section
variable {p : Program} {l : Launch} {e : Env} {s : State} {m : MethodId} {args : Array Value} {below : List Frame} {meth : Method} {c : Code} {A0 : Nat → Prop} {D : va_G} {cA : Nat → ClassId} {ad : Nat → Nat} {Z : (Nat → Nat) × (Nat → Nat)} {Q : Int → St → Prop}
set_option maxHeartbeats 4000000 in
set_option maxRecDepth 100000 in
theorem t_X12_is_s9_b75 (E : Ev p s m args meth c cX12_is 4 RX12 A0 D cA ad NR Z) (hr : meth.sig.returnType = (some .boolean)) {K39 : Int → Int → St → Prop} (hK39 : ∀ (x2 : Int) (x3 : Int) (σ : St), C32 x2 → C32 x3 → CanS shR NR σ → K39 x2 x3 σ → G p l e (rmL 6 0 0) s m args below meth c 4 A0 D cA ad shR NR 0 0 (MQ below (QIc D cA ad shR NR Q A0) args s 0 0 A0) σ 39 [some (.ref (ad 0)), some (.ref (Z.1 9)), some (vI x2), some (vI x3)] []) (x3 : Int) (s0 : Int) (σ : St) (c3 : C32 x3) (cs0 : C32 s0) (hσ : CanS shR NR σ) (h : wp_X12_is_s9_b75 Q K39 x3 s0 σ) : G p l e (rmL 6 0 0) s m args below meth c 4 A0 D cA ad shR NR 0 0 (MQ below (QIc D cA ad shR NR Q A0) args s 0 0 A0) σ 75 [some (.ref (ad 0)), some (.ref (Z.1 9)), none, some (vI x3)] [vI s0] := by
  unfold wp_X12_is_s9_b75 at h
  refine g_istore_2 E rfl (by decide) dX12_is_75 ?_
  refine g_iinc_3 E rfl (by decide) dX12_is_76 (fun v3 ev3 => ?_)
  replace h := h v3 ev3
  have cv3 : C32 v3 := by rw [ev3]; exact c32_w _
  refine g_goto E djX12_is_79 ?_
  exact (hK39 s0 v3 σ cs0 cv3 hσ h).weak (w_k (w_k (w_k (w_k w_n))))
set_option maxHeartbeats 4000000 in
set_option maxRecDepth 100000 in
theorem t_X12_is_s9_l39 (E : Ev p s m args meth c cX12_is 4 RX12 A0 D cA ad NR Z) (hr : meth.sig.returnType = (some .boolean)) : ∀ (n : Nat) (x2 : Int) (x3 : Int) (σ : St), C32 x2 → C32 x3 → CanS shR NR σ → wp_X12_is_s9_l39 Q n x2 x3 σ → G p l e (rmL 6 0 0) s m args below meth c 4 A0 D cA ad shR NR 0 0 (MQ below (QIc D cA ad shR NR Q A0) args s 0 0 A0) σ 39 [some (.ref (ad 0)), some (.ref (Z.1 9)), some (vI x2), some (vI x3)] [] := by
  intro n
  induction n with
  | zero => intro _ _ _ _ _ _ h; exact h.elim
  | succ n ih =>
    intro x2 x3 σ c2 c3 hσ h
    unfold wp_X12_is_s9_l39 at h
    refine g_iload_3 E dX12_is_39 ?_
    refine g_aload_1 E dX12_is_40 ?_
    refine g_slen E ml_RX12_196 (i := 9) (by decide) hσ (n := 4) rfl (Nat.le_of_ble_eq_true rfl) (rm_s 6 (by decide)) ⟨Nat.zero_le _, Nat.zero_le _⟩ dX12_is_41 ?_
    refine g_icmp_ge E c3 cl_4 djX12_is_44 (fun hc => ?_) (fun hc => ?_)
    · replace h := h.1 hc
      refine g_iload_2 E dX12_is_82 ?_
      exact g_zret E hr h.1 h.2 hσ dX12_is_83
    · replace h := h.2 hc
      refine g_iload_2 E dX12_is_47 ?_
      refine g_if_eq E c2 djX12_is_48 (fun hc => ?_) (fun hc => ?_)
      · replace h := h.1 hc
        refine g_iload_2 E dX12_is_82 ?_
        exact g_zret E hr h.1 h.2 hσ dX12_is_83
      · replace h := h.2 hc
        refine g_aload_0 E dX12_is_51 ?_
        refine g_getR E fl_RX12_47 kR_0 sR_0 rfl dX12_is_52 ?_
        refine g_aload_0 E dX12_is_55 ?_
        refine g_getI E fl_RX12_162 kR_0 sR_0 rfl dX12_is_56 ?_
        refine g_iload_3 E dX12_is_59 ?_
        refine g_iadd E dX12_is_60 ?_
        refine g_bald E kR_12 sR_12 (by decide) h.1 dX12_is_61 ?_
        replace h := h.2
        refine g_aload_1 E dX12_is_62 ?_
        refine g_iload_3 E dX12_is_63 ?_
        refine g_schar E ml_RX12_201 (i := 9) (by decide) hσ (n := 4) rfl h.1 (Nat.le_of_ble_eq_true rfl) (rm_s 6 (by decide)) ⟨Nat.zero_le _, Nat.zero_le _⟩ dX12_is_64 ?_
        replace h := h.2
        refine g_icmp_ne E (aR_12 hσ _) (c32_str 9 (by decide) _) djX12_is_67 (fun hc => ?_) (fun hc => ?_)
        · replace h := h.1 hc
          refine g_iconst E dX12_is_74 ?_
          exact (t_X12_is_s9_b75 E hr ih x3 0 σ c3 cl_0 hσ h).weak (w_k (w_k (w_d (w_k w_n))))
        · replace h := h.2 hc
          refine g_iconst E dX12_is_70 ?_
          refine g_goto E djX12_is_71 ?_
          exact (t_X12_is_s9_b75 E hr ih x3 1 σ c3 cl_1 hσ h).weak (w_k (w_k (w_d (w_k w_n))))
set_option maxHeartbeats 4000000 in
set_option maxRecDepth 100000 in
theorem t_X12_is_s9_b36 (E : Ev p s m args meth c cX12_is 4 RX12 A0 D cA ad NR Z) (hr : meth.sig.returnType = (some .boolean)) (s0 : Int) (σ : St) (cs0 : C32 s0) (hσ : CanS shR NR σ) (h : wp_X12_is_s9_b36 Q s0 σ) : G p l e (rmL 6 0 0) s m args below meth c 4 A0 D cA ad shR NR 0 0 (MQ below (QIc D cA ad shR NR Q A0) args s 0 0 A0) σ 36 [some (.ref (ad 0)), some (.ref (Z.1 9)), none, none] [vI s0] := by
  unfold wp_X12_is_s9_b36 at h
  refine g_istore_2 E rfl (by decide) dX12_is_36 ?_
  refine g_iconst E dX12_is_37 ?_
  refine g_istore_3 E rfl (by decide) dX12_is_38 ?_
  exact (t_X12_is_s9_l39 E hr bigN s0 0 σ cs0 cl_0 hσ h).weak (w_k (w_k (w_k (w_k w_n))))
set_option maxHeartbeats 4000000 in
set_option maxRecDepth 100000 in
theorem t_X12_is_s9_b35 (E : Ev p s m args meth c cX12_is 4 RX12 A0 D cA ad NR Z) (hr : meth.sig.returnType = (some .boolean)) (σ : St) (hσ : CanS shR NR σ) (h : wp_X12_is_s9_b35 Q  σ) : G p l e (rmL 6 0 0) s m args below meth c 4 A0 D cA ad shR NR 0 0 (MQ below (QIc D cA ad shR NR Q A0) args s 0 0 A0) σ 35 [some (.ref (ad 0)), some (.ref (Z.1 9)), none, none] [] := by
  unfold wp_X12_is_s9_b35 at h
  refine g_iconst E dX12_is_35 ?_
  exact (t_X12_is_s9_b36 E hr 0 σ cl_0 hσ h).weak (w_k (w_k (w_d (w_d w_n))))
set_option maxHeartbeats 4000000 in
set_option maxRecDepth 100000 in
theorem t_X12_is_s9 (E : Ev p s m args meth c cX12_is 4 RX12 A0 D cA ad NR Z) (hr : meth.sig.returnType = (some .boolean)) (σ : St) (hσ : CanS shR NR σ) (h : wp_X12_is_s9  σ Q) : G p l e (rmL 6 0 0) s m args below meth c 4 A0 D cA ad shR NR 0 0 (MQ below (QIc D cA ad shR NR Q A0) args s 0 0 A0) σ 0 [some (.ref (ad 0)), some (.ref (Z.1 9)), none, none] [] := by
  unfold wp_X12_is_s9 at h
  refine g_aload_0 E dX12_is_0 ?_
  refine g_callvI E my_X12_good mi_X12_good msel_X12_good ml_RX12_192 (rm_ok (by decide) (by decide)) ⟨Nat.zero_le _, Nat.zero_le _⟩ kR_0 sR_0 rfl (m_X12_good E.2.2.1 hσ h) rfl rfl (Nat.le_of_ble_eq_true rfl) dX12_is_1 (fun r1 σ2 cr1 hσ2 h => ?_)
  refine g_if_eq E cr1 djX12_is_4 (fun hc => ?_) (fun hc => ?_)
  · replace h := h.1 hc
    exact (t_X12_is_s9_b35 E hr σ2 hσ2 h).weak (w_k (w_k (w_d (w_d w_n))))
  · replace h := h.2 hc
    refine g_aload_0 E dX12_is_7 ?_
    refine g_getI E fl_RX12_165 kR_0 sR_0 rfl dX12_is_8 ?_
    refine g_iconst E dX12_is_11 ?_
    refine g_icmp_ne E (fR_0_22 hσ2) cl_1 djX12_is_12 (fun hc => ?_) (fun hc => ?_)
    · replace h := h.1 hc
      exact (t_X12_is_s9_b35 E hr σ2 hσ2 h).weak (w_k (w_k (w_d (w_d w_n))))
    · replace h := h.2 hc
      refine g_aload_0 E dX12_is_15 ?_
      refine g_getI E fl_RX12_155 kR_0 sR_0 rfl dX12_is_16 ?_
      refine g_aload_0 E dX12_is_19 ?_
      refine g_getI E fl_RX12_162 kR_0 sR_0 rfl dX12_is_20 ?_
      refine g_isub E dX12_is_23 ?_
      refine g_aload_1 E dX12_is_24 ?_
      refine g_slen E ml_RX12_196 (i := 9) (by decide) hσ2 (n := 4) rfl (Nat.le_of_ble_eq_true rfl) (rm_s 6 (by decide)) ⟨Nat.zero_le _, Nat.zero_le _⟩ dX12_is_25 ?_
      refine g_icmp_ne E (c32_w _) cl_4 djX12_is_28 (fun hc => ?_) (fun hc => ?_)
      · replace h := h.1 hc
        exact (t_X12_is_s9_b35 E hr σ2 hσ2 h).weak (w_k (w_k (w_d (w_d w_n))))
      · replace h := h.2 hc
        refine g_iconst E dX12_is_31 ?_
        refine g_goto E djX12_is_32 ?_
        exact (t_X12_is_s9_b36 E hr 1 σ2 cl_1 hσ2 h).weak (w_k (w_k (w_d (w_d w_n))))
end
theorem m_X12_is_s9 {Z : (Nat → Nat) × (Nat → Nat)} {l : Launch} {D : va_G} {cA : Nat → ClassId} {ad : Nat → Nat} {σ : St} {Q : Int → St → Prop} (hA : AdOk NR ad) (hσ : CanS shR NR σ) (h : wp_X12_is_s9  σ Q) : KtI Z l D cA ad shR NR yX12_is cX12_is 4 (some .boolean) 6 [.ref (ad 0), .ref (Z.1 9)] σ Q :=
  KtI.of my_X12_is hA [some (.ref (ad 0)), some (.ref (Z.1 9)), none, none] (Nat.le_of_ble_eq_true rfl) rfl (fun p e s m args below meth c A0 E hr => t_X12_is_s9 E hr σ hσ h)
theorem dX12_takesWord_0 : Dc cX12_takesWord 0 (.aload_n 0) 1 1 := ⟨by decide +kernel, rfl⟩
theorem dX12_takesWord_1 : Dc cX12_takesWord 1 (.aload_n 1) 1 2 := ⟨by decide +kernel, rfl⟩
theorem dX12_takesWord_2 : Dc cX12_takesWord 2 (.invokevirtual 205) 3 5 := ⟨by decide +kernel, rfl⟩
theorem djX12_takesWord_5 : Dj cX12_takesWord 5 (.ifCond .ne 8) 3 8 8 13 := ⟨by decide +kernel, rfl, by decide⟩
theorem dX12_takesWord_8 : Dc cX12_takesWord 8 (.aload_n 0) 1 9 := ⟨by decide +kernel, rfl⟩
theorem dX12_takesWord_9 : Dc cX12_takesWord 9 (.iconst 1) 1 10 := ⟨by decide +kernel, rfl⟩
theorem dX12_takesWord_10 : Dc cX12_takesWord 10 (.invokevirtual 209) 3 13 := ⟨by decide +kernel, rfl⟩
theorem dX12_takesWord_13 : Dc cX12_takesWord 13 (.aload_n 0) 1 14 := ⟨by decide +kernel, rfl⟩
theorem dX12_takesWord_14 : Dc cX12_takesWord 14 (.invokevirtual 192) 3 17 := ⟨by decide +kernel, rfl⟩
theorem djX12_takesWord_17 : Dj cX12_takesWord 17 (.ifCond .eq 7) 3 20 7 24 := ⟨by decide +kernel, rfl, by decide⟩
theorem dX12_takesWord_20 : Dc cX12_takesWord 20 (.aload_n 0) 1 21 := ⟨by decide +kernel, rfl⟩
theorem dX12_takesWord_21 : Dc cX12_takesWord 21 (.invokevirtual 213) 3 24 := ⟨by decide +kernel, rfl⟩
theorem dX12_takesWord_24 : Dc cX12_takesWord 24 (.return_) 1 25 := ⟨by decide +kernel, rfl⟩
section
variable {p : Program} {l : Launch} {e : Env} {s : State} {m : MethodId} {args : Array Value} {below : List Frame} {meth : Method} {c : Code} {A0 : Nat → Prop} {D : va_G} {cA : Nat → ClassId} {ad : Nat → Nat} {Z : (Nat → Nat) × (Nat → Nat)} {Q : Int → St → Prop}
set_option maxHeartbeats 4000000 in
set_option maxRecDepth 100000 in
theorem t_X12_takesWord_s9_b13 (E : Ev p s m args meth c cX12_takesWord 2 RX12 A0 D cA ad NR Z) (hr : meth.sig.returnType = none) (σ : St) (hσ : CanS shR NR σ) (h : wp_X12_takesWord_s9_b13 Q  σ) : G p l e (rmL 7 0 0) s m args below meth c 2 A0 D cA ad shR NR 0 0 (MQ below (QVc D cA ad shR NR Q A0) args s 0 0 A0) σ 13 [some (.ref (ad 0)), none] [] := by
  unfold wp_X12_takesWord_s9_b13 at h
  refine g_aload_0 E dX12_takesWord_13 ?_
  refine g_callvI E my_X12_good mi_X12_good msel_X12_good ml_RX12_192 (rm_ok (by decide) (by decide)) ⟨Nat.zero_le _, Nat.zero_le _⟩ kR_0 sR_0 rfl (m_X12_good E.2.2.1 hσ h) rfl rfl (Nat.le_of_ble_eq_true rfl) dX12_takesWord_14 (fun r5 σ6 cr5 hσ6 h => ?_)
  refine g_if_eq E cr5 djX12_takesWord_17 (fun hc => ?_) (fun hc => ?_)
  · replace h := h.1 hc
    exact g_vret E hr h hσ6 dX12_takesWord_24
  · replace h := h.2 hc
    refine g_aload_0 E dX12_takesWord_20 ?_
    refine g_callvV E my_X12_advance mi_X12_advance msel_X12_advance ml_RX12_213 (rm_ok (by decide) (by decide)) ⟨Nat.zero_le _, Nat.zero_le _⟩ kR_0 sR_0 rfl (m_X12_advance E.2.2.1 hσ6 h) rfl rfl (Nat.le_of_ble_eq_true rfl) dX12_takesWord_21 (fun σ8 r7 hσ8 h => ?_)
    exact g_vret E hr h hσ8 dX12_takesWord_24
set_option maxHeartbeats 4000000 in
set_option maxRecDepth 100000 in
theorem t_X12_takesWord_s9 (E : Ev p s m args meth c cX12_takesWord 2 RX12 A0 D cA ad NR Z) (hr : meth.sig.returnType = none) (σ : St) (hσ : CanS shR NR σ) (h : wp_X12_takesWord_s9  σ Q) : G p l e (rmL 7 0 0) s m args below meth c 2 A0 D cA ad shR NR 0 0 (MQ below (QVc D cA ad shR NR Q A0) args s 0 0 A0) σ 0 [some (.ref (ad 0)), some (.ref (Z.1 9))] [] := by
  unfold wp_X12_takesWord_s9 at h
  refine g_aload_0 E dX12_takesWord_0 ?_
  refine g_aload_1 E dX12_takesWord_1 ?_
  refine g_callvI E my_X12_is mi_X12_is msel_X12_is ml_RX12_205 (rm_ok (by decide) (by decide)) ⟨Nat.zero_le _, Nat.zero_le _⟩ kR_0 sR_0 rfl (m_X12_is_s9 E.2.2.1 hσ h) rfl rfl (Nat.le_of_ble_eq_true rfl) dX12_takesWord_2 (fun r1 σ2 cr1 hσ2 h => ?_)
  refine g_if_ne E cr1 djX12_takesWord_5 (fun hc => ?_) (fun hc => ?_)
  · replace h := h.1 hc
    exact (t_X12_takesWord_s9_b13 E hr σ2 hσ2 h).weak (w_k (w_d w_n))
  · replace h := h.2 hc
    refine g_aload_0 E dX12_takesWord_8 ?_
    refine g_iconst E dX12_takesWord_9 ?_
    refine g_callvV E my_X12_errs mi_X12_errs msel_X12_errs ml_RX12_209 (rm_ok (by decide) (by decide)) ⟨Nat.zero_le _, Nat.zero_le _⟩ kR_0 sR_0 rfl (m_X12_errs E.2.2.1 cl_1 hσ2 h) rfl rfl (Nat.le_of_ble_eq_true rfl) dX12_takesWord_10 (fun σ4 r3 hσ4 h => ?_)
    exact (t_X12_takesWord_s9_b13 E hr σ4 hσ4 h).weak (w_k (w_d w_n))
end
theorem m_X12_takesWord_s9 {Z : (Nat → Nat) × (Nat → Nat)} {l : Launch} {D : va_G} {cA : Nat → ClassId} {ad : Nat → Nat} {σ : St} {Q : Int → St → Prop} (hA : AdOk NR ad) (hσ : CanS shR NR σ) (h : wp_X12_takesWord_s9  σ Q) : KtV Z l D cA ad shR NR yX12_takesWord cX12_takesWord 2 none 7 [.ref (ad 0), .ref (Z.1 9)] σ Q :=
  KtV.of my_X12_takesWord hA [some (.ref (ad 0)), some (.ref (Z.1 9))] (Nat.le_of_ble_eq_true rfl) rfl (fun p e s m args below meth c A0 E hr => t_X12_takesWord_s9 E hr σ hσ h)
section
variable {p : Program} {l : Launch} {e : Env} {s : State} {m : MethodId} {args : Array Value} {below : List Frame} {meth : Method} {c : Code} {A0 : Nat → Prop} {D : va_G} {cA : Nat → ClassId} {ad : Nat → Nat} {Z : (Nat → Nat) × (Nat → Nat)} {Q : Int → St → Prop}
set_option maxHeartbeats 4000000 in
set_option maxRecDepth 100000 in
theorem t_X12_is_s10_b75 (E : Ev p s m args meth c cX12_is 4 RX12 A0 D cA ad NR Z) (hr : meth.sig.returnType = (some .boolean)) {K39 : Int → Int → St → Prop} (hK39 : ∀ (x2 : Int) (x3 : Int) (σ : St), C32 x2 → C32 x3 → CanS shR NR σ → K39 x2 x3 σ → G p l e (rmL 6 0 0) s m args below meth c 4 A0 D cA ad shR NR 0 0 (MQ below (QIc D cA ad shR NR Q A0) args s 0 0 A0) σ 39 [some (.ref (ad 0)), some (.ref (Z.1 10)), some (vI x2), some (vI x3)] []) (x3 : Int) (s0 : Int) (σ : St) (c3 : C32 x3) (cs0 : C32 s0) (hσ : CanS shR NR σ) (h : wp_X12_is_s10_b75 Q K39 x3 s0 σ) : G p l e (rmL 6 0 0) s m args below meth c 4 A0 D cA ad shR NR 0 0 (MQ below (QIc D cA ad shR NR Q A0) args s 0 0 A0) σ 75 [some (.ref (ad 0)), some (.ref (Z.1 10)), none, some (vI x3)] [vI s0] := by
  unfold wp_X12_is_s10_b75 at h
  refine g_istore_2 E rfl (by decide) dX12_is_75 ?_
  refine g_iinc_3 E rfl (by decide) dX12_is_76 (fun v3 ev3 => ?_)
  replace h := h v3 ev3
  have cv3 : C32 v3 := by rw [ev3]; exact c32_w _
  refine g_goto E djX12_is_79 ?_
  exact (hK39 s0 v3 σ cs0 cv3 hσ h).weak (w_k (w_k (w_k (w_k w_n))))
set_option maxHeartbeats 4000000 in
set_option maxRecDepth 100000 in
theorem t_X12_is_s10_l39 (E : Ev p s m args meth c cX12_is 4 RX12 A0 D cA ad NR Z) (hr : meth.sig.returnType = (some .boolean)) : ∀ (n : Nat) (x2 : Int) (x3 : Int) (σ : St), C32 x2 → C32 x3 → CanS shR NR σ → wp_X12_is_s10_l39 Q n x2 x3 σ → G p l e (rmL 6 0 0) s m args below meth c 4 A0 D cA ad shR NR 0 0 (MQ below (QIc D cA ad shR NR Q A0) args s 0 0 A0) σ 39 [some (.ref (ad 0)), some (.ref (Z.1 10)), some (vI x2), some (vI x3)] [] := by
  intro n
  induction n with
  | zero => intro _ _ _ _ _ _ h; exact h.elim
  | succ n ih =>
    intro x2 x3 σ c2 c3 hσ h
    unfold wp_X12_is_s10_l39 at h
    refine g_iload_3 E dX12_is_39 ?_
    refine g_aload_1 E dX12_is_40 ?_
    refine g_slen E ml_RX12_196 (i := 10) (by decide) hσ (n := 3) rfl (Nat.le_of_ble_eq_true rfl) (rm_s 6 (by decide)) ⟨Nat.zero_le _, Nat.zero_le _⟩ dX12_is_41 ?_
    refine g_icmp_ge E c3 cl_3 djX12_is_44 (fun hc => ?_) (fun hc => ?_)
    · replace h := h.1 hc
      refine g_iload_2 E dX12_is_82 ?_
      exact g_zret E hr h.1 h.2 hσ dX12_is_83
    · replace h := h.2 hc
      refine g_iload_2 E dX12_is_47 ?_
      refine g_if_eq E c2 djX12_is_48 (fun hc => ?_) (fun hc => ?_)
      · replace h := h.1 hc
        refine g_iload_2 E dX12_is_82 ?_
        exact g_zret E hr h.1 h.2 hσ dX12_is_83
      · replace h := h.2 hc
        refine g_aload_0 E dX12_is_51 ?_
        refine g_getR E fl_RX12_47 kR_0 sR_0 rfl dX12_is_52 ?_
        refine g_aload_0 E dX12_is_55 ?_
        refine g_getI E fl_RX12_162 kR_0 sR_0 rfl dX12_is_56 ?_
        refine g_iload_3 E dX12_is_59 ?_
        refine g_iadd E dX12_is_60 ?_
        refine g_bald E kR_12 sR_12 (by decide) h.1 dX12_is_61 ?_
        replace h := h.2
        refine g_aload_1 E dX12_is_62 ?_
        refine g_iload_3 E dX12_is_63 ?_
        refine g_schar E ml_RX12_201 (i := 10) (by decide) hσ (n := 3) rfl h.1 (Nat.le_of_ble_eq_true rfl) (rm_s 6 (by decide)) ⟨Nat.zero_le _, Nat.zero_le _⟩ dX12_is_64 ?_
        replace h := h.2
        refine g_icmp_ne E (aR_12 hσ _) (c32_str 10 (by decide) _) djX12_is_67 (fun hc => ?_) (fun hc => ?_)
        · replace h := h.1 hc
          refine g_iconst E dX12_is_74 ?_
          exact (t_X12_is_s10_b75 E hr ih x3 0 σ c3 cl_0 hσ h).weak (w_k (w_k (w_d (w_k w_n))))
        · replace h := h.2 hc
          refine g_iconst E dX12_is_70 ?_
          refine g_goto E djX12_is_71 ?_
          exact (t_X12_is_s10_b75 E hr ih x3 1 σ c3 cl_1 hσ h).weak (w_k (w_k (w_d (w_k w_n))))
set_option maxHeartbeats 4000000 in
set_option maxRecDepth 100000 in
theorem t_X12_is_s10_b36 (E : Ev p s m args meth c cX12_is 4 RX12 A0 D cA ad NR Z) (hr : meth.sig.returnType = (some .boolean)) (s0 : Int) (σ : St) (cs0 : C32 s0) (hσ : CanS shR NR σ) (h : wp_X12_is_s10_b36 Q s0 σ) : G p l e (rmL 6 0 0) s m args below meth c 4 A0 D cA ad shR NR 0 0 (MQ below (QIc D cA ad shR NR Q A0) args s 0 0 A0) σ 36 [some (.ref (ad 0)), some (.ref (Z.1 10)), none, none] [vI s0] := by
  unfold wp_X12_is_s10_b36 at h
  refine g_istore_2 E rfl (by decide) dX12_is_36 ?_
  refine g_iconst E dX12_is_37 ?_
  refine g_istore_3 E rfl (by decide) dX12_is_38 ?_
  exact (t_X12_is_s10_l39 E hr bigN s0 0 σ cs0 cl_0 hσ h).weak (w_k (w_k (w_k (w_k w_n))))
set_option maxHeartbeats 4000000 in
set_option maxRecDepth 100000 in
theorem t_X12_is_s10_b35 (E : Ev p s m args meth c cX12_is 4 RX12 A0 D cA ad NR Z) (hr : meth.sig.returnType = (some .boolean)) (σ : St) (hσ : CanS shR NR σ) (h : wp_X12_is_s10_b35 Q  σ) : G p l e (rmL 6 0 0) s m args below meth c 4 A0 D cA ad shR NR 0 0 (MQ below (QIc D cA ad shR NR Q A0) args s 0 0 A0) σ 35 [some (.ref (ad 0)), some (.ref (Z.1 10)), none, none] [] := by
  unfold wp_X12_is_s10_b35 at h
  refine g_iconst E dX12_is_35 ?_
  exact (t_X12_is_s10_b36 E hr 0 σ cl_0 hσ h).weak (w_k (w_k (w_d (w_d w_n))))
set_option maxHeartbeats 4000000 in
set_option maxRecDepth 100000 in
theorem t_X12_is_s10 (E : Ev p s m args meth c cX12_is 4 RX12 A0 D cA ad NR Z) (hr : meth.sig.returnType = (some .boolean)) (σ : St) (hσ : CanS shR NR σ) (h : wp_X12_is_s10  σ Q) : G p l e (rmL 6 0 0) s m args below meth c 4 A0 D cA ad shR NR 0 0 (MQ below (QIc D cA ad shR NR Q A0) args s 0 0 A0) σ 0 [some (.ref (ad 0)), some (.ref (Z.1 10)), none, none] [] := by
  unfold wp_X12_is_s10 at h
  refine g_aload_0 E dX12_is_0 ?_
  refine g_callvI E my_X12_good mi_X12_good msel_X12_good ml_RX12_192 (rm_ok (by decide) (by decide)) ⟨Nat.zero_le _, Nat.zero_le _⟩ kR_0 sR_0 rfl (m_X12_good E.2.2.1 hσ h) rfl rfl (Nat.le_of_ble_eq_true rfl) dX12_is_1 (fun r1 σ2 cr1 hσ2 h => ?_)
  refine g_if_eq E cr1 djX12_is_4 (fun hc => ?_) (fun hc => ?_)
  · replace h := h.1 hc
    exact (t_X12_is_s10_b35 E hr σ2 hσ2 h).weak (w_k (w_k (w_d (w_d w_n))))
  · replace h := h.2 hc
    refine g_aload_0 E dX12_is_7 ?_
    refine g_getI E fl_RX12_165 kR_0 sR_0 rfl dX12_is_8 ?_
    refine g_iconst E dX12_is_11 ?_
    refine g_icmp_ne E (fR_0_22 hσ2) cl_1 djX12_is_12 (fun hc => ?_) (fun hc => ?_)
    · replace h := h.1 hc
      exact (t_X12_is_s10_b35 E hr σ2 hσ2 h).weak (w_k (w_k (w_d (w_d w_n))))
    · replace h := h.2 hc
      refine g_aload_0 E dX12_is_15 ?_
      refine g_getI E fl_RX12_155 kR_0 sR_0 rfl dX12_is_16 ?_
      refine g_aload_0 E dX12_is_19 ?_
      refine g_getI E fl_RX12_162 kR_0 sR_0 rfl dX12_is_20 ?_
      refine g_isub E dX12_is_23 ?_
      refine g_aload_1 E dX12_is_24 ?_
      refine g_slen E ml_RX12_196 (i := 10) (by decide) hσ2 (n := 3) rfl (Nat.le_of_ble_eq_true rfl) (rm_s 6 (by decide)) ⟨Nat.zero_le _, Nat.zero_le _⟩ dX12_is_25 ?_
      refine g_icmp_ne E (c32_w _) cl_3 djX12_is_28 (fun hc => ?_) (fun hc => ?_)
      · replace h := h.1 hc
        exact (t_X12_is_s10_b35 E hr σ2 hσ2 h).weak (w_k (w_k (w_d (w_d w_n))))
      · replace h := h.2 hc
        refine g_iconst E dX12_is_31 ?_
        refine g_goto E djX12_is_32 ?_
        exact (t_X12_is_s10_b36 E hr 1 σ2 cl_1 hσ2 h).weak (w_k (w_k (w_d (w_d w_n))))
end
theorem m_X12_is_s10 {Z : (Nat → Nat) × (Nat → Nat)} {l : Launch} {D : va_G} {cA : Nat → ClassId} {ad : Nat → Nat} {σ : St} {Q : Int → St → Prop} (hA : AdOk NR ad) (hσ : CanS shR NR σ) (h : wp_X12_is_s10  σ Q) : KtI Z l D cA ad shR NR yX12_is cX12_is 4 (some .boolean) 6 [.ref (ad 0), .ref (Z.1 10)] σ Q :=
  KtI.of my_X12_is hA [some (.ref (ad 0)), some (.ref (Z.1 10)), none, none] (Nat.le_of_ble_eq_true rfl) rfl (fun p e s m args below meth c A0 E hr => t_X12_is_s10 E hr σ hσ h)
section
variable {p : Program} {l : Launch} {e : Env} {s : State} {m : MethodId} {args : Array Value} {below : List Frame} {meth : Method} {c : Code} {A0 : Nat → Prop} {D : va_G} {cA : Nat → ClassId} {ad : Nat → Nat} {Z : (Nat → Nat) × (Nat → Nat)} {Q : Int → St → Prop}
set_option maxHeartbeats 4000000 in
set_option maxRecDepth 100000 in
theorem t_X12_takesWord_s10_b13 (E : Ev p s m args meth c cX12_takesWord 2 RX12 A0 D cA ad NR Z) (hr : meth.sig.returnType = none) (σ : St) (hσ : CanS shR NR σ) (h : wp_X12_takesWord_s10_b13 Q  σ) : G p l e (rmL 7 0 0) s m args below meth c 2 A0 D cA ad shR NR 0 0 (MQ below (QVc D cA ad shR NR Q A0) args s 0 0 A0) σ 13 [some (.ref (ad 0)), none] [] := by
  unfold wp_X12_takesWord_s10_b13 at h
  refine g_aload_0 E dX12_takesWord_13 ?_
  refine g_callvI E my_X12_good mi_X12_good msel_X12_good ml_RX12_192 (rm_ok (by decide) (by decide)) ⟨Nat.zero_le _, Nat.zero_le _⟩ kR_0 sR_0 rfl (m_X12_good E.2.2.1 hσ h) rfl rfl (Nat.le_of_ble_eq_true rfl) dX12_takesWord_14 (fun r5 σ6 cr5 hσ6 h => ?_)
  refine g_if_eq E cr5 djX12_takesWord_17 (fun hc => ?_) (fun hc => ?_)
  · replace h := h.1 hc
    exact g_vret E hr h hσ6 dX12_takesWord_24
  · replace h := h.2 hc
    refine g_aload_0 E dX12_takesWord_20 ?_
    refine g_callvV E my_X12_advance mi_X12_advance msel_X12_advance ml_RX12_213 (rm_ok (by decide) (by decide)) ⟨Nat.zero_le _, Nat.zero_le _⟩ kR_0 sR_0 rfl (m_X12_advance E.2.2.1 hσ6 h) rfl rfl (Nat.le_of_ble_eq_true rfl) dX12_takesWord_21 (fun σ8 r7 hσ8 h => ?_)
    exact g_vret E hr h hσ8 dX12_takesWord_24
set_option maxHeartbeats 4000000 in
set_option maxRecDepth 100000 in
theorem t_X12_takesWord_s10 (E : Ev p s m args meth c cX12_takesWord 2 RX12 A0 D cA ad NR Z) (hr : meth.sig.returnType = none) (σ : St) (hσ : CanS shR NR σ) (h : wp_X12_takesWord_s10  σ Q) : G p l e (rmL 7 0 0) s m args below meth c 2 A0 D cA ad shR NR 0 0 (MQ below (QVc D cA ad shR NR Q A0) args s 0 0 A0) σ 0 [some (.ref (ad 0)), some (.ref (Z.1 10))] [] := by
  unfold wp_X12_takesWord_s10 at h
  refine g_aload_0 E dX12_takesWord_0 ?_
  refine g_aload_1 E dX12_takesWord_1 ?_
  refine g_callvI E my_X12_is mi_X12_is msel_X12_is ml_RX12_205 (rm_ok (by decide) (by decide)) ⟨Nat.zero_le _, Nat.zero_le _⟩ kR_0 sR_0 rfl (m_X12_is_s10 E.2.2.1 hσ h) rfl rfl (Nat.le_of_ble_eq_true rfl) dX12_takesWord_2 (fun r1 σ2 cr1 hσ2 h => ?_)
  refine g_if_ne E cr1 djX12_takesWord_5 (fun hc => ?_) (fun hc => ?_)
  · replace h := h.1 hc
    exact (t_X12_takesWord_s10_b13 E hr σ2 hσ2 h).weak (w_k (w_d w_n))
  · replace h := h.2 hc
    refine g_aload_0 E dX12_takesWord_8 ?_
    refine g_iconst E dX12_takesWord_9 ?_
    refine g_callvV E my_X12_errs mi_X12_errs msel_X12_errs ml_RX12_209 (rm_ok (by decide) (by decide)) ⟨Nat.zero_le _, Nat.zero_le _⟩ kR_0 sR_0 rfl (m_X12_errs E.2.2.1 cl_1 hσ2 h) rfl rfl (Nat.le_of_ble_eq_true rfl) dX12_takesWord_10 (fun σ4 r3 hσ4 h => ?_)
    exact (t_X12_takesWord_s10_b13 E hr σ4 hσ4 h).weak (w_k (w_d w_n))
end
theorem m_X12_takesWord_s10 {Z : (Nat → Nat) × (Nat → Nat)} {l : Launch} {D : va_G} {cA : Nat → ClassId} {ad : Nat → Nat} {σ : St} {Q : Int → St → Prop} (hA : AdOk NR ad) (hσ : CanS shR NR σ) (h : wp_X12_takesWord_s10  σ Q) : KtV Z l D cA ad shR NR yX12_takesWord cX12_takesWord 2 none 7 [.ref (ad 0), .ref (Z.1 10)] σ Q :=
  KtV.of my_X12_takesWord hA [some (.ref (ad 0)), some (.ref (Z.1 10))] (Nat.le_of_ble_eq_true rfl) rfl (fun p e s m args below meth c A0 E hr => t_X12_takesWord_s10 E hr σ hσ h)
section
variable {p : Program} {l : Launch} {e : Env} {s : State} {m : MethodId} {args : Array Value} {below : List Frame} {meth : Method} {c : Code} {A0 : Nat → Prop} {D : va_G} {cA : Nat → ClassId} {ad : Nat → Nat} {Z : (Nat → Nat) × (Nat → Nat)} {Q : Int → St → Prop}
set_option maxHeartbeats 4000000 in
set_option maxRecDepth 100000 in
theorem t_X12_is_s11_b75 (E : Ev p s m args meth c cX12_is 4 RX12 A0 D cA ad NR Z) (hr : meth.sig.returnType = (some .boolean)) {K39 : Int → Int → St → Prop} (hK39 : ∀ (x2 : Int) (x3 : Int) (σ : St), C32 x2 → C32 x3 → CanS shR NR σ → K39 x2 x3 σ → G p l e (rmL 6 0 0) s m args below meth c 4 A0 D cA ad shR NR 0 0 (MQ below (QIc D cA ad shR NR Q A0) args s 0 0 A0) σ 39 [some (.ref (ad 0)), some (.ref (Z.1 11)), some (vI x2), some (vI x3)] []) (x3 : Int) (s0 : Int) (σ : St) (c3 : C32 x3) (cs0 : C32 s0) (hσ : CanS shR NR σ) (h : wp_X12_is_s11_b75 Q K39 x3 s0 σ) : G p l e (rmL 6 0 0) s m args below meth c 4 A0 D cA ad shR NR 0 0 (MQ below (QIc D cA ad shR NR Q A0) args s 0 0 A0) σ 75 [some (.ref (ad 0)), some (.ref (Z.1 11)), none, some (vI x3)] [vI s0] := by
  unfold wp_X12_is_s11_b75 at h
  refine g_istore_2 E rfl (by decide) dX12_is_75 ?_
  refine g_iinc_3 E rfl (by decide) dX12_is_76 (fun v3 ev3 => ?_)
  replace h := h v3 ev3
  have cv3 : C32 v3 := by rw [ev3]; exact c32_w _
  refine g_goto E djX12_is_79 ?_
  exact (hK39 s0 v3 σ cs0 cv3 hσ h).weak (w_k (w_k (w_k (w_k w_n))))
set_option maxHeartbeats 4000000 in
set_option maxRecDepth 100000 in
theorem t_X12_is_s11_l39 (E : Ev p s m args meth c cX12_is 4 RX12 A0 D cA ad NR Z) (hr : meth.sig.returnType = (some .boolean)) : ∀ (n : Nat) (x2 : Int) (x3 : Int) (σ : St), C32 x2 → C32 x3 → CanS shR NR σ → wp_X12_is_s11_l39 Q n x2 x3 σ → G p l e (rmL 6 0 0) s m args below meth c 4 A0 D cA ad shR NR 0 0 (MQ below (QIc D cA ad shR NR Q A0) args s 0 0 A0) σ 39 [some (.ref (ad 0)), some (.ref (Z.1 11)), some (vI x2), some (vI x3)] [] := by
  intro n
  induction n with
  | zero => intro _ _ _ _ _ _ h; exact h.elim
  | succ n ih =>
    intro x2 x3 σ c2 c3 hσ h
    unfold wp_X12_is_s11_l39 at h
    refine g_iload_3 E dX12_is_39 ?_
    refine g_aload_1 E dX12_is_40 ?_
    refine g_slen E ml_RX12_196 (i := 11) (by decide) hσ (n := 4) rfl (Nat.le_of_ble_eq_true rfl) (rm_s 6 (by decide)) ⟨Nat.zero_le _, Nat.zero_le _⟩ dX12_is_41 ?_
    refine g_icmp_ge E c3 cl_4 djX12_is_44 (fun hc => ?_) (fun hc => ?_)
    · replace h := h.1 hc
      refine g_iload_2 E dX12_is_82 ?_
      exact g_zret E hr h.1 h.2 hσ dX12_is_83
    · replace h := h.2 hc
      refine g_iload_2 E dX12_is_47 ?_
      refine g_if_eq E c2 djX12_is_48 (fun hc => ?_) (fun hc => ?_)
      · replace h := h.1 hc
        refine g_iload_2 E dX12_is_82 ?_
        exact g_zret E hr h.1 h.2 hσ dX12_is_83
      · replace h := h.2 hc
        refine g_aload_0 E dX12_is_51 ?_
        refine g_getR E fl_RX12_47 kR_0 sR_0 rfl dX12_is_52 ?_
        refine g_aload_0 E dX12_is_55 ?_
        refine g_getI E fl_RX12_162 kR_0 sR_0 rfl dX12_is_56 ?_
        refine g_iload_3 E dX12_is_59 ?_
        refine g_iadd E dX12_is_60 ?_
        refine g_bald E kR_12 sR_12 (by decide) h.1 dX12_is_61 ?_
        replace h := h.2
        refine g_aload_1 E dX12_is_62 ?_
        refine g_iload_3 E dX12_is_63 ?_
        refine g_schar E ml_RX12_201 (i := 11) (by decide) hσ (n := 4) rfl h.1 (Nat.le_of_ble_eq_true rfl) (rm_s 6 (by decide)) ⟨Nat.zero_le _, Nat.zero_le _⟩ dX12_is_64 ?_
        replace h := h.2
        refine g_icmp_ne E (aR_12 hσ _) (c32_str 11 (by decide) _) djX12_is_67 (fun hc => ?_) (fun hc => ?_)
        · replace h := h.1 hc
          refine g_iconst E dX12_is_74 ?_
          exact (t_X12_is_s11_b75 E hr ih x3 0 σ c3 cl_0 hσ h).weak (w_k (w_k (w_d (w_k w_n))))
        · replace h := h.2 hc
          refine g_iconst E dX12_is_70 ?_
          refine g_goto E djX12_is_71 ?_
          exact (t_X12_is_s11_b75 E hr ih x3 1 σ c3 cl_1 hσ h).weak (w_k (w_k (w_d (w_k w_n))))
set_option maxHeartbeats 4000000 in
set_option maxRecDepth 100000 in
theorem t_X12_is_s11_b36 (E : Ev p s m args meth c cX12_is 4 RX12 A0 D cA ad NR Z) (hr : meth.sig.returnType = (some .boolean)) (s0 : Int) (σ : St) (cs0 : C32 s0) (hσ : CanS shR NR σ) (h : wp_X12_is_s11_b36 Q s0 σ) : G p l e (rmL 6 0 0) s m args below meth c 4 A0 D cA ad shR NR 0 0 (MQ below (QIc D cA ad shR NR Q A0) args s 0 0 A0) σ 36 [some (.ref (ad 0)), some (.ref (Z.1 11)), none, none] [vI s0] := by
  unfold wp_X12_is_s11_b36 at h
  refine g_istore_2 E rfl (by decide) dX12_is_36 ?_
  refine g_iconst E dX12_is_37 ?_
  refine g_istore_3 E rfl (by decide) dX12_is_38 ?_
  exact (t_X12_is_s11_l39 E hr bigN s0 0 σ cs0 cl_0 hσ h).weak (w_k (w_k (w_k (w_k w_n))))
set_option maxHeartbeats 4000000 in
set_option maxRecDepth 100000 in
theorem t_X12_is_s11_b35 (E : Ev p s m args meth c cX12_is 4 RX12 A0 D cA ad NR Z) (hr : meth.sig.returnType = (some .boolean)) (σ : St) (hσ : CanS shR NR σ) (h : wp_X12_is_s11_b35 Q  σ) : G p l e (rmL 6 0 0) s m args below meth c 4 A0 D cA ad shR NR 0 0 (MQ below (QIc D cA ad shR NR Q A0) args s 0 0 A0) σ 35 [some (.ref (ad 0)), some (.ref (Z.1 11)), none, none] [] := by
  unfold wp_X12_is_s11_b35 at h
  refine g_iconst E dX12_is_35 ?_
  exact (t_X12_is_s11_b36 E hr 0 σ cl_0 hσ h).weak (w_k (w_k (w_d (w_d w_n))))
set_option maxHeartbeats 4000000 in
set_option maxRecDepth 100000 in
theorem t_X12_is_s11 (E : Ev p s m args meth c cX12_is 4 RX12 A0 D cA ad NR Z) (hr : meth.sig.returnType = (some .boolean)) (σ : St) (hσ : CanS shR NR σ) (h : wp_X12_is_s11  σ Q) : G p l e (rmL 6 0 0) s m args below meth c 4 A0 D cA ad shR NR 0 0 (MQ below (QIc D cA ad shR NR Q A0) args s 0 0 A0) σ 0 [some (.ref (ad 0)), some (.ref (Z.1 11)), none, none] [] := by
  unfold wp_X12_is_s11 at h
  refine g_aload_0 E dX12_is_0 ?_
  refine g_callvI E my_X12_good mi_X12_good msel_X12_good ml_RX12_192 (rm_ok (by decide) (by decide)) ⟨Nat.zero_le _, Nat.zero_le _⟩ kR_0 sR_0 rfl (m_X12_good E.2.2.1 hσ h) rfl rfl (Nat.le_of_ble_eq_true rfl) dX12_is_1 (fun r1 σ2 cr1 hσ2 h => ?_)
  refine g_if_eq E cr1 djX12_is_4 (fun hc => ?_) (fun hc => ?_)
  · replace h := h.1 hc
    exact (t_X12_is_s11_b35 E hr σ2 hσ2 h).weak (w_k (w_k (w_d (w_d w_n))))
  · replace h := h.2 hc
    refine g_aload_0 E dX12_is_7 ?_
    refine g_getI E fl_RX12_165 kR_0 sR_0 rfl dX12_is_8 ?_
    refine g_iconst E dX12_is_11 ?_
    refine g_icmp_ne E (fR_0_22 hσ2) cl_1 djX12_is_12 (fun hc => ?_) (fun hc => ?_)
    · replace h := h.1 hc
      exact (t_X12_is_s11_b35 E hr σ2 hσ2 h).weak (w_k (w_k (w_d (w_d w_n))))
    · replace h := h.2 hc
      refine g_aload_0 E dX12_is_15 ?_
      refine g_getI E fl_RX12_155 kR_0 sR_0 rfl dX12_is_16 ?_
      refine g_aload_0 E dX12_is_19 ?_
      refine g_getI E fl_RX12_162 kR_0 sR_0 rfl dX12_is_20 ?_
      refine g_isub E dX12_is_23 ?_
      refine g_aload_1 E dX12_is_24 ?_
      refine g_slen E ml_RX12_196 (i := 11) (by decide) hσ2 (n := 4) rfl (Nat.le_of_ble_eq_true rfl) (rm_s 6 (by decide)) ⟨Nat.zero_le _, Nat.zero_le _⟩ dX12_is_25 ?_
      refine g_icmp_ne E (c32_w _) cl_4 djX12_is_28 (fun hc => ?_) (fun hc => ?_)
      · replace h := h.1 hc
        exact (t_X12_is_s11_b35 E hr σ2 hσ2 h).weak (w_k (w_k (w_d (w_d w_n))))
      · replace h := h.2 hc
        refine g_iconst E dX12_is_31 ?_
        refine g_goto E djX12_is_32 ?_
        exact (t_X12_is_s11_b36 E hr 1 σ2 cl_1 hσ2 h).weak (w_k (w_k (w_d (w_d w_n))))
end
theorem m_X12_is_s11 {Z : (Nat → Nat) × (Nat → Nat)} {l : Launch} {D : va_G} {cA : Nat → ClassId} {ad : Nat → Nat} {σ : St} {Q : Int → St → Prop} (hA : AdOk NR ad) (hσ : CanS shR NR σ) (h : wp_X12_is_s11  σ Q) : KtI Z l D cA ad shR NR yX12_is cX12_is 4 (some .boolean) 6 [.ref (ad 0), .ref (Z.1 11)] σ Q :=
  KtI.of my_X12_is hA [some (.ref (ad 0)), some (.ref (Z.1 11)), none, none] (Nat.le_of_ble_eq_true rfl) rfl (fun p e s m args below meth c A0 E hr => t_X12_is_s11 E hr σ hσ h)
section
variable {p : Program} {l : Launch} {e : Env} {s : State} {m : MethodId} {args : Array Value} {below : List Frame} {meth : Method} {c : Code} {A0 : Nat → Prop} {D : va_G} {cA : Nat → ClassId} {ad : Nat → Nat} {Z : (Nat → Nat) × (Nat → Nat)} {Q : Int → St → Prop}
set_option maxHeartbeats 4000000 in
set_option maxRecDepth 100000 in
theorem t_X12_takesWord_s11_b13 (E : Ev p s m args meth c cX12_takesWord 2 RX12 A0 D cA ad NR Z) (hr : meth.sig.returnType = none) (σ : St) (hσ : CanS shR NR σ) (h : wp_X12_takesWord_s11_b13 Q  σ) : G p l e (rmL 7 0 0) s m args below meth c 2 A0 D cA ad shR NR 0 0 (MQ below (QVc D cA ad shR NR Q A0) args s 0 0 A0) σ 13 [some (.ref (ad 0)), none] [] := by
  unfold wp_X12_takesWord_s11_b13 at h
  refine g_aload_0 E dX12_takesWord_13 ?_
  refine g_callvI E my_X12_good mi_X12_good msel_X12_good ml_RX12_192 (rm_ok (by decide) (by decide)) ⟨Nat.zero_le _, Nat.zero_le _⟩ kR_0 sR_0 rfl (m_X12_good E.2.2.1 hσ h) rfl rfl (Nat.le_of_ble_eq_true rfl) dX12_takesWord_14 (fun r5 σ6 cr5 hσ6 h => ?_)
  refine g_if_eq E cr5 djX12_takesWord_17 (fun hc => ?_) (fun hc => ?_)
  · replace h := h.1 hc
    exact g_vret E hr h hσ6 dX12_takesWord_24
  · replace h := h.2 hc
    refine g_aload_0 E dX12_takesWord_20 ?_
    refine g_callvV E my_X12_advance mi_X12_advance msel_X12_advance ml_RX12_213 (rm_ok (by decide) (by decide)) ⟨Nat.zero_le _, Nat.zero_le _⟩ kR_0 sR_0 rfl (m_X12_advance E.2.2.1 hσ6 h) rfl rfl (Nat.le_of_ble_eq_true rfl) dX12_takesWord_21 (fun σ8 r7 hσ8 h => ?_)
    exact g_vret E hr h hσ8 dX12_takesWord_24
set_option maxHeartbeats 4000000 in
set_option maxRecDepth 100000 in
theorem t_X12_takesWord_s11 (E : Ev p s m args meth c cX12_takesWord 2 RX12 A0 D cA ad NR Z) (hr : meth.sig.returnType = none) (σ : St) (hσ : CanS shR NR σ) (h : wp_X12_takesWord_s11  σ Q) : G p l e (rmL 7 0 0) s m args below meth c 2 A0 D cA ad shR NR 0 0 (MQ below (QVc D cA ad shR NR Q A0) args s 0 0 A0) σ 0 [some (.ref (ad 0)), some (.ref (Z.1 11))] [] := by
  unfold wp_X12_takesWord_s11 at h
  refine g_aload_0 E dX12_takesWord_0 ?_
  refine g_aload_1 E dX12_takesWord_1 ?_
  refine g_callvI E my_X12_is mi_X12_is msel_X12_is ml_RX12_205 (rm_ok (by decide) (by decide)) ⟨Nat.zero_le _, Nat.zero_le _⟩ kR_0 sR_0 rfl (m_X12_is_s11 E.2.2.1 hσ h) rfl rfl (Nat.le_of_ble_eq_true rfl) dX12_takesWord_2 (fun r1 σ2 cr1 hσ2 h => ?_)
  refine g_if_ne E cr1 djX12_takesWord_5 (fun hc => ?_) (fun hc => ?_)
  · replace h := h.1 hc
    exact (t_X12_takesWord_s11_b13 E hr σ2 hσ2 h).weak (w_k (w_d w_n))
  · replace h := h.2 hc
    refine g_aload_0 E dX12_takesWord_8 ?_
    refine g_iconst E dX12_takesWord_9 ?_
    refine g_callvV E my_X12_errs mi_X12_errs msel_X12_errs ml_RX12_209 (rm_ok (by decide) (by decide)) ⟨Nat.zero_le _, Nat.zero_le _⟩ kR_0 sR_0 rfl (m_X12_errs E.2.2.1 cl_1 hσ2 h) rfl rfl (Nat.le_of_ble_eq_true rfl) dX12_takesWord_10 (fun σ4 r3 hσ4 h => ?_)
    exact (t_X12_takesWord_s11_b13 E hr σ4 hσ4 h).weak (w_k (w_d w_n))
end
theorem m_X12_takesWord_s11 {Z : (Nat → Nat) × (Nat → Nat)} {l : Launch} {D : va_G} {cA : Nat → ClassId} {ad : Nat → Nat} {σ : St} {Q : Int → St → Prop} (hA : AdOk NR ad) (hσ : CanS shR NR σ) (h : wp_X12_takesWord_s11  σ Q) : KtV Z l D cA ad shR NR yX12_takesWord cX12_takesWord 2 none 7 [.ref (ad 0), .ref (Z.1 11)] σ Q :=
  KtV.of my_X12_takesWord hA [some (.ref (ad 0)), some (.ref (Z.1 11))] (Nat.le_of_ble_eq_true rfl) rfl (fun p e s m args below meth c A0 E hr => t_X12_takesWord_s11 E hr σ hσ h)
section
variable {p : Program} {l : Launch} {e : Env} {s : State} {m : MethodId} {args : Array Value} {below : List Frame} {meth : Method} {c : Code} {A0 : Nat → Prop} {D : va_G} {cA : Nat → ClassId} {ad : Nat → Nat} {Z : (Nat → Nat) × (Nat → Nat)} {Q : Int → St → Prop}
set_option maxHeartbeats 4000000 in
set_option maxRecDepth 100000 in
theorem t_X12_is_s12_b75 (E : Ev p s m args meth c cX12_is 4 RX12 A0 D cA ad NR Z) (hr : meth.sig.returnType = (some .boolean)) {K39 : Int → Int → St → Prop} (hK39 : ∀ (x2 : Int) (x3 : Int) (σ : St), C32 x2 → C32 x3 → CanS shR NR σ → K39 x2 x3 σ → G p l e (rmL 6 0 0) s m args below meth c 4 A0 D cA ad shR NR 0 0 (MQ below (QIc D cA ad shR NR Q A0) args s 0 0 A0) σ 39 [some (.ref (ad 0)), some (.ref (Z.1 12)), some (vI x2), some (vI x3)] []) (x3 : Int) (s0 : Int) (σ : St) (c3 : C32 x3) (cs0 : C32 s0) (hσ : CanS shR NR σ) (h : wp_X12_is_s12_b75 Q K39 x3 s0 σ) : G p l e (rmL 6 0 0) s m args below meth c 4 A0 D cA ad shR NR 0 0 (MQ below (QIc D cA ad shR NR Q A0) args s 0 0 A0) σ 75 [some (.ref (ad 0)), some (.ref (Z.1 12)), none, some (vI x3)] [vI s0] := by
  unfold wp_X12_is_s12_b75 at h
  refine g_istore_2 E rfl (by decide) dX12_is_75 ?_
  refine g_iinc_3 E rfl (by decide) dX12_is_76 (fun v3 ev3 => ?_)
  replace h := h v3 ev3
  have cv3 : C32 v3 := by rw [ev3]; exact c32_w _
  refine g_goto E djX12_is_79 ?_
  exact (hK39 s0 v3 σ cs0 cv3 hσ h).weak (w_k (w_k (w_k (w_k w_n))))
set_option maxHeartbeats 4000000 in
set_option maxRecDepth 100000 in
theorem t_X12_is_s12_l39 (E : Ev p s m args meth c cX12_is 4 RX12 A0 D cA ad NR Z) (hr : meth.sig.returnType = (some .boolean)) : ∀ (n : Nat) (x2 : Int) (x3 : Int) (σ : St), C32 x2 → C32 x3 → CanS shR NR σ → wp_X12_is_s12_l39 Q n x2 x3 σ → G p l e (rmL 6 0 0) s m args below meth c 4 A0 D cA ad shR NR 0 0 (MQ below (QIc D cA ad shR NR Q A0) args s 0 0 A0) σ 39 [some (.ref (ad 0)), some (.ref (Z.1 12)), some (vI x2), some (vI x3)] [] := by
  intro n
  induction n with
  | zero => intro _ _ _ _ _ _ h; exact h.elim
  | succ n ih =>
    intro x2 x3 σ c2 c3 hσ h
    unfold wp_X12_is_s12_l39 at h
    refine g_iload_3 E dX12_is_39 ?_
    refine g_aload_1 E dX12_is_40 ?_
    refine g_slen E ml_RX12_196 (i := 12) (by decide) hσ (n := 5) rfl (Nat.le_of_ble_eq_true rfl) (rm_s 6 (by decide)) ⟨Nat.zero_le _, Nat.zero_le _⟩ dX12_is_41 ?_
    refine g_icmp_ge E c3 cl_5 djX12_is_44 (fun hc => ?_) (fun hc => ?_)
    · replace h := h.1 hc
      refine g_iload_2 E dX12_is_82 ?_
      exact g_zret E hr h.1 h.2 hσ dX12_is_83
    · replace h := h.2 hc
      refine g_iload_2 E dX12_is_47 ?_
      refine g_if_eq E c2 djX12_is_48 (fun hc => ?_) (fun hc => ?_)
      · replace h := h.1 hc
        refine g_iload_2 E dX12_is_82 ?_
        exact g_zret E hr h.1 h.2 hσ dX12_is_83
      · replace h := h.2 hc
        refine g_aload_0 E dX12_is_51 ?_
        refine g_getR E fl_RX12_47 kR_0 sR_0 rfl dX12_is_52 ?_
        refine g_aload_0 E dX12_is_55 ?_
        refine g_getI E fl_RX12_162 kR_0 sR_0 rfl dX12_is_56 ?_
        refine g_iload_3 E dX12_is_59 ?_
        refine g_iadd E dX12_is_60 ?_
        refine g_bald E kR_12 sR_12 (by decide) h.1 dX12_is_61 ?_
        replace h := h.2
        refine g_aload_1 E dX12_is_62 ?_
        refine g_iload_3 E dX12_is_63 ?_
        refine g_schar E ml_RX12_201 (i := 12) (by decide) hσ (n := 5) rfl h.1 (Nat.le_of_ble_eq_true rfl) (rm_s 6 (by decide)) ⟨Nat.zero_le _, Nat.zero_le _⟩ dX12_is_64 ?_
        replace h := h.2
        refine g_icmp_ne E (aR_12 hσ _) (c32_str 12 (by decide) _) djX12_is_67 (fun hc => ?_) (fun hc => ?_)
        · replace h := h.1 hc
          refine g_iconst E dX12_is_74 ?_
          exact (t_X12_is_s12_b75 E hr ih x3 0 σ c3 cl_0 hσ h).weak (w_k (w_k (w_d (w_k w_n))))
        · replace h := h.2 hc
          refine g_iconst E dX12_is_70 ?_
          refine g_goto E djX12_is_71 ?_
          exact (t_X12_is_s12_b75 E hr ih x3 1 σ c3 cl_1 hσ h).weak (w_k (w_k (w_d (w_k w_n))))
set_option maxHeartbeats 4000000 in
set_option maxRecDepth 100000 in
theorem t_X12_is_s12_b36 (E : Ev p s m args meth c cX12_is 4 RX12 A0 D cA ad NR Z) (hr : meth.sig.returnType = (some .boolean)) (s0 : Int) (σ : St) (cs0 : C32 s0) (hσ : CanS shR NR σ) (h : wp_X12_is_s12_b36 Q s0 σ) : G p l e (rmL 6 0 0) s m args below meth c 4 A0 D cA ad shR NR 0 0 (MQ below (QIc D cA ad shR NR Q A0) args s 0 0 A0) σ 36 [some (.ref (ad 0)), some (.ref (Z.1 12)), none, none] [vI s0] := by
  unfold wp_X12_is_s12_b36 at h
  refine g_istore_2 E rfl (by decide) dX12_is_36 ?_
  refine g_iconst E dX12_is_37 ?_
  refine g_istore_3 E rfl (by decide) dX12_is_38 ?_
  exact (t_X12_is_s12_l39 E hr bigN s0 0 σ cs0 cl_0 hσ h).weak (w_k (w_k (w_k (w_k w_n))))
set_option maxHeartbeats 4000000 in
set_option maxRecDepth 100000 in
theorem t_X12_is_s12_b35 (E : Ev p s m args meth c cX12_is 4 RX12 A0 D cA ad NR Z) (hr : meth.sig.returnType = (some .boolean)) (σ : St) (hσ : CanS shR NR σ) (h : wp_X12_is_s12_b35 Q  σ) : G p l e (rmL 6 0 0) s m args below meth c 4 A0 D cA ad shR NR 0 0 (MQ below (QIc D cA ad shR NR Q A0) args s 0 0 A0) σ 35 [some (.ref (ad 0)), some (.ref (Z.1 12)), none, none] [] := by
  unfold wp_X12_is_s12_b35 at h
  refine g_iconst E dX12_is_35 ?_
  exact (t_X12_is_s12_b36 E hr 0 σ cl_0 hσ h).weak (w_k (w_k (w_d (w_d w_n))))
set_option maxHeartbeats 4000000 in
set_option maxRecDepth 100000 in
theorem t_X12_is_s12 (E : Ev p s m args meth c cX12_is 4 RX12 A0 D cA ad NR Z) (hr : meth.sig.returnType = (some .boolean)) (σ : St) (hσ : CanS shR NR σ) (h : wp_X12_is_s12  σ Q) : G p l e (rmL 6 0 0) s m args below meth c 4 A0 D cA ad shR NR 0 0 (MQ below (QIc D cA ad shR NR Q A0) args s 0 0 A0) σ 0 [some (.ref (ad 0)), some (.ref (Z.1 12)), none, none] [] := by
  unfold wp_X12_is_s12 at h
  refine g_aload_0 E dX12_is_0 ?_
  refine g_callvI E my_X12_good mi_X12_good msel_X12_good ml_RX12_192 (rm_ok (by decide) (by decide)) ⟨Nat.zero_le _, Nat.zero_le _⟩ kR_0 sR_0 rfl (m_X12_good E.2.2.1 hσ h) rfl rfl (Nat.le_of_ble_eq_true rfl) dX12_is_1 (fun r1 σ2 cr1 hσ2 h => ?_)
  refine g_if_eq E cr1 djX12_is_4 (fun hc => ?_) (fun hc => ?_)
  · replace h := h.1 hc
    exact (t_X12_is_s12_b35 E hr σ2 hσ2 h).weak (w_k (w_k (w_d (w_d w_n))))
  · replace h := h.2 hc
    refine g_aload_0 E dX12_is_7 ?_
    refine g_getI E fl_RX12_165 kR_0 sR_0 rfl dX12_is_8 ?_
    refine g_iconst E dX12_is_11 ?_
    refine g_icmp_ne E (fR_0_22 hσ2) cl_1 djX12_is_12 (fun hc => ?_) (fun hc => ?_)
    · replace h := h.1 hc
      exact (t_X12_is_s12_b35 E hr σ2 hσ2 h).weak (w_k (w_k (w_d (w_d w_n))))
    · replace h := h.2 hc
      refine g_aload_0 E dX12_is_15 ?_
      refine g_getI E fl_RX12_155 kR_0 sR_0 rfl dX12_is_16 ?_
      refine g_aload_0 E dX12_is_19 ?_
      refine g_getI E fl_RX12_162 kR_0 sR_0 rfl dX12_is_20 ?_
      refine g_isub E dX12_is_23 ?_
      refine g_aload_1 E dX12_is_24 ?_
      refine g_slen E ml_RX12_196 (i := 12) (by decide) hσ2 (n := 5) rfl (Nat.le_of_ble_eq_true rfl) (rm_s 6 (by decide)) ⟨Nat.zero_le _, Nat.zero_le _⟩ dX12_is_25 ?_
      refine g_icmp_ne E (c32_w _) cl_5 djX12_is_28 (fun hc => ?_) (fun hc => ?_)
      · replace h := h.1 hc
        exact (t_X12_is_s12_b35 E hr σ2 hσ2 h).weak (w_k (w_k (w_d (w_d w_n))))
      · replace h := h.2 hc
        refine g_iconst E dX12_is_31 ?_
        refine g_goto E djX12_is_32 ?_
        exact (t_X12_is_s12_b36 E hr 1 σ2 cl_1 hσ2 h).weak (w_k (w_k (w_d (w_d w_n))))
end
theorem m_X12_is_s12 {Z : (Nat → Nat) × (Nat → Nat)} {l : Launch} {D : va_G} {cA : Nat → ClassId} {ad : Nat → Nat} {σ : St} {Q : Int → St → Prop} (hA : AdOk NR ad) (hσ : CanS shR NR σ) (h : wp_X12_is_s12  σ Q) : KtI Z l D cA ad shR NR yX12_is cX12_is 4 (some .boolean) 6 [.ref (ad 0), .ref (Z.1 12)] σ Q :=
  KtI.of my_X12_is hA [some (.ref (ad 0)), some (.ref (Z.1 12)), none, none] (Nat.le_of_ble_eq_true rfl) rfl (fun p e s m args below meth c A0 E hr => t_X12_is_s12 E hr σ hσ h)
