section
variable {p : Program} {l : Launch} {e : Env} {s : State} {m : MethodId} {args : Array Value} {below : List Frame} {meth : Method} {c : Code} {A0 : Nat → Prop} {D : va_G} {cA : Nat → ClassId} {ad : Nat → Nat} {Z : (Nat → Nat) × (Nat → Nat)} {Q : Int → St → Prop} {b : Bool}
set_option maxHeartbeats 4000000 in
set_option maxRecDepth 100000 in
theorem t_J7_fill_53178_C_c82_l5 (E : Ev p s m args meth c cJ7_fill_53178 4 RJ7 A0 D cA ad (NC b) Z) (hr : meth.sig.returnType = none) : ∀ (n : Nat) (x1 : Int) (x2 : Int) (x3 : Int) (σ : St), C32 x1 → C32 x2 → C32 x3 → CanS (shC b) (NC b) σ → wp_J7_fill_53178_C_c82_l5 Q n x1 x2 x3 σ → G p l e (rmL 1 0 0) s m args below meth c 4 A0 D cA ad (shC b) (NC b) 0 0 (MQ below (QVc D cA ad (shC b) (NC b) Q A0) args s 0 0 A0) σ 5 [some (.ref (ad 82)), some (vI x1), some (vI x2), some (vI x3)] [] := by
  intro n
  induction n with
  | zero => intro _ _ _ _ _ _ _ _ h; exact h.elim
  | succ n ih =>
    intro x1 x2 x3 σ c1 c2 c3 hσ h
    unfold wp_J7_fill_53178_C_c82_l5 at h
    refine g_iload_2 E dJ7_fill_53178_5 ?_
    refine g_iload_3 E dJ7_fill_53178_6 ?_
    refine g_icmp_ge E c2 c3 djJ7_fill_53178_7 (fun hc => ?_) (fun hc => ?_)
    · replace h := h.1 hc
      exact g_vret E hr h hσ dJ7_fill_53178_20
    · replace h := h.2 hc
      refine g_aload_0 E dJ7_fill_53178_10 ?_
      refine g_iload_2 E dJ7_fill_53178_11 ?_
      refine g_iload_1 E dJ7_fill_53178_12 ?_
      refine g_iast E (kC_82 b) (sC_82 b) (by decide) h.1 dJ7_fill_53178_13 (g_nmS (fun σ1 eσ1 => ?_))
      replace h := h.2 σ1 eσ1
      have hσ1 : CanS (shC b) (NC b) σ1 := by rw [eσ1]; exact wC_82 hσ c1
      refine g_iinc_2 E rfl (by decide) dJ7_fill_53178_14 (fun v2 ev2 => ?_)
      replace h := h v2 ev2
      have cv2 : C32 v2 := by rw [ev2]; exact c32_w _
      refine g_goto E djJ7_fill_53178_17 ?_
      exact (ih x1 v2 x3 σ1 c1 cv2 c3 hσ1 h).weak (w_k (w_k (w_k (w_k w_n))))
set_option maxHeartbeats 4000000 in
set_option maxRecDepth 100000 in
theorem t_J7_fill_53178_C_c82 (E : Ev p s m args meth c cJ7_fill_53178 4 RJ7 A0 D cA ad (NC b) Z) (hr : meth.sig.returnType = none) (x1 : Int) (σ : St) (c1 : C32 x1) (hσ : CanS (shC b) (NC b) σ) (h : wp_J7_fill_53178_C_c82 x1 σ Q) : G p l e (rmL 1 0 0) s m args below meth c 4 A0 D cA ad (shC b) (NC b) 0 0 (MQ below (QVc D cA ad (shC b) (NC b) Q A0) args s 0 0 A0) σ 0 [some (.ref (ad 82)), some (vI x1), none, none] [] := by
  unfold wp_J7_fill_53178_C_c82 at h
  refine g_iconst E dJ7_fill_53178_0 ?_
  refine g_istore_2 E rfl (by decide) dJ7_fill_53178_1 ?_
  refine g_aload_0 E dJ7_fill_53178_2 ?_
  refine g_alen E (kC_82 b) (sC_82 b) (by decide) (by decide) dJ7_fill_53178_3 ?_
  refine g_istore_3 E rfl (by decide) dJ7_fill_53178_4 ?_
  exact (t_J7_fill_53178_C_c82_l5 E hr bigN x1 0 208 σ c1 cl_0 cl_208 hσ h).weak (w_k (w_k (w_k (w_k w_n))))
end
theorem m_J7_fill_53178_C_c82 {Z : (Nat → Nat) × (Nat → Nat)} {l : Launch} {D : va_G} {cA : Nat → ClassId} {ad : Nat → Nat} {b : Bool} {x1 : Int} {σ : St} {Q : Int → St → Prop} (hA : AdOk (NC b) ad) (c1 : C32 x1) (hσ : CanS (shC b) (NC b) σ) (h : wp_J7_fill_53178_C_c82 x1 σ Q) : KtV Z l D cA ad (shC b) (NC b) yJ7_fill_53178 cJ7_fill_53178 4 none 1 [.ref (ad 82), vI x1] σ Q :=
  KtV.of my_J7_fill_53178 hA [some (.ref (ad 82)), some (vI x1), none, none] (Nat.le_of_ble_eq_true rfl) rfl (fun p e s m args below meth c A0 E hr => t_J7_fill_53178_C_c82 E hr x1 σ c1 hσ h)
theorem dX5_choose_0 : Dc cX5_choose 0 (.aload_n 0) 1 1 := ⟨by decide +kernel, rfl⟩
theorem dX5_choose_1 : Dc cX5_choose 1 (.iconst 0) 1 2 := ⟨by decide +kernel, rfl⟩
theorem dX5_choose_2 : Dc cX5_choose 2 (.putfield 142) 3 5 := ⟨by decide +kernel, rfl⟩
theorem dX5_choose_5 : Dc cX5_choose 5 (.aload_n 0) 1 6 := ⟨by decide +kernel, rfl⟩
theorem dX5_choose_6 : Dc cX5_choose 6 (.iconst (-1)) 1 7 := ⟨by decide +kernel, rfl⟩
theorem dX5_choose_7 : Dc cX5_choose 7 (.putfield 145) 3 10 := ⟨by decide +kernel, rfl⟩
theorem dX5_choose_10 : Dc cX5_choose 10 (.aload_n 0) 1 11 := ⟨by decide +kernel, rfl⟩
theorem dX5_choose_11 : Dc cX5_choose 11 (.iconst (-1)) 1 12 := ⟨by decide +kernel, rfl⟩
theorem dX5_choose_12 : Dc cX5_choose 12 (.putfield 148) 3 15 := ⟨by decide +kernel, rfl⟩
theorem dX5_choose_15 : Dc cX5_choose 15 (.aload_n 0) 1 16 := ⟨by decide +kernel, rfl⟩
theorem dX5_choose_16 : Dc cX5_choose 16 (.iconst (-1)) 1 17 := ⟨by decide +kernel, rfl⟩
theorem dX5_choose_17 : Dc cX5_choose 17 (.putfield 151) 3 20 := ⟨by decide +kernel, rfl⟩
theorem dX5_choose_20 : Dc cX5_choose 20 (.iconst 0) 1 21 := ⟨by decide +kernel, rfl⟩
theorem dX5_choose_21 : Dc cX5_choose 21 (.istore_n 1) 1 22 := ⟨by decide +kernel, rfl⟩
theorem dX5_choose_22 : Dc cX5_choose 22 (.iload_n 1) 1 23 := ⟨by decide +kernel, rfl⟩
theorem dX5_choose_23 : Dc cX5_choose 23 (.aload_n 0) 1 24 := ⟨by decide +kernel, rfl⟩
theorem dX5_choose_24 : Dc cX5_choose 24 (.getfield 15) 3 27 := ⟨by decide +kernel, rfl⟩
theorem dX5_choose_27 : Dc cX5_choose 27 (.getfield 154) 3 30 := ⟨by decide +kernel, rfl⟩
theorem djX5_choose_30 : Dj cX5_choose 30 (.if_icmp .ge 94) 3 33 94 124 := ⟨by decide +kernel, rfl, by decide⟩
theorem dX5_choose_33 : Dc cX5_choose 33 (.iconst 0) 1 34 := ⟨by decide +kernel, rfl⟩
theorem dX5_choose_34 : Dc cX5_choose 34 (.istore_n 2) 1 35 := ⟨by decide +kernel, rfl⟩
theorem dX5_choose_35 : Dc cX5_choose 35 (.iload_n 2) 1 36 := ⟨by decide +kernel, rfl⟩
theorem dX5_choose_36 : Dc cX5_choose 36 (.bipush 26) 2 38 := ⟨by decide +kernel, rfl⟩
theorem djX5_choose_38 : Dj cX5_choose 38 (.if_icmp .ge 80) 3 41 80 118 := ⟨by decide +kernel, rfl, by decide⟩
theorem dX5_choose_41 : Dc cX5_choose 41 (.aload_n 0) 1 42 := ⟨by decide +kernel, rfl⟩
theorem dX5_choose_42 : Dc cX5_choose 42 (.getfield 27) 3 45 := ⟨by decide +kernel, rfl⟩
theorem dX5_choose_45 : Dc cX5_choose 45 (.iload_n 1) 1 46 := ⟨by decide +kernel, rfl⟩
theorem dX5_choose_46 : Dc cX5_choose 46 (.bipush 26) 2 48 := ⟨by decide +kernel, rfl⟩
theorem dX5_choose_48 : Dc cX5_choose 48 (.imul) 1 49 := ⟨by decide +kernel, rfl⟩
theorem dX5_choose_49 : Dc cX5_choose 49 (.iload_n 2) 1 50 := ⟨by decide +kernel, rfl⟩
theorem dX5_choose_50 : Dc cX5_choose 50 (.iadd) 1 51 := ⟨by decide +kernel, rfl⟩
theorem dX5_choose_51 : Dc cX5_choose 51 (.iaload) 1 52 := ⟨by decide +kernel, rfl⟩
theorem dX5_choose_52 : Dc cX5_choose 52 (.istore_n 3) 1 53 := ⟨by decide +kernel, rfl⟩
theorem dX5_choose_53 : Dc cX5_choose 53 (.iload_n 3) 1 54 := ⟨by decide +kernel, rfl⟩
theorem dX5_choose_54 : Dc cX5_choose 54 (.iconst (-1)) 1 55 := ⟨by decide +kernel, rfl⟩
theorem djX5_choose_55 : Dj cX5_choose 55 (.if_icmp .eq 57) 3 58 57 112 := ⟨by decide +kernel, rfl, by decide⟩
theorem dX5_choose_58 : Dc cX5_choose 58 (.iload_n 2) 1 59 := ⟨by decide +kernel, rfl⟩
theorem dX5_choose_59 : Dc cX5_choose 59 (.aload_n 0) 1 60 := ⟨by decide +kernel, rfl⟩
theorem dX5_choose_60 : Dc cX5_choose 60 (.getfield 15) 3 63 := ⟨by decide +kernel, rfl⟩
theorem dX5_choose_63 : Dc cX5_choose 63 (.getfield 139) 3 66 := ⟨by decide +kernel, rfl⟩
theorem dX5_choose_66 : Dc cX5_choose 66 (.iload_n 1) 1 67 := ⟨by decide +kernel, rfl⟩
theorem dX5_choose_67 : Dc cX5_choose 67 (.iaload) 1 68 := ⟨by decide +kernel, rfl⟩
theorem djX5_choose_68 : Dj cX5_choose 68 (.if_icmp .eq 44) 3 71 44 112 := ⟨by decide +kernel, rfl, by decide⟩
theorem dX5_choose_71 : Dc cX5_choose 71 (.aload_n 0) 1 72 := ⟨by decide +kernel, rfl⟩
theorem dX5_choose_72 : Dc cX5_choose 72 (.dup) 1 73 := ⟨by decide +kernel, rfl⟩
theorem dX5_choose_73 : Dc cX5_choose 73 (.getfield 142) 3 76 := ⟨by decide +kernel, rfl⟩
theorem dX5_choose_76 : Dc cX5_choose 76 (.iconst 1) 1 77 := ⟨by decide +kernel, rfl⟩
theorem dX5_choose_77 : Dc cX5_choose 77 (.iadd) 1 78 := ⟨by decide +kernel, rfl⟩
theorem dX5_choose_78 : Dc cX5_choose 78 (.putfield 142) 3 81 := ⟨by decide +kernel, rfl⟩
theorem dX5_choose_81 : Dc cX5_choose 81 (.aload_n 0) 1 82 := ⟨by decide +kernel, rfl⟩
theorem dX5_choose_82 : Dc cX5_choose 82 (.getfield 151) 3 85 := ⟨by decide +kernel, rfl⟩
theorem dX5_choose_85 : Dc cX5_choose 85 (.iconst (-1)) 1 86 := ⟨by decide +kernel, rfl⟩
theorem djX5_choose_86 : Dj cX5_choose 86 (.if_icmp .eq 11) 3 89 11 97 := ⟨by decide +kernel, rfl, by decide⟩
theorem dX5_choose_89 : Dc cX5_choose 89 (.iload_n 3) 1 90 := ⟨by decide +kernel, rfl⟩
theorem dX5_choose_90 : Dc cX5_choose 90 (.aload_n 0) 1 91 := ⟨by decide +kernel, rfl⟩
theorem dX5_choose_91 : Dc cX5_choose 91 (.getfield 151) 3 94 := ⟨by decide +kernel, rfl⟩
theorem djX5_choose_94 : Dj cX5_choose 94 (.if_icmp .ge 18) 3 97 18 112 := ⟨by decide +kernel, rfl, by decide⟩
theorem dX5_choose_97 : Dc cX5_choose 97 (.aload_n 0) 1 98 := ⟨by decide +kernel, rfl⟩
theorem dX5_choose_98 : Dc cX5_choose 98 (.iload_n 3) 1 99 := ⟨by decide +kernel, rfl⟩
theorem dX5_choose_99 : Dc cX5_choose 99 (.putfield 151) 3 102 := ⟨by decide +kernel, rfl⟩
theorem dX5_choose_102 : Dc cX5_choose 102 (.aload_n 0) 1 103 := ⟨by decide +kernel, rfl⟩
theorem dX5_choose_103 : Dc cX5_choose 103 (.iload_n 1) 1 104 := ⟨by decide +kernel, rfl⟩
theorem dX5_choose_104 : Dc cX5_choose 104 (.putfield 145) 3 107 := ⟨by decide +kernel, rfl⟩
theorem dX5_choose_107 : Dc cX5_choose 107 (.aload_n 0) 1 108 := ⟨by decide +kernel, rfl⟩
theorem dX5_choose_108 : Dc cX5_choose 108 (.iload_n 2) 1 109 := ⟨by decide +kernel, rfl⟩
theorem dX5_choose_109 : Dc cX5_choose 109 (.putfield 148) 3 112 := ⟨by decide +kernel, rfl⟩
theorem dX5_choose_112 : Dc cX5_choose 112 (.iinc 2 1) 3 115 := ⟨by decide +kernel, rfl⟩
theorem djX5_choose_115 : Dj cX5_choose 115 (.goto (-80)) 3 118 (-80) 35 := ⟨by decide +kernel, rfl, by decide⟩
theorem dX5_choose_118 : Dc cX5_choose 118 (.iinc 1 1) 3 121 := ⟨by decide +kernel, rfl⟩
theorem djX5_choose_121 : Dj cX5_choose 121 (.goto (-99)) 3 124 (-99) 22 := ⟨by decide +kernel, rfl, by decide⟩
theorem dX5_choose_124 : Dc cX5_choose 124 (.return_) 1 125 := ⟨by decide +kernel, rfl⟩
section
variable {p : Program} {l : Launch} {e : Env} {s : State} {m : MethodId} {args : Array Value} {below : List Frame} {meth : Method} {c : Code} {A0 : Nat → Prop} {D : va_G} {cA : Nat → ClassId} {ad : Nat → Nat} {Z : (Nat → Nat) × (Nat → Nat)} {Q : Int → St → Prop} {b : Bool}
set_option maxHeartbeats 4000000 in
set_option maxRecDepth 100000 in
theorem t_X5_choose_b112 (E : Ev p s m args meth c cX5_choose 4 RX5 A0 D cA ad (NC b) Z) (hr : meth.sig.returnType = none) {K22 : Int → St → Prop} (hK22 : ∀ (x1 : Int) (σ : St), C32 x1 → CanS (shC b) (NC b) σ → K22 x1 σ → G p l e (rmL 1 0 0) s m args below meth c 4 A0 D cA ad (shC b) (NC b) 0 0 (MQ below (QVc D cA ad (shC b) (NC b) Q A0) args s 0 0 A0) σ 22 [some (.ref (ad 80)), some (vI x1), none, none] []) {K35 : Int → Int → St → Prop} (hK35 : ∀ (x1 : Int) (x2 : Int) (σ : St), C32 x1 → C32 x2 → CanS (shC b) (NC b) σ → K35 x1 x2 σ → G p l e (rmL 1 0 0) s m args below meth c 4 A0 D cA ad (shC b) (NC b) 0 0 (MQ below (QVc D cA ad (shC b) (NC b) Q A0) args s 0 0 A0) σ 35 [some (.ref (ad 80)), some (vI x1), some (vI x2), none] []) (x1 : Int) (x2 : Int) (σ : St) (c1 : C32 x1) (c2 : C32 x2) (hσ : CanS (shC b) (NC b) σ) (h : wp_X5_choose_b112 Q K22 K35 x1 x2 σ) : G p l e (rmL 1 0 0) s m args below meth c 4 A0 D cA ad (shC b) (NC b) 0 0 (MQ below (QVc D cA ad (shC b) (NC b) Q A0) args s 0 0 A0) σ 112 [some (.ref (ad 80)), some (vI x1), some (vI x2), none] [] := by
  unfold wp_X5_choose_b112 at h
  refine g_iinc_2 E rfl (by decide) dX5_choose_112 (fun v8 ev8 => ?_)
  replace h := h v8 ev8
  have cv8 : C32 v8 := by rw [ev8]; exact c32_w _
  refine g_goto E djX5_choose_115 ?_
  exact (hK35 x1 v8 σ c1 cv8 hσ h).weak (w_k (w_k (w_k (w_d w_n))))
set_option maxHeartbeats 4000000 in
set_option maxRecDepth 100000 in
theorem t_X5_choose_b97 (E : Ev p s m args meth c cX5_choose 4 RX5 A0 D cA ad (NC b) Z) (hr : meth.sig.returnType = none) {K22 : Int → St → Prop} (hK22 : ∀ (x1 : Int) (σ : St), C32 x1 → CanS (shC b) (NC b) σ → K22 x1 σ → G p l e (rmL 1 0 0) s m args below meth c 4 A0 D cA ad (shC b) (NC b) 0 0 (MQ below (QVc D cA ad (shC b) (NC b) Q A0) args s 0 0 A0) σ 22 [some (.ref (ad 80)), some (vI x1), none, none] []) {K35 : Int → Int → St → Prop} (hK35 : ∀ (x1 : Int) (x2 : Int) (σ : St), C32 x1 → C32 x2 → CanS (shC b) (NC b) σ → K35 x1 x2 σ → G p l e (rmL 1 0 0) s m args below meth c 4 A0 D cA ad (shC b) (NC b) 0 0 (MQ below (QVc D cA ad (shC b) (NC b) Q A0) args s 0 0 A0) σ 35 [some (.ref (ad 80)), some (vI x1), some (vI x2), none] []) (x1 : Int) (x2 : Int) (x3 : Int) (σ : St) (c1 : C32 x1) (c2 : C32 x2) (c3 : C32 x3) (hσ : CanS (shC b) (NC b) σ) (h : wp_X5_choose_b97 Q K22 K35 x1 x2 x3 σ) : G p l e (rmL 1 0 0) s m args below meth c 4 A0 D cA ad (shC b) (NC b) 0 0 (MQ below (QVc D cA ad (shC b) (NC b) Q A0) args s 0 0 A0) σ 97 [some (.ref (ad 80)), some (vI x1), some (vI x2), some (vI x3)] [] := by
  unfold wp_X5_choose_b97 at h
  refine g_aload_0 E dX5_choose_97 ?_
  refine g_iload_3 E dX5_choose_98 ?_
  refine g_putI E fl_RX5_151 rfl rfl (kC_80 b) (sC_80 b) rfl dX5_choose_99 (g_nmS (fun σ9 eσ9 => ?_))
  replace h := h σ9 eσ9
  have hσ9 : CanS (shC b) (NC b) σ9 := by rw [eσ9]; exact uC_80_8 hσ c3
  refine g_aload_0 E dX5_choose_102 ?_
  refine g_iload_1 E dX5_choose_103 ?_
  refine g_putI E fl_RX5_145 rfl rfl (kC_80 b) (sC_80 b) rfl dX5_choose_104 (g_nmS (fun σ10 eσ10 => ?_))
  replace h := h σ10 eσ10
  have hσ10 : CanS (shC b) (NC b) σ10 := by rw [eσ10]; exact uC_80_6 hσ9 c1
  refine g_aload_0 E dX5_choose_107 ?_
  refine g_iload_2 E dX5_choose_108 ?_
  refine g_putI E fl_RX5_148 rfl rfl (kC_80 b) (sC_80 b) rfl dX5_choose_109 (g_nmS (fun σ11 eσ11 => ?_))
  replace h := h σ11 eσ11
  have hσ11 : CanS (shC b) (NC b) σ11 := by rw [eσ11]; exact uC_80_7 hσ10 c2
  exact (t_X5_choose_b112 E hr hK22 hK35 x1 x2 σ11 c1 c2 hσ11 h).weak (w_k (w_k (w_k (w_d w_n))))
set_option maxHeartbeats 4000000 in
set_option maxRecDepth 100000 in
theorem t_X5_choose_l35 (E : Ev p s m args meth c cX5_choose 4 RX5 A0 D cA ad (NC b) Z) (hr : meth.sig.returnType = none) {K22 : Int → St → Prop} (hK22 : ∀ (x1 : Int) (σ : St), C32 x1 → CanS (shC b) (NC b) σ → K22 x1 σ → G p l e (rmL 1 0 0) s m args below meth c 4 A0 D cA ad (shC b) (NC b) 0 0 (MQ below (QVc D cA ad (shC b) (NC b) Q A0) args s 0 0 A0) σ 22 [some (.ref (ad 80)), some (vI x1), none, none] []) : ∀ (n : Nat) (x1 : Int) (x2 : Int) (σ : St), C32 x1 → C32 x2 → CanS (shC b) (NC b) σ → wp_X5_choose_l35 Q K22 n x1 x2 σ → G p l e (rmL 1 0 0) s m args below meth c 4 A0 D cA ad (shC b) (NC b) 0 0 (MQ below (QVc D cA ad (shC b) (NC b) Q A0) args s 0 0 A0) σ 35 [some (.ref (ad 80)), some (vI x1), some (vI x2), none] [] := by
  intro n
  induction n with
  | zero => intro _ _ _ _ _ _ h; exact h.elim
  | succ n ih =>
    intro x1 x2 σ c1 c2 hσ h
    unfold wp_X5_choose_l35 at h
    refine g_iload_2 E dX5_choose_35 ?_
    refine g_bipush E (by decide) dX5_choose_36 ?_
    refine g_icmp_ge E c2 cl_26 djX5_choose_38 (fun hc => ?_) (fun hc => ?_)
    · replace h := h.1 hc
      refine g_iinc_1 E rfl (by decide) dX5_choose_118 (fun v5 ev5 => ?_)
      replace h := h v5 ev5
      have cv5 : C32 v5 := by rw [ev5]; exact c32_w _
      refine g_goto E djX5_choose_121 ?_
      exact (hK22 v5 σ cv5 hσ h).weak (w_k (w_k (w_d (w_d w_n))))
    · replace h := h.2 hc
      refine g_aload_0 E dX5_choose_41 ?_
      refine g_getR E fl_RX5_27 (kC_80 b) (sC_80 b) rfl dX5_choose_42 ?_
      refine g_iload_1 E dX5_choose_45 ?_
      refine g_bipush E (by decide) dX5_choose_46 ?_
      refine g_imul E dX5_choose_48 ?_
      refine g_iload_2 E dX5_choose_49 ?_
      refine g_iadd E dX5_choose_50 ?_
      refine g_iald E (kC_82 b) (sC_82 b) (by decide) h.1 dX5_choose_51 ?_
      replace h := h.2
      refine g_nmI (fun v6 ev6 => ?_)
      replace h := h v6 ev6
      have cv6 : C32 v6 := by rw [ev6]; exact (aC_82 hσ _)
      refine g_istore_3 E rfl (by decide) dX5_choose_52 ?_
      refine g_iload_3 E dX5_choose_53 ?_
      refine g_iconst E dX5_choose_54 ?_
      refine g_icmp_eq E cv6 cl_m1 djX5_choose_55 (fun hc => ?_) (fun hc => ?_)
      · replace h := h.1 hc
        exact (t_X5_choose_b112 E hr hK22 ih x1 x2 σ c1 c2 hσ h).weak (w_k (w_k (w_k (w_d w_n))))
      · replace h := h.2 hc
        refine g_iload_2 E dX5_choose_58 ?_
        refine g_aload_0 E dX5_choose_59 ?_
        refine g_getR E fl_RX5_15 (kC_80 b) (sC_80 b) rfl dX5_choose_60 ?_
        refine g_getR E fl_RX5_139 (kC_24 b) (sC_24 b) rfl dX5_choose_63 ?_
        refine g_iload_1 E dX5_choose_66 ?_
        refine g_iald E (kC_25 b) (sC_25 b) (by decide) h.1 dX5_choose_67 ?_
        replace h := h.2
        refine g_icmp_eq E c2 (aC_25 hσ _) djX5_choose_68 (fun hc => ?_) (fun hc => ?_)
        · replace h := h.1 hc
          exact (t_X5_choose_b112 E hr hK22 ih x1 x2 σ c1 c2 hσ h).weak (w_k (w_k (w_k (w_d w_n))))
        · replace h := h.2 hc
          refine g_aload_0 E dX5_choose_71 ?_
          refine g_dup E rfl dX5_choose_72 ?_
          refine g_getI E fl_RX5_142 (kC_80 b) (sC_80 b) rfl dX5_choose_73 ?_
          refine g_iconst E dX5_choose_76 ?_
          refine g_iadd E dX5_choose_77 ?_
          refine g_putI E fl_RX5_142 rfl rfl (kC_80 b) (sC_80 b) rfl dX5_choose_78 (g_nmS (fun σ7 eσ7 => ?_))
          replace h := h σ7 eσ7
          have hσ7 : CanS (shC b) (NC b) σ7 := by rw [eσ7]; exact uC_80_5 hσ (c32_w _)
          refine g_aload_0 E dX5_choose_81 ?_
          refine g_getI E fl_RX5_151 (kC_80 b) (sC_80 b) rfl dX5_choose_82 ?_
          refine g_iconst E dX5_choose_85 ?_
          refine g_icmp_eq E (fC_80_8 hσ7) cl_m1 djX5_choose_86 (fun hc => ?_) (fun hc => ?_)
          · replace h := h.1 hc
            exact (t_X5_choose_b97 E hr hK22 ih x1 x2 v6 σ7 c1 c2 cv6 hσ7 h).weak (w_k (w_k (w_k (w_k w_n))))
          · replace h := h.2 hc
            refine g_iload_3 E dX5_choose_89 ?_
            refine g_aload_0 E dX5_choose_90 ?_
            refine g_getI E fl_RX5_151 (kC_80 b) (sC_80 b) rfl dX5_choose_91 ?_
            refine g_icmp_ge E cv6 (fC_80_8 hσ7) djX5_choose_94 (fun hc => ?_) (fun hc => ?_)
            · replace h := h.1 hc
              exact (t_X5_choose_b112 E hr hK22 ih x1 x2 σ7 c1 c2 hσ7 h).weak (w_k (w_k (w_k (w_d w_n))))
            · replace h := h.2 hc
              exact (t_X5_choose_b97 E hr hK22 ih x1 x2 v6 σ7 c1 c2 cv6 hσ7 h).weak (w_k (w_k (w_k (w_k w_n))))
set_option maxHeartbeats 4000000 in
set_option maxRecDepth 100000 in
theorem t_X5_choose_l22 (E : Ev p s m args meth c cX5_choose 4 RX5 A0 D cA ad (NC b) Z) (hr : meth.sig.returnType = none) : ∀ (n : Nat) (x1 : Int) (σ : St), C32 x1 → CanS (shC b) (NC b) σ → wp_X5_choose_l22 Q n x1 σ → G p l e (rmL 1 0 0) s m args below meth c 4 A0 D cA ad (shC b) (NC b) 0 0 (MQ below (QVc D cA ad (shC b) (NC b) Q A0) args s 0 0 A0) σ 22 [some (.ref (ad 80)), some (vI x1), none, none] [] := by
  intro n
  induction n with
  | zero => intro _ _ _ _ h; exact h.elim
  | succ n ih =>
    intro x1 σ c1 hσ h
    unfold wp_X5_choose_l22 at h
    refine g_iload_1 E dX5_choose_22 ?_
    refine g_aload_0 E dX5_choose_23 ?_
    refine g_getR E fl_RX5_15 (kC_80 b) (sC_80 b) rfl dX5_choose_24 ?_
    refine g_getI E fl_RX5_154 (kC_24 b) (sC_24 b) rfl dX5_choose_27 ?_
    refine g_icmp_ge E c1 (fC_24_2 hσ) djX5_choose_30 (fun hc => ?_) (fun hc => ?_)
    · replace h := h.1 hc
      exact g_vret E hr h hσ dX5_choose_124
    · replace h := h.2 hc
      refine g_iconst E dX5_choose_33 ?_
      refine g_istore_2 E rfl (by decide) dX5_choose_34 ?_
      exact (t_X5_choose_l35 E hr ih bigN x1 0 σ c1 cl_0 hσ h).weak (w_k (w_k (w_k (w_d w_n))))
set_option maxHeartbeats 4000000 in
set_option maxRecDepth 100000 in
theorem t_X5_choose (E : Ev p s m args meth c cX5_choose 4 RX5 A0 D cA ad (NC b) Z) (hr : meth.sig.returnType = none) (σ : St) (hσ : CanS (shC b) (NC b) σ) (h : wp_X5_choose  σ Q) : G p l e (rmL 1 0 0) s m args below meth c 4 A0 D cA ad (shC b) (NC b) 0 0 (MQ below (QVc D cA ad (shC b) (NC b) Q A0) args s 0 0 A0) σ 0 [some (.ref (ad 80)), none, none, none] [] := by
  unfold wp_X5_choose at h
  refine g_aload_0 E dX5_choose_0 ?_
  refine g_iconst E dX5_choose_1 ?_
  refine g_putI E fl_RX5_142 rfl rfl (kC_80 b) (sC_80 b) rfl dX5_choose_2 (g_nmS (fun σ1 eσ1 => ?_))
  replace h := h σ1 eσ1
  have hσ1 : CanS (shC b) (NC b) σ1 := by rw [eσ1]; exact uC_80_5 hσ cl_0
  refine g_aload_0 E dX5_choose_5 ?_
  refine g_iconst E dX5_choose_6 ?_
  refine g_putI E fl_RX5_145 rfl rfl (kC_80 b) (sC_80 b) rfl dX5_choose_7 (g_nmS (fun σ2 eσ2 => ?_))
  replace h := h σ2 eσ2
  have hσ2 : CanS (shC b) (NC b) σ2 := by rw [eσ2]; exact uC_80_6 hσ1 cl_m1
  refine g_aload_0 E dX5_choose_10 ?_
  refine g_iconst E dX5_choose_11 ?_
  refine g_putI E fl_RX5_148 rfl rfl (kC_80 b) (sC_80 b) rfl dX5_choose_12 (g_nmS (fun σ3 eσ3 => ?_))
  replace h := h σ3 eσ3
  have hσ3 : CanS (shC b) (NC b) σ3 := by rw [eσ3]; exact uC_80_7 hσ2 cl_m1
  refine g_aload_0 E dX5_choose_15 ?_
  refine g_iconst E dX5_choose_16 ?_
  refine g_putI E fl_RX5_151 rfl rfl (kC_80 b) (sC_80 b) rfl dX5_choose_17 (g_nmS (fun σ4 eσ4 => ?_))
  replace h := h σ4 eσ4
  have hσ4 : CanS (shC b) (NC b) σ4 := by rw [eσ4]; exact uC_80_8 hσ3 cl_m1
  refine g_iconst E dX5_choose_20 ?_
  refine g_istore_1 E rfl (by decide) dX5_choose_21 ?_
  exact (t_X5_choose_l22 E hr bigN 0 σ4 cl_0 hσ4 h).weak (w_k (w_k (w_d (w_d w_n))))
end
theorem m_X5_choose {Z : (Nat → Nat) × (Nat → Nat)} {l : Launch} {D : va_G} {cA : Nat → ClassId} {ad : Nat → Nat} {b : Bool} {σ : St} {Q : Int → St → Prop} (hA : AdOk (NC b) ad) (hσ : CanS (shC b) (NC b) σ) (h : wp_X5_choose  σ Q) : KtV Z l D cA ad (shC b) (NC b) yX5_choose cX5_choose 4 none 1 [.ref (ad 80)] σ Q :=
  KtV.of my_X5_choose hA [some (.ref (ad 80)), none, none, none] (Nat.le_of_ble_eq_true rfl) rfl (fun p e s m args below meth c A0 E hr => t_X5_choose E hr σ hσ h)
section
variable {p : Program} {l : Launch} {e : Env} {s : State} {m : MethodId} {args : Array Value} {below : List Frame} {meth : Method} {c : Code} {A0 : Nat → Prop} {D : va_G} {cA : Nat → ClassId} {ad : Nat → Nat} {Z : (Nat → Nat) × (Nat → Nat)} {Q : Int → St → Prop} {b : Bool}
set_option maxHeartbeats 4000000 in
set_option maxRecDepth 100000 in
theorem t_J7_fill_53178_C_c81_l5 (E : Ev p s m args meth c cJ7_fill_53178 4 RJ7 A0 D cA ad (NC b) Z) (hr : meth.sig.returnType = none) : ∀ (n : Nat) (x1 : Int) (x2 : Int) (x3 : Int) (σ : St), C32 x1 → C32 x2 → C32 x3 → CanS (shC b) (NC b) σ → wp_J7_fill_53178_C_c81_l5 Q n x1 x2 x3 σ → G p l e (rmL 1 0 0) s m args below meth c 4 A0 D cA ad (shC b) (NC b) 0 0 (MQ below (QVc D cA ad (shC b) (NC b) Q A0) args s 0 0 A0) σ 5 [some (.ref (ad 81)), some (vI x1), some (vI x2), some (vI x3)] [] := by
  intro n
  induction n with
  | zero => intro _ _ _ _ _ _ _ _ h; exact h.elim
  | succ n ih =>
    intro x1 x2 x3 σ c1 c2 c3 hσ h
    unfold wp_J7_fill_53178_C_c81_l5 at h
    refine g_iload_2 E dJ7_fill_53178_5 ?_
    refine g_iload_3 E dJ7_fill_53178_6 ?_
    refine g_icmp_ge E c2 c3 djJ7_fill_53178_7 (fun hc => ?_) (fun hc => ?_)
    · replace h := h.1 hc
      exact g_vret E hr h hσ dJ7_fill_53178_20
    · replace h := h.2 hc
      refine g_aload_0 E dJ7_fill_53178_10 ?_
      refine g_iload_2 E dJ7_fill_53178_11 ?_
      refine g_iload_1 E dJ7_fill_53178_12 ?_
      refine g_iast E (kC_81 b) (sC_81 b) (by decide) h.1 dJ7_fill_53178_13 (g_nmS (fun σ1 eσ1 => ?_))
      replace h := h.2 σ1 eσ1
      have hσ1 : CanS (shC b) (NC b) σ1 := by rw [eσ1]; exact wC_81 hσ c1
      refine g_iinc_2 E rfl (by decide) dJ7_fill_53178_14 (fun v2 ev2 => ?_)
      replace h := h v2 ev2
      have cv2 : C32 v2 := by rw [ev2]; exact c32_w _
      refine g_goto E djJ7_fill_53178_17 ?_
      exact (ih x1 v2 x3 σ1 c1 cv2 c3 hσ1 h).weak (w_k (w_k (w_k (w_k w_n))))
set_option maxHeartbeats 4000000 in
set_option maxRecDepth 100000 in
theorem t_J7_fill_53178_C_c81 (E : Ev p s m args meth c cJ7_fill_53178 4 RJ7 A0 D cA ad (NC b) Z) (hr : meth.sig.returnType = none) (x1 : Int) (σ : St) (c1 : C32 x1) (hσ : CanS (shC b) (NC b) σ) (h : wp_J7_fill_53178_C_c81 x1 σ Q) : G p l e (rmL 1 0 0) s m args below meth c 4 A0 D cA ad (shC b) (NC b) 0 0 (MQ below (QVc D cA ad (shC b) (NC b) Q A0) args s 0 0 A0) σ 0 [some (.ref (ad 81)), some (vI x1), none, none] [] := by
  unfold wp_J7_fill_53178_C_c81 at h
  refine g_iconst E dJ7_fill_53178_0 ?_
  refine g_istore_2 E rfl (by decide) dJ7_fill_53178_1 ?_
  refine g_aload_0 E dJ7_fill_53178_2 ?_
  refine g_alen E (kC_81 b) (sC_81 b) (by decide) (by decide) dJ7_fill_53178_3 ?_
  refine g_istore_3 E rfl (by decide) dJ7_fill_53178_4 ?_
  exact (t_J7_fill_53178_C_c81_l5 E hr bigN x1 0 432 σ c1 cl_0 cl_432 hσ h).weak (w_k (w_k (w_k (w_k w_n))))
end
theorem m_J7_fill_53178_C_c81 {Z : (Nat → Nat) × (Nat → Nat)} {l : Launch} {D : va_G} {cA : Nat → ClassId} {ad : Nat → Nat} {b : Bool} {x1 : Int} {σ : St} {Q : Int → St → Prop} (hA : AdOk (NC b) ad) (c1 : C32 x1) (hσ : CanS (shC b) (NC b) σ) (h : wp_J7_fill_53178_C_c81 x1 σ Q) : KtV Z l D cA ad (shC b) (NC b) yJ7_fill_53178 cJ7_fill_53178 4 none 1 [.ref (ad 81), vI x1] σ Q :=
  KtV.of my_J7_fill_53178 hA [some (.ref (ad 81)), some (vI x1), none, none] (Nat.le_of_ble_eq_true rfl) rfl (fun p e s m args below meth c A0 E hr => t_J7_fill_53178_C_c81 E hr x1 σ c1 hσ h)
theorem dX5_improve_0 : Dc cX5_improve 0 (.aload_n 0) 1 1 := ⟨by decide +kernel, rfl⟩
theorem dX5_improve_1 : Dc cX5_improve 1 (.iload_n 1) 1 2 := ⟨by decide +kernel, rfl⟩
theorem dX5_improve_2 : Dc cX5_improve 2 (.iaload) 1 3 := ⟨by decide +kernel, rfl⟩
theorem dX5_improve_3 : Dc cX5_improve 3 (.istore_n 3) 1 4 := ⟨by decide +kernel, rfl⟩
theorem dX5_improve_4 : Dc cX5_improve 4 (.aload_n 0) 1 5 := ⟨by decide +kernel, rfl⟩
theorem dX5_improve_5 : Dc cX5_improve 5 (.iload_n 1) 1 6 := ⟨by decide +kernel, rfl⟩
theorem dX5_improve_6 : Dc cX5_improve 6 (.iload_n 3) 1 7 := ⟨by decide +kernel, rfl⟩
theorem dX5_improve_7 : Dc cX5_improve 7 (.iload_n 2) 1 8 := ⟨by decide +kernel, rfl⟩
theorem dX5_improve_8 : Dc cX5_improve 8 (.invokestatic 117) 3 11 := ⟨by decide +kernel, rfl⟩
theorem dX5_improve_11 : Dc cX5_improve 11 (.iastore) 1 12 := ⟨by decide +kernel, rfl⟩
theorem dX5_improve_12 : Dc cX5_improve 12 (.aload_n 0) 1 13 := ⟨by decide +kernel, rfl⟩
theorem dX5_improve_13 : Dc cX5_improve 13 (.iload_n 1) 1 14 := ⟨by decide +kernel, rfl⟩
theorem dX5_improve_14 : Dc cX5_improve 14 (.iaload) 1 15 := ⟨by decide +kernel, rfl⟩
theorem dX5_improve_15 : Dc cX5_improve 15 (.iload_n 3) 1 16 := ⟨by decide +kernel, rfl⟩
theorem djX5_improve_16 : Dj cX5_improve 16 (.if_icmp .eq 7) 3 19 7 23 := ⟨by decide +kernel, rfl, by decide⟩
theorem dX5_improve_19 : Dc cX5_improve 19 (.iconst 1) 1 20 := ⟨by decide +kernel, rfl⟩
theorem djX5_improve_20 : Dj cX5_improve 20 (.goto 4) 3 23 4 24 := ⟨by decide +kernel, rfl, by decide⟩
theorem dX5_improve_23 : Dc cX5_improve 23 (.iconst 0) 1 24 := ⟨by decide +kernel, rfl⟩
theorem dX5_improve_24 : Dc cX5_improve 24 (.ireturn) 1 25 := ⟨by decide +kernel, rfl⟩
section
variable {p : Program} {l : Launch} {e : Env} {s : State} {m : MethodId} {args : Array Value} {below : List Frame} {meth : Method} {c : Code} {A0 : Nat → Prop} {D : va_G} {cA : Nat → ClassId} {ad : Nat → Nat} {Z : (Nat → Nat) × (Nat → Nat)} {Q : Int → St → Prop} {b : Bool}
set_option maxHeartbeats 4000000 in
set_option maxRecDepth 100000 in
theorem t_X5_improve_c81 (E : Ev p s m args meth c cX5_improve 4 RX5 A0 D cA ad (NC b) Z) (hr : meth.sig.returnType = (some .boolean)) (x1 : Int) (x2 : Int) (σ : St) (c1 : C32 x1) (c2 : C32 x2) (hσ : CanS (shC b) (NC b) σ) (h : wp_X5_improve_c81 x1 x2 σ Q) : G p l e (rmL 2 0 0) s m args below meth c 4 A0 D cA ad (shC b) (NC b) 0 0 (MQ below (QIc D cA ad (shC b) (NC b) Q A0) args s 0 0 A0) σ 0 [some (.ref (ad 81)), some (vI x1), some (vI x2), none] [] := by
  unfold wp_X5_improve_c81 at h
  refine g_aload_0 E dX5_improve_0 ?_
  refine g_iload_1 E dX5_improve_1 ?_
  refine g_iald E (kC_81 b) (sC_81 b) (by decide) h.1 dX5_improve_2 ?_
  replace h := h.2
  refine g_nmI (fun v1 ev1 => ?_)
  replace h := h v1 ev1
  have cv1 : C32 v1 := by rw [ev1]; exact (aC_81 hσ _)
  refine g_istore_3 E rfl (by decide) dX5_improve_3 ?_
  refine g_aload_0 E dX5_improve_4 ?_
  refine g_iload_1 E dX5_improve_5 ?_
  refine g_iload_3 E dX5_improve_6 ?_
  refine g_iload_2 E dX5_improve_7 ?_
  refine g_callsI E my_X1_lesser ms_X1_lesser ml_RX5_117 (rm_ok (by decide) (by decide)) ⟨Nat.zero_le _, Nat.zero_le _⟩ (m_X1_lesser E.2.2.1 cv1 c2 hσ h) rfl rfl (Nat.le_of_ble_eq_true rfl) dX5_improve_8 (fun r2 σ3 cr2 hσ3 h => ?_)
  refine g_iast E (kC_81 b) (sC_81 b) (by decide) h.1 dX5_improve_11 (g_nmS (fun σ4 eσ4 => ?_))
  replace h := h.2 σ4 eσ4
  have hσ4 : CanS (shC b) (NC b) σ4 := by rw [eσ4]; exact wC_81 hσ3 cr2
  refine g_aload_0 E dX5_improve_12 ?_
  refine g_iload_1 E dX5_improve_13 ?_
  refine g_iald E (kC_81 b) (sC_81 b) (by decide) h.1 dX5_improve_14 ?_
  replace h := h.2
  refine g_iload_3 E dX5_improve_15 ?_
  refine g_icmp_eq E (aC_81 hσ4 _) cv1 djX5_improve_16 (fun hc => ?_) (fun hc => ?_)
  · replace h := h.1 hc
    refine g_iconst E dX5_improve_23 ?_
    exact g_zret E hr (Or.inl rfl) h hσ4 dX5_improve_24
  · replace h := h.2 hc
    refine g_iconst E dX5_improve_19 ?_
    refine g_goto E djX5_improve_20 ?_
    exact g_zret E hr (Or.inr rfl) h hσ4 dX5_improve_24
end
theorem m_X5_improve_c81 {Z : (Nat → Nat) × (Nat → Nat)} {l : Launch} {D : va_G} {cA : Nat → ClassId} {ad : Nat → Nat} {b : Bool} {x1 x2 : Int} {σ : St} {Q : Int → St → Prop} (hA : AdOk (NC b) ad) (c1 : C32 x1) (c2 : C32 x2) (hσ : CanS (shC b) (NC b) σ) (h : wp_X5_improve_c81 x1 x2 σ Q) : KtI Z l D cA ad (shC b) (NC b) yX5_improve cX5_improve 4 (some .boolean) 2 [.ref (ad 81), vI x1, vI x2] σ Q :=
  KtI.of my_X5_improve hA [some (.ref (ad 81)), some (vI x1), some (vI x2), none] (Nat.le_of_ble_eq_true rfl) rfl (fun p e s m args below meth c A0 E hr => t_X5_improve_c81 E hr x1 x2 σ c1 c2 hσ h)
theorem dX5_relax_0 : Dc cX5_relax 0 (.iconst 0) 1 1 := ⟨by decide +kernel, rfl⟩
theorem dX5_relax_1 : Dc cX5_relax 1 (.istore_n 2) 1 2 := ⟨by decide +kernel, rfl⟩
theorem dX5_relax_2 : Dc cX5_relax 2 (.iconst 0) 1 3 := ⟨by decide +kernel, rfl⟩
theorem dX5_relax_3 : Dc cX5_relax 3 (.istore_n 3) 1 4 := ⟨by decide +kernel, rfl⟩
theorem dX5_relax_4 : Dc cX5_relax 4 (.iload_n 3) 1 5 := ⟨by decide +kernel, rfl⟩
theorem dX5_relax_5 : Dc cX5_relax 5 (.aload_n 0) 1 6 := ⟨by decide +kernel, rfl⟩
theorem dX5_relax_6 : Dc cX5_relax 6 (.getfield 15) 3 9 := ⟨by decide +kernel, rfl⟩
theorem dX5_relax_9 : Dc cX5_relax 9 (.getfield 78) 3 12 := ⟨by decide +kernel, rfl⟩
theorem djX5_relax_12 : Dj cX5_relax 12 (.if_icmp .ge 80) 3 15 80 92 := ⟨by decide +kernel, rfl, by decide⟩
theorem dX5_relax_15 : Dc cX5_relax 15 (.aload_n 0) 1 16 := ⟨by decide +kernel, rfl⟩
theorem dX5_relax_16 : Dc cX5_relax 16 (.getfield 15) 3 19 := ⟨by decide +kernel, rfl⟩
theorem dX5_relax_19 : Dc cX5_relax 19 (.getfield 81) 3 22 := ⟨by decide +kernel, rfl⟩
theorem dX5_relax_22 : Dc cX5_relax 22 (.iload_n 3) 1 23 := ⟨by decide +kernel, rfl⟩
theorem dX5_relax_23 : Dc cX5_relax 23 (.iaload) 1 24 := ⟨by decide +kernel, rfl⟩
theorem dX5_relax_24 : Dc cX5_relax 24 (.istore 4) 2 26 := ⟨by decide +kernel, rfl⟩
theorem dX5_relax_26 : Dc cX5_relax 26 (.aload_n 0) 1 27 := ⟨by decide +kernel, rfl⟩
theorem dX5_relax_27 : Dc cX5_relax 27 (.getfield 23) 3 30 := ⟨by decide +kernel, rfl⟩
theorem dX5_relax_30 : Dc cX5_relax 30 (.iload_n 1) 1 31 := ⟨by decide +kernel, rfl⟩
theorem dX5_relax_31 : Dc cX5_relax 31 (.aload_n 0) 1 32 := ⟨by decide +kernel, rfl⟩
theorem dX5_relax_32 : Dc cX5_relax 32 (.getfield 9) 3 35 := ⟨by decide +kernel, rfl⟩
theorem dX5_relax_35 : Dc cX5_relax 35 (.getfield 84) 3 38 := ⟨by decide +kernel, rfl⟩
theorem dX5_relax_38 : Dc cX5_relax 38 (.iload 4) 2 40 := ⟨by decide +kernel, rfl⟩
theorem dX5_relax_40 : Dc cX5_relax 40 (.iaload) 1 41 := ⟨by decide +kernel, rfl⟩
theorem dX5_relax_41 : Dc cX5_relax 41 (.iadd) 1 42 := ⟨by decide +kernel, rfl⟩
theorem dX5_relax_42 : Dc cX5_relax 42 (.iaload) 1 43 := ⟨by decide +kernel, rfl⟩
theorem dX5_relax_43 : Dc cX5_relax 43 (.istore 5) 2 45 := ⟨by decide +kernel, rfl⟩
theorem dX5_relax_45 : Dc cX5_relax 45 (.iload 5) 2 47 := ⟨by decide +kernel, rfl⟩
theorem dX5_relax_47 : Dc cX5_relax 47 (.iconst (-1)) 1 48 := ⟨by decide +kernel, rfl⟩
theorem djX5_relax_48 : Dj cX5_relax 48 (.if_icmp .eq 38) 3 51 38 86 := ⟨by decide +kernel, rfl, by decide⟩
theorem dX5_relax_51 : Dc cX5_relax 51 (.iload_n 2) 1 52 := ⟨by decide +kernel, rfl⟩
theorem dX5_relax_52 : Dc cX5_relax 52 (.aload_n 0) 1 53 := ⟨by decide +kernel, rfl⟩
theorem dX5_relax_53 : Dc cX5_relax 53 (.getfield 23) 3 56 := ⟨by decide +kernel, rfl⟩
theorem dX5_relax_56 : Dc cX5_relax 56 (.iload_n 1) 1 57 := ⟨by decide +kernel, rfl⟩
theorem dX5_relax_57 : Dc cX5_relax 57 (.aload_n 0) 1 58 := ⟨by decide +kernel, rfl⟩
theorem dX5_relax_58 : Dc cX5_relax 58 (.getfield 9) 3 61 := ⟨by decide +kernel, rfl⟩
theorem dX5_relax_61 : Dc cX5_relax 61 (.getfield 87) 3 64 := ⟨by decide +kernel, rfl⟩
theorem dX5_relax_64 : Dc cX5_relax 64 (.iload 4) 2 66 := ⟨by decide +kernel, rfl⟩
theorem dX5_relax_66 : Dc cX5_relax 66 (.iaload) 1 67 := ⟨by decide +kernel, rfl⟩
theorem dX5_relax_67 : Dc cX5_relax 67 (.iadd) 1 68 := ⟨by decide +kernel, rfl⟩
theorem dX5_relax_68 : Dc cX5_relax 68 (.iload 5) 2 70 := ⟨by decide +kernel, rfl⟩
theorem dX5_relax_70 : Dc cX5_relax 70 (.aload_n 0) 1 71 := ⟨by decide +kernel, rfl⟩
theorem dX5_relax_71 : Dc cX5_relax 71 (.getfield 9) 3 74 := ⟨by decide +kernel, rfl⟩
theorem dX5_relax_74 : Dc cX5_relax 74 (.getfield 90) 3 77 := ⟨by decide +kernel, rfl⟩
theorem dX5_relax_77 : Dc cX5_relax 77 (.iload 4) 2 79 := ⟨by decide +kernel, rfl⟩
theorem dX5_relax_79 : Dc cX5_relax 79 (.iaload) 1 80 := ⟨by decide +kernel, rfl⟩
theorem dX5_relax_80 : Dc cX5_relax 80 (.iadd) 1 81 := ⟨by decide +kernel, rfl⟩
theorem dX5_relax_81 : Dc cX5_relax 81 (.invokestatic 93) 3 84 := ⟨by decide +kernel, rfl⟩
theorem dX5_relax_84 : Dc cX5_relax 84 (.ior) 1 85 := ⟨by decide +kernel, rfl⟩
theorem dX5_relax_85 : Dc cX5_relax 85 (.istore_n 2) 1 86 := ⟨by decide +kernel, rfl⟩
theorem dX5_relax_86 : Dc cX5_relax 86 (.iinc 3 1) 3 89 := ⟨by decide +kernel, rfl⟩
theorem djX5_relax_89 : Dj cX5_relax 89 (.goto (-85)) 3 92 (-85) 4 := ⟨by decide +kernel, rfl, by decide⟩
theorem dX5_relax_92 : Dc cX5_relax 92 (.iload_n 2) 1 93 := ⟨by decide +kernel, rfl⟩
theorem dX5_relax_93 : Dc cX5_relax 93 (.ireturn) 1 94 := ⟨by decide +kernel, rfl⟩
section
variable {p : Program} {l : Launch} {e : Env} {s : State} {m : MethodId} {args : Array Value} {below : List Frame} {meth : Method} {c : Code} {A0 : Nat → Prop} {D : va_G} {cA : Nat → ClassId} {ad : Nat → Nat} {Z : (Nat → Nat) × (Nat → Nat)} {Q : Int → St → Prop} {b : Bool}
set_option maxHeartbeats 4000000 in
set_option maxRecDepth 100000 in
theorem t_X5_relax_b86 (E : Ev p s m args meth c cX5_relax 6 RX5 A0 D cA ad (NC b) Z) (hr : meth.sig.returnType = (some .boolean)) {K4 : Int → Int → Int → St → Prop} (hK4 : ∀ (x1 : Int) (x2 : Int) (x3 : Int) (σ : St), C32 x1 → C32 x2 → C32 x3 → CanS (shC b) (NC b) σ → K4 x1 x2 x3 σ → G p l e (rmL 3 0 0) s m args below meth c 6 A0 D cA ad (shC b) (NC b) 0 0 (MQ below (QIc D cA ad (shC b) (NC b) Q A0) args s 0 0 A0) σ 4 [some (.ref (ad 80)), some (vI x1), some (vI x2), some (vI x3), none, none] []) (x1 : Int) (x2 : Int) (x3 : Int) (σ : St) (c1 : C32 x1) (c2 : C32 x2) (c3 : C32 x3) (hσ : CanS (shC b) (NC b) σ) (h : wp_X5_relax_b86 Q K4 x1 x2 x3 σ) : G p l e (rmL 3 0 0) s m args below meth c 6 A0 D cA ad (shC b) (NC b) 0 0 (MQ below (QIc D cA ad (shC b) (NC b) Q A0) args s 0 0 A0) σ 86 [some (.ref (ad 80)), some (vI x1), some (vI x2), some (vI x3), none, none] [] := by
  unfold wp_X5_relax_b86 at h
  refine g_iinc_3 E rfl (by decide) dX5_relax_86 (fun v6 ev6 => ?_)
  replace h := h v6 ev6
  have cv6 : C32 v6 := by rw [ev6]; exact c32_w _
  refine g_goto E djX5_relax_89 ?_
  exact (hK4 x1 x2 v6 σ c1 c2 cv6 hσ h).weak (w_k (w_k (w_k (w_k (w_d (w_d w_n))))))
set_option maxHeartbeats 4000000 in
set_option maxRecDepth 100000 in
theorem t_X5_relax_l4 (E : Ev p s m args meth c cX5_relax 6 RX5 A0 D cA ad (NC b) Z) (hr : meth.sig.returnType = (some .boolean)) : ∀ (n : Nat) (x1 : Int) (x2 : Int) (x3 : Int) (σ : St), C32 x1 → C32 x2 → C32 x3 → CanS (shC b) (NC b) σ → wp_X5_relax_l4 Q n x1 x2 x3 σ → G p l e (rmL 3 0 0) s m args below meth c 6 A0 D cA ad (shC b) (NC b) 0 0 (MQ below (QIc D cA ad (shC b) (NC b) Q A0) args s 0 0 A0) σ 4 [some (.ref (ad 80)), some (vI x1), some (vI x2), some (vI x3), none, none] [] := by
  intro n
  induction n with
  | zero => intro _ _ _ _ _ _ _ _ h; exact h.elim
  | succ n ih =>
    intro x1 x2 x3 σ c1 c2 c3 hσ h
    unfold wp_X5_relax_l4 at h
    refine g_iload_3 E dX5_relax_4 ?_
    refine g_aload_0 E dX5_relax_5 ?_
    refine g_getR E fl_RX5_15 (kC_80 b) (sC_80 b) rfl dX5_relax_6 ?_
    refine g_getI E fl_RX5_78 (kC_24 b) (sC_24 b) rfl dX5_relax_9 ?_
    refine g_icmp_ge E c3 (fC_24_12 hσ) djX5_relax_12 (fun hc => ?_) (fun hc => ?_)
    · replace h := h.1 hc
      refine g_iload_2 E dX5_relax_92 ?_
      exact g_zret E hr h.1 h.2 hσ dX5_relax_93
    · replace h := h.2 hc
      refine g_aload_0 E dX5_relax_15 ?_
      refine g_getR E fl_RX5_15 (kC_80 b) (sC_80 b) rfl dX5_relax_16 ?_
      refine g_getR E fl_RX5_81 (kC_24 b) (sC_24 b) rfl dX5_relax_19 ?_
      refine g_iload_3 E dX5_relax_22 ?_
      refine g_iald E (kC_33 b) (sC_33 b) (by decide) h.1 dX5_relax_23 ?_
      replace h := h.2
      refine g_nmI (fun v1 ev1 => ?_)
      replace h := h v1 ev1
      have cv1 : C32 v1 := by rw [ev1]; exact (aC_33 hσ _)
      refine g_istore_4 E rfl (by decide) dX5_relax_24 ?_
      refine g_aload_0 E dX5_relax_26 ?_
      refine g_getR E fl_RX5_23 (kC_80 b) (sC_80 b) rfl dX5_relax_27 ?_
      refine g_iload_1 E dX5_relax_30 ?_
      refine g_aload_0 E dX5_relax_31 ?_
      refine g_getR E fl_RX5_9 (kC_80 b) (sC_80 b) rfl dX5_relax_32 ?_
      refine g_getR E fl_RX5_84 (kC_14 b) (sC_14 b) rfl dX5_relax_35 ?_
      refine g_iload_4 E dX5_relax_38 ?_
      refine g_iald E (kC_15 b) (sC_15 b) (by decide) h.1 dX5_relax_40 ?_
      replace h := h.2
      refine g_iadd E dX5_relax_41 ?_
      refine g_iald E (kC_81 b) (sC_81 b) (by decide) h.1 dX5_relax_42 ?_
      replace h := h.2
      refine g_nmI (fun v2 ev2 => ?_)
      replace h := h v2 ev2
      have cv2 : C32 v2 := by rw [ev2]; exact (aC_81 hσ _)
      refine g_istore_5 E rfl (by decide) dX5_relax_43 ?_
      refine g_iload_5 E dX5_relax_45 ?_
      refine g_iconst E dX5_relax_47 ?_
      refine g_icmp_eq E cv2 cl_m1 djX5_relax_48 (fun hc => ?_) (fun hc => ?_)
      · replace h := h.1 hc
        exact (t_X5_relax_b86 E hr ih x1 x2 x3 σ c1 c2 c3 hσ h).weak (w_k (w_k (w_k (w_k (w_d (w_d w_n))))))
      · replace h := h.2 hc
        refine g_iload_2 E dX5_relax_51 ?_
        refine g_aload_0 E dX5_relax_52 ?_
        refine g_getR E fl_RX5_23 (kC_80 b) (sC_80 b) rfl dX5_relax_53 ?_
        refine g_iload_1 E dX5_relax_56 ?_
        refine g_aload_0 E dX5_relax_57 ?_
        refine g_getR E fl_RX5_9 (kC_80 b) (sC_80 b) rfl dX5_relax_58 ?_
        refine g_getR E fl_RX5_87 (kC_14 b) (sC_14 b) rfl dX5_relax_61 ?_
        refine g_iload_4 E dX5_relax_64 ?_
        refine g_iald E (kC_16 b) (sC_16 b) (by decide) h.1 dX5_relax_66 ?_
        replace h := h.2
        refine g_iadd E dX5_relax_67 ?_
        refine g_iload_5 E dX5_relax_68 ?_
        refine g_aload_0 E dX5_relax_70 ?_
        refine g_getR E fl_RX5_9 (kC_80 b) (sC_80 b) rfl dX5_relax_71 ?_
        refine g_getR E fl_RX5_90 (kC_14 b) (sC_14 b) rfl dX5_relax_74 ?_
        refine g_iload_4 E dX5_relax_77 ?_
        refine g_iald E (kC_18 b) (sC_18 b) (by decide) h.1 dX5_relax_79 ?_
        replace h := h.2
        refine g_iadd E dX5_relax_80 ?_
        refine g_callsI E my_X5_improve ms_X5_improve ml_RX5_93 (rm_ok (by decide) (by decide)) ⟨Nat.zero_le _, Nat.zero_le _⟩ (m_X5_improve_c81 E.2.2.1 (c32_w _) (c32_w _) hσ h) rfl rfl (Nat.le_of_ble_eq_true rfl) dX5_relax_81 (fun r3 σ4 cr3 hσ4 h => ?_)
        refine g_ior E dX5_relax_84 ?_
        refine g_nmI (fun v5 ev5 => ?_)
        replace h := h v5 ev5
        have cv5 : C32 v5 := by rw [ev5]; exact (c32_t _)
        refine g_istore_2 E rfl (by decide) dX5_relax_85 ?_
        exact (t_X5_relax_b86 E hr ih x1 v5 x3 σ4 c1 cv5 c3 hσ4 h).weak (w_k (w_k (w_k (w_k (w_d (w_d w_n))))))
set_option maxHeartbeats 4000000 in
set_option maxRecDepth 100000 in
theorem t_X5_relax (E : Ev p s m args meth c cX5_relax 6 RX5 A0 D cA ad (NC b) Z) (hr : meth.sig.returnType = (some .boolean)) (x1 : Int) (σ : St) (c1 : C32 x1) (hσ : CanS (shC b) (NC b) σ) (h : wp_X5_relax x1 σ Q) : G p l e (rmL 3 0 0) s m args below meth c 6 A0 D cA ad (shC b) (NC b) 0 0 (MQ below (QIc D cA ad (shC b) (NC b) Q A0) args s 0 0 A0) σ 0 [some (.ref (ad 80)), some (vI x1), none, none, none, none] [] := by
  unfold wp_X5_relax at h
  refine g_iconst E dX5_relax_0 ?_
  refine g_istore_2 E rfl (by decide) dX5_relax_1 ?_
  refine g_iconst E dX5_relax_2 ?_
  refine g_istore_3 E rfl (by decide) dX5_relax_3 ?_
  exact (t_X5_relax_l4 E hr bigN x1 0 0 σ c1 cl_0 cl_0 hσ h).weak (w_k (w_k (w_k (w_k (w_d (w_d w_n))))))
end
theorem m_X5_relax {Z : (Nat → Nat) × (Nat → Nat)} {l : Launch} {D : va_G} {cA : Nat → ClassId} {ad : Nat → Nat} {b : Bool} {x1 : Int} {σ : St} {Q : Int → St → Prop} (hA : AdOk (NC b) ad) (c1 : C32 x1) (hσ : CanS (shC b) (NC b) σ) (h : wp_X5_relax x1 σ Q) : KtI Z l D cA ad (shC b) (NC b) yX5_relax cX5_relax 6 (some .boolean) 3 [.ref (ad 80), vI x1] σ Q :=
  KtI.of my_X5_relax hA [some (.ref (ad 80)), some (vI x1), none, none, none, none] (Nat.le_of_ble_eq_true rfl) rfl (fun p e s m args below meth c A0 E hr => t_X5_relax E hr x1 σ c1 hσ h)
theorem dX5_goToParts_0 : Dc cX5_goToParts 0 (.aload_n 0) 1 1 := ⟨by decide +kernel, rfl⟩
theorem dX5_goToParts_1 : Dc cX5_goToParts 1 (.getfield 15) 3 4 := ⟨by decide +kernel, rfl⟩
theorem dX5_goToParts_4 : Dc cX5_goToParts 4 (.iload_n 1) 1 5 := ⟨by decide +kernel, rfl⟩
theorem dX5_goToParts_5 : Dc cX5_goToParts 5 (.invokevirtual 97) 3 8 := ⟨by decide +kernel, rfl⟩
theorem dX5_goToParts_8 : Dc cX5_goToParts 8 (.istore_n 2) 1 9 := ⟨by decide +kernel, rfl⟩
theorem dX5_goToParts_9 : Dc cX5_goToParts 9 (.iload_n 2) 1 10 := ⟨by decide +kernel, rfl⟩
theorem dX5_goToParts_10 : Dc cX5_goToParts 10 (.aload_n 0) 1 11 := ⟨by decide +kernel, rfl⟩
theorem dX5_goToParts_11 : Dc cX5_goToParts 11 (.getfield 15) 3 14 := ⟨by decide +kernel, rfl⟩
theorem dX5_goToParts_14 : Dc cX5_goToParts 14 (.iload_n 1) 1 15 := ⟨by decide +kernel, rfl⟩
theorem dX5_goToParts_15 : Dc cX5_goToParts 15 (.invokevirtual 101) 3 18 := ⟨by decide +kernel, rfl⟩
theorem djX5_goToParts_18 : Dj cX5_goToParts 18 (.if_icmp .ge 174) 3 21 174 192 := ⟨by decide +kernel, rfl, by decide⟩
theorem dX5_goToParts_21 : Dc cX5_goToParts 21 (.aload_n 0) 1 22 := ⟨by decide +kernel, rfl⟩
theorem dX5_goToParts_22 : Dc cX5_goToParts 22 (.getfield 15) 3 25 := ⟨by decide +kernel, rfl⟩
theorem dX5_goToParts_25 : Dc cX5_goToParts 25 (.getfield 104) 3 28 := ⟨by decide +kernel, rfl⟩
theorem dX5_goToParts_28 : Dc cX5_goToParts 28 (.iload_n 2) 1 29 := ⟨by decide +kernel, rfl⟩
theorem dX5_goToParts_29 : Dc cX5_goToParts 29 (.iaload) 1 30 := ⟨by decide +kernel, rfl⟩
theorem dX5_goToParts_30 : Dc cX5_goToParts 30 (.istore_n 3) 1 31 := ⟨by decide +kernel, rfl⟩
theorem dX5_goToParts_31 : Dc cX5_goToParts 31 (.aload_n 0) 1 32 := ⟨by decide +kernel, rfl⟩
theorem dX5_goToParts_32 : Dc cX5_goToParts 32 (.getfield 15) 3 35 := ⟨by decide +kernel, rfl⟩
theorem dX5_goToParts_35 : Dc cX5_goToParts 35 (.getfield 105) 3 38 := ⟨by decide +kernel, rfl⟩
theorem dX5_goToParts_38 : Dc cX5_goToParts 38 (.iload_n 2) 1 39 := ⟨by decide +kernel, rfl⟩
theorem dX5_goToParts_39 : Dc cX5_goToParts 39 (.iaload) 1 40 := ⟨by decide +kernel, rfl⟩
theorem dX5_goToParts_40 : Dc cX5_goToParts 40 (.istore 4) 2 42 := ⟨by decide +kernel, rfl⟩
theorem dX5_goToParts_42 : Dc cX5_goToParts 42 (.aload_n 0) 1 43 := ⟨by decide +kernel, rfl⟩
theorem dX5_goToParts_43 : Dc cX5_goToParts 43 (.getfield 23) 3 46 := ⟨by decide +kernel, rfl⟩
theorem dX5_goToParts_46 : Dc cX5_goToParts 46 (.iload_n 1) 1 47 := ⟨by decide +kernel, rfl⟩
theorem dX5_goToParts_47 : Dc cX5_goToParts 47 (.iaload) 1 48 := ⟨by decide +kernel, rfl⟩
theorem dX5_goToParts_48 : Dc cX5_goToParts 48 (.aload_n 0) 1 49 := ⟨by decide +kernel, rfl⟩
theorem dX5_goToParts_49 : Dc cX5_goToParts 49 (.getfield 9) 3 52 := ⟨by decide +kernel, rfl⟩
theorem dX5_goToParts_52 : Dc cX5_goToParts 52 (.getfield 90) 3 55 := ⟨by decide +kernel, rfl⟩
theorem dX5_goToParts_55 : Dc cX5_goToParts 55 (.aload_n 0) 1 56 := ⟨by decide +kernel, rfl⟩
theorem dX5_goToParts_56 : Dc cX5_goToParts 56 (.getfield 15) 3 59 := ⟨by decide +kernel, rfl⟩
theorem dX5_goToParts_59 : Dc cX5_goToParts 59 (.getfield 108) 3 62 := ⟨by decide +kernel, rfl⟩
theorem dX5_goToParts_62 : Dc cX5_goToParts 62 (.iload_n 2) 1 63 := ⟨by decide +kernel, rfl⟩
theorem dX5_goToParts_63 : Dc cX5_goToParts 63 (.iaload) 1 64 := ⟨by decide +kernel, rfl⟩
theorem dX5_goToParts_64 : Dc cX5_goToParts 64 (.iaload) 1 65 := ⟨by decide +kernel, rfl⟩
theorem dX5_goToParts_65 : Dc cX5_goToParts 65 (.iadd) 1 66 := ⟨by decide +kernel, rfl⟩
theorem dX5_goToParts_66 : Dc cX5_goToParts 66 (.istore 5) 2 68 := ⟨by decide +kernel, rfl⟩
theorem dX5_goToParts_68 : Dc cX5_goToParts 68 (.iload_n 3) 1 69 := ⟨by decide +kernel, rfl⟩
theorem djX5_goToParts_69 : Dj cX5_goToParts 69 (.ifCond .ge 7) 3 72 7 76 := ⟨by decide +kernel, rfl, by decide⟩
theorem dX5_goToParts_72 : Dc cX5_goToParts 72 (.iconst 0) 1 73 := ⟨by decide +kernel, rfl⟩
theorem djX5_goToParts_73 : Dj cX5_goToParts 73 (.goto 12) 3 76 12 85 := ⟨by decide +kernel, rfl, by decide⟩
theorem dX5_goToParts_76 : Dc cX5_goToParts 76 (.aload_n 0) 1 77 := ⟨by decide +kernel, rfl⟩
theorem dX5_goToParts_77 : Dc cX5_goToParts 77 (.getfield 19) 3 80 := ⟨by decide +kernel, rfl⟩
theorem dX5_goToParts_80 : Dc cX5_goToParts 80 (.getfield 111) 3 83 := ⟨by decide +kernel, rfl⟩
theorem dX5_goToParts_83 : Dc cX5_goToParts 83 (.iload_n 3) 1 84 := ⟨by decide +kernel, rfl⟩
theorem dX5_goToParts_84 : Dc cX5_goToParts 84 (.iaload) 1 85 := ⟨by decide +kernel, rfl⟩
theorem dX5_goToParts_85 : Dc cX5_goToParts 85 (.istore 6) 2 87 := ⟨by decide +kernel, rfl⟩
theorem dX5_goToParts_87 : Dc cX5_goToParts 87 (.iload 4) 2 89 := ⟨by decide +kernel, rfl⟩
theorem djX5_goToParts_89 : Dj cX5_goToParts 89 (.ifCond .ge 7) 3 92 7 96 := ⟨by decide +kernel, rfl, by decide⟩
theorem dX5_goToParts_92 : Dc cX5_goToParts 92 (.iconst 0) 1 93 := ⟨by decide +kernel, rfl⟩
theorem djX5_goToParts_93 : Dj cX5_goToParts 93 (.goto 13) 3 96 13 106 := ⟨by decide +kernel, rfl, by decide⟩
theorem dX5_goToParts_96 : Dc cX5_goToParts 96 (.aload_n 0) 1 97 := ⟨by decide +kernel, rfl⟩
theorem dX5_goToParts_97 : Dc cX5_goToParts 97 (.getfield 19) 3 100 := ⟨by decide +kernel, rfl⟩
theorem dX5_goToParts_100 : Dc cX5_goToParts 100 (.getfield 111) 3 103 := ⟨by decide +kernel, rfl⟩
theorem dX5_goToParts_103 : Dc cX5_goToParts 103 (.iload 4) 2 105 := ⟨by decide +kernel, rfl⟩
theorem dX5_goToParts_105 : Dc cX5_goToParts 105 (.iaload) 1 106 := ⟨by decide +kernel, rfl⟩
theorem dX5_goToParts_106 : Dc cX5_goToParts 106 (.istore 7) 2 108 := ⟨by decide +kernel, rfl⟩
theorem dX5_goToParts_108 : Dc cX5_goToParts 108 (.aload_n 0) 1 109 := ⟨by decide +kernel, rfl⟩
theorem dX5_goToParts_109 : Dc cX5_goToParts 109 (.getfield 15) 3 112 := ⟨by decide +kernel, rfl⟩
theorem dX5_goToParts_112 : Dc cX5_goToParts 112 (.getfield 114) 3 115 := ⟨by decide +kernel, rfl⟩
theorem dX5_goToParts_115 : Dc cX5_goToParts 115 (.iload_n 2) 1 116 := ⟨by decide +kernel, rfl⟩
theorem dX5_goToParts_116 : Dc cX5_goToParts 116 (.iaload) 1 117 := ⟨by decide +kernel, rfl⟩
theorem dX5_goToParts_117 : Dc cX5_goToParts 117 (.iconst (-1)) 1 118 := ⟨by decide +kernel, rfl⟩
theorem djX5_goToParts_118 : Dj cX5_goToParts 118 (.if_icmp .eq 7) 3 121 7 125 := ⟨by decide +kernel, rfl, by decide⟩
theorem dX5_goToParts_121 : Dc cX5_goToParts 121 (.iconst 1) 1 122 := ⟨by decide +kernel, rfl⟩
theorem djX5_goToParts_122 : Dj cX5_goToParts 122 (.goto 4) 3 125 4 126 := ⟨by decide +kernel, rfl, by decide⟩
theorem dX5_goToParts_125 : Dc cX5_goToParts 125 (.iconst 0) 1 126 := ⟨by decide +kernel, rfl⟩
theorem dX5_goToParts_126 : Dc cX5_goToParts 126 (.istore 8) 2 128 := ⟨by decide +kernel, rfl⟩
theorem dX5_goToParts_128 : Dc cX5_goToParts 128 (.iload 8) 2 130 := ⟨by decide +kernel, rfl⟩
theorem djX5_goToParts_130 : Dj cX5_goToParts 130 (.ifCond .eq 26) 3 133 26 156 := ⟨by decide +kernel, rfl, by decide⟩
theorem dX5_goToParts_133 : Dc cX5_goToParts 133 (.iload_n 3) 1 134 := ⟨by decide +kernel, rfl⟩
theorem djX5_goToParts_134 : Dj cX5_goToParts 134 (.ifCond .lt 22) 3 137 22 156 := ⟨by decide +kernel, rfl, by decide⟩
theorem dX5_goToParts_137 : Dc cX5_goToParts 137 (.iload 7) 2 139 := ⟨by decide +kernel, rfl⟩
theorem djX5_goToParts_139 : Dj cX5_goToParts 139 (.ifCond .lt 17) 3 142 17 156 := ⟨by decide +kernel, rfl, by decide⟩
theorem dX5_goToParts_142 : Dc cX5_goToParts 142 (.aload_n 0) 1 143 := ⟨by decide +kernel, rfl⟩
theorem dX5_goToParts_143 : Dc cX5_goToParts 143 (.getfield 23) 3 146 := ⟨by decide +kernel, rfl⟩
theorem dX5_goToParts_146 : Dc cX5_goToParts 146 (.iload_n 3) 1 147 := ⟨by decide +kernel, rfl⟩
theorem dX5_goToParts_147 : Dc cX5_goToParts 147 (.iload 5) 2 149 := ⟨by decide +kernel, rfl⟩
theorem dX5_goToParts_149 : Dc cX5_goToParts 149 (.iload 7) 2 151 := ⟨by decide +kernel, rfl⟩
theorem dX5_goToParts_151 : Dc cX5_goToParts 151 (.iadd) 1 152 := ⟨by decide +kernel, rfl⟩
theorem dX5_goToParts_152 : Dc cX5_goToParts 152 (.invokestatic 93) 3 155 := ⟨by decide +kernel, rfl⟩
theorem dX5_goToParts_155 : Dc cX5_goToParts 155 (.pop) 1 156 := ⟨by decide +kernel, rfl⟩
theorem dX5_goToParts_156 : Dc cX5_goToParts 156 (.iload 8) 2 158 := ⟨by decide +kernel, rfl⟩
theorem djX5_goToParts_158 : Dj cX5_goToParts 158 (.ifCond .eq 28) 3 161 28 186 := ⟨by decide +kernel, rfl, by decide⟩
theorem dX5_goToParts_161 : Dc cX5_goToParts 161 (.iload 4) 2 163 := ⟨by decide +kernel, rfl⟩
theorem djX5_goToParts_163 : Dj cX5_goToParts 163 (.ifCond .lt 23) 3 166 23 186 := ⟨by decide +kernel, rfl, by decide⟩
theorem dX5_goToParts_166 : Dc cX5_goToParts 166 (.iload 6) 2 168 := ⟨by decide +kernel, rfl⟩
theorem djX5_goToParts_168 : Dj cX5_goToParts 168 (.ifCond .lt 18) 3 171 18 186 := ⟨by decide +kernel, rfl, by decide⟩
theorem dX5_goToParts_171 : Dc cX5_goToParts 171 (.aload_n 0) 1 172 := ⟨by decide +kernel, rfl⟩
theorem dX5_goToParts_172 : Dc cX5_goToParts 172 (.getfield 23) 3 175 := ⟨by decide +kernel, rfl⟩
theorem dX5_goToParts_175 : Dc cX5_goToParts 175 (.iload 4) 2 177 := ⟨by decide +kernel, rfl⟩
theorem dX5_goToParts_177 : Dc cX5_goToParts 177 (.iload 5) 2 179 := ⟨by decide +kernel, rfl⟩
theorem dX5_goToParts_179 : Dc cX5_goToParts 179 (.iload 6) 2 181 := ⟨by decide +kernel, rfl⟩
theorem dX5_goToParts_181 : Dc cX5_goToParts 181 (.iadd) 1 182 := ⟨by decide +kernel, rfl⟩
theorem dX5_goToParts_182 : Dc cX5_goToParts 182 (.invokestatic 93) 3 185 := ⟨by decide +kernel, rfl⟩
theorem dX5_goToParts_185 : Dc cX5_goToParts 185 (.pop) 1 186 := ⟨by decide +kernel, rfl⟩
theorem dX5_goToParts_186 : Dc cX5_goToParts 186 (.iinc 2 1) 3 189 := ⟨by decide +kernel, rfl⟩
theorem djX5_goToParts_189 : Dj cX5_goToParts 189 (.goto (-180)) 3 192 (-180) 9 := ⟨by decide +kernel, rfl, by decide⟩
theorem dX5_goToParts_192 : Dc cX5_goToParts 192 (.return_) 1 193 := ⟨by decide +kernel, rfl⟩
section
variable {p : Program} {l : Launch} {e : Env} {s : State} {m : MethodId} {args : Array Value} {below : List Frame} {meth : Method} {c : Code} {A0 : Nat → Prop} {D : va_G} {cA : Nat → ClassId} {ad : Nat → Nat} {Z : (Nat → Nat) × (Nat → Nat)} {Q : Int → St → Prop} {b : Bool}
set_option maxHeartbeats 4000000 in
set_option maxRecDepth 100000 in
theorem t_X5_goToParts_b186 (E : Ev p s m args meth c cX5_goToParts 9 RX5 A0 D cA ad (NC b) Z) (hr : meth.sig.returnType = none) {K9 : Int → Int → St → Prop} (hK9 : ∀ (x1 : Int) (x2 : Int) (σ : St), C32 x1 → C32 x2 → CanS (shC b) (NC b) σ → K9 x1 x2 σ → G p l e (rmL 3 0 0) s m args below meth c 9 A0 D cA ad (shC b) (NC b) 0 0 (MQ below (QVc D cA ad (shC b) (NC b) Q A0) args s 0 0 A0) σ 9 [some (.ref (ad 80)), some (vI x1), some (vI x2), none, none, none, none, none, none] []) (x1 : Int) (x2 : Int) (σ : St) (c1 : C32 x1) (c2 : C32 x2) (hσ : CanS (shC b) (NC b) σ) (h : wp_X5_goToParts_b186 Q K9 x1 x2 σ) : G p l e (rmL 3 0 0) s m args below meth c 9 A0 D cA ad (shC b) (NC b) 0 0 (MQ below (QVc D cA ad (shC b) (NC b) Q A0) args s 0 0 A0) σ 186 [some (.ref (ad 80)), some (vI x1), some (vI x2), none, none, none, none, none, none] [] := by
  unfold wp_X5_goToParts_b186 at h
  refine g_iinc_2 E rfl (by decide) dX5_goToParts_186 (fun v12 ev12 => ?_)
  replace h := h v12 ev12
  have cv12 : C32 v12 := by rw [ev12]; exact c32_w _
  refine g_goto E djX5_goToParts_189 ?_
  exact (hK9 x1 v12 σ c1 cv12 hσ h).weak (w_k (w_k (w_k (w_d (w_d (w_d (w_d (w_d (w_d w_n)))))))))
set_option maxHeartbeats 4000000 in
set_option maxRecDepth 100000 in
theorem t_X5_goToParts_b156 (E : Ev p s m args meth c cX5_goToParts 9 RX5 A0 D cA ad (NC b) Z) (hr : meth.sig.returnType = none) {K9 : Int → Int → St → Prop} (hK9 : ∀ (x1 : Int) (x2 : Int) (σ : St), C32 x1 → C32 x2 → CanS (shC b) (NC b) σ → K9 x1 x2 σ → G p l e (rmL 3 0 0) s m args below meth c 9 A0 D cA ad (shC b) (NC b) 0 0 (MQ below (QVc D cA ad (shC b) (NC b) Q A0) args s 0 0 A0) σ 9 [some (.ref (ad 80)), some (vI x1), some (vI x2), none, none, none, none, none, none] []) (x1 : Int) (x2 : Int) (x4 : Int) (x5 : Int) (x6 : Int) (x8 : Int) (σ : St) (c1 : C32 x1) (c2 : C32 x2) (c4 : C32 x4) (c5 : C32 x5) (c6 : C32 x6) (c8 : C32 x8) (hσ : CanS (shC b) (NC b) σ) (h : wp_X5_goToParts_b156 Q K9 x1 x2 x4 x5 x6 x8 σ) : G p l e (rmL 3 0 0) s m args below meth c 9 A0 D cA ad (shC b) (NC b) 0 0 (MQ below (QVc D cA ad (shC b) (NC b) Q A0) args s 0 0 A0) σ 156 [some (.ref (ad 80)), some (vI x1), some (vI x2), none, some (vI x4), some (vI x5), some (vI x6), none, some (vI x8)] [] := by
  unfold wp_X5_goToParts_b156 at h
  refine g_iload_8 E dX5_goToParts_156 ?_
  refine g_if_eq E c8 djX5_goToParts_158 (fun hc => ?_) (fun hc => ?_)
  · replace h := h.1 hc
    exact (t_X5_goToParts_b186 E hr hK9 x1 x2 σ c1 c2 hσ h).weak (w_k (w_k (w_k (w_d (w_d (w_d (w_d (w_d (w_d w_n)))))))))
  · replace h := h.2 hc
    refine g_iload_4 E dX5_goToParts_161 ?_
    refine g_if_lt E c4 djX5_goToParts_163 (fun hc => ?_) (fun hc => ?_)
    · replace h := h.1 hc
      exact (t_X5_goToParts_b186 E hr hK9 x1 x2 σ c1 c2 hσ h).weak (w_k (w_k (w_k (w_d (w_d (w_d (w_d (w_d (w_d w_n)))))))))
    · replace h := h.2 hc
      refine g_iload_6 E dX5_goToParts_166 ?_
      refine g_if_lt E c6 djX5_goToParts_168 (fun hc => ?_) (fun hc => ?_)
      · replace h := h.1 hc
        exact (t_X5_goToParts_b186 E hr hK9 x1 x2 σ c1 c2 hσ h).weak (w_k (w_k (w_k (w_d (w_d (w_d (w_d (w_d (w_d w_n)))))))))
      · replace h := h.2 hc
        refine g_aload_0 E dX5_goToParts_171 ?_
        refine g_getR E fl_RX5_23 (kC_80 b) (sC_80 b) rfl dX5_goToParts_172 ?_
        refine g_iload_4 E dX5_goToParts_175 ?_
        refine g_iload_5 E dX5_goToParts_177 ?_
        refine g_iload_6 E dX5_goToParts_179 ?_
        refine g_iadd E dX5_goToParts_181 ?_
        refine g_callsI E my_X5_improve ms_X5_improve ml_RX5_93 (rm_ok (by decide) (by decide)) ⟨Nat.zero_le _, Nat.zero_le _⟩ (m_X5_improve_c81 E.2.2.1 c4 (c32_w _) hσ h) rfl rfl (Nat.le_of_ble_eq_true rfl) dX5_goToParts_182 (fun r10 σ11 cr10 hσ11 h => ?_)
        refine g_pop E rfl dX5_goToParts_185 ?_
        exact (t_X5_goToParts_b186 E hr hK9 x1 x2 σ11 c1 c2 hσ11 h).weak (w_k (w_k (w_k (w_d (w_d (w_d (w_d (w_d (w_d w_n)))))))))
set_option maxHeartbeats 4000000 in
set_option maxRecDepth 100000 in
theorem t_X5_goToParts_b126 (E : Ev p s m args meth c cX5_goToParts 9 RX5 A0 D cA ad (NC b) Z) (hr : meth.sig.returnType = none) {K9 : Int → Int → St → Prop} (hK9 : ∀ (x1 : Int) (x2 : Int) (σ : St), C32 x1 → C32 x2 → CanS (shC b) (NC b) σ → K9 x1 x2 σ → G p l e (rmL 3 0 0) s m args below meth c 9 A0 D cA ad (shC b) (NC b) 0 0 (MQ below (QVc D cA ad (shC b) (NC b) Q A0) args s 0 0 A0) σ 9 [some (.ref (ad 80)), some (vI x1), some (vI x2), none, none, none, none, none, none] []) (x1 : Int) (x2 : Int) (x3 : Int) (x4 : Int) (x5 : Int) (x6 : Int) (x7 : Int) (s0 : Int) (σ : St) (c1 : C32 x1) (c2 : C32 x2) (c3 : C32 x3) (c4 : C32 x4) (c5 : C32 x5) (c6 : C32 x6) (c7 : C32 x7) (cs0 : C32 s0) (hσ : CanS (shC b) (NC b) σ) (h : wp_X5_goToParts_b126 Q K9 x1 x2 x3 x4 x5 x6 x7 s0 σ) : G p l e (rmL 3 0 0) s m args below meth c 9 A0 D cA ad (shC b) (NC b) 0 0 (MQ below (QVc D cA ad (shC b) (NC b) Q A0) args s 0 0 A0) σ 126 [some (.ref (ad 80)), some (vI x1), some (vI x2), some (vI x3), some (vI x4), some (vI x5), some (vI x6), some (vI x7), none] [vI s0] := by
  unfold wp_X5_goToParts_b126 at h
  refine g_istore_8 E rfl (by decide) dX5_goToParts_126 ?_
  refine g_iload_8 E dX5_goToParts_128 ?_
  refine g_if_eq E cs0 djX5_goToParts_130 (fun hc => ?_) (fun hc => ?_)
  · replace h := h.1 hc
    exact (t_X5_goToParts_b156 E hr hK9 x1 x2 x4 x5 x6 s0 σ c1 c2 c4 c5 c6 cs0 hσ h).weak (w_k (w_k (w_k (w_d (w_k (w_k (w_k (w_d (w_k w_n)))))))))
  · replace h := h.2 hc
    refine g_iload_3 E dX5_goToParts_133 ?_
    refine g_if_lt E c3 djX5_goToParts_134 (fun hc => ?_) (fun hc => ?_)
    · replace h := h.1 hc
      exact (t_X5_goToParts_b156 E hr hK9 x1 x2 x4 x5 x6 s0 σ c1 c2 c4 c5 c6 cs0 hσ h).weak (w_k (w_k (w_k (w_d (w_k (w_k (w_k (w_d (w_k w_n)))))))))
    · replace h := h.2 hc
      refine g_iload_7 E dX5_goToParts_137 ?_
      refine g_if_lt E c7 djX5_goToParts_139 (fun hc => ?_) (fun hc => ?_)
      · replace h := h.1 hc
        exact (t_X5_goToParts_b156 E hr hK9 x1 x2 x4 x5 x6 s0 σ c1 c2 c4 c5 c6 cs0 hσ h).weak (w_k (w_k (w_k (w_d (w_k (w_k (w_k (w_d (w_k w_n)))))))))
      · replace h := h.2 hc
        refine g_aload_0 E dX5_goToParts_142 ?_
        refine g_getR E fl_RX5_23 (kC_80 b) (sC_80 b) rfl dX5_goToParts_143 ?_
        refine g_iload_3 E dX5_goToParts_146 ?_
        refine g_iload_5 E dX5_goToParts_147 ?_
        refine g_iload_7 E dX5_goToParts_149 ?_
        refine g_iadd E dX5_goToParts_151 ?_
        refine g_callsI E my_X5_improve ms_X5_improve ml_RX5_93 (rm_ok (by decide) (by decide)) ⟨Nat.zero_le _, Nat.zero_le _⟩ (m_X5_improve_c81 E.2.2.1 c3 (c32_w _) hσ h) rfl rfl (Nat.le_of_ble_eq_true rfl) dX5_goToParts_152 (fun r8 σ9 cr8 hσ9 h => ?_)
        refine g_pop E rfl dX5_goToParts_155 ?_
        exact (t_X5_goToParts_b156 E hr hK9 x1 x2 x4 x5 x6 s0 σ9 c1 c2 c4 c5 c6 cs0 hσ9 h).weak (w_k (w_k (w_k (w_d (w_k (w_k (w_k (w_d (w_k w_n)))))))))
set_option maxHeartbeats 4000000 in
set_option maxRecDepth 100000 in
theorem t_X5_goToParts_b106 (E : Ev p s m args meth c cX5_goToParts 9 RX5 A0 D cA ad (NC b) Z) (hr : meth.sig.returnType = none) {K9 : Int → Int → St → Prop} (hK9 : ∀ (x1 : Int) (x2 : Int) (σ : St), C32 x1 → C32 x2 → CanS (shC b) (NC b) σ → K9 x1 x2 σ → G p l e (rmL 3 0 0) s m args below meth c 9 A0 D cA ad (shC b) (NC b) 0 0 (MQ below (QVc D cA ad (shC b) (NC b) Q A0) args s 0 0 A0) σ 9 [some (.ref (ad 80)), some (vI x1), some (vI x2), none, none, none, none, none, none] []) (x1 : Int) (x2 : Int) (x3 : Int) (x4 : Int) (x5 : Int) (x6 : Int) (s0 : Int) (σ : St) (c1 : C32 x1) (c2 : C32 x2) (c3 : C32 x3) (c4 : C32 x4) (c5 : C32 x5) (c6 : C32 x6) (cs0 : C32 s0) (hσ : CanS (shC b) (NC b) σ) (h : wp_X5_goToParts_b106 Q K9 x1 x2 x3 x4 x5 x6 s0 σ) : G p l e (rmL 3 0 0) s m args below meth c 9 A0 D cA ad (shC b) (NC b) 0 0 (MQ below (QVc D cA ad (shC b) (NC b) Q A0) args s 0 0 A0) σ 106 [some (.ref (ad 80)), some (vI x1), some (vI x2), some (vI x3), some (vI x4), some (vI x5), some (vI x6), none, none] [vI s0] := by
  unfold wp_X5_goToParts_b106 at h
  refine g_istore_7 E rfl (by decide) dX5_goToParts_106 ?_
  refine g_aload_0 E dX5_goToParts_108 ?_
  refine g_getR E fl_RX5_15 (kC_80 b) (sC_80 b) rfl dX5_goToParts_109 ?_
  refine g_getR E fl_RX5_114 (kC_24 b) (sC_24 b) rfl dX5_goToParts_112 ?_
  refine g_iload_2 E dX5_goToParts_115 ?_
  refine g_iald E (kC_30 b) (sC_30 b) (by decide) h.1 dX5_goToParts_116 ?_
  replace h := h.2
  refine g_iconst E dX5_goToParts_117 ?_
  refine g_icmp_eq E (aC_30 hσ _) cl_m1 djX5_goToParts_118 (fun hc => ?_) (fun hc => ?_)
  · replace h := h.1 hc
    refine g_iconst E dX5_goToParts_125 ?_
    exact (t_X5_goToParts_b126 E hr hK9 x1 x2 x3 x4 x5 x6 s0 0 σ c1 c2 c3 c4 c5 c6 cs0 cl_0 hσ h).weak (w_k (w_k (w_k (w_k (w_k (w_k (w_k (w_k (w_d w_n)))))))))
  · replace h := h.2 hc
    refine g_iconst E dX5_goToParts_121 ?_
    refine g_goto E djX5_goToParts_122 ?_
    exact (t_X5_goToParts_b126 E hr hK9 x1 x2 x3 x4 x5 x6 s0 1 σ c1 c2 c3 c4 c5 c6 cs0 cl_1 hσ h).weak (w_k (w_k (w_k (w_k (w_k (w_k (w_k (w_k (w_d w_n)))))))))
set_option maxHeartbeats 4000000 in
set_option maxRecDepth 100000 in
theorem t_X5_goToParts_b85 (E : Ev p s m args meth c cX5_goToParts 9 RX5 A0 D cA ad (NC b) Z) (hr : meth.sig.returnType = none) {K9 : Int → Int → St → Prop} (hK9 : ∀ (x1 : Int) (x2 : Int) (σ : St), C32 x1 → C32 x2 → CanS (shC b) (NC b) σ → K9 x1 x2 σ → G p l e (rmL 3 0 0) s m args below meth c 9 A0 D cA ad (shC b) (NC b) 0 0 (MQ below (QVc D cA ad (shC b) (NC b) Q A0) args s 0 0 A0) σ 9 [some (.ref (ad 80)), some (vI x1), some (vI x2), none, none, none, none, none, none] []) (x1 : Int) (x2 : Int) (x3 : Int) (x4 : Int) (x5 : Int) (s0 : Int) (σ : St) (c1 : C32 x1) (c2 : C32 x2) (c3 : C32 x3) (c4 : C32 x4) (c5 : C32 x5) (cs0 : C32 s0) (hσ : CanS (shC b) (NC b) σ) (h : wp_X5_goToParts_b85 Q K9 x1 x2 x3 x4 x5 s0 σ) : G p l e (rmL 3 0 0) s m args below meth c 9 A0 D cA ad (shC b) (NC b) 0 0 (MQ below (QVc D cA ad (shC b) (NC b) Q A0) args s 0 0 A0) σ 85 [some (.ref (ad 80)), some (vI x1), some (vI x2), some (vI x3), some (vI x4), some (vI x5), none, none, none] [vI s0] := by
  unfold wp_X5_goToParts_b85 at h
  refine g_istore_6 E rfl (by decide) dX5_goToParts_85 ?_
  refine g_iload_4 E dX5_goToParts_87 ?_
  refine g_if_ge E c4 djX5_goToParts_89 (fun hc => ?_) (fun hc => ?_)
  · replace h := h.1 hc
    refine g_aload_0 E dX5_goToParts_96 ?_
    refine g_getR E fl_RX5_19 (kC_80 b) (sC_80 b) rfl dX5_goToParts_97 ?_
    refine g_getR E fl_RX5_111 (kC_36 b) (sC_36 b) rfl dX5_goToParts_100 ?_
    refine g_iload_4 E dX5_goToParts_103 ?_
    refine g_iald E (kC_37 b) (sC_37 b) (by decide) h.1 dX5_goToParts_105 ?_
    replace h := h.2
    exact (t_X5_goToParts_b106 E hr hK9 x1 x2 x3 x4 x5 s0 (σ 37 (x4.toNat)) σ c1 c2 c3 c4 c5 cs0 (aC_37 hσ _) hσ h).weak (w_k (w_k (w_k (w_k (w_k (w_k (w_k (w_d (w_d w_n)))))))))
  · replace h := h.2 hc
    refine g_iconst E dX5_goToParts_92 ?_
    refine g_goto E djX5_goToParts_93 ?_
    exact (t_X5_goToParts_b106 E hr hK9 x1 x2 x3 x4 x5 s0 0 σ c1 c2 c3 c4 c5 cs0 cl_0 hσ h).weak (w_k (w_k (w_k (w_k (w_k (w_k (w_k (w_d (w_d w_n)))))))))
set_option maxHeartbeats 4000000 in
set_option maxRecDepth 100000 in
theorem t_X5_goToParts_l9 (E : Ev p s m args meth c cX5_goToParts 9 RX5 A0 D cA ad (NC b) Z) (hr : meth.sig.returnType = none) : ∀ (n : Nat) (x1 : Int) (x2 : Int) (σ : St), C32 x1 → C32 x2 → CanS (shC b) (NC b) σ → wp_X5_goToParts_l9 Q n x1 x2 σ → G p l e (rmL 3 0 0) s m args below meth c 9 A0 D cA ad (shC b) (NC b) 0 0 (MQ below (QVc D cA ad (shC b) (NC b) Q A0) args s 0 0 A0) σ 9 [some (.ref (ad 80)), some (vI x1), some (vI x2), none, none, none, none, none, none] [] := by
  intro n
  induction n with
  | zero => intro _ _ _ _ _ _ h; exact h.elim
  | succ n ih =>
    intro x1 x2 σ c1 c2 hσ h
    unfold wp_X5_goToParts_l9 at h
    refine g_iload_2 E dX5_goToParts_9 ?_
    refine g_aload_0 E dX5_goToParts_10 ?_
    refine g_getR E fl_RX5_15 (kC_80 b) (sC_80 b) rfl dX5_goToParts_11 ?_
    refine g_iload_1 E dX5_goToParts_14 ?_
    refine g_callvI E my_X0_caseEnd mi_X0_caseEnd msel_X0_caseEnd ml_RX5_101 (rm_ok (by decide) (by decide)) ⟨Nat.zero_le _, Nat.zero_le _⟩ (kC_24 b) (sC_24 b) rfl (m_X0_caseEnd E.2.2.1 c1 hσ h) rfl rfl (Nat.le_of_ble_eq_true rfl) dX5_goToParts_15 (fun r3 σ4 cr3 hσ4 h => ?_)
    refine g_icmp_ge E c2 cr3 djX5_goToParts_18 (fun hc => ?_) (fun hc => ?_)
    · replace h := h.1 hc
      exact g_vret E hr h hσ4 dX5_goToParts_192
    · replace h := h.2 hc
      refine g_aload_0 E dX5_goToParts_21 ?_
      refine g_getR E fl_RX5_15 (kC_80 b) (sC_80 b) rfl dX5_goToParts_22 ?_
      refine g_getR E fl_RX5_104 (kC_24 b) (sC_24 b) rfl dX5_goToParts_25 ?_
      refine g_iload_2 E dX5_goToParts_28 ?_
      refine g_iald E (kC_31 b) (sC_31 b) (by decide) h.1 dX5_goToParts_29 ?_
      replace h := h.2
      refine g_nmI (fun v5 ev5 => ?_)
      replace h := h v5 ev5
      have cv5 : C32 v5 := by rw [ev5]; exact (aC_31 hσ4 _)
      refine g_istore_3 E rfl (by decide) dX5_goToParts_30 ?_
      refine g_aload_0 E dX5_goToParts_31 ?_
      refine g_getR E fl_RX5_15 (kC_80 b) (sC_80 b) rfl dX5_goToParts_32 ?_
      refine g_getR E fl_RX5_105 (kC_24 b) (sC_24 b) rfl dX5_goToParts_35 ?_
      refine g_iload_2 E dX5_goToParts_38 ?_
      refine g_iald E (kC_32 b) (sC_32 b) (by decide) h.1 dX5_goToParts_39 ?_
      replace h := h.2
      refine g_nmI (fun v6 ev6 => ?_)
      replace h := h v6 ev6
      have cv6 : C32 v6 := by rw [ev6]; exact (aC_32 hσ4 _)
      refine g_istore_4 E rfl (by decide) dX5_goToParts_40 ?_
      refine g_aload_0 E dX5_goToParts_42 ?_
      refine g_getR E fl_RX5_23 (kC_80 b) (sC_80 b) rfl dX5_goToParts_43 ?_
      refine g_iload_1 E dX5_goToParts_46 ?_
      refine g_iald E (kC_81 b) (sC_81 b) (by decide) h.1 dX5_goToParts_47 ?_
      replace h := h.2
      refine g_aload_0 E dX5_goToParts_48 ?_
      refine g_getR E fl_RX5_9 (kC_80 b) (sC_80 b) rfl dX5_goToParts_49 ?_
      refine g_getR E fl_RX5_90 (kC_14 b) (sC_14 b) rfl dX5_goToParts_52 ?_
      refine g_aload_0 E dX5_goToParts_55 ?_
      refine g_getR E fl_RX5_15 (kC_80 b) (sC_80 b) rfl dX5_goToParts_56 ?_
      refine g_getR E fl_RX5_108 (kC_24 b) (sC_24 b) rfl dX5_goToParts_59 ?_
      refine g_iload_2 E dX5_goToParts_62 ?_
      refine g_iald E (kC_29 b) (sC_29 b) (by decide) h.1 dX5_goToParts_63 ?_
      replace h := h.2
      refine g_iald E (kC_18 b) (sC_18 b) (by decide) h.1 dX5_goToParts_64 ?_
      replace h := h.2
      refine g_iadd E dX5_goToParts_65 ?_
      refine g_nmI (fun v7 ev7 => ?_)
      replace h := h v7 ev7
      have cv7 : C32 v7 := by rw [ev7]; exact (c32_w _)
      refine g_istore_5 E rfl (by decide) dX5_goToParts_66 ?_
      refine g_iload_3 E dX5_goToParts_68 ?_
      refine g_if_ge E cv5 djX5_goToParts_69 (fun hc => ?_) (fun hc => ?_)
      · replace h := h.1 hc
        refine g_aload_0 E dX5_goToParts_76 ?_
        refine g_getR E fl_RX5_19 (kC_80 b) (sC_80 b) rfl dX5_goToParts_77 ?_
        refine g_getR E fl_RX5_111 (kC_36 b) (sC_36 b) rfl dX5_goToParts_80 ?_
        refine g_iload_3 E dX5_goToParts_83 ?_
        refine g_iald E (kC_37 b) (sC_37 b) (by decide) h.1 dX5_goToParts_84 ?_
        replace h := h.2
        exact (t_X5_goToParts_b85 E hr ih x1 x2 v5 v6 v7 (σ4 37 (v5.toNat)) σ4 c1 c2 cv5 cv6 cv7 (aC_37 hσ4 _) hσ4 h).weak (w_k (w_k (w_k (w_k (w_k (w_k (w_d (w_d (w_d w_n)))))))))
      · replace h := h.2 hc
        refine g_iconst E dX5_goToParts_72 ?_
        refine g_goto E djX5_goToParts_73 ?_
        exact (t_X5_goToParts_b85 E hr ih x1 x2 v5 v6 v7 0 σ4 c1 c2 cv5 cv6 cv7 cl_0 hσ4 h).weak (w_k (w_k (w_k (w_k (w_k (w_k (w_d (w_d (w_d w_n)))))))))
set_option maxHeartbeats 4000000 in
set_option maxRecDepth 100000 in
theorem t_X5_goToParts (E : Ev p s m args meth c cX5_goToParts 9 RX5 A0 D cA ad (NC b) Z) (hr : meth.sig.returnType = none) (x1 : Int) (σ : St) (c1 : C32 x1) (hσ : CanS (shC b) (NC b) σ) (h : wp_X5_goToParts x1 σ Q) : G p l e (rmL 3 0 0) s m args below meth c 9 A0 D cA ad (shC b) (NC b) 0 0 (MQ below (QVc D cA ad (shC b) (NC b) Q A0) args s 0 0 A0) σ 0 [some (.ref (ad 80)), some (vI x1), none, none, none, none, none, none, none] [] := by
  unfold wp_X5_goToParts at h
  refine g_aload_0 E dX5_goToParts_0 ?_
  refine g_getR E fl_RX5_15 (kC_80 b) (sC_80 b) rfl dX5_goToParts_1 ?_
  refine g_iload_1 E dX5_goToParts_4 ?_
  refine g_callvI E my_X0_caseStart mi_X0_caseStart msel_X0_caseStart ml_RX5_97 (rm_ok (by decide) (by decide)) ⟨Nat.zero_le _, Nat.zero_le _⟩ (kC_24 b) (sC_24 b) rfl (m_X0_caseStart E.2.2.1 c1 hσ h) rfl rfl (Nat.le_of_ble_eq_true rfl) dX5_goToParts_5 (fun r1 σ2 cr1 hσ2 h => ?_)
  refine g_istore_2 E rfl (by decide) dX5_goToParts_8 ?_
  exact (t_X5_goToParts_l9 E hr bigN x1 r1 σ2 c1 cr1 hσ2 h).weak (w_k (w_k (w_k (w_d (w_d (w_d (w_d (w_d (w_d w_n)))))))))
end
theorem m_X5_goToParts {Z : (Nat → Nat) × (Nat → Nat)} {l : Launch} {D : va_G} {cA : Nat → ClassId} {ad : Nat → Nat} {b : Bool} {x1 : Int} {σ : St} {Q : Int → St → Prop} (hA : AdOk (NC b) ad) (c1 : C32 x1) (hσ : CanS (shC b) (NC b) σ) (h : wp_X5_goToParts x1 σ Q) : KtV Z l D cA ad (shC b) (NC b) yX5_goToParts cX5_goToParts 9 none 3 [.ref (ad 80), vI x1] σ Q :=
  KtV.of my_X5_goToParts hA [some (.ref (ad 80)), some (vI x1), none, none, none, none, none, none, none] (Nat.le_of_ble_eq_true rfl) rfl (fun p e s m args below meth c A0 E hr => t_X5_goToParts E hr x1 σ c1 hσ h)
theorem dX5_goDown_0 : Dc cX5_goDown 0 (.aload_n 0) 1 1 := ⟨by decide +kernel, rfl⟩
theorem dX5_goDown_1 : Dc cX5_goDown 1 (.getfield 23) 3 4 := ⟨by decide +kernel, rfl⟩
theorem dX5_goDown_4 : Dc cX5_goDown 4 (.iconst (-1)) 1 5 := ⟨by decide +kernel, rfl⟩
theorem dX5_goDown_5 : Dc cX5_goDown 5 (.invokestatic 34) 3 8 := ⟨by decide +kernel, rfl⟩
theorem dX5_goDown_8 : Dc cX5_goDown 8 (.aload_n 0) 1 9 := ⟨by decide +kernel, rfl⟩
theorem dX5_goDown_9 : Dc cX5_goDown 9 (.getfield 23) 3 12 := ⟨by decide +kernel, rfl⟩
theorem dX5_goDown_12 : Dc cX5_goDown 12 (.iload_n 1) 1 13 := ⟨by decide +kernel, rfl⟩
theorem dX5_goDown_13 : Dc cX5_goDown 13 (.iconst 0) 1 14 := ⟨by decide +kernel, rfl⟩
theorem dX5_goDown_14 : Dc cX5_goDown 14 (.iastore) 1 15 := ⟨by decide +kernel, rfl⟩
theorem dX5_goDown_15 : Dc cX5_goDown 15 (.aload_n 0) 1 16 := ⟨by decide +kernel, rfl⟩
theorem dX5_goDown_16 : Dc cX5_goDown 16 (.getfield 15) 3 19 := ⟨by decide +kernel, rfl⟩
theorem dX5_goDown_19 : Dc cX5_goDown 19 (.getfield 49) 3 22 := ⟨by decide +kernel, rfl⟩
theorem dX5_goDown_22 : Dc cX5_goDown 22 (.iconst 1) 1 23 := ⟨by decide +kernel, rfl⟩
theorem dX5_goDown_23 : Dc cX5_goDown 23 (.isub) 1 24 := ⟨by decide +kernel, rfl⟩
theorem dX5_goDown_24 : Dc cX5_goDown 24 (.istore_n 2) 1 25 := ⟨by decide +kernel, rfl⟩
theorem dX5_goDown_25 : Dc cX5_goDown 25 (.iload_n 2) 1 26 := ⟨by decide +kernel, rfl⟩
theorem djX5_goDown_26 : Dj cX5_goDown 26 (.ifCond .lt 80) 3 29 80 106 := ⟨by decide +kernel, rfl, by decide⟩
theorem dX5_goDown_29 : Dc cX5_goDown 29 (.iload_n 2) 1 30 := ⟨by decide +kernel, rfl⟩
theorem dX5_goDown_30 : Dc cX5_goDown 30 (.bipush 12) 2 32 := ⟨by decide +kernel, rfl⟩
theorem dX5_goDown_32 : Dc cX5_goDown 32 (.imul) 1 33 := ⟨by decide +kernel, rfl⟩
theorem dX5_goDown_33 : Dc cX5_goDown 33 (.istore_n 3) 1 34 := ⟨by decide +kernel, rfl⟩
theorem dX5_goDown_34 : Dc cX5_goDown 34 (.iconst 1) 1 35 := ⟨by decide +kernel, rfl⟩
theorem dX5_goDown_35 : Dc cX5_goDown 35 (.istore 4) 2 37 := ⟨by decide +kernel, rfl⟩
theorem dX5_goDown_37 : Dc cX5_goDown 37 (.iconst 0) 1 38 := ⟨by decide +kernel, rfl⟩
theorem dX5_goDown_38 : Dc cX5_goDown 38 (.istore 5) 2 40 := ⟨by decide +kernel, rfl⟩
theorem dX5_goDown_40 : Dc cX5_goDown 40 (.iload 5) 2 42 := ⟨by decide +kernel, rfl⟩
theorem dX5_goDown_42 : Dc cX5_goDown 42 (.bipush 12) 2 44 := ⟨by decide +kernel, rfl⟩
theorem djX5_goDown_44 : Dj cX5_goDown 44 (.if_icmp .gt 21) 3 47 21 65 := ⟨by decide +kernel, rfl, by decide⟩
theorem dX5_goDown_47 : Dc cX5_goDown 47 (.iload 4) 2 49 := ⟨by decide +kernel, rfl⟩
theorem djX5_goDown_49 : Dj cX5_goDown 49 (.ifCond .eq 16) 3 52 16 65 := ⟨by decide +kernel, rfl, by decide⟩
theorem dX5_goDown_52 : Dc cX5_goDown 52 (.aload_n 0) 1 53 := ⟨by decide +kernel, rfl⟩
theorem dX5_goDown_53 : Dc cX5_goDown 53 (.iload_n 3) 1 54 := ⟨by decide +kernel, rfl⟩
theorem dX5_goDown_54 : Dc cX5_goDown 54 (.invokevirtual 71) 3 57 := ⟨by decide +kernel, rfl⟩
theorem dX5_goDown_57 : Dc cX5_goDown 57 (.istore 4) 2 59 := ⟨by decide +kernel, rfl⟩
theorem dX5_goDown_59 : Dc cX5_goDown 59 (.iinc 5 1) 3 62 := ⟨by decide +kernel, rfl⟩
theorem djX5_goDown_62 : Dj cX5_goDown 62 (.goto (-22)) 3 65 (-22) 40 := ⟨by decide +kernel, rfl, by decide⟩
theorem dX5_goDown_65 : Dc cX5_goDown 65 (.iload_n 3) 1 66 := ⟨by decide +kernel, rfl⟩
theorem dX5_goDown_66 : Dc cX5_goDown 66 (.istore 5) 2 68 := ⟨by decide +kernel, rfl⟩
theorem dX5_goDown_68 : Dc cX5_goDown 68 (.iload 5) 2 70 := ⟨by decide +kernel, rfl⟩
theorem dX5_goDown_70 : Dc cX5_goDown 70 (.iload_n 3) 1 71 := ⟨by decide +kernel, rfl⟩
theorem dX5_goDown_71 : Dc cX5_goDown 71 (.bipush 12) 2 73 := ⟨by decide +kernel, rfl⟩
theorem dX5_goDown_73 : Dc cX5_goDown 73 (.iadd) 1 74 := ⟨by decide +kernel, rfl⟩
theorem djX5_goDown_74 : Dj cX5_goDown 74 (.if_icmp .ge 26) 3 77 26 100 := ⟨by decide +kernel, rfl, by decide⟩
theorem dX5_goDown_77 : Dc cX5_goDown 77 (.aload_n 0) 1 78 := ⟨by decide +kernel, rfl⟩
theorem dX5_goDown_78 : Dc cX5_goDown 78 (.getfield 23) 3 81 := ⟨by decide +kernel, rfl⟩
theorem dX5_goDown_81 : Dc cX5_goDown 81 (.iload 5) 2 83 := ⟨by decide +kernel, rfl⟩
theorem dX5_goDown_83 : Dc cX5_goDown 83 (.iaload) 1 84 := ⟨by decide +kernel, rfl⟩
theorem dX5_goDown_84 : Dc cX5_goDown 84 (.iconst (-1)) 1 85 := ⟨by decide +kernel, rfl⟩
theorem djX5_goDown_85 : Dj cX5_goDown 85 (.if_icmp .eq 9) 3 88 9 94 := ⟨by decide +kernel, rfl, by decide⟩
theorem dX5_goDown_88 : Dc cX5_goDown 88 (.aload_n 0) 1 89 := ⟨by decide +kernel, rfl⟩
theorem dX5_goDown_89 : Dc cX5_goDown 89 (.iload 5) 2 91 := ⟨by decide +kernel, rfl⟩
theorem dX5_goDown_91 : Dc cX5_goDown 91 (.invokevirtual 75) 3 94 := ⟨by decide +kernel, rfl⟩
theorem dX5_goDown_94 : Dc cX5_goDown 94 (.iinc 5 1) 3 97 := ⟨by decide +kernel, rfl⟩
theorem djX5_goDown_97 : Dj cX5_goDown 97 (.goto (-29)) 3 100 (-29) 68 := ⟨by decide +kernel, rfl, by decide⟩
theorem dX5_goDown_100 : Dc cX5_goDown 100 (.iinc 2 (-1)) 3 103 := ⟨by decide +kernel, rfl⟩
theorem djX5_goDown_103 : Dj cX5_goDown 103 (.goto (-78)) 3 106 (-78) 25 := ⟨by decide +kernel, rfl, by decide⟩
theorem dX5_goDown_106 : Dc cX5_goDown 106 (.return_) 1 107 := ⟨by decide +kernel, rfl⟩
section
variable {p : Program} {l : Launch} {e : Env} {s : State} {m : MethodId} {args : Array Value} {below : List Frame} {meth : Method} {c : Code} {A0 : Nat → Prop} {D : va_G} {cA : Nat → ClassId} {ad : Nat → Nat} {Z : (Nat → Nat) × (Nat → Nat)} {Q : Int → St → Prop} {b : Bool}
set_option maxHeartbeats 4000000 in
set_option maxRecDepth 100000 in
theorem t_X5_goDown_b94 (E : Ev p s m args meth c cX5_goDown 6 RX5 A0 D cA ad (NC b) Z) (hr : meth.sig.returnType = none) {K25 : Int → St → Prop} (hK25 : ∀ (x2 : Int) (σ : St), C32 x2 → CanS (shC b) (NC b) σ → K25 x2 σ → G p l e (rmL 4 0 0) s m args below meth c 6 A0 D cA ad (shC b) (NC b) 0 0 (MQ below (QVc D cA ad (shC b) (NC b) Q A0) args s 0 0 A0) σ 25 [some (.ref (ad 80)), none, some (vI x2), none, none, none] []) {K68 : Int → Int → Int → St → Prop} (hK68 : ∀ (x2 : Int) (x3 : Int) (x5 : Int) (σ : St), C32 x2 → C32 x3 → C32 x5 → CanS (shC b) (NC b) σ → K68 x2 x3 x5 σ → G p l e (rmL 4 0 0) s m args below meth c 6 A0 D cA ad (shC b) (NC b) 0 0 (MQ below (QVc D cA ad (shC b) (NC b) Q A0) args s 0 0 A0) σ 68 [some (.ref (ad 80)), none, some (vI x2), some (vI x3), none, some (vI x5)] []) (x2 : Int) (x3 : Int) (x5 : Int) (σ : St) (c2 : C32 x2) (c3 : C32 x3) (c5 : C32 x5) (hσ : CanS (shC b) (NC b) σ) (h : wp_X5_goDown_b94 Q K25 K68 x2 x3 x5 σ) : G p l e (rmL 4 0 0) s m args below meth c 6 A0 D cA ad (shC b) (NC b) 0 0 (MQ below (QVc D cA ad (shC b) (NC b) Q A0) args s 0 0 A0) σ 94 [some (.ref (ad 80)), none, some (vI x2), some (vI x3), none, some (vI x5)] [] := by
  unfold wp_X5_goDown_b94 at h
  refine g_iinc_5 E rfl (by decide) dX5_goDown_94 (fun v12 ev12 => ?_)
  replace h := h v12 ev12
  have cv12 : C32 v12 := by rw [ev12]; exact c32_w _
  refine g_goto E djX5_goDown_97 ?_
  exact (hK68 x2 x3 v12 σ c2 c3 cv12 hσ h).weak (w_k (w_d (w_k (w_k (w_d (w_k w_n))))))
set_option maxHeartbeats 4000000 in
set_option maxRecDepth 100000 in
theorem t_X5_goDown_l68 (E : Ev p s m args meth c cX5_goDown 6 RX5 A0 D cA ad (NC b) Z) (hr : meth.sig.returnType = none) {K25 : Int → St → Prop} (hK25 : ∀ (x2 : Int) (σ : St), C32 x2 → CanS (shC b) (NC b) σ → K25 x2 σ → G p l e (rmL 4 0 0) s m args below meth c 6 A0 D cA ad (shC b) (NC b) 0 0 (MQ below (QVc D cA ad (shC b) (NC b) Q A0) args s 0 0 A0) σ 25 [some (.ref (ad 80)), none, some (vI x2), none, none, none] []) : ∀ (n : Nat) (x2 : Int) (x3 : Int) (x5 : Int) (σ : St), C32 x2 → C32 x3 → C32 x5 → CanS (shC b) (NC b) σ → wp_X5_goDown_l68 Q K25 n x2 x3 x5 σ → G p l e (rmL 4 0 0) s m args below meth c 6 A0 D cA ad (shC b) (NC b) 0 0 (MQ below (QVc D cA ad (shC b) (NC b) Q A0) args s 0 0 A0) σ 68 [some (.ref (ad 80)), none, some (vI x2), some (vI x3), none, some (vI x5)] [] := by
  intro n
  induction n with
  | zero => intro _ _ _ _ _ _ _ _ h; exact h.elim
  | succ n ih =>
    intro x2 x3 x5 σ c2 c3 c5 hσ h
    unfold wp_X5_goDown_l68 at h
    refine g_iload_5 E dX5_goDown_68 ?_
    refine g_iload_3 E dX5_goDown_70 ?_
    refine g_bipush E (by decide) dX5_goDown_71 ?_
    refine g_iadd E dX5_goDown_73 ?_
    refine g_icmp_ge E c5 (c32_w _) djX5_goDown_74 (fun hc => ?_) (fun hc => ?_)
    · replace h := h.1 hc
      refine g_iinc_2 E rfl (by decide) dX5_goDown_100 (fun v9 ev9 => ?_)
      replace h := h v9 ev9
      have cv9 : C32 v9 := by rw [ev9]; exact c32_w _
      refine g_goto E djX5_goDown_103 ?_
      exact (hK25 v9 σ cv9 hσ h).weak (w_k (w_d (w_k (w_d (w_d (w_d w_n))))))
    · replace h := h.2 hc
      refine g_aload_0 E dX5_goDown_77 ?_
      refine g_getR E fl_RX5_23 (kC_80 b) (sC_80 b) rfl dX5_goDown_78 ?_
      refine g_iload_5 E dX5_goDown_81 ?_
      refine g_iald E (kC_81 b) (sC_81 b) (by decide) h.1 dX5_goDown_83 ?_
      replace h := h.2
      refine g_iconst E dX5_goDown_84 ?_
      refine g_icmp_eq E (aC_81 hσ _) cl_m1 djX5_goDown_85 (fun hc => ?_) (fun hc => ?_)
      · replace h := h.1 hc
        exact (t_X5_goDown_b94 E hr hK25 ih x2 x3 x5 σ c2 c3 c5 hσ h).weak (w_k (w_d (w_k (w_k (w_d (w_k w_n))))))
      · replace h := h.2 hc
        refine g_aload_0 E dX5_goDown_88 ?_
        refine g_iload_5 E dX5_goDown_89 ?_
        refine g_callvV E my_X5_goToParts mi_X5_goToParts msel_X5_goToParts ml_RX5_75 (rm_ok (by decide) (by decide)) ⟨Nat.zero_le _, Nat.zero_le _⟩ (kC_80 b) (sC_80 b) rfl (m_X5_goToParts E.2.2.1 c5 hσ h) rfl rfl (Nat.le_of_ble_eq_true rfl) dX5_goDown_91 (fun σ11 r10 hσ11 h => ?_)
        exact (t_X5_goDown_b94 E hr hK25 ih x2 x3 x5 σ11 c2 c3 c5 hσ11 h).weak (w_k (w_d (w_k (w_k (w_d (w_k w_n))))))
set_option maxHeartbeats 4000000 in
set_option maxRecDepth 100000 in
theorem t_X5_goDown_b65 (E : Ev p s m args meth c cX5_goDown 6 RX5 A0 D cA ad (NC b) Z) (hr : meth.sig.returnType = none) {K25 : Int → St → Prop} (hK25 : ∀ (x2 : Int) (σ : St), C32 x2 → CanS (shC b) (NC b) σ → K25 x2 σ → G p l e (rmL 4 0 0) s m args below meth c 6 A0 D cA ad (shC b) (NC b) 0 0 (MQ below (QVc D cA ad (shC b) (NC b) Q A0) args s 0 0 A0) σ 25 [some (.ref (ad 80)), none, some (vI x2), none, none, none] []) (x2 : Int) (x3 : Int) (σ : St) (c2 : C32 x2) (c3 : C32 x3) (hσ : CanS (shC b) (NC b) σ) (h : wp_X5_goDown_b65 Q K25 x2 x3 σ) : G p l e (rmL 4 0 0) s m args below meth c 6 A0 D cA ad (shC b) (NC b) 0 0 (MQ below (QVc D cA ad (shC b) (NC b) Q A0) args s 0 0 A0) σ 65 [some (.ref (ad 80)), none, some (vI x2), some (vI x3), none, none] [] := by
  unfold wp_X5_goDown_b65 at h
  refine g_iload_3 E dX5_goDown_65 ?_
  refine g_istore_5 E rfl (by decide) dX5_goDown_66 ?_
  exact (t_X5_goDown_l68 E hr hK25 bigN x2 x3 x3 σ c2 c3 c3 hσ h).weak (w_k (w_d (w_k (w_k (w_d (w_k w_n))))))
set_option maxHeartbeats 4000000 in
set_option maxRecDepth 100000 in
theorem t_X5_goDown_l40 (E : Ev p s m args meth c cX5_goDown 6 RX5 A0 D cA ad (NC b) Z) (hr : meth.sig.returnType = none) {K25 : Int → St → Prop} (hK25 : ∀ (x2 : Int) (σ : St), C32 x2 → CanS (shC b) (NC b) σ → K25 x2 σ → G p l e (rmL 4 0 0) s m args below meth c 6 A0 D cA ad (shC b) (NC b) 0 0 (MQ below (QVc D cA ad (shC b) (NC b) Q A0) args s 0 0 A0) σ 25 [some (.ref (ad 80)), none, some (vI x2), none, none, none] []) : ∀ (n : Nat) (x2 : Int) (x3 : Int) (x4 : Int) (x5 : Int) (σ : St), C32 x2 → C32 x3 → C32 x4 → C32 x5 → CanS (shC b) (NC b) σ → wp_X5_goDown_l40 Q K25 n x2 x3 x4 x5 σ → G p l e (rmL 4 0 0) s m args below meth c 6 A0 D cA ad (shC b) (NC b) 0 0 (MQ below (QVc D cA ad (shC b) (NC b) Q A0) args s 0 0 A0) σ 40 [some (.ref (ad 80)), none, some (vI x2), some (vI x3), some (vI x4), some (vI x5)] [] := by
  intro n
  induction n with
  | zero => intro _ _ _ _ _ _ _ _ _ _ h; exact h.elim
  | succ n ih =>
    intro x2 x3 x4 x5 σ c2 c3 c4 c5 hσ h
    unfold wp_X5_goDown_l40 at h
    refine g_iload_5 E dX5_goDown_40 ?_
    refine g_bipush E (by decide) dX5_goDown_42 ?_
    refine g_icmp_gt E c5 cl_12 djX5_goDown_44 (fun hc => ?_) (fun hc => ?_)
    · replace h := h.1 hc
      exact (t_X5_goDown_b65 E hr hK25 x2 x3 σ c2 c3 hσ h).weak (w_k (w_d (w_k (w_k (w_d (w_d w_n))))))
    · replace h := h.2 hc
      refine g_iload_4 E dX5_goDown_47 ?_
      refine g_if_eq E c4 djX5_goDown_49 (fun hc => ?_) (fun hc => ?_)
      · replace h := h.1 hc
        exact (t_X5_goDown_b65 E hr hK25 x2 x3 σ c2 c3 hσ h).weak (w_k (w_d (w_k (w_k (w_d (w_d w_n))))))
      · replace h := h.2 hc
        refine g_aload_0 E dX5_goDown_52 ?_
        refine g_iload_3 E dX5_goDown_53 ?_
        refine g_callvI E my_X5_relax mi_X5_relax msel_X5_relax ml_RX5_71 (rm_ok (by decide) (by decide)) ⟨Nat.zero_le _, Nat.zero_le _⟩ (kC_80 b) (sC_80 b) rfl (m_X5_relax E.2.2.1 c3 hσ h) rfl rfl (Nat.le_of_ble_eq_true rfl) dX5_goDown_54 (fun r6 σ7 cr6 hσ7 h => ?_)
        refine g_istore_4 E rfl (by decide) dX5_goDown_57 ?_
        refine g_iinc_5 E rfl (by decide) dX5_goDown_59 (fun v8 ev8 => ?_)
        replace h := h v8 ev8
        have cv8 : C32 v8 := by rw [ev8]; exact c32_w _
        refine g_goto E djX5_goDown_62 ?_
        exact (ih x2 x3 r6 v8 σ7 c2 c3 cr6 cv8 hσ7 h).weak (w_k (w_d (w_k (w_k (w_k (w_k w_n))))))
set_option maxHeartbeats 4000000 in
set_option maxRecDepth 100000 in
theorem t_X5_goDown_l25 (E : Ev p s m args meth c cX5_goDown 6 RX5 A0 D cA ad (NC b) Z) (hr : meth.sig.returnType = none) : ∀ (n : Nat) (x2 : Int) (σ : St), C32 x2 → CanS (shC b) (NC b) σ → wp_X5_goDown_l25 Q n x2 σ → G p l e (rmL 4 0 0) s m args below meth c 6 A0 D cA ad (shC b) (NC b) 0 0 (MQ below (QVc D cA ad (shC b) (NC b) Q A0) args s 0 0 A0) σ 25 [some (.ref (ad 80)), none, some (vI x2), none, none, none] [] := by
  intro n
  induction n with
  | zero => intro _ _ _ _ h; exact h.elim
  | succ n ih =>
    intro x2 σ c2 hσ h
    unfold wp_X5_goDown_l25 at h
    refine g_iload_2 E dX5_goDown_25 ?_
    refine g_if_lt E c2 djX5_goDown_26 (fun hc => ?_) (fun hc => ?_)
    · replace h := h.1 hc
      exact g_vret E hr h hσ dX5_goDown_106
    · replace h := h.2 hc
      refine g_iload_2 E dX5_goDown_29 ?_
      refine g_bipush E (by decide) dX5_goDown_30 ?_
      refine g_imul E dX5_goDown_32 ?_
      refine g_nmI (fun v5 ev5 => ?_)
      replace h := h v5 ev5
      have cv5 : C32 v5 := by rw [ev5]; exact (c32_w _)
      refine g_istore_3 E rfl (by decide) dX5_goDown_33 ?_
      refine g_iconst E dX5_goDown_34 ?_
      refine g_istore_4 E rfl (by decide) dX5_goDown_35 ?_
      refine g_iconst E dX5_goDown_37 ?_
      refine g_istore_5 E rfl (by decide) dX5_goDown_38 ?_
      exact (t_X5_goDown_l40 E hr ih bigN x2 v5 1 0 σ c2 cv5 cl_1 cl_0 hσ h).weak (w_k (w_d (w_k (w_k (w_k (w_k w_n))))))
set_option maxHeartbeats 4000000 in
set_option maxRecDepth 100000 in
theorem t_X5_goDown (E : Ev p s m args meth c cX5_goDown 6 RX5 A0 D cA ad (NC b) Z) (hr : meth.sig.returnType = none) (x1 : Int) (σ : St) (c1 : C32 x1) (hσ : CanS (shC b) (NC b) σ) (h : wp_X5_goDown x1 σ Q) : G p l e (rmL 4 0 0) s m args below meth c 6 A0 D cA ad (shC b) (NC b) 0 0 (MQ below (QVc D cA ad (shC b) (NC b) Q A0) args s 0 0 A0) σ 0 [some (.ref (ad 80)), some (vI x1), none, none, none, none] [] := by
  unfold wp_X5_goDown at h
  refine g_aload_0 E dX5_goDown_0 ?_
  refine g_getR E fl_RX5_23 (kC_80 b) (sC_80 b) rfl dX5_goDown_1 ?_
  refine g_iconst E dX5_goDown_4 ?_
  refine g_callsV E my_J7_fill_53178 ms_J7_fill_53178 ml_RX5_34 (rm_ok (by decide) (by decide)) ⟨Nat.zero_le _, Nat.zero_le _⟩ (m_J7_fill_53178_C_c81 E.2.2.1 cl_m1 hσ h) rfl rfl (Nat.le_of_ble_eq_true rfl) dX5_goDown_5 (fun σ2 r1 hσ2 h => ?_)
  refine g_aload_0 E dX5_goDown_8 ?_
  refine g_getR E fl_RX5_23 (kC_80 b) (sC_80 b) rfl dX5_goDown_9 ?_
  refine g_iload_1 E dX5_goDown_12 ?_
  refine g_iconst E dX5_goDown_13 ?_
  refine g_iast E (kC_81 b) (sC_81 b) (by decide) h.1 dX5_goDown_14 (g_nmS (fun σ3 eσ3 => ?_))
  replace h := h.2 σ3 eσ3
  have hσ3 : CanS (shC b) (NC b) σ3 := by rw [eσ3]; exact wC_81 hσ2 cl_0
  refine g_aload_0 E dX5_goDown_15 ?_
  refine g_getR E fl_RX5_15 (kC_80 b) (sC_80 b) rfl dX5_goDown_16 ?_
  refine g_getI E fl_RX5_49 (kC_24 b) (sC_24 b) rfl dX5_goDown_19 ?_
  refine g_iconst E dX5_goDown_22 ?_
  refine g_isub E dX5_goDown_23 ?_
  refine g_nmI (fun v4 ev4 => ?_)
  replace h := h v4 ev4
  have cv4 : C32 v4 := by rw [ev4]; exact (c32_w _)
  refine g_istore_2 E rfl (by decide) dX5_goDown_24 ?_
  exact (t_X5_goDown_l25 E hr bigN v4 σ3 cv4 hσ3 h).weak (w_k (w_d (w_k (w_d (w_d (w_d w_n))))))
end
theorem m_X5_goDown {Z : (Nat → Nat) × (Nat → Nat)} {l : Launch} {D : va_G} {cA : Nat → ClassId} {ad : Nat → Nat} {b : Bool} {x1 : Int} {σ : St} {Q : Int → St → Prop} (hA : AdOk (NC b) ad) (c1 : C32 x1) (hσ : CanS (shC b) (NC b) σ) (h : wp_X5_goDown x1 σ Q) : KtV Z l D cA ad (shC b) (NC b) yX5_goDown cX5_goDown 6 none 4 [.ref (ad 80), vI x1] σ Q :=
  KtV.of my_X5_goDown hA [some (.ref (ad 80)), some (vI x1), none, none, none, none] (Nat.le_of_ble_eq_true rfl) rfl (fun p e s m args below meth c A0 E hr => t_X5_goDown E hr x1 σ c1 hσ h)
theorem dX5_partCost_0 : Dc cX5_partCost 0 (.iload_n 1) 1 1 := ⟨by decide +kernel, rfl⟩
theorem dX5_partCost_1 : Dc cX5_partCost 1 (.bipush 100) 2 3 := ⟨by decide +kernel, rfl⟩
theorem djX5_partCost_3 : Dj cX5_partCost 3 (.if_icmp .ge 22) 3 6 22 25 := ⟨by decide +kernel, rfl, by decide⟩
theorem dX5_partCost_6 : Dc cX5_partCost 6 (.aload_n 0) 1 7 := ⟨by decide +kernel, rfl⟩
theorem dX5_partCost_7 : Dc cX5_partCost 7 (.getfield 19) 3 10 := ⟨by decide +kernel, rfl⟩
theorem dX5_partCost_10 : Dc cX5_partCost 10 (.getfield 111) 3 13 := ⟨by decide +kernel, rfl⟩
theorem dX5_partCost_13 : Dc cX5_partCost 13 (.aload_n 0) 1 14 := ⟨by decide +kernel, rfl⟩
theorem dX5_partCost_14 : Dc cX5_partCost 14 (.getfield 15) 3 17 := ⟨by decide +kernel, rfl⟩
theorem dX5_partCost_17 : Dc cX5_partCost 17 (.iload_n 1) 1 18 := ⟨by decide +kernel, rfl⟩
theorem dX5_partCost_18 : Dc cX5_partCost 18 (.iload_n 2) 1 19 := ⟨by decide +kernel, rfl⟩
theorem dX5_partCost_19 : Dc cX5_partCost 19 (.iload_n 3) 1 20 := ⟨by decide +kernel, rfl⟩
theorem dX5_partCost_20 : Dc cX5_partCost 20 (.invokevirtual 136) 3 23 := ⟨by decide +kernel, rfl⟩
theorem dX5_partCost_23 : Dc cX5_partCost 23 (.iaload) 1 24 := ⟨by decide +kernel, rfl⟩
theorem dX5_partCost_24 : Dc cX5_partCost 24 (.ireturn) 1 25 := ⟨by decide +kernel, rfl⟩
theorem dX5_partCost_25 : Dc cX5_partCost 25 (.iload_n 3) 1 26 := ⟨by decide +kernel, rfl⟩
theorem dX5_partCost_26 : Dc cX5_partCost 26 (.iload_n 2) 1 27 := ⟨by decide +kernel, rfl⟩
theorem dX5_partCost_27 : Dc cX5_partCost 27 (.iconst 1) 1 28 := ⟨by decide +kernel, rfl⟩
theorem dX5_partCost_28 : Dc cX5_partCost 28 (.iadd) 1 29 := ⟨by decide +kernel, rfl⟩
theorem djX5_partCost_29 : Dj cX5_partCost 29 (.if_icmp .ne 23) 3 32 23 52 := ⟨by decide +kernel, rfl, by decide⟩
theorem dX5_partCost_32 : Dc cX5_partCost 32 (.aload_n 0) 1 33 := ⟨by decide +kernel, rfl⟩
theorem dX5_partCost_33 : Dc cX5_partCost 33 (.getfield 15) 3 36 := ⟨by decide +kernel, rfl⟩
theorem dX5_partCost_36 : Dc cX5_partCost 36 (.getfield 139) 3 39 := ⟨by decide +kernel, rfl⟩
theorem dX5_partCost_39 : Dc cX5_partCost 39 (.iload_n 2) 1 40 := ⟨by decide +kernel, rfl⟩
theorem dX5_partCost_40 : Dc cX5_partCost 40 (.iaload) 1 41 := ⟨by decide +kernel, rfl⟩
theorem dX5_partCost_41 : Dc cX5_partCost 41 (.iload_n 1) 1 42 := ⟨by decide +kernel, rfl⟩
theorem dX5_partCost_42 : Dc cX5_partCost 42 (.bipush 100) 2 44 := ⟨by decide +kernel, rfl⟩
theorem dX5_partCost_44 : Dc cX5_partCost 44 (.isub) 1 45 := ⟨by decide +kernel, rfl⟩
theorem djX5_partCost_45 : Dj cX5_partCost 45 (.if_icmp .ne 7) 3 48 7 52 := ⟨by decide +kernel, rfl, by decide⟩
theorem dX5_partCost_48 : Dc cX5_partCost 48 (.iconst 0) 1 49 := ⟨by decide +kernel, rfl⟩
theorem djX5_partCost_49 : Dj cX5_partCost 49 (.goto 4) 3 52 4 53 := ⟨by decide +kernel, rfl, by decide⟩
theorem dX5_partCost_52 : Dc cX5_partCost 52 (.iconst (-1)) 1 53 := ⟨by decide +kernel, rfl⟩
theorem dX5_partCost_53 : Dc cX5_partCost 53 (.ireturn) 1 54 := ⟨by decide +kernel, rfl⟩
section
variable {p : Program} {l : Launch} {e : Env} {s : State} {m : MethodId} {args : Array Value} {below : List Frame} {meth : Method} {c : Code} {A0 : Nat → Prop} {D : va_G} {cA : Nat → ClassId} {ad : Nat → Nat} {Z : (Nat → Nat) × (Nat → Nat)} {Q : Int → St → Prop} {b : Bool}
set_option maxHeartbeats 4000000 in
set_option maxRecDepth 100000 in
theorem t_X5_partCost_b52 (E : Ev p s m args meth c cX5_partCost 4 RX5 A0 D cA ad (NC b) Z) (hr : meth.sig.returnType = (some .int)) (σ : St) (hσ : CanS (shC b) (NC b) σ) (h : wp_X5_partCost_b52 Q  σ) : G p l e (rmL 2 0 0) s m args below meth c 4 A0 D cA ad (shC b) (NC b) 0 0 (MQ below (QIc D cA ad (shC b) (NC b) Q A0) args s 0 0 A0) σ 52 [none, none, none, none] [] := by
  unfold wp_X5_partCost_b52 at h
  refine g_iconst E dX5_partCost_52 ?_
  exact g_iret E hr cl_m1 h hσ dX5_partCost_53
set_option maxHeartbeats 4000000 in
set_option maxRecDepth 100000 in
theorem t_X5_partCost (E : Ev p s m args meth c cX5_partCost 4 RX5 A0 D cA ad (NC b) Z) (hr : meth.sig.returnType = (some .int)) (x1 : Int) (x2 : Int) (x3 : Int) (σ : St) (c1 : C32 x1) (c2 : C32 x2) (c3 : C32 x3) (hσ : CanS (shC b) (NC b) σ) (h : wp_X5_partCost x1 x2 x3 σ Q) : G p l e (rmL 2 0 0) s m args below meth c 4 A0 D cA ad (shC b) (NC b) 0 0 (MQ below (QIc D cA ad (shC b) (NC b) Q A0) args s 0 0 A0) σ 0 [some (.ref (ad 80)), some (vI x1), some (vI x2), some (vI x3)] [] := by
  unfold wp_X5_partCost at h
  refine g_iload_1 E dX5_partCost_0 ?_
  refine g_bipush E (by decide) dX5_partCost_1 ?_
  refine g_icmp_ge E c1 cl_100 djX5_partCost_3 (fun hc => ?_) (fun hc => ?_)
  · replace h := h.1 hc
    refine g_iload_3 E dX5_partCost_25 ?_
    refine g_iload_2 E dX5_partCost_26 ?_
    refine g_iconst E dX5_partCost_27 ?_
    refine g_iadd E dX5_partCost_28 ?_
    refine g_icmp_ne E c3 (c32_w _) djX5_partCost_29 (fun hc => ?_) (fun hc => ?_)
    · replace h := h.1 hc
      exact (t_X5_partCost_b52 E hr σ hσ h).weak (w_d (w_d (w_d (w_d w_n))))
    · replace h := h.2 hc
      refine g_aload_0 E dX5_partCost_32 ?_
      refine g_getR E fl_RX5_15 (kC_80 b) (sC_80 b) rfl dX5_partCost_33 ?_
      refine g_getR E fl_RX5_139 (kC_24 b) (sC_24 b) rfl dX5_partCost_36 ?_
      refine g_iload_2 E dX5_partCost_39 ?_
      refine g_iald E (kC_25 b) (sC_25 b) (by decide) h.1 dX5_partCost_40 ?_
      replace h := h.2
      refine g_iload_1 E dX5_partCost_41 ?_
      refine g_bipush E (by decide) dX5_partCost_42 ?_
      refine g_isub E dX5_partCost_44 ?_
      refine g_icmp_ne E (aC_25 hσ _) (c32_w _) djX5_partCost_45 (fun hc => ?_) (fun hc => ?_)
      · replace h := h.1 hc
        exact (t_X5_partCost_b52 E hr σ hσ h).weak (w_d (w_d (w_d (w_d w_n))))
      · replace h := h.2 hc
        refine g_iconst E dX5_partCost_48 ?_
        refine g_goto E djX5_partCost_49 ?_
        exact g_iret E hr cl_0 h hσ dX5_partCost_53
  · replace h := h.2 hc
    refine g_aload_0 E dX5_partCost_6 ?_
    refine g_getR E fl_RX5_19 (kC_80 b) (sC_80 b) rfl dX5_partCost_7 ?_
    refine g_getR E fl_RX5_111 (kC_36 b) (sC_36 b) rfl dX5_partCost_10 ?_
    refine g_aload_0 E dX5_partCost_13 ?_
    refine g_getR E fl_RX5_15 (kC_80 b) (sC_80 b) rfl dX5_partCost_14 ?_
    refine g_iload_1 E dX5_partCost_17 ?_
    refine g_iload_2 E dX5_partCost_18 ?_
    refine g_iload_3 E dX5_partCost_19 ?_
    refine g_callvI E my_X0_itemAt mi_X0_itemAt msel_X0_itemAt ml_RX5_136 (rm_ok (by decide) (by decide)) ⟨Nat.zero_le _, Nat.zero_le _⟩ (kC_24 b) (sC_24 b) rfl (m_X0_itemAt E.2.2.1 c1 c2 c3 hσ h) rfl rfl (Nat.le_of_ble_eq_true rfl) dX5_partCost_20 (fun r1 σ2 cr1 hσ2 h => ?_)
    refine g_iald E (kC_37 b) (sC_37 b) (by decide) h.1 dX5_partCost_23 ?_
    replace h := h.2
    exact g_iret E hr (aC_37 hσ2 _) h hσ2 dX5_partCost_24
end
theorem m_X5_partCost {Z : (Nat → Nat) × (Nat → Nat)} {l : Launch} {D : va_G} {cA : Nat → ClassId} {ad : Nat → Nat} {b : Bool} {x1 x2 x3 : Int} {σ : St} {Q : Int → St → Prop} (hA : AdOk (NC b) ad) (c1 : C32 x1) (c2 : C32 x2) (c3 : C32 x3) (hσ : CanS (shC b) (NC b) σ) (h : wp_X5_partCost x1 x2 x3 σ Q) : KtI Z l D cA ad (shC b) (NC b) yX5_partCost cX5_partCost 4 (some .int) 2 [.ref (ad 80), vI x1, vI x2, vI x3] σ Q :=
  KtI.of my_X5_partCost hA [some (.ref (ad 80)), some (vI x1), some (vI x2), some (vI x3)] (Nat.le_of_ble_eq_true rfl) rfl (fun p e s m args below meth c A0 E hr => t_X5_partCost E hr x1 x2 x3 σ c1 c2 c3 hσ h)
section
variable {p : Program} {l : Launch} {e : Env} {s : State} {m : MethodId} {args : Array Value} {below : List Frame} {meth : Method} {c : Code} {A0 : Nat → Prop} {D : va_G} {cA : Nat → ClassId} {ad : Nat → Nat} {Z : (Nat → Nat) × (Nat → Nat)} {Q : Int → St → Prop} {b : Bool}
set_option maxHeartbeats 4000000 in
set_option maxRecDepth 100000 in
theorem t_X5_improve_c82 (E : Ev p s m args meth c cX5_improve 4 RX5 A0 D cA ad (NC b) Z) (hr : meth.sig.returnType = (some .boolean)) (x1 : Int) (x2 : Int) (σ : St) (c1 : C32 x1) (c2 : C32 x2) (hσ : CanS (shC b) (NC b) σ) (h : wp_X5_improve_c82 x1 x2 σ Q) : G p l e (rmL 2 0 0) s m args below meth c 4 A0 D cA ad (shC b) (NC b) 0 0 (MQ below (QIc D cA ad (shC b) (NC b) Q A0) args s 0 0 A0) σ 0 [some (.ref (ad 82)), some (vI x1), some (vI x2), none] [] := by
  unfold wp_X5_improve_c82 at h
  refine g_aload_0 E dX5_improve_0 ?_
  refine g_iload_1 E dX5_improve_1 ?_
  refine g_iald E (kC_82 b) (sC_82 b) (by decide) h.1 dX5_improve_2 ?_
  replace h := h.2
  refine g_nmI (fun v1 ev1 => ?_)
  replace h := h v1 ev1
  have cv1 : C32 v1 := by rw [ev1]; exact (aC_82 hσ _)
  refine g_istore_3 E rfl (by decide) dX5_improve_3 ?_
  refine g_aload_0 E dX5_improve_4 ?_
  refine g_iload_1 E dX5_improve_5 ?_
  refine g_iload_3 E dX5_improve_6 ?_
  refine g_iload_2 E dX5_improve_7 ?_
  refine g_callsI E my_X1_lesser ms_X1_lesser ml_RX5_117 (rm_ok (by decide) (by decide)) ⟨Nat.zero_le _, Nat.zero_le _⟩ (m_X1_lesser E.2.2.1 cv1 c2 hσ h) rfl rfl (Nat.le_of_ble_eq_true rfl) dX5_improve_8 (fun r2 σ3 cr2 hσ3 h => ?_)
  refine g_iast E (kC_82 b) (sC_82 b) (by decide) h.1 dX5_improve_11 (g_nmS (fun σ4 eσ4 => ?_))
  replace h := h.2 σ4 eσ4
  have hσ4 : CanS (shC b) (NC b) σ4 := by rw [eσ4]; exact wC_82 hσ3 cr2
  refine g_aload_0 E dX5_improve_12 ?_
  refine g_iload_1 E dX5_improve_13 ?_
  refine g_iald E (kC_82 b) (sC_82 b) (by decide) h.1 dX5_improve_14 ?_
  replace h := h.2
  refine g_iload_3 E dX5_improve_15 ?_
  refine g_icmp_eq E (aC_82 hσ4 _) cv1 djX5_improve_16 (fun hc => ?_) (fun hc => ?_)
  · replace h := h.1 hc
    refine g_iconst E dX5_improve_23 ?_
    exact g_zret E hr (Or.inl rfl) h hσ4 dX5_improve_24
  · replace h := h.2 hc
    refine g_iconst E dX5_improve_19 ?_
    refine g_goto E djX5_improve_20 ?_
    exact g_zret E hr (Or.inr rfl) h hσ4 dX5_improve_24
end
theorem m_X5_improve_c82 {Z : (Nat → Nat) × (Nat → Nat)} {l : Launch} {D : va_G} {cA : Nat → ClassId} {ad : Nat → Nat} {b : Bool} {x1 x2 : Int} {σ : St} {Q : Int → St → Prop} (hA : AdOk (NC b) ad) (c1 : C32 x1) (c2 : C32 x2) (hσ : CanS (shC b) (NC b) σ) (h : wp_X5_improve_c82 x1 x2 σ Q) : KtI Z l D cA ad (shC b) (NC b) yX5_improve cX5_improve 4 (some .boolean) 2 [.ref (ad 82), vI x1, vI x2] σ Q :=
  KtI.of my_X5_improve hA [some (.ref (ad 82)), some (vI x1), some (vI x2), none] (Nat.le_of_ble_eq_true rfl) rfl (fun p e s m args below meth c A0 E hr => t_X5_improve_c82 E hr x1 x2 σ c1 c2 hσ h)
theorem dX5_tryLetter_0 : Dc cX5_tryLetter 0 (.iload_n 1) 1 1 := ⟨by decide +kernel, rfl⟩
theorem dX5_tryLetter_1 : Dc cX5_tryLetter 1 (.bipush 100) 2 3 := ⟨by decide +kernel, rfl⟩
theorem djX5_tryLetter_3 : Dj cX5_tryLetter 3 (.if_icmp .lt 29) 3 6 29 32 := ⟨by decide +kernel, rfl, by decide⟩
theorem dX5_tryLetter_6 : Dc cX5_tryLetter 6 (.iload_n 3) 1 7 := ⟨by decide +kernel, rfl⟩
theorem dX5_tryLetter_7 : Dc cX5_tryLetter 7 (.iconst (-1)) 1 8 := ⟨by decide +kernel, rfl⟩
theorem djX5_tryLetter_8 : Dj cX5_tryLetter 8 (.if_icmp .eq 24) 3 11 24 32 := ⟨by decide +kernel, rfl, by decide⟩
theorem dX5_tryLetter_11 : Dc cX5_tryLetter 11 (.aload_n 0) 1 12 := ⟨by decide +kernel, rfl⟩
theorem dX5_tryLetter_12 : Dc cX5_tryLetter 12 (.getfield 27) 3 15 := ⟨by decide +kernel, rfl⟩
theorem dX5_tryLetter_15 : Dc cX5_tryLetter 15 (.iload_n 2) 1 16 := ⟨by decide +kernel, rfl⟩
theorem dX5_tryLetter_16 : Dc cX5_tryLetter 16 (.bipush 26) 2 18 := ⟨by decide +kernel, rfl⟩
theorem dX5_tryLetter_18 : Dc cX5_tryLetter 18 (.imul) 1 19 := ⟨by decide +kernel, rfl⟩
theorem dX5_tryLetter_19 : Dc cX5_tryLetter 19 (.iload_n 1) 1 20 := ⟨by decide +kernel, rfl⟩
theorem dX5_tryLetter_20 : Dc cX5_tryLetter 20 (.iadd) 1 21 := ⟨by decide +kernel, rfl⟩
theorem dX5_tryLetter_21 : Dc cX5_tryLetter 21 (.bipush 100) 2 23 := ⟨by decide +kernel, rfl⟩
theorem dX5_tryLetter_23 : Dc cX5_tryLetter 23 (.isub) 1 24 := ⟨by decide +kernel, rfl⟩
theorem dX5_tryLetter_24 : Dc cX5_tryLetter 24 (.iload 4) 2 26 := ⟨by decide +kernel, rfl⟩
theorem dX5_tryLetter_26 : Dc cX5_tryLetter 26 (.iload_n 3) 1 27 := ⟨by decide +kernel, rfl⟩
theorem dX5_tryLetter_27 : Dc cX5_tryLetter 27 (.iadd) 1 28 := ⟨by decide +kernel, rfl⟩
theorem dX5_tryLetter_28 : Dc cX5_tryLetter 28 (.invokestatic 93) 3 31 := ⟨by decide +kernel, rfl⟩
theorem dX5_tryLetter_31 : Dc cX5_tryLetter 31 (.pop) 1 32 := ⟨by decide +kernel, rfl⟩
theorem dX5_tryLetter_32 : Dc cX5_tryLetter 32 (.return_) 1 33 := ⟨by decide +kernel, rfl⟩
section
variable {p : Program} {l : Launch} {e : Env} {s : State} {m : MethodId} {args : Array Value} {below : List Frame} {meth : Method} {c : Code} {A0 : Nat → Prop} {D : va_G} {cA : Nat → ClassId} {ad : Nat → Nat} {Z : (Nat → Nat) × (Nat → Nat)} {Q : Int → St → Prop} {b : Bool}
set_option maxHeartbeats 4000000 in
set_option maxRecDepth 100000 in
theorem t_X5_tryLetter (E : Ev p s m args meth c cX5_tryLetter 5 RX5 A0 D cA ad (NC b) Z) (hr : meth.sig.returnType = none) (x1 : Int) (x2 : Int) (x3 : Int) (x4 : Int) (σ : St) (c1 : C32 x1) (c2 : C32 x2) (c3 : C32 x3) (c4 : C32 x4) (hσ : CanS (shC b) (NC b) σ) (h : wp_X5_tryLetter x1 x2 x3 x4 σ Q) : G p l e (rmL 3 0 0) s m args below meth c 5 A0 D cA ad (shC b) (NC b) 0 0 (MQ below (QVc D cA ad (shC b) (NC b) Q A0) args s 0 0 A0) σ 0 [some (.ref (ad 80)), some (vI x1), some (vI x2), some (vI x3), some (vI x4)] [] := by
  unfold wp_X5_tryLetter at h
  refine g_iload_1 E dX5_tryLetter_0 ?_
  refine g_bipush E (by decide) dX5_tryLetter_1 ?_
  refine g_icmp_lt E c1 cl_100 djX5_tryLetter_3 (fun hc => ?_) (fun hc => ?_)
  · replace h := h.1 hc
    exact g_vret E hr h hσ dX5_tryLetter_32
  · replace h := h.2 hc
    refine g_iload_3 E dX5_tryLetter_6 ?_
    refine g_iconst E dX5_tryLetter_7 ?_
    refine g_icmp_eq E c3 cl_m1 djX5_tryLetter_8 (fun hc => ?_) (fun hc => ?_)
    · replace h := h.1 hc
      exact g_vret E hr h hσ dX5_tryLetter_32
    · replace h := h.2 hc
      refine g_aload_0 E dX5_tryLetter_11 ?_
      refine g_getR E fl_RX5_27 (kC_80 b) (sC_80 b) rfl dX5_tryLetter_12 ?_
      refine g_iload_2 E dX5_tryLetter_15 ?_
      refine g_bipush E (by decide) dX5_tryLetter_16 ?_
      refine g_imul E dX5_tryLetter_18 ?_
      refine g_iload_1 E dX5_tryLetter_19 ?_
      refine g_iadd E dX5_tryLetter_20 ?_
      refine g_bipush E (by decide) dX5_tryLetter_21 ?_
      refine g_isub E dX5_tryLetter_23 ?_
      refine g_iload_4 E dX5_tryLetter_24 ?_
      refine g_iload_3 E dX5_tryLetter_26 ?_
      refine g_iadd E dX5_tryLetter_27 ?_
      refine g_callsI E my_X5_improve ms_X5_improve ml_RX5_93 (rm_ok (by decide) (by decide)) ⟨Nat.zero_le _, Nat.zero_le _⟩ (m_X5_improve_c82 E.2.2.1 (c32_w _) (c32_w _) hσ h) rfl rfl (Nat.le_of_ble_eq_true rfl) dX5_tryLetter_28 (fun r1 σ2 cr1 hσ2 h => ?_)
      refine g_pop E rfl dX5_tryLetter_31 ?_
      exact g_vret E hr h hσ2 dX5_tryLetter_32
end
theorem m_X5_tryLetter {Z : (Nat → Nat) × (Nat → Nat)} {l : Launch} {D : va_G} {cA : Nat → ClassId} {ad : Nat → Nat} {b : Bool} {x1 x2 x3 x4 : Int} {σ : St} {Q : Int → St → Prop} (hA : AdOk (NC b) ad) (c1 : C32 x1) (c2 : C32 x2) (c3 : C32 x3) (c4 : C32 x4) (hσ : CanS (shC b) (NC b) σ) (h : wp_X5_tryLetter x1 x2 x3 x4 σ Q) : KtV Z l D cA ad (shC b) (NC b) yX5_tryLetter cX5_tryLetter 5 none 3 [.ref (ad 80), vI x1, vI x2, vI x3, vI x4] σ Q :=
  KtV.of my_X5_tryLetter hA [some (.ref (ad 80)), some (vI x1), some (vI x2), some (vI x3), some (vI x4)] (Nat.le_of_ble_eq_true rfl) rfl (fun p e s m args below meth c A0 E hr => t_X5_tryLetter E hr x1 x2 x3 x4 σ c1 c2 c3 c4 hσ h)
theorem dX5_tryRule_0 : Dc cX5_tryRule 0 (.aload_n 0) 1 1 := ⟨by decide +kernel, rfl⟩
theorem dX5_tryRule_1 : Dc cX5_tryRule 1 (.getfield 15) 3 4 := ⟨by decide +kernel, rfl⟩
theorem dX5_tryRule_4 : Dc cX5_tryRule 4 (.getfield 121) 3 7 := ⟨by decide +kernel, rfl⟩
theorem dX5_tryRule_7 : Dc cX5_tryRule 7 (.iload_n 2) 1 8 := ⟨by decide +kernel, rfl⟩
theorem dX5_tryRule_8 : Dc cX5_tryRule 8 (.iaload) 1 9 := ⟨by decide +kernel, rfl⟩
theorem dX5_tryRule_9 : Dc cX5_tryRule 9 (.istore_n 3) 1 10 := ⟨by decide +kernel, rfl⟩
theorem dX5_tryRule_10 : Dc cX5_tryRule 10 (.aload_n 0) 1 11 := ⟨by decide +kernel, rfl⟩
theorem dX5_tryRule_11 : Dc cX5_tryRule 11 (.getfield 15) 3 14 := ⟨by decide +kernel, rfl⟩
theorem dX5_tryRule_14 : Dc cX5_tryRule 14 (.getfield 124) 3 17 := ⟨by decide +kernel, rfl⟩
theorem dX5_tryRule_17 : Dc cX5_tryRule 17 (.iload_n 2) 1 18 := ⟨by decide +kernel, rfl⟩
theorem dX5_tryRule_18 : Dc cX5_tryRule 18 (.iaload) 1 19 := ⟨by decide +kernel, rfl⟩
theorem dX5_tryRule_19 : Dc cX5_tryRule 19 (.istore 4) 2 21 := ⟨by decide +kernel, rfl⟩
theorem dX5_tryRule_21 : Dc cX5_tryRule 21 (.aload_n 0) 1 22 := ⟨by decide +kernel, rfl⟩
theorem dX5_tryRule_22 : Dc cX5_tryRule 22 (.getfield 23) 3 25 := ⟨by decide +kernel, rfl⟩
theorem dX5_tryRule_25 : Dc cX5_tryRule 25 (.iload_n 2) 1 26 := ⟨by decide +kernel, rfl⟩
theorem dX5_tryRule_26 : Dc cX5_tryRule 26 (.bipush 12) 2 28 := ⟨by decide +kernel, rfl⟩
theorem dX5_tryRule_28 : Dc cX5_tryRule 28 (.imul) 1 29 := ⟨by decide +kernel, rfl⟩
theorem dX5_tryRule_29 : Dc cX5_tryRule 29 (.aload_n 0) 1 30 := ⟨by decide +kernel, rfl⟩
theorem dX5_tryRule_30 : Dc cX5_tryRule 30 (.getfield 9) 3 33 := ⟨by decide +kernel, rfl⟩
theorem dX5_tryRule_33 : Dc cX5_tryRule 33 (.getfield 84) 3 36 := ⟨by decide +kernel, rfl⟩
theorem dX5_tryRule_36 : Dc cX5_tryRule 36 (.iload_n 1) 1 37 := ⟨by decide +kernel, rfl⟩
theorem dX5_tryRule_37 : Dc cX5_tryRule 37 (.iaload) 1 38 := ⟨by decide +kernel, rfl⟩
theorem dX5_tryRule_38 : Dc cX5_tryRule 38 (.iadd) 1 39 := ⟨by decide +kernel, rfl⟩
theorem dX5_tryRule_39 : Dc cX5_tryRule 39 (.iaload) 1 40 := ⟨by decide +kernel, rfl⟩
theorem dX5_tryRule_40 : Dc cX5_tryRule 40 (.istore 5) 2 42 := ⟨by decide +kernel, rfl⟩
theorem dX5_tryRule_42 : Dc cX5_tryRule 42 (.aload_n 0) 1 43 := ⟨by decide +kernel, rfl⟩
theorem dX5_tryRule_43 : Dc cX5_tryRule 43 (.getfield 9) 3 46 := ⟨by decide +kernel, rfl⟩
theorem dX5_tryRule_46 : Dc cX5_tryRule 46 (.getfield 87) 3 49 := ⟨by decide +kernel, rfl⟩
theorem dX5_tryRule_49 : Dc cX5_tryRule 49 (.iload_n 1) 1 50 := ⟨by decide +kernel, rfl⟩
theorem dX5_tryRule_50 : Dc cX5_tryRule 50 (.iaload) 1 51 := ⟨by decide +kernel, rfl⟩
theorem dX5_tryRule_51 : Dc cX5_tryRule 51 (.istore 6) 2 53 := ⟨by decide +kernel, rfl⟩
theorem dX5_tryRule_53 : Dc cX5_tryRule 53 (.aload_n 0) 1 54 := ⟨by decide +kernel, rfl⟩
theorem dX5_tryRule_54 : Dc cX5_tryRule 54 (.getfield 9) 3 57 := ⟨by decide +kernel, rfl⟩
theorem dX5_tryRule_57 : Dc cX5_tryRule 57 (.getfield 127) 3 60 := ⟨by decide +kernel, rfl⟩
theorem dX5_tryRule_60 : Dc cX5_tryRule 60 (.iload_n 1) 1 61 := ⟨by decide +kernel, rfl⟩
theorem dX5_tryRule_61 : Dc cX5_tryRule 61 (.iaload) 1 62 := ⟨by decide +kernel, rfl⟩
theorem dX5_tryRule_62 : Dc cX5_tryRule 62 (.istore 7) 2 64 := ⟨by decide +kernel, rfl⟩
theorem dX5_tryRule_64 : Dc cX5_tryRule 64 (.iload 5) 2 66 := ⟨by decide +kernel, rfl⟩
theorem dX5_tryRule_66 : Dc cX5_tryRule 66 (.iconst (-1)) 1 67 := ⟨by decide +kernel, rfl⟩
theorem djX5_tryRule_67 : Dj cX5_tryRule 67 (.if_icmp .ne 4) 3 70 4 71 := ⟨by decide +kernel, rfl, by decide⟩
theorem dX5_tryRule_70 : Dc cX5_tryRule 70 (.return_) 1 71 := ⟨by decide +kernel, rfl⟩
theorem dX5_tryRule_71 : Dc cX5_tryRule 71 (.iload 7) 2 73 := ⟨by decide +kernel, rfl⟩
theorem dX5_tryRule_73 : Dc cX5_tryRule 73 (.iconst (-1)) 1 74 := ⟨by decide +kernel, rfl⟩
theorem djX5_tryRule_74 : Dj cX5_tryRule 74 (.if_icmp .ne 38) 3 77 38 112 := ⟨by decide +kernel, rfl, by decide⟩
theorem dX5_tryRule_77 : Dc cX5_tryRule 77 (.aload_n 0) 1 78 := ⟨by decide +kernel, rfl⟩
theorem dX5_tryRule_78 : Dc cX5_tryRule 78 (.iload 6) 2 80 := ⟨by decide +kernel, rfl⟩
theorem dX5_tryRule_80 : Dc cX5_tryRule 80 (.iload_n 3) 1 81 := ⟨by decide +kernel, rfl⟩
theorem dX5_tryRule_81 : Dc cX5_tryRule 81 (.iload 4) 2 83 := ⟨by decide +kernel, rfl⟩
theorem dX5_tryRule_83 : Dc cX5_tryRule 83 (.iload_n 3) 1 84 := ⟨by decide +kernel, rfl⟩
theorem dX5_tryRule_84 : Dc cX5_tryRule 84 (.iconst 1) 1 85 := ⟨by decide +kernel, rfl⟩
theorem dX5_tryRule_85 : Dc cX5_tryRule 85 (.iadd) 1 86 := ⟨by decide +kernel, rfl⟩
theorem djX5_tryRule_86 : Dj cX5_tryRule 86 (.if_icmp .ne 7) 3 89 7 93 := ⟨by decide +kernel, rfl, by decide⟩
theorem dX5_tryRule_89 : Dc cX5_tryRule 89 (.iconst 0) 1 90 := ⟨by decide +kernel, rfl⟩
theorem djX5_tryRule_90 : Dj cX5_tryRule 90 (.goto 4) 3 93 4 94 := ⟨by decide +kernel, rfl, by decide⟩
theorem dX5_tryRule_93 : Dc cX5_tryRule 93 (.iconst (-1)) 1 94 := ⟨by decide +kernel, rfl⟩
theorem dX5_tryRule_94 : Dc cX5_tryRule 94 (.iload 5) 2 96 := ⟨by decide +kernel, rfl⟩
theorem dX5_tryRule_96 : Dc cX5_tryRule 96 (.aload_n 0) 1 97 := ⟨by decide +kernel, rfl⟩
theorem dX5_tryRule_97 : Dc cX5_tryRule 97 (.getfield 9) 3 100 := ⟨by decide +kernel, rfl⟩
theorem dX5_tryRule_100 : Dc cX5_tryRule 100 (.getfield 90) 3 103 := ⟨by decide +kernel, rfl⟩
theorem dX5_tryRule_103 : Dc cX5_tryRule 103 (.iload_n 1) 1 104 := ⟨by decide +kernel, rfl⟩
theorem dX5_tryRule_104 : Dc cX5_tryRule 104 (.iaload) 1 105 := ⟨by decide +kernel, rfl⟩
theorem dX5_tryRule_105 : Dc cX5_tryRule 105 (.iadd) 1 106 := ⟨by decide +kernel, rfl⟩
theorem dX5_tryRule_106 : Dc cX5_tryRule 106 (.invokevirtual 128) 3 109 := ⟨by decide +kernel, rfl⟩
theorem djX5_tryRule_109 : Dj cX5_tryRule 109 (.goto 74) 3 112 74 183 := ⟨by decide +kernel, rfl, by decide⟩
theorem dX5_tryRule_112 : Dc cX5_tryRule 112 (.iload 4) 2 114 := ⟨by decide +kernel, rfl⟩
theorem dX5_tryRule_114 : Dc cX5_tryRule 114 (.iload_n 3) 1 115 := ⟨by decide +kernel, rfl⟩
theorem dX5_tryRule_115 : Dc cX5_tryRule 115 (.iconst 1) 1 116 := ⟨by decide +kernel, rfl⟩
theorem dX5_tryRule_116 : Dc cX5_tryRule 116 (.iadd) 1 117 := ⟨by decide +kernel, rfl⟩
theorem djX5_tryRule_117 : Dj cX5_tryRule 117 (.if_icmp .le 66) 3 120 66 183 := ⟨by decide +kernel, rfl, by decide⟩
theorem dX5_tryRule_120 : Dc cX5_tryRule 120 (.aload_n 0) 1 121 := ⟨by decide +kernel, rfl⟩
theorem dX5_tryRule_121 : Dc cX5_tryRule 121 (.iload 6) 2 123 := ⟨by decide +kernel, rfl⟩
theorem dX5_tryRule_123 : Dc cX5_tryRule 123 (.iload_n 3) 1 124 := ⟨by decide +kernel, rfl⟩
theorem dX5_tryRule_124 : Dc cX5_tryRule 124 (.aload_n 0) 1 125 := ⟨by decide +kernel, rfl⟩
theorem dX5_tryRule_125 : Dc cX5_tryRule 125 (.iload 7) 2 127 := ⟨by decide +kernel, rfl⟩
theorem dX5_tryRule_127 : Dc cX5_tryRule 127 (.iload_n 3) 1 128 := ⟨by decide +kernel, rfl⟩
theorem dX5_tryRule_128 : Dc cX5_tryRule 128 (.iconst 1) 1 129 := ⟨by decide +kernel, rfl⟩
theorem dX5_tryRule_129 : Dc cX5_tryRule 129 (.iadd) 1 130 := ⟨by decide +kernel, rfl⟩
theorem dX5_tryRule_130 : Dc cX5_tryRule 130 (.iload 4) 2 132 := ⟨by decide +kernel, rfl⟩
theorem dX5_tryRule_132 : Dc cX5_tryRule 132 (.invokevirtual 132) 3 135 := ⟨by decide +kernel, rfl⟩
theorem dX5_tryRule_135 : Dc cX5_tryRule 135 (.iload 5) 2 137 := ⟨by decide +kernel, rfl⟩
theorem dX5_tryRule_137 : Dc cX5_tryRule 137 (.aload_n 0) 1 138 := ⟨by decide +kernel, rfl⟩
theorem dX5_tryRule_138 : Dc cX5_tryRule 138 (.getfield 9) 3 141 := ⟨by decide +kernel, rfl⟩
theorem dX5_tryRule_141 : Dc cX5_tryRule 141 (.getfield 90) 3 144 := ⟨by decide +kernel, rfl⟩
theorem dX5_tryRule_144 : Dc cX5_tryRule 144 (.iload_n 1) 1 145 := ⟨by decide +kernel, rfl⟩
theorem dX5_tryRule_145 : Dc cX5_tryRule 145 (.iaload) 1 146 := ⟨by decide +kernel, rfl⟩
theorem dX5_tryRule_146 : Dc cX5_tryRule 146 (.iadd) 1 147 := ⟨by decide +kernel, rfl⟩
theorem dX5_tryRule_147 : Dc cX5_tryRule 147 (.invokevirtual 128) 3 150 := ⟨by decide +kernel, rfl⟩
theorem dX5_tryRule_150 : Dc cX5_tryRule 150 (.aload_n 0) 1 151 := ⟨by decide +kernel, rfl⟩
theorem dX5_tryRule_151 : Dc cX5_tryRule 151 (.iload 7) 2 153 := ⟨by decide +kernel, rfl⟩
theorem dX5_tryRule_153 : Dc cX5_tryRule 153 (.iload 4) 2 155 := ⟨by decide +kernel, rfl⟩
theorem dX5_tryRule_155 : Dc cX5_tryRule 155 (.iconst 1) 1 156 := ⟨by decide +kernel, rfl⟩
theorem dX5_tryRule_156 : Dc cX5_tryRule 156 (.isub) 1 157 := ⟨by decide +kernel, rfl⟩
theorem dX5_tryRule_157 : Dc cX5_tryRule 157 (.aload_n 0) 1 158 := ⟨by decide +kernel, rfl⟩
theorem dX5_tryRule_158 : Dc cX5_tryRule 158 (.iload 6) 2 160 := ⟨by decide +kernel, rfl⟩
theorem dX5_tryRule_160 : Dc cX5_tryRule 160 (.iload_n 3) 1 161 := ⟨by decide +kernel, rfl⟩
theorem dX5_tryRule_161 : Dc cX5_tryRule 161 (.iload 4) 2 163 := ⟨by decide +kernel, rfl⟩
theorem dX5_tryRule_163 : Dc cX5_tryRule 163 (.iconst 1) 1 164 := ⟨by decide +kernel, rfl⟩
theorem dX5_tryRule_164 : Dc cX5_tryRule 164 (.isub) 1 165 := ⟨by decide +kernel, rfl⟩
theorem dX5_tryRule_165 : Dc cX5_tryRule 165 (.invokevirtual 132) 3 168 := ⟨by decide +kernel, rfl⟩
theorem dX5_tryRule_168 : Dc cX5_tryRule 168 (.iload 5) 2 170 := ⟨by decide +kernel, rfl⟩
theorem dX5_tryRule_170 : Dc cX5_tryRule 170 (.aload_n 0) 1 171 := ⟨by decide +kernel, rfl⟩
theorem dX5_tryRule_171 : Dc cX5_tryRule 171 (.getfield 9) 3 174 := ⟨by decide +kernel, rfl⟩
theorem dX5_tryRule_174 : Dc cX5_tryRule 174 (.getfield 90) 3 177 := ⟨by decide +kernel, rfl⟩
theorem dX5_tryRule_177 : Dc cX5_tryRule 177 (.iload_n 1) 1 178 := ⟨by decide +kernel, rfl⟩
theorem dX5_tryRule_178 : Dc cX5_tryRule 178 (.iaload) 1 179 := ⟨by decide +kernel, rfl⟩
theorem dX5_tryRule_179 : Dc cX5_tryRule 179 (.iadd) 1 180 := ⟨by decide +kernel, rfl⟩
theorem dX5_tryRule_180 : Dc cX5_tryRule 180 (.invokevirtual 128) 3 183 := ⟨by decide +kernel, rfl⟩
theorem dX5_tryRule_183 : Dc cX5_tryRule 183 (.return_) 1 184 := ⟨by decide +kernel, rfl⟩
section
variable {p : Program} {l : Launch} {e : Env} {s : State} {m : MethodId} {args : Array Value} {below : List Frame} {meth : Method} {c : Code} {A0 : Nat → Prop} {D : va_G} {cA : Nat → ClassId} {ad : Nat → Nat} {Z : (Nat → Nat) × (Nat → Nat)} {Q : Int → St → Prop} {b : Bool}
set_option maxHeartbeats 4000000 in
set_option maxRecDepth 100000 in
theorem t_X5_tryRule_b94 (E : Ev p s m args meth c cX5_tryRule 8 RX5 A0 D cA ad (NC b) Z) (hr : meth.sig.returnType = none) (x1 : Int) (x5 : Int) (s0 : Int) (s1 : Int) (s2 : Int) (σ : St) (c1 : C32 x1) (c5 : C32 x5) (cs0 : C32 s0) (cs1 : C32 s1) (cs2 : C32 s2) (hσ : CanS (shC b) (NC b) σ) (h : wp_X5_tryRule_b94 Q x1 x5 s0 s1 s2 σ) : G p l e (rmL 4 0 0) s m args below meth c 8 A0 D cA ad (shC b) (NC b) 0 0 (MQ below (QVc D cA ad (shC b) (NC b) Q A0) args s 0 0 A0) σ 94 [some (.ref (ad 80)), some (vI x1), none, none, none, some (vI x5), none, none] [vI s0, vI s1, vI s2, .ref (ad 80)] := by
  unfold wp_X5_tryRule_b94 at h
  refine g_iload_5 E dX5_tryRule_94 ?_
  refine g_aload_0 E dX5_tryRule_96 ?_
  refine g_getR E fl_RX5_9 (kC_80 b) (sC_80 b) rfl dX5_tryRule_97 ?_
  refine g_getR E fl_RX5_90 (kC_14 b) (sC_14 b) rfl dX5_tryRule_100 ?_
  refine g_iload_1 E dX5_tryRule_103 ?_
  refine g_iald E (kC_18 b) (sC_18 b) (by decide) h.1 dX5_tryRule_104 ?_
  replace h := h.2
  refine g_iadd E dX5_tryRule_105 ?_
  refine g_callvV E my_X5_tryLetter mi_X5_tryLetter msel_X5_tryLetter ml_RX5_128 (rm_ok (by decide) (by decide)) ⟨Nat.zero_le _, Nat.zero_le _⟩ (kC_80 b) (sC_80 b) rfl (m_X5_tryLetter E.2.2.1 cs2 cs1 cs0 (c32_w _) hσ h) rfl rfl (Nat.le_of_ble_eq_true rfl) dX5_tryRule_106 (fun σ15 r14 hσ15 h => ?_)
  refine g_goto E djX5_tryRule_109 ?_
  exact g_vret E hr h hσ15 dX5_tryRule_183
set_option maxHeartbeats 4000000 in
set_option maxRecDepth 100000 in
theorem t_X5_tryRule (E : Ev p s m args meth c cX5_tryRule 8 RX5 A0 D cA ad (NC b) Z) (hr : meth.sig.returnType = none) (x1 : Int) (x2 : Int) (σ : St) (c1 : C32 x1) (c2 : C32 x2) (hσ : CanS (shC b) (NC b) σ) (h : wp_X5_tryRule x1 x2 σ Q) : G p l e (rmL 4 0 0) s m args below meth c 8 A0 D cA ad (shC b) (NC b) 0 0 (MQ below (QVc D cA ad (shC b) (NC b) Q A0) args s 0 0 A0) σ 0 [some (.ref (ad 80)), some (vI x1), some (vI x2), none, none, none, none, none] [] := by
  unfold wp_X5_tryRule at h
  refine g_aload_0 E dX5_tryRule_0 ?_
  refine g_getR E fl_RX5_15 (kC_80 b) (sC_80 b) rfl dX5_tryRule_1 ?_
  refine g_getR E fl_RX5_121 (kC_24 b) (sC_24 b) rfl dX5_tryRule_4 ?_
  refine g_iload_2 E dX5_tryRule_7 ?_
  refine g_iald E (kC_26 b) (sC_26 b) (by decide) h.1 dX5_tryRule_8 ?_
  replace h := h.2
  refine g_nmI (fun v1 ev1 => ?_)
  replace h := h v1 ev1
  have cv1 : C32 v1 := by rw [ev1]; exact (aC_26 hσ _)
  refine g_istore_3 E rfl (by decide) dX5_tryRule_9 ?_
  refine g_aload_0 E dX5_tryRule_10 ?_
  refine g_getR E fl_RX5_15 (kC_80 b) (sC_80 b) rfl dX5_tryRule_11 ?_
  refine g_getR E fl_RX5_124 (kC_24 b) (sC_24 b) rfl dX5_tryRule_14 ?_
  refine g_iload_2 E dX5_tryRule_17 ?_
  refine g_iald E (kC_27 b) (sC_27 b) (by decide) h.1 dX5_tryRule_18 ?_
  replace h := h.2
  refine g_nmI (fun v2 ev2 => ?_)
  replace h := h v2 ev2
  have cv2 : C32 v2 := by rw [ev2]; exact (aC_27 hσ _)
  refine g_istore_4 E rfl (by decide) dX5_tryRule_19 ?_
  refine g_aload_0 E dX5_tryRule_21 ?_
  refine g_getR E fl_RX5_23 (kC_80 b) (sC_80 b) rfl dX5_tryRule_22 ?_
  refine g_iload_2 E dX5_tryRule_25 ?_
  refine g_bipush E (by decide) dX5_tryRule_26 ?_
  refine g_imul E dX5_tryRule_28 ?_
  refine g_aload_0 E dX5_tryRule_29 ?_
  refine g_getR E fl_RX5_9 (kC_80 b) (sC_80 b) rfl dX5_tryRule_30 ?_
  refine g_getR E fl_RX5_84 (kC_14 b) (sC_14 b) rfl dX5_tryRule_33 ?_
  refine g_iload_1 E dX5_tryRule_36 ?_
  refine g_iald E (kC_15 b) (sC_15 b) (by decide) h.1 dX5_tryRule_37 ?_
  replace h := h.2
  refine g_iadd E dX5_tryRule_38 ?_
  refine g_iald E (kC_81 b) (sC_81 b) (by decide) h.1 dX5_tryRule_39 ?_
  replace h := h.2
  refine g_nmI (fun v3 ev3 => ?_)
  replace h := h v3 ev3
  have cv3 : C32 v3 := by rw [ev3]; exact (aC_81 hσ _)
  refine g_istore_5 E rfl (by decide) dX5_tryRule_40 ?_
  refine g_aload_0 E dX5_tryRule_42 ?_
  refine g_getR E fl_RX5_9 (kC_80 b) (sC_80 b) rfl dX5_tryRule_43 ?_
  refine g_getR E fl_RX5_87 (kC_14 b) (sC_14 b) rfl dX5_tryRule_46 ?_
  refine g_iload_1 E dX5_tryRule_49 ?_
  refine g_iald E (kC_16 b) (sC_16 b) (by decide) h.1 dX5_tryRule_50 ?_
  replace h := h.2
  refine g_nmI (fun v4 ev4 => ?_)
  replace h := h v4 ev4
  have cv4 : C32 v4 := by rw [ev4]; exact (aC_16 hσ _)
  refine g_istore_6 E rfl (by decide) dX5_tryRule_51 ?_
  refine g_aload_0 E dX5_tryRule_53 ?_
  refine g_getR E fl_RX5_9 (kC_80 b) (sC_80 b) rfl dX5_tryRule_54 ?_
  refine g_getR E fl_RX5_127 (kC_14 b) (sC_14 b) rfl dX5_tryRule_57 ?_
  refine g_iload_1 E dX5_tryRule_60 ?_
  refine g_iald E (kC_17 b) (sC_17 b) (by decide) h.1 dX5_tryRule_61 ?_
  replace h := h.2
  refine g_nmI (fun v5 ev5 => ?_)
  replace h := h v5 ev5
  have cv5 : C32 v5 := by rw [ev5]; exact (aC_17 hσ _)
  refine g_istore_7 E rfl (by decide) dX5_tryRule_62 ?_
  refine g_iload_5 E dX5_tryRule_64 ?_
  refine g_iconst E dX5_tryRule_66 ?_
  refine g_icmp_ne E cv3 cl_m1 djX5_tryRule_67 (fun hc => ?_) (fun hc => ?_)
  · replace h := h.1 hc
    refine g_iload_7 E dX5_tryRule_71 ?_
    refine g_iconst E dX5_tryRule_73 ?_
    refine g_icmp_ne E cv5 cl_m1 djX5_tryRule_74 (fun hc => ?_) (fun hc => ?_)
    · replace h := h.1 hc
      refine g_iload_4 E dX5_tryRule_112 ?_
      refine g_iload_3 E dX5_tryRule_114 ?_
      refine g_iconst E dX5_tryRule_115 ?_
      refine g_iadd E dX5_tryRule_116 ?_
      refine g_icmp_le E cv2 (c32_w _) djX5_tryRule_117 (fun hc => ?_) (fun hc => ?_)
      · replace h := h.1 hc
        exact g_vret E hr h hσ dX5_tryRule_183
      · replace h := h.2 hc
        refine g_aload_0 E dX5_tryRule_120 ?_
        refine g_iload_6 E dX5_tryRule_121 ?_
        refine g_iload_3 E dX5_tryRule_123 ?_
        refine g_aload_0 E dX5_tryRule_124 ?_
        refine g_iload_7 E dX5_tryRule_125 ?_
        refine g_iload_3 E dX5_tryRule_127 ?_
        refine g_iconst E dX5_tryRule_128 ?_
        refine g_iadd E dX5_tryRule_129 ?_
        refine g_iload_4 E dX5_tryRule_130 ?_
        refine g_callvI E my_X5_partCost mi_X5_partCost msel_X5_partCost ml_RX5_132 (rm_ok (by decide) (by decide)) ⟨Nat.zero_le _, Nat.zero_le _⟩ (kC_80 b) (sC_80 b) rfl (m_X5_partCost E.2.2.1 cv5 (c32_w _) cv2 hσ h) rfl rfl (Nat.le_of_ble_eq_true rfl) dX5_tryRule_132 (fun r6 σ7 cr6 hσ7 h => ?_)
        refine g_iload_5 E dX5_tryRule_135 ?_
        refine g_aload_0 E dX5_tryRule_137 ?_
        refine g_getR E fl_RX5_9 (kC_80 b) (sC_80 b) rfl dX5_tryRule_138 ?_
        refine g_getR E fl_RX5_90 (kC_14 b) (sC_14 b) rfl dX5_tryRule_141 ?_
        refine g_iload_1 E dX5_tryRule_144 ?_
        refine g_iald E (kC_18 b) (sC_18 b) (by decide) h.1 dX5_tryRule_145 ?_
        replace h := h.2
        refine g_iadd E dX5_tryRule_146 ?_
        refine g_callvV E my_X5_tryLetter mi_X5_tryLetter msel_X5_tryLetter ml_RX5_128 (rm_ok (by decide) (by decide)) ⟨Nat.zero_le _, Nat.zero_le _⟩ (kC_80 b) (sC_80 b) rfl (m_X5_tryLetter E.2.2.1 cv4 cv1 cr6 (c32_w _) hσ7 h) rfl rfl (Nat.le_of_ble_eq_true rfl) dX5_tryRule_147 (fun σ9 r8 hσ9 h => ?_)
        refine g_aload_0 E dX5_tryRule_150 ?_
        refine g_iload_7 E dX5_tryRule_151 ?_
        refine g_iload_4 E dX5_tryRule_153 ?_
        refine g_iconst E dX5_tryRule_155 ?_
        refine g_isub E dX5_tryRule_156 ?_
        refine g_aload_0 E dX5_tryRule_157 ?_
        refine g_iload_6 E dX5_tryRule_158 ?_
        refine g_iload_3 E dX5_tryRule_160 ?_
        refine g_iload_4 E dX5_tryRule_161 ?_
        refine g_iconst E dX5_tryRule_163 ?_
        refine g_isub E dX5_tryRule_164 ?_
        refine g_callvI E my_X5_partCost mi_X5_partCost msel_X5_partCost ml_RX5_132 (rm_ok (by decide) (by decide)) ⟨Nat.zero_le _, Nat.zero_le _⟩ (kC_80 b) (sC_80 b) rfl (m_X5_partCost E.2.2.1 cv4 cv1 (c32_w _) hσ9 h) rfl rfl (Nat.le_of_ble_eq_true rfl) dX5_tryRule_165 (fun r10 σ11 cr10 hσ11 h => ?_)
        refine g_iload_5 E dX5_tryRule_168 ?_
        refine g_aload_0 E dX5_tryRule_170 ?_
        refine g_getR E fl_RX5_9 (kC_80 b) (sC_80 b) rfl dX5_tryRule_171 ?_
        refine g_getR E fl_RX5_90 (kC_14 b) (sC_14 b) rfl dX5_tryRule_174 ?_
        refine g_iload_1 E dX5_tryRule_177 ?_
        refine g_iald E (kC_18 b) (sC_18 b) (by decide) h.1 dX5_tryRule_178 ?_
        replace h := h.2
        refine g_iadd E dX5_tryRule_179 ?_
        refine g_callvV E my_X5_tryLetter mi_X5_tryLetter msel_X5_tryLetter ml_RX5_128 (rm_ok (by decide) (by decide)) ⟨Nat.zero_le _, Nat.zero_le _⟩ (kC_80 b) (sC_80 b) rfl (m_X5_tryLetter E.2.2.1 cv5 (c32_w _) cr10 (c32_w _) hσ11 h) rfl rfl (Nat.le_of_ble_eq_true rfl) dX5_tryRule_180 (fun σ13 r12 hσ13 h => ?_)
        exact g_vret E hr h hσ13 dX5_tryRule_183
    · replace h := h.2 hc
      refine g_aload_0 E dX5_tryRule_77 ?_
      refine g_iload_6 E dX5_tryRule_78 ?_
      refine g_iload_3 E dX5_tryRule_80 ?_
      refine g_iload_4 E dX5_tryRule_81 ?_
      refine g_iload_3 E dX5_tryRule_83 ?_
      refine g_iconst E dX5_tryRule_84 ?_
      refine g_iadd E dX5_tryRule_85 ?_
      refine g_icmp_ne E cv2 (c32_w _) djX5_tryRule_86 (fun hc => ?_) (fun hc => ?_)
      · replace h := h.1 hc
        refine g_iconst E dX5_tryRule_93 ?_
        exact (t_X5_tryRule_b94 E hr x1 v3 ((-1)) v1 v4 σ c1 cv3 cl_m1 cv1 cv4 hσ h).weak (w_k (w_k (w_d (w_d (w_d (w_k (w_d (w_d w_n))))))))
      · replace h := h.2 hc
        refine g_iconst E dX5_tryRule_89 ?_
        refine g_goto E djX5_tryRule_90 ?_
        exact (t_X5_tryRule_b94 E hr x1 v3 0 v1 v4 σ c1 cv3 cl_0 cv1 cv4 hσ h).weak (w_k (w_k (w_d (w_d (w_d (w_k (w_d (w_d w_n))))))))
  · replace h := h.2 hc
    exact g_vret E hr h hσ dX5_tryRule_70
end
theorem m_X5_tryRule {Z : (Nat → Nat) × (Nat → Nat)} {l : Launch} {D : va_G} {cA : Nat → ClassId} {ad : Nat → Nat} {b : Bool} {x1 x2 : Int} {σ : St} {Q : Int → St → Prop} (hA : AdOk (NC b) ad) (c1 : C32 x1) (c2 : C32 x2) (hσ : CanS (shC b) (NC b) σ) (h : wp_X5_tryRule x1 x2 σ Q) : KtV Z l D cA ad (shC b) (NC b) yX5_tryRule cX5_tryRule 8 none 4 [.ref (ad 80), vI x1, vI x2] σ Q :=
  KtV.of my_X5_tryRule hA [some (.ref (ad 80)), some (vI x1), some (vI x2), none, none, none, none, none] (Nat.le_of_ble_eq_true rfl) rfl (fun p e s m args below meth c A0 E hr => t_X5_tryRule E hr x1 x2 σ c1 c2 hσ h)
theorem dX5_prepare_0 : Dc cX5_prepare 0 (.aload_n 0) 1 1 := ⟨by decide +kernel, rfl⟩
theorem dX5_prepare_1 : Dc cX5_prepare 1 (.getfield 30) 3 4 := ⟨by decide +kernel, rfl⟩
theorem djX5_prepare_4 : Dj cX5_prepare 4 (.ifCond .eq 4) 3 7 4 8 := ⟨by decide +kernel, rfl, by decide⟩
theorem dX5_prepare_7 : Dc cX5_prepare 7 (.return_) 1 8 := ⟨by decide +kernel, rfl⟩
theorem dX5_prepare_8 : Dc cX5_prepare 8 (.aload_n 0) 1 9 := ⟨by decide +kernel, rfl⟩
theorem dX5_prepare_9 : Dc cX5_prepare 9 (.iconst 1) 1 10 := ⟨by decide +kernel, rfl⟩
theorem dX5_prepare_10 : Dc cX5_prepare 10 (.putfield 30) 3 13 := ⟨by decide +kernel, rfl⟩
theorem dX5_prepare_13 : Dc cX5_prepare 13 (.aload_n 0) 1 14 := ⟨by decide +kernel, rfl⟩
theorem dX5_prepare_14 : Dc cX5_prepare 14 (.getfield 27) 3 17 := ⟨by decide +kernel, rfl⟩
theorem dX5_prepare_17 : Dc cX5_prepare 17 (.iconst (-1)) 1 18 := ⟨by decide +kernel, rfl⟩
theorem dX5_prepare_18 : Dc cX5_prepare 18 (.invokestatic 34) 3 21 := ⟨by decide +kernel, rfl⟩
theorem dX5_prepare_21 : Dc cX5_prepare 21 (.iload_n 1) 1 22 := ⟨by decide +kernel, rfl⟩
theorem djX5_prepare_22 : Dj cX5_prepare 22 (.ifCond .lt 71) 3 25 71 93 := ⟨by decide +kernel, rfl, by decide⟩
theorem dX5_prepare_25 : Dc cX5_prepare 25 (.aload_n 0) 1 26 := ⟨by decide +kernel, rfl⟩
theorem dX5_prepare_26 : Dc cX5_prepare 26 (.getfield 19) 3 29 := ⟨by decide +kernel, rfl⟩
theorem dX5_prepare_29 : Dc cX5_prepare 29 (.invokevirtual 40) 3 32 := ⟨by decide +kernel, rfl⟩
theorem dX5_prepare_32 : Dc cX5_prepare 32 (.aload_n 0) 1 33 := ⟨by decide +kernel, rfl⟩
theorem dX5_prepare_33 : Dc cX5_prepare 33 (.iload_n 1) 1 34 := ⟨by decide +kernel, rfl⟩
theorem dX5_prepare_34 : Dc cX5_prepare 34 (.invokevirtual 45) 3 37 := ⟨by decide +kernel, rfl⟩
theorem dX5_prepare_37 : Dc cX5_prepare 37 (.iconst 0) 1 38 := ⟨by decide +kernel, rfl⟩
theorem dX5_prepare_38 : Dc cX5_prepare 38 (.istore_n 2) 1 39 := ⟨by decide +kernel, rfl⟩
theorem dX5_prepare_39 : Dc cX5_prepare 39 (.iload_n 2) 1 40 := ⟨by decide +kernel, rfl⟩
theorem dX5_prepare_40 : Dc cX5_prepare 40 (.aload_n 0) 1 41 := ⟨by decide +kernel, rfl⟩
theorem dX5_prepare_41 : Dc cX5_prepare 41 (.getfield 15) 3 44 := ⟨by decide +kernel, rfl⟩
theorem dX5_prepare_44 : Dc cX5_prepare 44 (.getfield 49) 3 47 := ⟨by decide +kernel, rfl⟩
theorem djX5_prepare_47 : Dj cX5_prepare 47 (.if_icmp .ge 46) 3 50 46 93 := ⟨by decide +kernel, rfl, by decide⟩
theorem dX5_prepare_50 : Dc cX5_prepare 50 (.iconst 0) 1 51 := ⟨by decide +kernel, rfl⟩
theorem dX5_prepare_51 : Dc cX5_prepare 51 (.istore_n 3) 1 52 := ⟨by decide +kernel, rfl⟩
theorem dX5_prepare_52 : Dc cX5_prepare 52 (.iload_n 3) 1 53 := ⟨by decide +kernel, rfl⟩
theorem dX5_prepare_53 : Dc cX5_prepare 53 (.aload_n 0) 1 54 := ⟨by decide +kernel, rfl⟩
theorem dX5_prepare_54 : Dc cX5_prepare 54 (.getfield 9) 3 57 := ⟨by decide +kernel, rfl⟩
theorem dX5_prepare_57 : Dc cX5_prepare 57 (.getfield 55) 3 60 := ⟨by decide +kernel, rfl⟩
theorem djX5_prepare_60 : Dj cX5_prepare 60 (.if_icmp .ge 27) 3 63 27 87 := ⟨by decide +kernel, rfl, by decide⟩
theorem dX5_prepare_63 : Dc cX5_prepare 63 (.aload_n 0) 1 64 := ⟨by decide +kernel, rfl⟩
theorem dX5_prepare_64 : Dc cX5_prepare 64 (.getfield 9) 3 67 := ⟨by decide +kernel, rfl⟩
theorem dX5_prepare_67 : Dc cX5_prepare 67 (.getfield 60) 3 70 := ⟨by decide +kernel, rfl⟩
theorem dX5_prepare_70 : Dc cX5_prepare 70 (.iload_n 3) 1 71 := ⟨by decide +kernel, rfl⟩
theorem dX5_prepare_71 : Dc cX5_prepare 71 (.baload) 1 72 := ⟨by decide +kernel, rfl⟩
theorem djX5_prepare_72 : Dj cX5_prepare 72 (.ifCond .ne 9) 3 75 9 81 := ⟨by decide +kernel, rfl, by decide⟩
theorem dX5_prepare_75 : Dc cX5_prepare 75 (.aload_n 0) 1 76 := ⟨by decide +kernel, rfl⟩
theorem dX5_prepare_76 : Dc cX5_prepare 76 (.iload_n 3) 1 77 := ⟨by decide +kernel, rfl⟩
theorem dX5_prepare_77 : Dc cX5_prepare 77 (.iload_n 2) 1 78 := ⟨by decide +kernel, rfl⟩
theorem dX5_prepare_78 : Dc cX5_prepare 78 (.invokevirtual 64) 3 81 := ⟨by decide +kernel, rfl⟩
theorem dX5_prepare_81 : Dc cX5_prepare 81 (.iinc 3 1) 3 84 := ⟨by decide +kernel, rfl⟩
theorem djX5_prepare_84 : Dj cX5_prepare 84 (.goto (-32)) 3 87 (-32) 52 := ⟨by decide +kernel, rfl, by decide⟩
theorem dX5_prepare_87 : Dc cX5_prepare 87 (.iinc 2 1) 3 90 := ⟨by decide +kernel, rfl⟩
theorem djX5_prepare_90 : Dj cX5_prepare 90 (.goto (-51)) 3 93 (-51) 39 := ⟨by decide +kernel, rfl, by decide⟩
theorem dX5_prepare_93 : Dc cX5_prepare 93 (.aload_n 0) 1 94 := ⟨by decide +kernel, rfl⟩
theorem dX5_prepare_94 : Dc cX5_prepare 94 (.invokevirtual 68) 3 97 := ⟨by decide +kernel, rfl⟩
theorem dX5_prepare_97 : Dc cX5_prepare 97 (.return_) 1 98 := ⟨by decide +kernel, rfl⟩
section
variable {p : Program} {l : Launch} {e : Env} {s : State} {m : MethodId} {args : Array Value} {below : List Frame} {meth : Method} {c : Code} {A0 : Nat → Prop} {D : va_G} {cA : Nat → ClassId} {ad : Nat → Nat} {Z : (Nat → Nat) × (Nat → Nat)} {Q : Int → St → Prop} {b : Bool}
set_option maxHeartbeats 4000000 in
set_option maxRecDepth 100000 in
theorem t_X5_prepare_b81 (E : Ev p s m args meth c cX5_prepare 4 RX5 A0 D cA ad (NC b) Z) (hr : meth.sig.returnType = none) {K39 : Int → St → Prop} (hK39 : ∀ (x2 : Int) (σ : St), C32 x2 → CanS (shC b) (NC b) σ → K39 x2 σ → G p l e (rmL 6 0 0) s m args below meth c 4 A0 D cA ad (shC b) (NC b) 0 0 (MQ below (QVc D cA ad (shC b) (NC b) Q A0) args s 0 0 A0) σ 39 [some (.ref (ad 80)), none, some (vI x2), none] []) {K52 : Int → Int → St → Prop} (hK52 : ∀ (x2 : Int) (x3 : Int) (σ : St), C32 x2 → C32 x3 → CanS (shC b) (NC b) σ → K52 x2 x3 σ → G p l e (rmL 6 0 0) s m args below meth c 4 A0 D cA ad (shC b) (NC b) 0 0 (MQ below (QVc D cA ad (shC b) (NC b) Q A0) args s 0 0 A0) σ 52 [some (.ref (ad 80)), none, some (vI x2), some (vI x3)] []) (x2 : Int) (x3 : Int) (σ : St) (c2 : C32 x2) (c3 : C32 x3) (hσ : CanS (shC b) (NC b) σ) (h : wp_X5_prepare_b81 Q K39 K52 x2 x3 σ) : G p l e (rmL 6 0 0) s m args below meth c 4 A0 D cA ad (shC b) (NC b) 0 0 (MQ below (QVc D cA ad (shC b) (NC b) Q A0) args s 0 0 A0) σ 81 [some (.ref (ad 80)), none, some (vI x2), some (vI x3)] [] := by
  unfold wp_X5_prepare_b81 at h
  refine g_iinc_3 E rfl (by decide) dX5_prepare_81 (fun v15 ev15 => ?_)
  replace h := h v15 ev15
  have cv15 : C32 v15 := by rw [ev15]; exact c32_w _
  refine g_goto E djX5_prepare_84 ?_
  exact (hK52 x2 v15 σ c2 cv15 hσ h).weak (w_k (w_d (w_k (w_k w_n))))
set_option maxHeartbeats 4000000 in
set_option maxRecDepth 100000 in
theorem t_X5_prepare_l52 (E : Ev p s m args meth c cX5_prepare 4 RX5 A0 D cA ad (NC b) Z) (hr : meth.sig.returnType = none) {K39 : Int → St → Prop} (hK39 : ∀ (x2 : Int) (σ : St), C32 x2 → CanS (shC b) (NC b) σ → K39 x2 σ → G p l e (rmL 6 0 0) s m args below meth c 4 A0 D cA ad (shC b) (NC b) 0 0 (MQ below (QVc D cA ad (shC b) (NC b) Q A0) args s 0 0 A0) σ 39 [some (.ref (ad 80)), none, some (vI x2), none] []) : ∀ (n : Nat) (x2 : Int) (x3 : Int) (σ : St), C32 x2 → C32 x3 → CanS (shC b) (NC b) σ → wp_X5_prepare_l52 Q K39 n x2 x3 σ → G p l e (rmL 6 0 0) s m args below meth c 4 A0 D cA ad (shC b) (NC b) 0 0 (MQ below (QVc D cA ad (shC b) (NC b) Q A0) args s 0 0 A0) σ 52 [some (.ref (ad 80)), none, some (vI x2), some (vI x3)] [] := by
  intro n
  induction n with
  | zero => intro _ _ _ _ _ _ h; exact h.elim
  | succ n ih =>
    intro x2 x3 σ c2 c3 hσ h
    unfold wp_X5_prepare_l52 at h
    refine g_iload_3 E dX5_prepare_52 ?_
    refine g_aload_0 E dX5_prepare_53 ?_
    refine g_getR E fl_RX5_9 (kC_80 b) (sC_80 b) rfl dX5_prepare_54 ?_
    refine g_getI E fl_RX5_55 (kC_14 b) (sC_14 b) rfl dX5_prepare_57 ?_
    refine g_icmp_ge E c3 (fC_14_0 hσ) djX5_prepare_60 (fun hc => ?_) (fun hc => ?_)
    · replace h := h.1 hc
      refine g_iinc_2 E rfl (by decide) dX5_prepare_87 (fun v12 ev12 => ?_)
      replace h := h v12 ev12
      have cv12 : C32 v12 := by rw [ev12]; exact c32_w _
      refine g_goto E djX5_prepare_90 ?_
      exact (hK39 v12 σ cv12 hσ h).weak (w_k (w_d (w_k (w_d w_n))))
    · replace h := h.2 hc
      refine g_aload_0 E dX5_prepare_63 ?_
      refine g_getR E fl_RX5_9 (kC_80 b) (sC_80 b) rfl dX5_prepare_64 ?_
      refine g_getR E fl_RX5_60 (kC_14 b) (sC_14 b) rfl dX5_prepare_67 ?_
      refine g_iload_3 E dX5_prepare_70 ?_
      refine g_zald E (kC_20 b) (sC_20 b) (by decide) h.1 dX5_prepare_71 ?_
      replace h := h.2
      refine g_if_ne E (aC_20 hσ _) djX5_prepare_72 (fun hc => ?_) (fun hc => ?_)
      · replace h := h.1 hc
        exact (t_X5_prepare_b81 E hr hK39 ih x2 x3 σ c2 c3 hσ h).weak (w_k (w_d (w_k (w_k w_n))))
      · replace h := h.2 hc
        refine g_aload_0 E dX5_prepare_75 ?_
        refine g_iload_3 E dX5_prepare_76 ?_
        refine g_iload_2 E dX5_prepare_77 ?_
        refine g_callvV E my_X5_tryRule mi_X5_tryRule msel_X5_tryRule ml_RX5_64 (rm_ok (by decide) (by decide)) ⟨Nat.zero_le _, Nat.zero_le _⟩ (kC_80 b) (sC_80 b) rfl (m_X5_tryRule E.2.2.1 c3 c2 hσ h) rfl rfl (Nat.le_of_ble_eq_true rfl) dX5_prepare_78 (fun σ14 r13 hσ14 h => ?_)
        exact (t_X5_prepare_b81 E hr hK39 ih x2 x3 σ14 c2 c3 hσ14 h).weak (w_k (w_d (w_k (w_k w_n))))
set_option maxHeartbeats 4000000 in
set_option maxRecDepth 100000 in
theorem t_X5_prepare_l39 (E : Ev p s m args meth c cX5_prepare 4 RX5 A0 D cA ad (NC b) Z) (hr : meth.sig.returnType = none) : ∀ (n : Nat) (x2 : Int) (σ : St), C32 x2 → CanS (shC b) (NC b) σ → wp_X5_prepare_l39 Q n x2 σ → G p l e (rmL 6 0 0) s m args below meth c 4 A0 D cA ad (shC b) (NC b) 0 0 (MQ below (QVc D cA ad (shC b) (NC b) Q A0) args s 0 0 A0) σ 39 [some (.ref (ad 80)), none, some (vI x2), none] [] := by
  intro n
  induction n with
  | zero => intro _ _ _ _ h; exact h.elim
  | succ n ih =>
    intro x2 σ c2 hσ h
    unfold wp_X5_prepare_l39 at h
    refine g_iload_2 E dX5_prepare_39 ?_
    refine g_aload_0 E dX5_prepare_40 ?_
    refine g_getR E fl_RX5_15 (kC_80 b) (sC_80 b) rfl dX5_prepare_41 ?_
    refine g_getI E fl_RX5_49 (kC_24 b) (sC_24 b) rfl dX5_prepare_44 ?_
    refine g_icmp_ge E c2 (fC_24_3 hσ) djX5_prepare_47 (fun hc => ?_) (fun hc => ?_)
    · replace h := h.1 hc
      refine g_aload_0 E dX5_prepare_93 ?_
      refine g_callvV E my_X5_choose mi_X5_choose msel_X5_choose ml_RX5_68 (rm_ok (by decide) (by decide)) ⟨Nat.zero_le _, Nat.zero_le _⟩ (kC_80 b) (sC_80 b) rfl (m_X5_choose E.2.2.1 hσ h) rfl rfl (Nat.le_of_ble_eq_true rfl) dX5_prepare_94 (fun σ11 r10 hσ11 h => ?_)
      exact g_vret E hr h hσ11 dX5_prepare_97
    · replace h := h.2 hc
      refine g_iconst E dX5_prepare_50 ?_
      refine g_istore_3 E rfl (by decide) dX5_prepare_51 ?_
      exact (t_X5_prepare_l52 E hr ih bigN x2 0 σ c2 cl_0 hσ h).weak (w_k (w_d (w_k (w_k w_n))))
set_option maxHeartbeats 4000000 in
set_option maxRecDepth 100000 in
theorem t_X5_prepare (E : Ev p s m args meth c cX5_prepare 4 RX5 A0 D cA ad (NC b) Z) (hr : meth.sig.returnType = none) (x1 : Int) (σ : St) (c1 : C32 x1) (hσ : CanS (shC b) (NC b) σ) (h : wp_X5_prepare x1 σ Q) : G p l e (rmL 6 0 0) s m args below meth c 4 A0 D cA ad (shC b) (NC b) 0 0 (MQ below (QVc D cA ad (shC b) (NC b) Q A0) args s 0 0 A0) σ 0 [some (.ref (ad 80)), some (vI x1), none, none] [] := by
  unfold wp_X5_prepare at h
  refine g_aload_0 E dX5_prepare_0 ?_
  refine g_getI E fl_RX5_30 (kC_80 b) (sC_80 b) rfl dX5_prepare_1 ?_
  refine g_if_eq E (fC_80_9 hσ) djX5_prepare_4 (fun hc => ?_) (fun hc => ?_)
  · replace h := h.1 hc
    refine g_aload_0 E dX5_prepare_8 ?_
    refine g_iconst E dX5_prepare_9 ?_
    refine g_putZ E fl_RX5_30 rfl rfl (Or.inr rfl) (kC_80 b) (sC_80 b) rfl dX5_prepare_10 (g_nmS (fun σ1 eσ1 => ?_))
    replace h := h σ1 eσ1
    have hσ1 : CanS (shC b) (NC b) σ1 := by rw [eσ1]; exact uC_80_9 hσ cl_1
    refine g_aload_0 E dX5_prepare_13 ?_
    refine g_getR E fl_RX5_27 (kC_80 b) (sC_80 b) rfl dX5_prepare_14 ?_
    refine g_iconst E dX5_prepare_17 ?_
    refine g_callsV E my_J7_fill_53178 ms_J7_fill_53178 ml_RX5_34 (rm_ok (by decide) (by decide)) ⟨Nat.zero_le _, Nat.zero_le _⟩ (m_J7_fill_53178_C_c82 E.2.2.1 cl_m1 hσ1 h) rfl rfl (Nat.le_of_ble_eq_true rfl) dX5_prepare_18 (fun σ3 r2 hσ3 h => ?_)
    refine g_iload_1 E dX5_prepare_21 ?_
    refine g_if_lt E c1 djX5_prepare_22 (fun hc => ?_) (fun hc => ?_)
    · replace h := h.1 hc
      refine g_aload_0 E dX5_prepare_93 ?_
      refine g_callvV E my_X5_choose mi_X5_choose msel_X5_choose ml_RX5_68 (rm_ok (by decide) (by decide)) ⟨Nat.zero_le _, Nat.zero_le _⟩ (kC_80 b) (sC_80 b) rfl (m_X5_choose E.2.2.1 hσ3 h) rfl rfl (Nat.le_of_ble_eq_true rfl) dX5_prepare_94 (fun σ5 r4 hσ5 h => ?_)
      exact g_vret E hr h hσ5 dX5_prepare_97
    · replace h := h.2 hc
      refine g_aload_0 E dX5_prepare_25 ?_
      refine g_getR E fl_RX5_19 (kC_80 b) (sC_80 b) rfl dX5_prepare_26 ?_
      refine g_callvV E my_X1_prepare mi_X1_prepare msel_X1_prepare ml_RX5_40 (rm_ok (by decide) (by decide)) ⟨Nat.zero_le _, Nat.zero_le _⟩ (kC_36 b) (sC_36 b) rfl (m_X1_prepare E.2.2.1 hσ3 h) rfl rfl (Nat.le_of_ble_eq_true rfl) dX5_prepare_29 (fun σ7 r6 hσ7 h => ?_)
      refine g_aload_0 E dX5_prepare_32 ?_
      refine g_iload_1 E dX5_prepare_33 ?_
      refine g_callvV E my_X5_goDown mi_X5_goDown msel_X5_goDown ml_RX5_45 (rm_ok (by decide) (by decide)) ⟨Nat.zero_le _, Nat.zero_le _⟩ (kC_80 b) (sC_80 b) rfl (m_X5_goDown E.2.2.1 c1 hσ7 h) rfl rfl (Nat.le_of_ble_eq_true rfl) dX5_prepare_34 (fun σ9 r8 hσ9 h => ?_)
      refine g_iconst E dX5_prepare_37 ?_
      refine g_istore_2 E rfl (by decide) dX5_prepare_38 ?_
      exact (t_X5_prepare_l39 E hr bigN 0 σ9 cl_0 hσ9 h).weak (w_k (w_d (w_k (w_d w_n))))
  · replace h := h.2 hc
    exact g_vret E hr h hσ dX5_prepare_7
end
theorem m_X5_prepare {Z : (Nat → Nat) × (Nat → Nat)} {l : Launch} {D : va_G} {cA : Nat → ClassId} {ad : Nat → Nat} {b : Bool} {x1 : Int} {σ : St} {Q : Int → St → Prop} (hA : AdOk (NC b) ad) (c1 : C32 x1) (hσ : CanS (shC b) (NC b) σ) (h : wp_X5_prepare x1 σ Q) : KtV Z l D cA ad (shC b) (NC b) yX5_prepare cX5_prepare 4 none 6 [.ref (ad 80), vI x1] σ Q :=
  KtV.of my_X5_prepare hA [some (.ref (ad 80)), some (vI x1), none, none] (Nat.le_of_ble_eq_true rfl) rfl (fun p e s m args below meth c A0 E hr => t_X5_prepare E hr x1 σ c1 hσ h)
theorem dX11_mends_0 : Dc cX11_mends 0 (.aload_n 0) 1 1 := ⟨by decide +kernel, rfl⟩
theorem dX11_mends_1 : Dc cX11_mends 1 (.getfield 102) 3 4 := ⟨by decide +kernel, rfl⟩
theorem dX11_mends_4 : Dc cX11_mends 4 (.aload_n 0) 1 5 := ⟨by decide +kernel, rfl⟩
theorem dX11_mends_5 : Dc cX11_mends 5 (.invokevirtual 307) 3 8 := ⟨by decide +kernel, rfl⟩
theorem dX11_mends_8 : Dc cX11_mends 8 (.invokevirtual 330) 3 11 := ⟨by decide +kernel, rfl⟩
theorem dX11_mends_11 : Dc cX11_mends 11 (.aload_n 0) 1 12 := ⟨by decide +kernel, rfl⟩
theorem dX11_mends_12 : Dc cX11_mends 12 (.getfield 102) 3 15 := ⟨by decide +kernel, rfl⟩
theorem dX11_mends_15 : Dc cX11_mends 15 (.getfield 333) 3 18 := ⟨by decide +kernel, rfl⟩
theorem dX11_mends_18 : Dc cX11_mends 18 (.ireturn) 1 19 := ⟨by decide +kernel, rfl⟩
section
variable {p : Program} {l : Launch} {e : Env} {s : State} {m : MethodId} {args : Array Value} {below : List Frame} {meth : Method} {c : Code} {A0 : Nat → Prop} {D : va_G} {cA : Nat → ClassId} {ad : Nat → Nat} {Z : (Nat → Nat) × (Nat → Nat)} {Q : Int → St → Prop} {b : Bool}
set_option maxHeartbeats 4000000 in
set_option maxRecDepth 100000 in
theorem t_X11_mends (E : Ev p s m args meth c cX11_mends 1 RX11 A0 D cA ad (NC b) Z) (hr : meth.sig.returnType = (some .int)) (σ : St) (hσ : CanS (shC b) (NC b) σ) (h : wp_X11_mends  σ Q) : G p l e (rmL 7 0 0) s m args below meth c 1 A0 D cA ad (shC b) (NC b) 0 0 (MQ below (QIc D cA ad (shC b) (NC b) Q A0) args s 0 0 A0) σ 0 [some (.ref (ad 0))] [] := by
  unfold wp_X11_mends at h
  refine g_aload_0 E dX11_mends_0 ?_
  refine g_getR E fl_RX11_102 (kC_0 b) (sC_0 b) rfl dX11_mends_1 ?_
  refine g_aload_0 E dX11_mends_4 ?_
  refine g_callvI E my_X11_wholeItem mi_X11_wholeItem msel_X11_wholeItem ml_RX11_307 (rm_ok (by decide) (by decide)) ⟨Nat.zero_le _, Nat.zero_le _⟩ (kC_0 b) (sC_0 b) rfl (m_X11_wholeItem E.2.2.1 hσ h) rfl rfl (Nat.le_of_ble_eq_true rfl) dX11_mends_5 (fun r1 σ2 cr1 hσ2 h => ?_)
  refine g_callvV E my_X5_prepare mi_X5_prepare msel_X5_prepare ml_RX11_330 (rm_ok (by decide) (by decide)) ⟨Nat.zero_le _, Nat.zero_le _⟩ (kC_80 b) (sC_80 b) rfl (m_X5_prepare E.2.2.1 cr1 hσ2 h) rfl rfl (Nat.le_of_ble_eq_true rfl) dX11_mends_8 (fun σ4 r3 hσ4 h => ?_)
  refine g_aload_0 E dX11_mends_11 ?_
  refine g_getR E fl_RX11_102 (kC_0 b) (sC_0 b) rfl dX11_mends_12 ?_
  refine g_getI E fl_RX11_333 (kC_80 b) (sC_80 b) rfl dX11_mends_15 ?_
  exact g_iret E hr (fC_80_5 hσ4) h hσ4 dX11_mends_18
end
theorem m_X11_mends {Z : (Nat → Nat) × (Nat → Nat)} {l : Launch} {D : va_G} {cA : Nat → ClassId} {ad : Nat → Nat} {b : Bool} {σ : St} {Q : Int → St → Prop} (hA : AdOk (NC b) ad) (hσ : CanS (shC b) (NC b) σ) (h : wp_X11_mends  σ Q) : KtI Z l D cA ad (shC b) (NC b) yX11_mends cX11_mends 1 (some .int) 7 [.ref (ad 0)] σ Q :=
  KtI.of my_X11_mends hA [some (.ref (ad 0))] (Nat.le_of_ble_eq_true rfl) rfl (fun p e s m args below meth c A0 E hr => t_X11_mends E hr σ hσ h)
theorem dX11_mend_0 : Dc cX11_mend 0 (.iload_n 1) 1 1 := ⟨by decide +kernel, rfl⟩
theorem djX11_mend_1 : Dj cX11_mend 1 (.ifCond .lt 8) 3 4 8 9 := ⟨by decide +kernel, rfl, by decide⟩
theorem dX11_mend_4 : Dc cX11_mend 4 (.iload_n 1) 1 5 := ⟨by decide +kernel, rfl⟩
theorem dX11_mend_5 : Dc cX11_mend 5 (.iconst 2) 1 6 := ⟨by decide +kernel, rfl⟩
theorem djX11_mend_6 : Dj cX11_mend 6 (.if_icmp .le 6) 3 9 6 12 := ⟨by decide +kernel, rfl, by decide⟩
theorem dX11_mend_9 : Dc cX11_mend 9 (.bipush (-2)) 2 11 := ⟨by decide +kernel, rfl⟩
theorem dX11_mend_11 : Dc cX11_mend 11 (.ireturn) 1 12 := ⟨by decide +kernel, rfl⟩
theorem dX11_mend_12 : Dc cX11_mend 12 (.aload_n 0) 1 13 := ⟨by decide +kernel, rfl⟩
theorem dX11_mend_13 : Dc cX11_mend 13 (.getfield 102) 3 16 := ⟨by decide +kernel, rfl⟩
theorem dX11_mend_16 : Dc cX11_mend 16 (.aload_n 0) 1 17 := ⟨by decide +kernel, rfl⟩
theorem dX11_mend_17 : Dc cX11_mend 17 (.invokevirtual 307) 3 20 := ⟨by decide +kernel, rfl⟩
theorem dX11_mend_20 : Dc cX11_mend 20 (.invokevirtual 330) 3 23 := ⟨by decide +kernel, rfl⟩
theorem dX11_mend_23 : Dc cX11_mend 23 (.iload_n 1) 1 24 := ⟨by decide +kernel, rfl⟩
theorem dX11_mend_24 : Dc cX11_mend 24 (.lookupswitch 44 #[(0, 28), (1, 36)]) 28 52 := ⟨by decide +kernel, rfl⟩
theorem dX11_mend_52 : Dc cX11_mend 52 (.aload_n 0) 1 53 := ⟨by decide +kernel, rfl⟩
theorem dX11_mend_53 : Dc cX11_mend 53 (.getfield 102) 3 56 := ⟨by decide +kernel, rfl⟩
theorem dX11_mend_56 : Dc cX11_mend 56 (.getfield 336) 3 59 := ⟨by decide +kernel, rfl⟩
theorem dX11_mend_59 : Dc cX11_mend 59 (.ireturn) 1 60 := ⟨by decide +kernel, rfl⟩
theorem dX11_mend_60 : Dc cX11_mend 60 (.aload_n 0) 1 61 := ⟨by decide +kernel, rfl⟩
theorem dX11_mend_61 : Dc cX11_mend 61 (.getfield 102) 3 64 := ⟨by decide +kernel, rfl⟩
theorem dX11_mend_64 : Dc cX11_mend 64 (.getfield 339) 3 67 := ⟨by decide +kernel, rfl⟩
theorem dX11_mend_67 : Dc cX11_mend 67 (.ireturn) 1 68 := ⟨by decide +kernel, rfl⟩
theorem dX11_mend_68 : Dc cX11_mend 68 (.aload_n 0) 1 69 := ⟨by decide +kernel, rfl⟩
theorem dX11_mend_69 : Dc cX11_mend 69 (.getfield 102) 3 72 := ⟨by decide +kernel, rfl⟩
theorem dX11_mend_72 : Dc cX11_mend 72 (.getfield 342) 3 75 := ⟨by decide +kernel, rfl⟩
theorem dX11_mend_75 : Dc cX11_mend 75 (.ireturn) 1 76 := ⟨by decide +kernel, rfl⟩
section
variable {p : Program} {l : Launch} {e : Env} {s : State} {m : MethodId} {args : Array Value} {below : List Frame} {meth : Method} {c : Code} {A0 : Nat → Prop} {D : va_G} {cA : Nat → ClassId} {ad : Nat → Nat} {Z : (Nat → Nat) × (Nat → Nat)} {Q : Int → St → Prop} {b : Bool}
set_option maxHeartbeats 4000000 in
set_option maxRecDepth 100000 in
theorem t_X11_mend (E : Ev p s m args meth c cX11_mend 2 RX11 A0 D cA ad (NC b) Z) (hr : meth.sig.returnType = (some .int)) (x1 : Int) (σ : St) (c1 : C32 x1) (hσ : CanS (shC b) (NC b) σ) (h : wp_X11_mend x1 σ Q) : G p l e (rmL 7 0 0) s m args below meth c 2 A0 D cA ad (shC b) (NC b) 0 0 (MQ below (QIc D cA ad (shC b) (NC b) Q A0) args s 0 0 A0) σ 0 [some (.ref (ad 0)), some (vI x1)] [] := by
  unfold wp_X11_mend at h
  refine g_iload_1 E dX11_mend_0 ?_
  refine g_if_lt E c1 djX11_mend_1 (fun hc => ?_) (fun hc => ?_)
  · replace h := h.1 hc
    refine g_bipush E (by decide) dX11_mend_9 ?_
    exact g_iret E hr cl_m2 h hσ dX11_mend_11
  · replace h := h.2 hc
    refine g_iload_1 E dX11_mend_4 ?_
    refine g_iconst E dX11_mend_5 ?_
    refine g_icmp_le E c1 cl_2 djX11_mend_6 (fun hc => ?_) (fun hc => ?_)
    · replace h := h.1 hc
      refine g_aload_0 E dX11_mend_12 ?_
      refine g_getR E fl_RX11_102 (kC_0 b) (sC_0 b) rfl dX11_mend_13 ?_
      refine g_aload_0 E dX11_mend_16 ?_
      refine g_callvI E my_X11_wholeItem mi_X11_wholeItem msel_X11_wholeItem ml_RX11_307 (rm_ok (by decide) (by decide)) ⟨Nat.zero_le _, Nat.zero_le _⟩ (kC_0 b) (sC_0 b) rfl (m_X11_wholeItem E.2.2.1 hσ h) rfl rfl (Nat.le_of_ble_eq_true rfl) dX11_mend_17 (fun r1 σ2 cr1 hσ2 h => ?_)
      refine g_callvV E my_X5_prepare mi_X5_prepare msel_X5_prepare ml_RX11_330 (rm_ok (by decide) (by decide)) ⟨Nat.zero_le _, Nat.zero_le _⟩ (kC_80 b) (sC_80 b) rfl (m_X5_prepare E.2.2.1 cr1 hσ2 h) rfl rfl (Nat.le_of_ble_eq_true rfl) dX11_mend_20 (fun σ4 r3 hσ4 h => ?_)
      refine g_iload_1 E dX11_mend_23 ?_
      by_cases hs0 : x1 = 0
      · refine g_lookup (v := 0) E c1 hs0 dX11_mend_24 rfl rfl (tgt := 52) (by decide) ?_
        replace h := h.1 hs0
        refine g_aload_0 E dX11_mend_52 ?_
        refine g_getR E fl_RX11_102 (kC_0 b) (sC_0 b) rfl dX11_mend_53 ?_
        refine g_getI E fl_RX11_336 (kC_80 b) (sC_80 b) rfl dX11_mend_56 ?_
        exact g_iret E hr (fC_80_6 hσ4) h hσ4 dX11_mend_59
      by_cases hs1 : x1 = 1
      · refine g_lookup (v := 1) E c1 hs1 dX11_mend_24 rfl rfl (tgt := 60) (by decide) ?_
        replace h := h.2.1 hs1
        refine g_aload_0 E dX11_mend_60 ?_
        refine g_getR E fl_RX11_102 (kC_0 b) (sC_0 b) rfl dX11_mend_61 ?_
        refine g_getI E fl_RX11_339 (kC_80 b) (sC_80 b) rfl dX11_mend_64 ?_
        exact g_iret E hr (fC_80_7 hσ4) h hσ4 dX11_mend_67
      replace h := h.2.2 ⟨hs0, hs1⟩
      refine g_lookupD E c1 dX11_mend_24 rfl (by intro q hq; simp only [List.mem_cons, List.not_mem_nil, or_false] at hq; rcases hq with rfl | rfl <;> omega) (tgt := 68) (by decide) ?_
      refine g_aload_0 E dX11_mend_68 ?_
      refine g_getR E fl_RX11_102 (kC_0 b) (sC_0 b) rfl dX11_mend_69 ?_
      refine g_getI E fl_RX11_342 (kC_80 b) (sC_80 b) rfl dX11_mend_72 ?_
      exact g_iret E hr (fC_80_8 hσ4) h hσ4 dX11_mend_75
    · replace h := h.2 hc
      refine g_bipush E (by decide) dX11_mend_9 ?_
      exact g_iret E hr cl_m2 h hσ dX11_mend_11
end
theorem m_X11_mend {Z : (Nat → Nat) × (Nat → Nat)} {l : Launch} {D : va_G} {cA : Nat → ClassId} {ad : Nat → Nat} {b : Bool} {x1 : Int} {σ : St} {Q : Int → St → Prop} (hA : AdOk (NC b) ad) (c1 : C32 x1) (hσ : CanS (shC b) (NC b) σ) (h : wp_X11_mend x1 σ Q) : KtI Z l D cA ad (shC b) (NC b) yX11_mend cX11_mend 2 (some .int) 7 [.ref (ad 0), vI x1] σ Q :=
  KtI.of my_X11_mend hA [some (.ref (ad 0)), some (vI x1)] (Nat.le_of_ble_eq_true rfl) rfl (fun p e s m args below meth c A0 E hr => t_X11_mend E hr x1 σ c1 hσ h)
theorem dX4_labelsOnRings_0 : Dc cX4_labelsOnRings 0 (.iconst 0) 1 1 := ⟨by decide +kernel, rfl⟩
theorem dX4_labelsOnRings_1 : Dc cX4_labelsOnRings 1 (.istore_n 1) 1 2 := ⟨by decide +kernel, rfl⟩
theorem dX4_labelsOnRings_2 : Dc cX4_labelsOnRings 2 (.iload_n 1) 1 3 := ⟨by decide +kernel, rfl⟩
theorem dX4_labelsOnRings_3 : Dc cX4_labelsOnRings 3 (.bipush 12) 2 5 := ⟨by decide +kernel, rfl⟩
theorem djX4_labelsOnRings_5 : Dj cX4_labelsOnRings 5 (.if_icmp .ge 16) 3 8 16 21 := ⟨by decide +kernel, rfl, by decide⟩
theorem dX4_labelsOnRings_8 : Dc cX4_labelsOnRings 8 (.aload_n 0) 1 9 := ⟨by decide +kernel, rfl⟩
theorem dX4_labelsOnRings_9 : Dc cX4_labelsOnRings 9 (.getfield 37) 3 12 := ⟨by decide +kernel, rfl⟩
theorem dX4_labelsOnRings_12 : Dc cX4_labelsOnRings 12 (.iload_n 1) 1 13 := ⟨by decide +kernel, rfl⟩
theorem dX4_labelsOnRings_13 : Dc cX4_labelsOnRings 13 (.iconst 0) 1 14 := ⟨by decide +kernel, rfl⟩
theorem dX4_labelsOnRings_14 : Dc cX4_labelsOnRings 14 (.iastore) 1 15 := ⟨by decide +kernel, rfl⟩
theorem dX4_labelsOnRings_15 : Dc cX4_labelsOnRings 15 (.iinc 1 1) 3 18 := ⟨by decide +kernel, rfl⟩
theorem djX4_labelsOnRings_18 : Dj cX4_labelsOnRings 18 (.goto (-16)) 3 21 (-16) 2 := ⟨by decide +kernel, rfl, by decide⟩
theorem dX4_labelsOnRings_21 : Dc cX4_labelsOnRings 21 (.iconst 0) 1 22 := ⟨by decide +kernel, rfl⟩
theorem dX4_labelsOnRings_22 : Dc cX4_labelsOnRings 22 (.istore_n 1) 1 23 := ⟨by decide +kernel, rfl⟩
theorem dX4_labelsOnRings_23 : Dc cX4_labelsOnRings 23 (.iload_n 1) 1 24 := ⟨by decide +kernel, rfl⟩
theorem dX4_labelsOnRings_24 : Dc cX4_labelsOnRings 24 (.aload_n 0) 1 25 := ⟨by decide +kernel, rfl⟩
theorem dX4_labelsOnRings_25 : Dc cX4_labelsOnRings 25 (.getfield 43) 3 28 := ⟨by decide +kernel, rfl⟩
theorem djX4_labelsOnRings_28 : Dj cX4_labelsOnRings 28 (.if_icmp .ge 48) 3 31 48 76 := ⟨by decide +kernel, rfl, by decide⟩
theorem dX4_labelsOnRings_31 : Dc cX4_labelsOnRings 31 (.aload_n 0) 1 32 := ⟨by decide +kernel, rfl⟩
theorem dX4_labelsOnRings_32 : Dc cX4_labelsOnRings 32 (.getfield 27) 3 35 := ⟨by decide +kernel, rfl⟩
theorem dX4_labelsOnRings_35 : Dc cX4_labelsOnRings 35 (.iload_n 1) 1 36 := ⟨by decide +kernel, rfl⟩
theorem dX4_labelsOnRings_36 : Dc cX4_labelsOnRings 36 (.baload) 1 37 := ⟨by decide +kernel, rfl⟩
theorem djX4_labelsOnRings_37 : Dj cX4_labelsOnRings 37 (.ifCond .ne 33) 3 40 33 70 := ⟨by decide +kernel, rfl, by decide⟩
theorem dX4_labelsOnRings_40 : Dc cX4_labelsOnRings 40 (.aload_n 0) 1 41 := ⟨by decide +kernel, rfl⟩
theorem dX4_labelsOnRings_41 : Dc cX4_labelsOnRings 41 (.iload_n 1) 1 42 := ⟨by decide +kernel, rfl⟩
theorem dX4_labelsOnRings_42 : Dc cX4_labelsOnRings 42 (.invokevirtual 56) 3 45 := ⟨by decide +kernel, rfl⟩
theorem djX4_labelsOnRings_45 : Dj cX4_labelsOnRings 45 (.ifCond .eq 25) 3 48 25 70 := ⟨by decide +kernel, rfl, by decide⟩
theorem dX4_labelsOnRings_48 : Dc cX4_labelsOnRings 48 (.aload_n 0) 1 49 := ⟨by decide +kernel, rfl⟩
theorem dX4_labelsOnRings_49 : Dc cX4_labelsOnRings 49 (.getfield 37) 3 52 := ⟨by decide +kernel, rfl⟩
theorem dX4_labelsOnRings_52 : Dc cX4_labelsOnRings 52 (.aload_n 0) 1 53 := ⟨by decide +kernel, rfl⟩
theorem dX4_labelsOnRings_53 : Dc cX4_labelsOnRings 53 (.getfield 9) 3 56 := ⟨by decide +kernel, rfl⟩
theorem dX4_labelsOnRings_56 : Dc cX4_labelsOnRings 56 (.iload_n 1) 1 57 := ⟨by decide +kernel, rfl⟩
theorem dX4_labelsOnRings_57 : Dc cX4_labelsOnRings 57 (.iaload) 1 58 := ⟨by decide +kernel, rfl⟩
theorem dX4_labelsOnRings_58 : Dc cX4_labelsOnRings 58 (.dup2) 1 59 := ⟨by decide +kernel, rfl⟩
theorem dX4_labelsOnRings_59 : Dc cX4_labelsOnRings 59 (.iaload) 1 60 := ⟨by decide +kernel, rfl⟩
theorem dX4_labelsOnRings_60 : Dc cX4_labelsOnRings 60 (.iconst 1) 1 61 := ⟨by decide +kernel, rfl⟩
theorem dX4_labelsOnRings_61 : Dc cX4_labelsOnRings 61 (.aload_n 0) 1 62 := ⟨by decide +kernel, rfl⟩
theorem dX4_labelsOnRings_62 : Dc cX4_labelsOnRings 62 (.getfield 15) 3 65 := ⟨by decide +kernel, rfl⟩
theorem dX4_labelsOnRings_65 : Dc cX4_labelsOnRings 65 (.iload_n 1) 1 66 := ⟨by decide +kernel, rfl⟩
theorem dX4_labelsOnRings_66 : Dc cX4_labelsOnRings 66 (.iaload) 1 67 := ⟨by decide +kernel, rfl⟩
theorem dX4_labelsOnRings_67 : Dc cX4_labelsOnRings 67 (.ishl) 1 68 := ⟨by decide +kernel, rfl⟩
theorem dX4_labelsOnRings_68 : Dc cX4_labelsOnRings 68 (.ior) 1 69 := ⟨by decide +kernel, rfl⟩
theorem dX4_labelsOnRings_69 : Dc cX4_labelsOnRings 69 (.iastore) 1 70 := ⟨by decide +kernel, rfl⟩
theorem dX4_labelsOnRings_70 : Dc cX4_labelsOnRings 70 (.iinc 1 1) 3 73 := ⟨by decide +kernel, rfl⟩
theorem djX4_labelsOnRings_73 : Dj cX4_labelsOnRings 73 (.goto (-50)) 3 76 (-50) 23 := ⟨by decide +kernel, rfl, by decide⟩
theorem dX4_labelsOnRings_76 : Dc cX4_labelsOnRings 76 (.iconst 0) 1 77 := ⟨by decide +kernel, rfl⟩
theorem dX4_labelsOnRings_77 : Dc cX4_labelsOnRings 77 (.istore_n 1) 1 78 := ⟨by decide +kernel, rfl⟩
theorem dX4_labelsOnRings_78 : Dc cX4_labelsOnRings 78 (.iload_n 1) 1 79 := ⟨by decide +kernel, rfl⟩
theorem dX4_labelsOnRings_79 : Dc cX4_labelsOnRings 79 (.bipush 12) 2 81 := ⟨by decide +kernel, rfl⟩
theorem djX4_labelsOnRings_81 : Dj cX4_labelsOnRings 81 (.if_icmp .ge 52) 3 84 52 133 := ⟨by decide +kernel, rfl, by decide⟩
theorem dX4_labelsOnRings_84 : Dc cX4_labelsOnRings 84 (.iconst 0) 1 85 := ⟨by decide +kernel, rfl⟩
theorem dX4_labelsOnRings_85 : Dc cX4_labelsOnRings 85 (.istore_n 2) 1 86 := ⟨by decide +kernel, rfl⟩
theorem dX4_labelsOnRings_86 : Dc cX4_labelsOnRings 86 (.iload_n 2) 1 87 := ⟨by decide +kernel, rfl⟩
theorem dX4_labelsOnRings_87 : Dc cX4_labelsOnRings 87 (.bipush 12) 2 89 := ⟨by decide +kernel, rfl⟩
theorem djX4_labelsOnRings_89 : Dj cX4_labelsOnRings 89 (.if_icmp .ge 38) 3 92 38 127 := ⟨by decide +kernel, rfl, by decide⟩
theorem dX4_labelsOnRings_92 : Dc cX4_labelsOnRings 92 (.aload_n 0) 1 93 := ⟨by decide +kernel, rfl⟩
theorem dX4_labelsOnRings_93 : Dc cX4_labelsOnRings 93 (.getfield 37) 3 96 := ⟨by decide +kernel, rfl⟩
theorem dX4_labelsOnRings_96 : Dc cX4_labelsOnRings 96 (.iload_n 2) 1 97 := ⟨by decide +kernel, rfl⟩
theorem dX4_labelsOnRings_97 : Dc cX4_labelsOnRings 97 (.iaload) 1 98 := ⟨by decide +kernel, rfl⟩
theorem dX4_labelsOnRings_98 : Dc cX4_labelsOnRings 98 (.iload_n 1) 1 99 := ⟨by decide +kernel, rfl⟩
theorem dX4_labelsOnRings_99 : Dc cX4_labelsOnRings 99 (.ishr) 1 100 := ⟨by decide +kernel, rfl⟩
theorem dX4_labelsOnRings_100 : Dc cX4_labelsOnRings 100 (.iconst 1) 1 101 := ⟨by decide +kernel, rfl⟩
theorem dX4_labelsOnRings_101 : Dc cX4_labelsOnRings 101 (.iand) 1 102 := ⟨by decide +kernel, rfl⟩
theorem dX4_labelsOnRings_102 : Dc cX4_labelsOnRings 102 (.iconst 1) 1 103 := ⟨by decide +kernel, rfl⟩
theorem djX4_labelsOnRings_103 : Dj cX4_labelsOnRings 103 (.if_icmp .ne 18) 3 106 18 121 := ⟨by decide +kernel, rfl, by decide⟩
theorem dX4_labelsOnRings_106 : Dc cX4_labelsOnRings 106 (.aload_n 0) 1 107 := ⟨by decide +kernel, rfl⟩
theorem dX4_labelsOnRings_107 : Dc cX4_labelsOnRings 107 (.getfield 37) 3 110 := ⟨by decide +kernel, rfl⟩
theorem dX4_labelsOnRings_110 : Dc cX4_labelsOnRings 110 (.iload_n 2) 1 111 := ⟨by decide +kernel, rfl⟩
theorem dX4_labelsOnRings_111 : Dc cX4_labelsOnRings 111 (.dup2) 1 112 := ⟨by decide +kernel, rfl⟩
theorem dX4_labelsOnRings_112 : Dc cX4_labelsOnRings 112 (.iaload) 1 113 := ⟨by decide +kernel, rfl⟩
theorem dX4_labelsOnRings_113 : Dc cX4_labelsOnRings 113 (.aload_n 0) 1 114 := ⟨by decide +kernel, rfl⟩
theorem dX4_labelsOnRings_114 : Dc cX4_labelsOnRings 114 (.getfield 37) 3 117 := ⟨by decide +kernel, rfl⟩
theorem dX4_labelsOnRings_117 : Dc cX4_labelsOnRings 117 (.iload_n 1) 1 118 := ⟨by decide +kernel, rfl⟩
theorem dX4_labelsOnRings_118 : Dc cX4_labelsOnRings 118 (.iaload) 1 119 := ⟨by decide +kernel, rfl⟩
theorem dX4_labelsOnRings_119 : Dc cX4_labelsOnRings 119 (.ior) 1 120 := ⟨by decide +kernel, rfl⟩
theorem dX4_labelsOnRings_120 : Dc cX4_labelsOnRings 120 (.iastore) 1 121 := ⟨by decide +kernel, rfl⟩
theorem dX4_labelsOnRings_121 : Dc cX4_labelsOnRings 121 (.iinc 2 1) 3 124 := ⟨by decide +kernel, rfl⟩
theorem djX4_labelsOnRings_124 : Dj cX4_labelsOnRings 124 (.goto (-38)) 3 127 (-38) 86 := ⟨by decide +kernel, rfl, by decide⟩
theorem dX4_labelsOnRings_127 : Dc cX4_labelsOnRings 127 (.iinc 1 1) 3 130 := ⟨by decide +kernel, rfl⟩
theorem djX4_labelsOnRings_130 : Dj cX4_labelsOnRings 130 (.goto (-52)) 3 133 (-52) 78 := ⟨by decide +kernel, rfl, by decide⟩
theorem dX4_labelsOnRings_133 : Dc cX4_labelsOnRings 133 (.iconst 0) 1 134 := ⟨by decide +kernel, rfl⟩
theorem dX4_labelsOnRings_134 : Dc cX4_labelsOnRings 134 (.istore_n 1) 1 135 := ⟨by decide +kernel, rfl⟩
theorem dX4_labelsOnRings_135 : Dc cX4_labelsOnRings 135 (.iconst 0) 1 136 := ⟨by decide +kernel, rfl⟩
theorem dX4_labelsOnRings_136 : Dc cX4_labelsOnRings 136 (.istore_n 2) 1 137 := ⟨by decide +kernel, rfl⟩
theorem dX4_labelsOnRings_137 : Dc cX4_labelsOnRings 137 (.iload_n 2) 1 138 := ⟨by decide +kernel, rfl⟩
theorem dX4_labelsOnRings_138 : Dc cX4_labelsOnRings 138 (.bipush 12) 2 140 := ⟨by decide +kernel, rfl⟩
theorem djX4_labelsOnRings_140 : Dj cX4_labelsOnRings 140 (.if_icmp .ge 22) 3 143 22 162 := ⟨by decide +kernel, rfl, by decide⟩
theorem dX4_labelsOnRings_143 : Dc cX4_labelsOnRings 143 (.iload_n 1) 1 144 := ⟨by decide +kernel, rfl⟩
theorem dX4_labelsOnRings_144 : Dc cX4_labelsOnRings 144 (.aload_n 0) 1 145 := ⟨by decide +kernel, rfl⟩
theorem dX4_labelsOnRings_145 : Dc cX4_labelsOnRings 145 (.getfield 37) 3 148 := ⟨by decide +kernel, rfl⟩
theorem dX4_labelsOnRings_148 : Dc cX4_labelsOnRings 148 (.iload_n 2) 1 149 := ⟨by decide +kernel, rfl⟩
theorem dX4_labelsOnRings_149 : Dc cX4_labelsOnRings 149 (.iaload) 1 150 := ⟨by decide +kernel, rfl⟩
theorem dX4_labelsOnRings_150 : Dc cX4_labelsOnRings 150 (.iconst 1) 1 151 := ⟨by decide +kernel, rfl⟩
theorem dX4_labelsOnRings_151 : Dc cX4_labelsOnRings 151 (.iload_n 2) 1 152 := ⟨by decide +kernel, rfl⟩
theorem dX4_labelsOnRings_152 : Dc cX4_labelsOnRings 152 (.ishl) 1 153 := ⟨by decide +kernel, rfl⟩
theorem dX4_labelsOnRings_153 : Dc cX4_labelsOnRings 153 (.iand) 1 154 := ⟨by decide +kernel, rfl⟩
theorem dX4_labelsOnRings_154 : Dc cX4_labelsOnRings 154 (.ior) 1 155 := ⟨by decide +kernel, rfl⟩
theorem dX4_labelsOnRings_155 : Dc cX4_labelsOnRings 155 (.istore_n 1) 1 156 := ⟨by decide +kernel, rfl⟩
theorem dX4_labelsOnRings_156 : Dc cX4_labelsOnRings 156 (.iinc 2 1) 3 159 := ⟨by decide +kernel, rfl⟩
theorem djX4_labelsOnRings_159 : Dj cX4_labelsOnRings 159 (.goto (-22)) 3 162 (-22) 137 := ⟨by decide +kernel, rfl, by decide⟩
theorem dX4_labelsOnRings_162 : Dc cX4_labelsOnRings 162 (.iload_n 1) 1 163 := ⟨by decide +kernel, rfl⟩
theorem dX4_labelsOnRings_163 : Dc cX4_labelsOnRings 163 (.ireturn) 1 164 := ⟨by decide +kernel, rfl⟩
section
variable {p : Program} {l : Launch} {e : Env} {s : State} {m : MethodId} {args : Array Value} {below : List Frame} {meth : Method} {c : Code} {A0 : Nat → Prop} {D : va_G} {cA : Nat → ClassId} {ad : Nat → Nat} {Z : (Nat → Nat) × (Nat → Nat)} {Q : Int → St → Prop} {b : Bool}
set_option maxHeartbeats 4000000 in
set_option maxRecDepth 100000 in
theorem t_X4_labelsOnRings_b70 (E : Ev p s m args meth c cX4_labelsOnRings 3 RX4 A0 D cA ad (NC b) Z) (hr : meth.sig.returnType = (some .int)) {K23 : Int → St → Prop} (hK23 : ∀ (x1 : Int) (σ : St), C32 x1 → CanS (shC b) (NC b) σ → K23 x1 σ → G p l e (rmL 2 0 0) s m args below meth c 3 A0 D cA ad (shC b) (NC b) 0 0 (MQ below (QIc D cA ad (shC b) (NC b) Q A0) args s 0 0 A0) σ 23 [some (.ref (ad 14)), some (vI x1), none] []) (x1 : Int) (σ : St) (c1 : C32 x1) (hσ : CanS (shC b) (NC b) σ) (h : wp_X4_labelsOnRings_b70 Q K23 x1 σ) : G p l e (rmL 2 0 0) s m args below meth c 3 A0 D cA ad (shC b) (NC b) 0 0 (MQ below (QIc D cA ad (shC b) (NC b) Q A0) args s 0 0 A0) σ 70 [some (.ref (ad 14)), some (vI x1), none] [] := by
  unfold wp_X4_labelsOnRings_b70 at h
  refine g_iinc_1 E rfl (by decide) dX4_labelsOnRings_70 (fun v6 ev6 => ?_)
  replace h := h v6 ev6
  have cv6 : C32 v6 := by rw [ev6]; exact c32_w _
  refine g_goto E djX4_labelsOnRings_73 ?_
  exact (hK23 v6 σ cv6 hσ h).weak (w_k (w_k (w_d w_n)))
set_option maxHeartbeats 4000000 in
set_option maxRecDepth 100000 in
theorem t_X4_labelsOnRings_b121 (E : Ev p s m args meth c cX4_labelsOnRings 3 RX4 A0 D cA ad (NC b) Z) (hr : meth.sig.returnType = (some .int)) {K78 : Int → St → Prop} (hK78 : ∀ (x1 : Int) (σ : St), C32 x1 → CanS (shC b) (NC b) σ → K78 x1 σ → G p l e (rmL 2 0 0) s m args below meth c 3 A0 D cA ad (shC b) (NC b) 0 0 (MQ below (QIc D cA ad (shC b) (NC b) Q A0) args s 0 0 A0) σ 78 [some (.ref (ad 14)), some (vI x1), none] []) {K86 : Int → Int → St → Prop} (hK86 : ∀ (x1 : Int) (x2 : Int) (σ : St), C32 x1 → C32 x2 → CanS (shC b) (NC b) σ → K86 x1 x2 σ → G p l e (rmL 2 0 0) s m args below meth c 3 A0 D cA ad (shC b) (NC b) 0 0 (MQ below (QIc D cA ad (shC b) (NC b) Q A0) args s 0 0 A0) σ 86 [some (.ref (ad 14)), some (vI x1), some (vI x2)] []) (x1 : Int) (x2 : Int) (σ : St) (c1 : C32 x1) (c2 : C32 x2) (hσ : CanS (shC b) (NC b) σ) (h : wp_X4_labelsOnRings_b121 Q K78 K86 x1 x2 σ) : G p l e (rmL 2 0 0) s m args below meth c 3 A0 D cA ad (shC b) (NC b) 0 0 (MQ below (QIc D cA ad (shC b) (NC b) Q A0) args s 0 0 A0) σ 121 [some (.ref (ad 14)), some (vI x1), some (vI x2)] [] := by
  unfold wp_X4_labelsOnRings_b121 at h
  refine g_iinc_2 E rfl (by decide) dX4_labelsOnRings_121 (fun v11 ev11 => ?_)
  replace h := h v11 ev11
  have cv11 : C32 v11 := by rw [ev11]; exact c32_w _
  refine g_goto E djX4_labelsOnRings_124 ?_
  exact (hK86 x1 v11 σ c1 cv11 hσ h).weak (w_k (w_k (w_k w_n)))
set_option maxHeartbeats 4000000 in
set_option maxRecDepth 100000 in
theorem t_X4_labelsOnRings_l86 (E : Ev p s m args meth c cX4_labelsOnRings 3 RX4 A0 D cA ad (NC b) Z) (hr : meth.sig.returnType = (some .int)) {K78 : Int → St → Prop} (hK78 : ∀ (x1 : Int) (σ : St), C32 x1 → CanS (shC b) (NC b) σ → K78 x1 σ → G p l e (rmL 2 0 0) s m args below meth c 3 A0 D cA ad (shC b) (NC b) 0 0 (MQ below (QIc D cA ad (shC b) (NC b) Q A0) args s 0 0 A0) σ 78 [some (.ref (ad 14)), some (vI x1), none] []) : ∀ (n : Nat) (x1 : Int) (x2 : Int) (σ : St), C32 x1 → C32 x2 → CanS (shC b) (NC b) σ → wp_X4_labelsOnRings_l86 Q K78 n x1 x2 σ → G p l e (rmL 2 0 0) s m args below meth c 3 A0 D cA ad (shC b) (NC b) 0 0 (MQ below (QIc D cA ad (shC b) (NC b) Q A0) args s 0 0 A0) σ 86 [some (.ref (ad 14)), some (vI x1), some (vI x2)] [] := by
  intro n
  induction n with
  | zero => intro _ _ _ _ _ _ h; exact h.elim
  | succ n ih =>
    intro x1 x2 σ c1 c2 hσ h
    unfold wp_X4_labelsOnRings_l86 at h
    refine g_iload_2 E dX4_labelsOnRings_86 ?_
    refine g_bipush E (by decide) dX4_labelsOnRings_87 ?_
    refine g_icmp_ge E c2 cl_12 djX4_labelsOnRings_89 (fun hc => ?_) (fun hc => ?_)
    · replace h := h.1 hc
      refine g_iinc_1 E rfl (by decide) dX4_labelsOnRings_127 (fun v9 ev9 => ?_)
      replace h := h v9 ev9
      have cv9 : C32 v9 := by rw [ev9]; exact c32_w _
      refine g_goto E djX4_labelsOnRings_130 ?_
      exact (hK78 v9 σ cv9 hσ h).weak (w_k (w_k (w_d w_n)))
    · replace h := h.2 hc
      refine g_aload_0 E dX4_labelsOnRings_92 ?_
      refine g_getR E fl_RX4_37 (kC_14 b) (sC_14 b) rfl dX4_labelsOnRings_93 ?_
      refine g_iload_2 E dX4_labelsOnRings_96 ?_
      refine g_iald E (kC_23 b) (sC_23 b) (by decide) h.1 dX4_labelsOnRings_97 ?_
      replace h := h.2
      refine g_iload_1 E dX4_labelsOnRings_98 ?_
      refine g_ishr E dX4_labelsOnRings_99 ?_
      refine g_iconst E dX4_labelsOnRings_100 ?_
      refine g_iand E dX4_labelsOnRings_101 ?_
      refine g_iconst E dX4_labelsOnRings_102 ?_
      refine g_icmp_ne E (c32_t _) cl_1 djX4_labelsOnRings_103 (fun hc => ?_) (fun hc => ?_)
      · replace h := h.1 hc
        exact (t_X4_labelsOnRings_b121 E hr hK78 ih x1 x2 σ c1 c2 hσ h).weak (w_k (w_k (w_k w_n)))
      · replace h := h.2 hc
        refine g_aload_0 E dX4_labelsOnRings_106 ?_
        refine g_getR E fl_RX4_37 (kC_14 b) (sC_14 b) rfl dX4_labelsOnRings_107 ?_
        refine g_iload_2 E dX4_labelsOnRings_110 ?_
        refine g_dup2 E rfl rfl dX4_labelsOnRings_111 ?_
        refine g_iald E (kC_23 b) (sC_23 b) (by decide) h.1 dX4_labelsOnRings_112 ?_
        replace h := h.2
        refine g_aload_0 E dX4_labelsOnRings_113 ?_
        refine g_getR E fl_RX4_37 (kC_14 b) (sC_14 b) rfl dX4_labelsOnRings_114 ?_
        refine g_iload_1 E dX4_labelsOnRings_117 ?_
        refine g_iald E (kC_23 b) (sC_23 b) (by decide) h.1 dX4_labelsOnRings_118 ?_
        replace h := h.2
        refine g_ior E dX4_labelsOnRings_119 ?_
        refine g_iast E (kC_23 b) (sC_23 b) (by decide) h.1 dX4_labelsOnRings_120 (g_nmS (fun σ10 eσ10 => ?_))
        replace h := h.2 σ10 eσ10
        have hσ10 : CanS (shC b) (NC b) σ10 := by rw [eσ10]; exact wC_23 hσ (c32_t _)
        exact (t_X4_labelsOnRings_b121 E hr hK78 ih x1 x2 σ10 c1 c2 hσ10 h).weak (w_k (w_k (w_k w_n)))
set_option maxHeartbeats 4000000 in
set_option maxRecDepth 100000 in
theorem t_X4_labelsOnRings_l137 (E : Ev p s m args meth c cX4_labelsOnRings 3 RX4 A0 D cA ad (NC b) Z) (hr : meth.sig.returnType = (some .int)) : ∀ (n : Nat) (x1 : Int) (x2 : Int) (σ : St), C32 x1 → C32 x2 → CanS (shC b) (NC b) σ → wp_X4_labelsOnRings_l137 Q n x1 x2 σ → G p l e (rmL 2 0 0) s m args below meth c 3 A0 D cA ad (shC b) (NC b) 0 0 (MQ below (QIc D cA ad (shC b) (NC b) Q A0) args s 0 0 A0) σ 137 [some (.ref (ad 14)), some (vI x1), some (vI x2)] [] := by
  intro n
  induction n with
  | zero => intro _ _ _ _ _ _ h; exact h.elim
  | succ n ih =>
    intro x1 x2 σ c1 c2 hσ h
    unfold wp_X4_labelsOnRings_l137 at h
    refine g_iload_2 E dX4_labelsOnRings_137 ?_
    refine g_bipush E (by decide) dX4_labelsOnRings_138 ?_
    refine g_icmp_ge E c2 cl_12 djX4_labelsOnRings_140 (fun hc => ?_) (fun hc => ?_)
    · replace h := h.1 hc
      refine g_iload_1 E dX4_labelsOnRings_162 ?_
      exact g_iret E hr c1 h hσ dX4_labelsOnRings_163
    · replace h := h.2 hc
      refine g_iload_1 E dX4_labelsOnRings_143 ?_
      refine g_aload_0 E dX4_labelsOnRings_144 ?_
      refine g_getR E fl_RX4_37 (kC_14 b) (sC_14 b) rfl dX4_labelsOnRings_145 ?_
      refine g_iload_2 E dX4_labelsOnRings_148 ?_
      refine g_iald E (kC_23 b) (sC_23 b) (by decide) h.1 dX4_labelsOnRings_149 ?_
      replace h := h.2
      refine g_iconst E dX4_labelsOnRings_150 ?_
      refine g_iload_2 E dX4_labelsOnRings_151 ?_
      refine g_ishl E dX4_labelsOnRings_152 ?_
      refine g_iand E dX4_labelsOnRings_153 ?_
      refine g_ior E dX4_labelsOnRings_154 ?_
      refine g_nmI (fun v7 ev7 => ?_)
      replace h := h v7 ev7
      have cv7 : C32 v7 := by rw [ev7]; exact (c32_t _)
      refine g_istore_1 E rfl (by decide) dX4_labelsOnRings_155 ?_
      refine g_iinc_2 E rfl (by decide) dX4_labelsOnRings_156 (fun v8 ev8 => ?_)
      replace h := h v8 ev8
      have cv8 : C32 v8 := by rw [ev8]; exact c32_w _
      refine g_goto E djX4_labelsOnRings_159 ?_
      exact (ih v7 v8 σ cv7 cv8 hσ h).weak (w_k (w_k (w_k w_n)))
set_option maxHeartbeats 4000000 in
set_option maxRecDepth 100000 in
theorem t_X4_labelsOnRings_l78 (E : Ev p s m args meth c cX4_labelsOnRings 3 RX4 A0 D cA ad (NC b) Z) (hr : meth.sig.returnType = (some .int)) : ∀ (n : Nat) (x1 : Int) (σ : St), C32 x1 → CanS (shC b) (NC b) σ → wp_X4_labelsOnRings_l78 Q n x1 σ → G p l e (rmL 2 0 0) s m args below meth c 3 A0 D cA ad (shC b) (NC b) 0 0 (MQ below (QIc D cA ad (shC b) (NC b) Q A0) args s 0 0 A0) σ 78 [some (.ref (ad 14)), some (vI x1), none] [] := by
  intro n
  induction n with
  | zero => intro _ _ _ _ h; exact h.elim
  | succ n ih =>
    intro x1 σ c1 hσ h
    unfold wp_X4_labelsOnRings_l78 at h
    refine g_iload_1 E dX4_labelsOnRings_78 ?_
    refine g_bipush E (by decide) dX4_labelsOnRings_79 ?_
    refine g_icmp_ge E c1 cl_12 djX4_labelsOnRings_81 (fun hc => ?_) (fun hc => ?_)
    · replace h := h.1 hc
      refine g_iconst E dX4_labelsOnRings_133 ?_
      refine g_istore_1 E rfl (by decide) dX4_labelsOnRings_134 ?_
      refine g_iconst E dX4_labelsOnRings_135 ?_
      refine g_istore_2 E rfl (by decide) dX4_labelsOnRings_136 ?_
      exact (t_X4_labelsOnRings_l137 E hr bigN 0 0 σ cl_0 cl_0 hσ h).weak (w_k (w_k (w_k w_n)))
    · replace h := h.2 hc
      refine g_iconst E dX4_labelsOnRings_84 ?_
      refine g_istore_2 E rfl (by decide) dX4_labelsOnRings_85 ?_
      exact (t_X4_labelsOnRings_l86 E hr ih bigN x1 0 σ c1 cl_0 hσ h).weak (w_k (w_k (w_k w_n)))
set_option maxHeartbeats 4000000 in
set_option maxRecDepth 100000 in
theorem t_X4_labelsOnRings_l23 (E : Ev p s m args meth c cX4_labelsOnRings 3 RX4 A0 D cA ad (NC b) Z) (hr : meth.sig.returnType = (some .int)) : ∀ (n : Nat) (x1 : Int) (σ : St), C32 x1 → CanS (shC b) (NC b) σ → wp_X4_labelsOnRings_l23 Q n x1 σ → G p l e (rmL 2 0 0) s m args below meth c 3 A0 D cA ad (shC b) (NC b) 0 0 (MQ below (QIc D cA ad (shC b) (NC b) Q A0) args s 0 0 A0) σ 23 [some (.ref (ad 14)), some (vI x1), none] [] := by
  intro n
  induction n with
  | zero => intro _ _ _ _ h; exact h.elim
  | succ n ih =>
    intro x1 σ c1 hσ h
    unfold wp_X4_labelsOnRings_l23 at h
    refine g_iload_1 E dX4_labelsOnRings_23 ?_
    refine g_aload_0 E dX4_labelsOnRings_24 ?_
    refine g_getI E fl_RX4_43 (kC_14 b) (sC_14 b) rfl dX4_labelsOnRings_25 ?_
    refine g_icmp_ge E c1 (fC_14_0 hσ) djX4_labelsOnRings_28 (fun hc => ?_) (fun hc => ?_)
    · replace h := h.1 hc
      refine g_iconst E dX4_labelsOnRings_76 ?_
      refine g_istore_1 E rfl (by decide) dX4_labelsOnRings_77 ?_
      exact (t_X4_labelsOnRings_l78 E hr bigN 0 σ cl_0 hσ h).weak (w_k (w_k (w_d w_n)))
    · replace h := h.2 hc
      refine g_aload_0 E dX4_labelsOnRings_31 ?_
      refine g_getR E fl_RX4_27 (kC_14 b) (sC_14 b) rfl dX4_labelsOnRings_32 ?_
      refine g_iload_1 E dX4_labelsOnRings_35 ?_
      refine g_zald E (kC_20 b) (sC_20 b) (by decide) h.1 dX4_labelsOnRings_36 ?_
      replace h := h.2
      refine g_if_ne E (aC_20 hσ _) djX4_labelsOnRings_37 (fun hc => ?_) (fun hc => ?_)
      · replace h := h.1 hc
        exact (t_X4_labelsOnRings_b70 E hr ih x1 σ c1 hσ h).weak (w_k (w_k (w_d w_n)))
      · replace h := h.2 hc
        refine g_aload_0 E dX4_labelsOnRings_40 ?_
        refine g_iload_1 E dX4_labelsOnRings_41 ?_
        refine g_callvI E my_X4_isUnary mi_X4_isUnary msel_X4_isUnary ml_RX4_56 (rm_ok (by decide) (by decide)) ⟨Nat.zero_le _, Nat.zero_le _⟩ (kC_14 b) (sC_14 b) rfl (m_X4_isUnary E.2.2.1 c1 hσ h) rfl rfl (Nat.le_of_ble_eq_true rfl) dX4_labelsOnRings_42 (fun r3 σ4 cr3 hσ4 h => ?_)
        refine g_if_eq E cr3 djX4_labelsOnRings_45 (fun hc => ?_) (fun hc => ?_)
        · replace h := h.1 hc
          exact (t_X4_labelsOnRings_b70 E hr ih x1 σ4 c1 hσ4 h).weak (w_k (w_k (w_d w_n)))
        · replace h := h.2 hc
          refine g_aload_0 E dX4_labelsOnRings_48 ?_
          refine g_getR E fl_RX4_37 (kC_14 b) (sC_14 b) rfl dX4_labelsOnRings_49 ?_
          refine g_aload_0 E dX4_labelsOnRings_52 ?_
          refine g_getR E fl_RX4_9 (kC_14 b) (sC_14 b) rfl dX4_labelsOnRings_53 ?_
          refine g_iload_1 E dX4_labelsOnRings_56 ?_
          refine g_iald E (kC_15 b) (sC_15 b) (by decide) h.1 dX4_labelsOnRings_57 ?_
          replace h := h.2
          refine g_dup2 E rfl rfl dX4_labelsOnRings_58 ?_
          refine g_iald E (kC_23 b) (sC_23 b) (by decide) h.1 dX4_labelsOnRings_59 ?_
          replace h := h.2
          refine g_iconst E dX4_labelsOnRings_60 ?_
          refine g_aload_0 E dX4_labelsOnRings_61 ?_
          refine g_getR E fl_RX4_15 (kC_14 b) (sC_14 b) rfl dX4_labelsOnRings_62 ?_
          refine g_iload_1 E dX4_labelsOnRings_65 ?_
          refine g_iald E (kC_16 b) (sC_16 b) (by decide) h.1 dX4_labelsOnRings_66 ?_
          replace h := h.2
          refine g_ishl E dX4_labelsOnRings_67 ?_
          refine g_ior E dX4_labelsOnRings_68 ?_
          refine g_iast E (kC_23 b) (sC_23 b) (by decide) h.1 dX4_labelsOnRings_69 (g_nmS (fun σ5 eσ5 => ?_))
          replace h := h.2 σ5 eσ5
          have hσ5 : CanS (shC b) (NC b) σ5 := by rw [eσ5]; exact wC_23 hσ4 (c32_t _)
          exact (t_X4_labelsOnRings_b70 E hr ih x1 σ5 c1 hσ5 h).weak (w_k (w_k (w_d w_n)))
set_option maxHeartbeats 4000000 in
set_option maxRecDepth 100000 in
theorem t_X4_labelsOnRings_l2 (E : Ev p s m args meth c cX4_labelsOnRings 3 RX4 A0 D cA ad (NC b) Z) (hr : meth.sig.returnType = (some .int)) : ∀ (n : Nat) (x1 : Int) (σ : St), C32 x1 → CanS (shC b) (NC b) σ → wp_X4_labelsOnRings_l2 Q n x1 σ → G p l e (rmL 2 0 0) s m args below meth c 3 A0 D cA ad (shC b) (NC b) 0 0 (MQ below (QIc D cA ad (shC b) (NC b) Q A0) args s 0 0 A0) σ 2 [some (.ref (ad 14)), some (vI x1), none] [] := by
  intro n
  induction n with
  | zero => intro _ _ _ _ h; exact h.elim
  | succ n ih =>
    intro x1 σ c1 hσ h
    unfold wp_X4_labelsOnRings_l2 at h
    refine g_iload_1 E dX4_labelsOnRings_2 ?_
    refine g_bipush E (by decide) dX4_labelsOnRings_3 ?_
    refine g_icmp_ge E c1 cl_12 djX4_labelsOnRings_5 (fun hc => ?_) (fun hc => ?_)
    · replace h := h.1 hc
      refine g_iconst E dX4_labelsOnRings_21 ?_
      refine g_istore_1 E rfl (by decide) dX4_labelsOnRings_22 ?_
      exact (t_X4_labelsOnRings_l23 E hr bigN 0 σ cl_0 hσ h).weak (w_k (w_k (w_d w_n)))
    · replace h := h.2 hc
      refine g_aload_0 E dX4_labelsOnRings_8 ?_
      refine g_getR E fl_RX4_37 (kC_14 b) (sC_14 b) rfl dX4_labelsOnRings_9 ?_
      refine g_iload_1 E dX4_labelsOnRings_12 ?_
      refine g_iconst E dX4_labelsOnRings_13 ?_
      refine g_iast E (kC_23 b) (sC_23 b) (by decide) h.1 dX4_labelsOnRings_14 (g_nmS (fun σ1 eσ1 => ?_))
      replace h := h.2 σ1 eσ1
      have hσ1 : CanS (shC b) (NC b) σ1 := by rw [eσ1]; exact wC_23 hσ cl_0
      refine g_iinc_1 E rfl (by decide) dX4_labelsOnRings_15 (fun v2 ev2 => ?_)
      replace h := h v2 ev2
      have cv2 : C32 v2 := by rw [ev2]; exact c32_w _
      refine g_goto E djX4_labelsOnRings_18 ?_
      exact (ih v2 σ1 cv2 hσ1 h).weak (w_k (w_k (w_d w_n)))
set_option maxHeartbeats 4000000 in
set_option maxRecDepth 100000 in
theorem t_X4_labelsOnRings (E : Ev p s m args meth c cX4_labelsOnRings 3 RX4 A0 D cA ad (NC b) Z) (hr : meth.sig.returnType = (some .int)) (σ : St) (hσ : CanS (shC b) (NC b) σ) (h : wp_X4_labelsOnRings  σ Q) : G p l e (rmL 2 0 0) s m args below meth c 3 A0 D cA ad (shC b) (NC b) 0 0 (MQ below (QIc D cA ad (shC b) (NC b) Q A0) args s 0 0 A0) σ 0 [some (.ref (ad 14)), none, none] [] := by
  unfold wp_X4_labelsOnRings at h
  refine g_iconst E dX4_labelsOnRings_0 ?_
  refine g_istore_1 E rfl (by decide) dX4_labelsOnRings_1 ?_
  exact (t_X4_labelsOnRings_l2 E hr bigN 0 σ cl_0 hσ h).weak (w_k (w_k (w_d w_n)))
end
theorem m_X4_labelsOnRings {Z : (Nat → Nat) × (Nat → Nat)} {l : Launch} {D : va_G} {cA : Nat → ClassId} {ad : Nat → Nat} {b : Bool} {σ : St} {Q : Int → St → Prop} (hA : AdOk (NC b) ad) (hσ : CanS (shC b) (NC b) σ) (h : wp_X4_labelsOnRings  σ Q) : KtI Z l D cA ad (shC b) (NC b) yX4_labelsOnRings cX4_labelsOnRings 3 (some .int) 2 [.ref (ad 14)] σ Q :=
  KtI.of my_X4_labelsOnRings hA [some (.ref (ad 14)), none, none] (Nat.le_of_ble_eq_true rfl) rfl (fun p e s m args below meth c A0 E hr => t_X4_labelsOnRings E hr σ hσ h)
theorem dX11_rings_0 : Dc cX11_rings 0 (.aload_n 0) 1 1 := ⟨by decide +kernel, rfl⟩
theorem dX11_rings_1 : Dc cX11_rings 1 (.getfield 28) 3 4 := ⟨by decide +kernel, rfl⟩
theorem dX11_rings_4 : Dc cX11_rings 4 (.invokevirtual 345) 3 7 := ⟨by decide +kernel, rfl⟩
theorem dX11_rings_7 : Dc cX11_rings 7 (.ireturn) 1 8 := ⟨by decide +kernel, rfl⟩
section
variable {p : Program} {l : Launch} {e : Env} {s : State} {m : MethodId} {args : Array Value} {below : List Frame} {meth : Method} {c : Code} {A0 : Nat → Prop} {D : va_G} {cA : Nat → ClassId} {ad : Nat → Nat} {Z : (Nat → Nat) × (Nat → Nat)} {Q : Int → St → Prop} {b : Bool}
set_option maxHeartbeats 4000000 in
set_option maxRecDepth 100000 in
theorem t_X11_rings (E : Ev p s m args meth c cX11_rings 1 RX11 A0 D cA ad (NC b) Z) (hr : meth.sig.returnType = (some .int)) (σ : St) (hσ : CanS (shC b) (NC b) σ) (h : wp_X11_rings  σ Q) : G p l e (rmL 3 0 0) s m args below meth c 1 A0 D cA ad (shC b) (NC b) 0 0 (MQ below (QIc D cA ad (shC b) (NC b) Q A0) args s 0 0 A0) σ 0 [some (.ref (ad 0))] [] := by
  unfold wp_X11_rings at h
  refine g_aload_0 E dX11_rings_0 ?_
  refine g_getR E fl_RX11_28 (kC_0 b) (sC_0 b) rfl dX11_rings_1 ?_
  refine g_callvI E my_X4_labelsOnRings mi_X4_labelsOnRings msel_X4_labelsOnRings ml_RX11_345 (rm_ok (by decide) (by decide)) ⟨Nat.zero_le _, Nat.zero_le _⟩ (kC_14 b) (sC_14 b) rfl (m_X4_labelsOnRings E.2.2.1 hσ h) rfl rfl (Nat.le_of_ble_eq_true rfl) dX11_rings_4 (fun r1 σ2 cr1 hσ2 h => ?_)
  exact g_iret E hr cr1 h hσ2 dX11_rings_7
end
theorem m_X11_rings {Z : (Nat → Nat) × (Nat → Nat)} {l : Launch} {D : va_G} {cA : Nat → ClassId} {ad : Nat → Nat} {b : Bool} {σ : St} {Q : Int → St → Prop} (hA : AdOk (NC b) ad) (hσ : CanS (shC b) (NC b) σ) (h : wp_X11_rings  σ Q) : KtI Z l D cA ad (shC b) (NC b) yX11_rings cX11_rings 1 (some .int) 3 [.ref (ad 0)] σ Q :=
  KtI.of my_X11_rings hA [some (.ref (ad 0))] (Nat.le_of_ble_eq_true rfl) rfl (fun p e s m args below meth c A0 E hr => t_X11_rings E hr σ hσ h)
