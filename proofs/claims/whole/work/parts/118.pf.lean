theorem dX12_laysTwoBest_0 : Dc cX12_laysTwoBest 0 (.iload_n 2) 1 1 := ⟨by decide +kernel, rfl⟩
theorem dX12_laysTwoBest_1 : Dc cX12_laysTwoBest 1 (.iconst 1) 1 2 := ⟨by decide +kernel, rfl⟩
theorem dX12_laysTwoBest_2 : Dc cX12_laysTwoBest 2 (.iadd) 1 3 := ⟨by decide +kernel, rfl⟩
theorem dX12_laysTwoBest_3 : Dc cX12_laysTwoBest 3 (.istore 4) 2 5 := ⟨by decide +kernel, rfl⟩
theorem dX12_laysTwoBest_5 : Dc cX12_laysTwoBest 5 (.iload 4) 2 7 := ⟨by decide +kernel, rfl⟩
theorem dX12_laysTwoBest_7 : Dc cX12_laysTwoBest 7 (.iload_n 3) 1 8 := ⟨by decide +kernel, rfl⟩
theorem djX12_laysTwoBest_8 : Dj cX12_laysTwoBest 8 (.if_icmp .ge 114) 3 11 114 122 := ⟨by decide +kernel, rfl, by decide⟩
theorem dX12_laysTwoBest_11 : Dc cX12_laysTwoBest 11 (.aload_n 0) 1 12 := ⟨by decide +kernel, rfl⟩
theorem dX12_laysTwoBest_12 : Dc cX12_laysTwoBest 12 (.aload_n 0) 1 13 := ⟨by decide +kernel, rfl⟩
theorem dX12_laysTwoBest_13 : Dc cX12_laysTwoBest 13 (.getfield 17) 3 16 := ⟨by decide +kernel, rfl⟩
theorem dX12_laysTwoBest_16 : Dc cX12_laysTwoBest 16 (.iload_n 1) 1 17 := ⟨by decide +kernel, rfl⟩
theorem dX12_laysTwoBest_17 : Dc cX12_laysTwoBest 17 (.iaload) 1 18 := ⟨by decide +kernel, rfl⟩
theorem dX12_laysTwoBest_18 : Dc cX12_laysTwoBest 18 (.iload_n 2) 1 19 := ⟨by decide +kernel, rfl⟩
theorem dX12_laysTwoBest_19 : Dc cX12_laysTwoBest 19 (.iload 4) 2 21 := ⟨by decide +kernel, rfl⟩
theorem dX12_laysTwoBest_21 : Dc cX12_laysTwoBest 21 (.invokevirtual 504) 3 24 := ⟨by decide +kernel, rfl⟩
theorem dX12_laysTwoBest_24 : Dc cX12_laysTwoBest 24 (.istore 5) 2 26 := ⟨by decide +kernel, rfl⟩
theorem dX12_laysTwoBest_26 : Dc cX12_laysTwoBest 26 (.aload_n 0) 1 27 := ⟨by decide +kernel, rfl⟩
theorem dX12_laysTwoBest_27 : Dc cX12_laysTwoBest 27 (.aload_n 0) 1 28 := ⟨by decide +kernel, rfl⟩
theorem dX12_laysTwoBest_28 : Dc cX12_laysTwoBest 28 (.getfield 20) 3 31 := ⟨by decide +kernel, rfl⟩
theorem dX12_laysTwoBest_31 : Dc cX12_laysTwoBest 31 (.iload_n 1) 1 32 := ⟨by decide +kernel, rfl⟩
theorem dX12_laysTwoBest_32 : Dc cX12_laysTwoBest 32 (.iaload) 1 33 := ⟨by decide +kernel, rfl⟩
theorem dX12_laysTwoBest_33 : Dc cX12_laysTwoBest 33 (.iload 4) 2 35 := ⟨by decide +kernel, rfl⟩
theorem dX12_laysTwoBest_35 : Dc cX12_laysTwoBest 35 (.iload_n 3) 1 36 := ⟨by decide +kernel, rfl⟩
theorem dX12_laysTwoBest_36 : Dc cX12_laysTwoBest 36 (.invokevirtual 504) 3 39 := ⟨by decide +kernel, rfl⟩
theorem dX12_laysTwoBest_39 : Dc cX12_laysTwoBest 39 (.istore 6) 2 41 := ⟨by decide +kernel, rfl⟩
theorem dX12_laysTwoBest_41 : Dc cX12_laysTwoBest 41 (.iconst 0) 1 42 := ⟨by decide +kernel, rfl⟩
theorem dX12_laysTwoBest_42 : Dc cX12_laysTwoBest 42 (.istore 7) 2 44 := ⟨by decide +kernel, rfl⟩
theorem dX12_laysTwoBest_44 : Dc cX12_laysTwoBest 44 (.iload 7) 2 46 := ⟨by decide +kernel, rfl⟩
theorem dX12_laysTwoBest_46 : Dc cX12_laysTwoBest 46 (.iload 5) 2 48 := ⟨by decide +kernel, rfl⟩
theorem djX12_laysTwoBest_48 : Dj cX12_laysTwoBest 48 (.if_icmp .ge 68) 3 51 68 116 := ⟨by decide +kernel, rfl, by decide⟩
theorem dX12_laysTwoBest_51 : Dc cX12_laysTwoBest 51 (.iconst 0) 1 52 := ⟨by decide +kernel, rfl⟩
theorem dX12_laysTwoBest_52 : Dc cX12_laysTwoBest 52 (.istore 8) 2 54 := ⟨by decide +kernel, rfl⟩
theorem dX12_laysTwoBest_54 : Dc cX12_laysTwoBest 54 (.iload 8) 2 56 := ⟨by decide +kernel, rfl⟩
theorem dX12_laysTwoBest_56 : Dc cX12_laysTwoBest 56 (.iload 6) 2 58 := ⟨by decide +kernel, rfl⟩
theorem djX12_laysTwoBest_58 : Dj cX12_laysTwoBest 58 (.if_icmp .ge 52) 3 61 52 110 := ⟨by decide +kernel, rfl, by decide⟩
theorem dX12_laysTwoBest_61 : Dc cX12_laysTwoBest 61 (.aload_n 0) 1 62 := ⟨by decide +kernel, rfl⟩
theorem dX12_laysTwoBest_62 : Dc cX12_laysTwoBest 62 (.aload_n 0) 1 63 := ⟨by decide +kernel, rfl⟩
theorem dX12_laysTwoBest_63 : Dc cX12_laysTwoBest 63 (.iload_n 1) 1 64 := ⟨by decide +kernel, rfl⟩
theorem dX12_laysTwoBest_64 : Dc cX12_laysTwoBest 64 (.iload_n 2) 1 65 := ⟨by decide +kernel, rfl⟩
theorem dX12_laysTwoBest_65 : Dc cX12_laysTwoBest 65 (.iload 4) 2 67 := ⟨by decide +kernel, rfl⟩
theorem dX12_laysTwoBest_67 : Dc cX12_laysTwoBest 67 (.iload_n 3) 1 68 := ⟨by decide +kernel, rfl⟩
theorem dX12_laysTwoBest_68 : Dc cX12_laysTwoBest 68 (.aload_n 0) 1 69 := ⟨by decide +kernel, rfl⟩
theorem dX12_laysTwoBest_69 : Dc cX12_laysTwoBest 69 (.aload_n 0) 1 70 := ⟨by decide +kernel, rfl⟩
theorem dX12_laysTwoBest_70 : Dc cX12_laysTwoBest 70 (.getfield 17) 3 73 := ⟨by decide +kernel, rfl⟩
theorem dX12_laysTwoBest_73 : Dc cX12_laysTwoBest 73 (.iload_n 1) 1 74 := ⟨by decide +kernel, rfl⟩
theorem dX12_laysTwoBest_74 : Dc cX12_laysTwoBest 74 (.iaload) 1 75 := ⟨by decide +kernel, rfl⟩
theorem dX12_laysTwoBest_75 : Dc cX12_laysTwoBest 75 (.iload_n 2) 1 76 := ⟨by decide +kernel, rfl⟩
theorem dX12_laysTwoBest_76 : Dc cX12_laysTwoBest 76 (.iload 4) 2 78 := ⟨by decide +kernel, rfl⟩
theorem dX12_laysTwoBest_78 : Dc cX12_laysTwoBest 78 (.iload 7) 2 80 := ⟨by decide +kernel, rfl⟩
theorem dX12_laysTwoBest_80 : Dc cX12_laysTwoBest 80 (.invokevirtual 507) 3 83 := ⟨by decide +kernel, rfl⟩
theorem dX12_laysTwoBest_83 : Dc cX12_laysTwoBest 83 (.aload_n 0) 1 84 := ⟨by decide +kernel, rfl⟩
theorem dX12_laysTwoBest_84 : Dc cX12_laysTwoBest 84 (.aload_n 0) 1 85 := ⟨by decide +kernel, rfl⟩
theorem dX12_laysTwoBest_85 : Dc cX12_laysTwoBest 85 (.getfield 20) 3 88 := ⟨by decide +kernel, rfl⟩
theorem dX12_laysTwoBest_88 : Dc cX12_laysTwoBest 88 (.iload_n 1) 1 89 := ⟨by decide +kernel, rfl⟩
theorem dX12_laysTwoBest_89 : Dc cX12_laysTwoBest 89 (.iaload) 1 90 := ⟨by decide +kernel, rfl⟩
theorem dX12_laysTwoBest_90 : Dc cX12_laysTwoBest 90 (.iload 4) 2 92 := ⟨by decide +kernel, rfl⟩
theorem dX12_laysTwoBest_92 : Dc cX12_laysTwoBest 92 (.iload_n 3) 1 93 := ⟨by decide +kernel, rfl⟩
theorem dX12_laysTwoBest_93 : Dc cX12_laysTwoBest 93 (.iload 8) 2 95 := ⟨by decide +kernel, rfl⟩
theorem dX12_laysTwoBest_95 : Dc cX12_laysTwoBest 95 (.invokevirtual 507) 3 98 := ⟨by decide +kernel, rfl⟩
theorem dX12_laysTwoBest_98 : Dc cX12_laysTwoBest 98 (.invokevirtual 511) 3 101 := ⟨by decide +kernel, rfl⟩
theorem dX12_laysTwoBest_101 : Dc cX12_laysTwoBest 101 (.invokevirtual 515) 3 104 := ⟨by decide +kernel, rfl⟩
theorem dX12_laysTwoBest_104 : Dc cX12_laysTwoBest 104 (.iinc 8 1) 3 107 := ⟨by decide +kernel, rfl⟩
theorem djX12_laysTwoBest_107 : Dj cX12_laysTwoBest 107 (.goto (-53)) 3 110 (-53) 54 := ⟨by decide +kernel, rfl, by decide⟩
theorem dX12_laysTwoBest_110 : Dc cX12_laysTwoBest 110 (.iinc 7 1) 3 113 := ⟨by decide +kernel, rfl⟩
theorem djX12_laysTwoBest_113 : Dj cX12_laysTwoBest 113 (.goto (-69)) 3 116 (-69) 44 := ⟨by decide +kernel, rfl, by decide⟩
theorem dX12_laysTwoBest_116 : Dc cX12_laysTwoBest 116 (.iinc 4 1) 3 119 := ⟨by decide +kernel, rfl⟩
theorem djX12_laysTwoBest_119 : Dj cX12_laysTwoBest 119 (.goto (-114)) 3 122 (-114) 5 := ⟨by decide +kernel, rfl, by decide⟩
theorem dX12_laysTwoBest_122 : Dc cX12_laysTwoBest 122 (.return_) 1 123 := ⟨by decide +kernel, rfl⟩
section
variable {p : Program} {l : Launch} {e : Env} {s : State} {m : MethodId} {args : Array Value} {below : List Frame} {meth : Method} {c : Code} {A0 : Nat → Prop} {D : va_G} {cA : Nat → ClassId} {ad : Nat → Nat} {Z : (Nat → Nat) × (Nat → Nat)} {Q : Int → St → Prop}
set_option maxHeartbeats 4000000 in
set_option maxRecDepth 100000 in
theorem t_X12_laysTwoBest_l54 (E : Ev p s m args meth c cX12_laysTwoBest 9 RX12 A0 D cA ad NR Z) (hr : meth.sig.returnType = none) {K5 : Int → Int → Int → Int → St → Prop} (hK5 : ∀ (x1 : Int) (x2 : Int) (x3 : Int) (x4 : Int) (σ : St), C32 x1 → C32 x2 → C32 x3 → C32 x4 → CanS shR NR σ → K5 x1 x2 x3 x4 σ → G p l e (rmL 804 0 0) s m args below meth c 9 A0 D cA ad shR NR 0 0 (MQ below (QVc D cA ad shR NR Q A0) args s 0 0 A0) σ 5 [some (.ref (ad 0)), some (vI x1), some (vI x2), some (vI x3), some (vI x4), none, none, none, none] []) {K44 : Int → Int → Int → Int → Int → Int → Int → St → Prop} (hK44 : ∀ (x1 : Int) (x2 : Int) (x3 : Int) (x4 : Int) (x5 : Int) (x6 : Int) (x7 : Int) (σ : St), C32 x1 → C32 x2 → C32 x3 → C32 x4 → C32 x5 → C32 x6 → C32 x7 → CanS shR NR σ → K44 x1 x2 x3 x4 x5 x6 x7 σ → G p l e (rmL 804 0 0) s m args below meth c 9 A0 D cA ad shR NR 0 0 (MQ below (QVc D cA ad shR NR Q A0) args s 0 0 A0) σ 44 [some (.ref (ad 0)), some (vI x1), some (vI x2), some (vI x3), some (vI x4), some (vI x5), some (vI x6), some (vI x7), none] []) : ∀ (n : Nat) (x1 : Int) (x2 : Int) (x3 : Int) (x4 : Int) (x5 : Int) (x6 : Int) (x7 : Int) (x8 : Int) (σ : St), C32 x1 → C32 x2 → C32 x3 → C32 x4 → C32 x5 → C32 x6 → C32 x7 → C32 x8 → CanS shR NR σ → wp_X12_laysTwoBest_l54 Q K5 K44 n x1 x2 x3 x4 x5 x6 x7 x8 σ → G p l e (rmL 804 0 0) s m args below meth c 9 A0 D cA ad shR NR 0 0 (MQ below (QVc D cA ad shR NR Q A0) args s 0 0 A0) σ 54 [some (.ref (ad 0)), some (vI x1), some (vI x2), some (vI x3), some (vI x4), some (vI x5), some (vI x6), some (vI x7), some (vI x8)] [] := by
  intro n
  induction n with
  | zero => intro _ _ _ _ _ _ _ _ _ _ _ _ _ _ _ _ _ _ h; exact h.elim
  | succ n ih =>
    intro x1 x2 x3 x4 x5 x6 x7 x8 σ c1 c2 c3 c4 c5 c6 c7 c8 hσ h
    unfold wp_X12_laysTwoBest_l54 at h
    refine g_iload_8 E dX12_laysTwoBest_54 ?_
    refine g_iload_6 E dX12_laysTwoBest_56 ?_
    refine g_icmp_ge E c8 c6 djX12_laysTwoBest_58 (fun hc => ?_) (fun hc => ?_)
    · replace h := h.1 hc
      refine g_iinc_7 E rfl (by decide) dX12_laysTwoBest_110 (fun v7 ev7 => ?_)
      replace h := h v7 ev7
      have cv7 : C32 v7 := by rw [ev7]; exact c32_w _
      refine g_goto E djX12_laysTwoBest_113 ?_
      exact (hK44 x1 x2 x3 x4 x5 x6 v7 σ c1 c2 c3 c4 c5 c6 cv7 hσ h).weak (w_k (w_k (w_k (w_k (w_k (w_k (w_k (w_k (w_d w_n)))))))))
    · replace h := h.2 hc
      refine g_aload_0 E dX12_laysTwoBest_61 ?_
      refine g_aload_0 E dX12_laysTwoBest_62 ?_
      refine g_iload_1 E dX12_laysTwoBest_63 ?_
      refine g_iload_2 E dX12_laysTwoBest_64 ?_
      refine g_iload_4 E dX12_laysTwoBest_65 ?_
      refine g_iload_3 E dX12_laysTwoBest_67 ?_
      refine g_aload_0 E dX12_laysTwoBest_68 ?_
      refine g_aload_0 E dX12_laysTwoBest_69 ?_
      refine g_getR E fl_RX12_17 kR_0 sR_0 rfl dX12_laysTwoBest_70 ?_
      refine g_iload_1 E dX12_laysTwoBest_73 ?_
      refine g_iald E kR_2 sR_2 (by decide) h.1 dX12_laysTwoBest_74 ?_
      replace h := h.2
      refine g_iload_2 E dX12_laysTwoBest_75 ?_
      refine g_iload_4 E dX12_laysTwoBest_76 ?_
      refine g_iload_7 E dX12_laysTwoBest_78 ?_
      refine g_callvI E my_X12_nodeOf mi_X12_nodeOf msel_X12_nodeOf ml_RX12_507 (rm_ok (by decide) (by decide)) ⟨Nat.zero_le _, Nat.zero_le _⟩ kR_0 sR_0 rfl (m_X12_nodeOf E.2.2.1 (aR_2 hσ _) c2 c4 c7 hσ h) rfl rfl (Nat.le_of_ble_eq_true rfl) dX12_laysTwoBest_80 (fun r8 σ9 cr8 hσ9 h => ?_)
      refine g_aload_0 E dX12_laysTwoBest_83 ?_
      refine g_aload_0 E dX12_laysTwoBest_84 ?_
      refine g_getR E fl_RX12_20 kR_0 sR_0 rfl dX12_laysTwoBest_85 ?_
      refine g_iload_1 E dX12_laysTwoBest_88 ?_
      refine g_iald E kR_3 sR_3 (by decide) h.1 dX12_laysTwoBest_89 ?_
      replace h := h.2
      refine g_iload_4 E dX12_laysTwoBest_90 ?_
      refine g_iload_3 E dX12_laysTwoBest_92 ?_
      refine g_iload_8 E dX12_laysTwoBest_93 ?_
      refine g_callvI E my_X12_nodeOf mi_X12_nodeOf msel_X12_nodeOf ml_RX12_507 (rm_ok (by decide) (by decide)) ⟨Nat.zero_le _, Nat.zero_le _⟩ kR_0 sR_0 rfl (m_X12_nodeOf E.2.2.1 (aR_3 hσ9 _) c4 c3 c8 hσ9 h) rfl rfl (Nat.le_of_ble_eq_true rfl) dX12_laysTwoBest_95 (fun r10 σ11 cr10 hσ11 h => ?_)
      refine g_callvI E my_X12_writes mi_X12_writes msel_X12_writes ml_RX12_511 (rm_ok (by decide) (by decide)) ⟨Nat.zero_le _, Nat.zero_le _⟩ kR_0 sR_0 rfl (m_X12_writes E.2.2.1 c1 c2 c4 c3 cr8 cr10 hσ11 h) rfl rfl (Nat.le_of_ble_eq_true rfl) dX12_laysTwoBest_98 (fun r12 σ13 cr12 hσ13 h => ?_)
      refine g_callvV E my_X12_comes mi_X12_comes msel_X12_comes ml_RX12_515 (rm_ok (by decide) (by decide)) ⟨Nat.zero_le _, Nat.zero_le _⟩ kR_0 sR_0 rfl (m_X12_comes E.2.2.1 cr12 hσ13 h) rfl rfl (Nat.le_of_ble_eq_true rfl) dX12_laysTwoBest_101 (fun σ15 r14 hσ15 h => ?_)
      refine g_iinc_8 E rfl (by decide) dX12_laysTwoBest_104 (fun v16 ev16 => ?_)
      replace h := h v16 ev16
      have cv16 : C32 v16 := by rw [ev16]; exact c32_w _
      refine g_goto E djX12_laysTwoBest_107 ?_
      exact (ih x1 x2 x3 x4 x5 x6 x7 v16 σ15 c1 c2 c3 c4 c5 c6 c7 cv16 hσ15 h).weak (w_k (w_k (w_k (w_k (w_k (w_k (w_k (w_k (w_k w_n)))))))))
set_option maxHeartbeats 4000000 in
set_option maxRecDepth 100000 in
theorem t_X12_laysTwoBest_l44 (E : Ev p s m args meth c cX12_laysTwoBest 9 RX12 A0 D cA ad NR Z) (hr : meth.sig.returnType = none) {K5 : Int → Int → Int → Int → St → Prop} (hK5 : ∀ (x1 : Int) (x2 : Int) (x3 : Int) (x4 : Int) (σ : St), C32 x1 → C32 x2 → C32 x3 → C32 x4 → CanS shR NR σ → K5 x1 x2 x3 x4 σ → G p l e (rmL 804 0 0) s m args below meth c 9 A0 D cA ad shR NR 0 0 (MQ below (QVc D cA ad shR NR Q A0) args s 0 0 A0) σ 5 [some (.ref (ad 0)), some (vI x1), some (vI x2), some (vI x3), some (vI x4), none, none, none, none] []) : ∀ (n : Nat) (x1 : Int) (x2 : Int) (x3 : Int) (x4 : Int) (x5 : Int) (x6 : Int) (x7 : Int) (σ : St), C32 x1 → C32 x2 → C32 x3 → C32 x4 → C32 x5 → C32 x6 → C32 x7 → CanS shR NR σ → wp_X12_laysTwoBest_l44 Q K5 n x1 x2 x3 x4 x5 x6 x7 σ → G p l e (rmL 804 0 0) s m args below meth c 9 A0 D cA ad shR NR 0 0 (MQ below (QVc D cA ad shR NR Q A0) args s 0 0 A0) σ 44 [some (.ref (ad 0)), some (vI x1), some (vI x2), some (vI x3), some (vI x4), some (vI x5), some (vI x6), some (vI x7), none] [] := by
  intro n
  induction n with
  | zero => intro _ _ _ _ _ _ _ _ _ _ _ _ _ _ _ _ h; exact h.elim
  | succ n ih =>
    intro x1 x2 x3 x4 x5 x6 x7 σ c1 c2 c3 c4 c5 c6 c7 hσ h
    unfold wp_X12_laysTwoBest_l44 at h
    refine g_iload_7 E dX12_laysTwoBest_44 ?_
    refine g_iload_5 E dX12_laysTwoBest_46 ?_
    refine g_icmp_ge E c7 c5 djX12_laysTwoBest_48 (fun hc => ?_) (fun hc => ?_)
    · replace h := h.1 hc
      refine g_iinc_4 E rfl (by decide) dX12_laysTwoBest_116 (fun v6 ev6 => ?_)
      replace h := h v6 ev6
      have cv6 : C32 v6 := by rw [ev6]; exact c32_w _
      refine g_goto E djX12_laysTwoBest_119 ?_
      exact (hK5 x1 x2 x3 v6 σ c1 c2 c3 cv6 hσ h).weak (w_k (w_k (w_k (w_k (w_k (w_d (w_d (w_d (w_d w_n)))))))))
    · replace h := h.2 hc
      refine g_iconst E dX12_laysTwoBest_51 ?_
      refine g_istore_8 E rfl (by decide) dX12_laysTwoBest_52 ?_
      exact (t_X12_laysTwoBest_l54 E hr hK5 ih bigN x1 x2 x3 x4 x5 x6 x7 0 σ c1 c2 c3 c4 c5 c6 c7 cl_0 hσ h).weak (w_k (w_k (w_k (w_k (w_k (w_k (w_k (w_k (w_k w_n)))))))))
set_option maxHeartbeats 4000000 in
set_option maxRecDepth 100000 in
theorem t_X12_laysTwoBest_l5 (E : Ev p s m args meth c cX12_laysTwoBest 9 RX12 A0 D cA ad NR Z) (hr : meth.sig.returnType = none) : ∀ (n : Nat) (x1 : Int) (x2 : Int) (x3 : Int) (x4 : Int) (σ : St), C32 x1 → C32 x2 → C32 x3 → C32 x4 → CanS shR NR σ → wp_X12_laysTwoBest_l5 Q n x1 x2 x3 x4 σ → G p l e (rmL 804 0 0) s m args below meth c 9 A0 D cA ad shR NR 0 0 (MQ below (QVc D cA ad shR NR Q A0) args s 0 0 A0) σ 5 [some (.ref (ad 0)), some (vI x1), some (vI x2), some (vI x3), some (vI x4), none, none, none, none] [] := by
  intro n
  induction n with
  | zero => intro _ _ _ _ _ _ _ _ _ _ h; exact h.elim
  | succ n ih =>
    intro x1 x2 x3 x4 σ c1 c2 c3 c4 hσ h
    unfold wp_X12_laysTwoBest_l5 at h
    refine g_iload_4 E dX12_laysTwoBest_5 ?_
    refine g_iload_3 E dX12_laysTwoBest_7 ?_
    refine g_icmp_ge E c4 c3 djX12_laysTwoBest_8 (fun hc => ?_) (fun hc => ?_)
    · replace h := h.1 hc
      exact g_vret E hr h hσ dX12_laysTwoBest_122
    · replace h := h.2 hc
      refine g_aload_0 E dX12_laysTwoBest_11 ?_
      refine g_aload_0 E dX12_laysTwoBest_12 ?_
      refine g_getR E fl_RX12_17 kR_0 sR_0 rfl dX12_laysTwoBest_13 ?_
      refine g_iload_1 E dX12_laysTwoBest_16 ?_
      refine g_iald E kR_2 sR_2 (by decide) h.1 dX12_laysTwoBest_17 ?_
      replace h := h.2
      refine g_iload_2 E dX12_laysTwoBest_18 ?_
      refine g_iload_4 E dX12_laysTwoBest_19 ?_
      refine g_callvI E my_X12_manyOf mi_X12_manyOf msel_X12_manyOf ml_RX12_504 (rm_ok (by decide) (by decide)) ⟨Nat.zero_le _, Nat.zero_le _⟩ kR_0 sR_0 rfl (m_X12_manyOf E.2.2.1 (aR_2 hσ _) c2 c4 hσ h) rfl rfl (Nat.le_of_ble_eq_true rfl) dX12_laysTwoBest_21 (fun r2 σ3 cr2 hσ3 h => ?_)
      refine g_istore_5 E rfl (by decide) dX12_laysTwoBest_24 ?_
      refine g_aload_0 E dX12_laysTwoBest_26 ?_
      refine g_aload_0 E dX12_laysTwoBest_27 ?_
      refine g_getR E fl_RX12_20 kR_0 sR_0 rfl dX12_laysTwoBest_28 ?_
      refine g_iload_1 E dX12_laysTwoBest_31 ?_
      refine g_iald E kR_3 sR_3 (by decide) h.1 dX12_laysTwoBest_32 ?_
      replace h := h.2
      refine g_iload_4 E dX12_laysTwoBest_33 ?_
      refine g_iload_3 E dX12_laysTwoBest_35 ?_
      refine g_callvI E my_X12_manyOf mi_X12_manyOf msel_X12_manyOf ml_RX12_504 (rm_ok (by decide) (by decide)) ⟨Nat.zero_le _, Nat.zero_le _⟩ kR_0 sR_0 rfl (m_X12_manyOf E.2.2.1 (aR_3 hσ3 _) c4 c3 hσ3 h) rfl rfl (Nat.le_of_ble_eq_true rfl) dX12_laysTwoBest_36 (fun r4 σ5 cr4 hσ5 h => ?_)
      refine g_istore_6 E rfl (by decide) dX12_laysTwoBest_39 ?_
      refine g_iconst E dX12_laysTwoBest_41 ?_
      refine g_istore_7 E rfl (by decide) dX12_laysTwoBest_42 ?_
      exact (t_X12_laysTwoBest_l44 E hr ih bigN x1 x2 x3 x4 r2 r4 0 σ5 c1 c2 c3 c4 cr2 cr4 cl_0 hσ5 h).weak (w_k (w_k (w_k (w_k (w_k (w_k (w_k (w_k (w_d w_n)))))))))
set_option maxHeartbeats 4000000 in
set_option maxRecDepth 100000 in
theorem t_X12_laysTwoBest (E : Ev p s m args meth c cX12_laysTwoBest 9 RX12 A0 D cA ad NR Z) (hr : meth.sig.returnType = none) (x1 : Int) (x2 : Int) (x3 : Int) (σ : St) (c1 : C32 x1) (c2 : C32 x2) (c3 : C32 x3) (hσ : CanS shR NR σ) (h : wp_X12_laysTwoBest x1 x2 x3 σ Q) : G p l e (rmL 804 0 0) s m args below meth c 9 A0 D cA ad shR NR 0 0 (MQ below (QVc D cA ad shR NR Q A0) args s 0 0 A0) σ 0 [some (.ref (ad 0)), some (vI x1), some (vI x2), some (vI x3), none, none, none, none, none] [] := by
  unfold wp_X12_laysTwoBest at h
  refine g_iload_2 E dX12_laysTwoBest_0 ?_
  refine g_iconst E dX12_laysTwoBest_1 ?_
  refine g_iadd E dX12_laysTwoBest_2 ?_
  refine g_nmI (fun v1 ev1 => ?_)
  replace h := h v1 ev1
  have cv1 : C32 v1 := by rw [ev1]; exact (c32_w _)
  refine g_istore_4 E rfl (by decide) dX12_laysTwoBest_3 ?_
  exact (t_X12_laysTwoBest_l5 E hr bigN x1 x2 x3 v1 σ c1 c2 c3 cv1 hσ h).weak (w_k (w_k (w_k (w_k (w_k (w_d (w_d (w_d (w_d w_n)))))))))
end
theorem m_X12_laysTwoBest {Z : (Nat → Nat) × (Nat → Nat)} {l : Launch} {D : va_G} {cA : Nat → ClassId} {ad : Nat → Nat} {x1 x2 x3 : Int} {σ : St} {Q : Int → St → Prop} (hA : AdOk NR ad) (c1 : C32 x1) (c2 : C32 x2) (c3 : C32 x3) (hσ : CanS shR NR σ) (h : wp_X12_laysTwoBest x1 x2 x3 σ Q) : KtV Z l D cA ad shR NR yX12_laysTwoBest cX12_laysTwoBest 9 none 804 [.ref (ad 0), vI x1, vI x2, vI x3] σ Q :=
  KtV.of my_X12_laysTwoBest hA [some (.ref (ad 0)), some (vI x1), some (vI x2), some (vI x3), none, none, none, none, none] (Nat.le_of_ble_eq_true rfl) rfl (fun p e s m args below meth c A0 E hr => t_X12_laysTwoBest E hr x1 x2 x3 σ c1 c2 c3 hσ h)
theorem dX12_firstPending_0 : Dc cX12_firstPending 0 (.iconst (-1)) 1 1 := ⟨by decide +kernel, rfl⟩
theorem dX12_firstPending_1 : Dc cX12_firstPending 1 (.istore_n 1) 1 2 := ⟨by decide +kernel, rfl⟩
theorem dX12_firstPending_2 : Dc cX12_firstPending 2 (.iconst 0) 1 3 := ⟨by decide +kernel, rfl⟩
theorem dX12_firstPending_3 : Dc cX12_firstPending 3 (.istore_n 2) 1 4 := ⟨by decide +kernel, rfl⟩
theorem dX12_firstPending_4 : Dc cX12_firstPending 4 (.iload_n 2) 1 5 := ⟨by decide +kernel, rfl⟩
theorem dX12_firstPending_5 : Dc cX12_firstPending 5 (.aload_n 0) 1 6 := ⟨by decide +kernel, rfl⟩
theorem dX12_firstPending_6 : Dc cX12_firstPending 6 (.getfield 518) 3 9 := ⟨by decide +kernel, rfl⟩
theorem djX12_firstPending_9 : Dj cX12_firstPending 9 (.if_icmp .ge 156) 3 12 156 165 := ⟨by decide +kernel, rfl, by decide⟩
theorem dX12_firstPending_12 : Dc cX12_firstPending 12 (.aload_n 0) 1 13 := ⟨by decide +kernel, rfl⟩
theorem dX12_firstPending_13 : Dc cX12_firstPending 13 (.getfield 135) 3 16 := ⟨by decide +kernel, rfl⟩
theorem dX12_firstPending_16 : Dc cX12_firstPending 16 (.iload_n 2) 1 17 := ⟨by decide +kernel, rfl⟩
theorem dX12_firstPending_17 : Dc cX12_firstPending 17 (.iaload) 1 18 := ⟨by decide +kernel, rfl⟩
theorem dX12_firstPending_18 : Dc cX12_firstPending 18 (.istore_n 3) 1 19 := ⟨by decide +kernel, rfl⟩
theorem dX12_firstPending_19 : Dc cX12_firstPending 19 (.iload_n 3) 1 20 := ⟨by decide +kernel, rfl⟩
theorem dX12_firstPending_20 : Dc cX12_firstPending 20 (.iconst (-1)) 1 21 := ⟨by decide +kernel, rfl⟩
theorem djX12_firstPending_21 : Dj cX12_firstPending 21 (.if_icmp .eq 138) 3 24 138 159 := ⟨by decide +kernel, rfl, by decide⟩
theorem dX12_firstPending_24 : Dc cX12_firstPending 24 (.aload_n 0) 1 25 := ⟨by decide +kernel, rfl⟩
theorem dX12_firstPending_25 : Dc cX12_firstPending 25 (.getfield 132) 3 28 := ⟨by decide +kernel, rfl⟩
theorem dX12_firstPending_28 : Dc cX12_firstPending 28 (.aload_n 0) 1 29 := ⟨by decide +kernel, rfl⟩
theorem dX12_firstPending_29 : Dc cX12_firstPending 29 (.getfield 13) 3 32 := ⟨by decide +kernel, rfl⟩
theorem dX12_firstPending_32 : Dc cX12_firstPending 32 (.aload_n 0) 1 33 := ⟨by decide +kernel, rfl⟩
theorem dX12_firstPending_33 : Dc cX12_firstPending 33 (.getfield 102) 3 36 := ⟨by decide +kernel, rfl⟩
theorem dX12_firstPending_36 : Dc cX12_firstPending 36 (.iload_n 3) 1 37 := ⟨by decide +kernel, rfl⟩
theorem dX12_firstPending_37 : Dc cX12_firstPending 37 (.iaload) 1 38 := ⟨by decide +kernel, rfl⟩
theorem dX12_firstPending_38 : Dc cX12_firstPending 38 (.iaload) 1 39 := ⟨by decide +kernel, rfl⟩
theorem dX12_firstPending_39 : Dc cX12_firstPending 39 (.aload_n 0) 1 40 := ⟨by decide +kernel, rfl⟩
theorem dX12_firstPending_40 : Dc cX12_firstPending 40 (.getfield 105) 3 43 := ⟨by decide +kernel, rfl⟩
theorem dX12_firstPending_43 : Dc cX12_firstPending 43 (.iload_n 3) 1 44 := ⟨by decide +kernel, rfl⟩
theorem dX12_firstPending_44 : Dc cX12_firstPending 44 (.iaload) 1 45 := ⟨by decide +kernel, rfl⟩
theorem dX12_firstPending_45 : Dc cX12_firstPending 45 (.aload_n 0) 1 46 := ⟨by decide +kernel, rfl⟩
theorem dX12_firstPending_46 : Dc cX12_firstPending 46 (.getfield 111) 3 49 := ⟨by decide +kernel, rfl⟩
theorem dX12_firstPending_49 : Dc cX12_firstPending 49 (.iload_n 3) 1 50 := ⟨by decide +kernel, rfl⟩
theorem dX12_firstPending_50 : Dc cX12_firstPending 50 (.iaload) 1 51 := ⟨by decide +kernel, rfl⟩
theorem dX12_firstPending_51 : Dc cX12_firstPending 51 (.invokestatic 282) 3 54 := ⟨by decide +kernel, rfl⟩
theorem dX12_firstPending_54 : Dc cX12_firstPending 54 (.iaload) 1 55 := ⟨by decide +kernel, rfl⟩
theorem dX12_firstPending_55 : Dc cX12_firstPending 55 (.bipush 16) 2 57 := ⟨by decide +kernel, rfl⟩
theorem djX12_firstPending_57 : Dj cX12_firstPending 57 (.if_icmp .ne 6) 3 60 6 63 := ⟨by decide +kernel, rfl, by decide⟩
theorem djX12_firstPending_60 : Dj cX12_firstPending 60 (.goto 99) 3 63 99 159 := ⟨by decide +kernel, rfl, by decide⟩
theorem dX12_firstPending_63 : Dc cX12_firstPending 63 (.iload_n 1) 1 64 := ⟨by decide +kernel, rfl⟩
theorem dX12_firstPending_64 : Dc cX12_firstPending 64 (.iconst (-1)) 1 65 := ⟨by decide +kernel, rfl⟩
theorem djX12_firstPending_65 : Dj cX12_firstPending 65 (.if_icmp .eq 23) 3 68 23 88 := ⟨by decide +kernel, rfl, by decide⟩
theorem dX12_firstPending_68 : Dc cX12_firstPending 68 (.aload_n 0) 1 69 := ⟨by decide +kernel, rfl⟩
theorem dX12_firstPending_69 : Dc cX12_firstPending 69 (.getfield 120) 3 72 := ⟨by decide +kernel, rfl⟩
theorem dX12_firstPending_72 : Dc cX12_firstPending 72 (.iload_n 3) 1 73 := ⟨by decide +kernel, rfl⟩
theorem dX12_firstPending_73 : Dc cX12_firstPending 73 (.iaload) 1 74 := ⟨by decide +kernel, rfl⟩
theorem dX12_firstPending_74 : Dc cX12_firstPending 74 (.aload_n 0) 1 75 := ⟨by decide +kernel, rfl⟩
theorem dX12_firstPending_75 : Dc cX12_firstPending 75 (.getfield 120) 3 78 := ⟨by decide +kernel, rfl⟩
theorem dX12_firstPending_78 : Dc cX12_firstPending 78 (.aload_n 0) 1 79 := ⟨by decide +kernel, rfl⟩
theorem dX12_firstPending_79 : Dc cX12_firstPending 79 (.getfield 135) 3 82 := ⟨by decide +kernel, rfl⟩
theorem dX12_firstPending_82 : Dc cX12_firstPending 82 (.iload_n 1) 1 83 := ⟨by decide +kernel, rfl⟩
theorem dX12_firstPending_83 : Dc cX12_firstPending 83 (.iaload) 1 84 := ⟨by decide +kernel, rfl⟩
theorem dX12_firstPending_84 : Dc cX12_firstPending 84 (.iaload) 1 85 := ⟨by decide +kernel, rfl⟩
theorem djX12_firstPending_85 : Dj cX12_firstPending 85 (.if_icmp .ge 8) 3 88 8 93 := ⟨by decide +kernel, rfl, by decide⟩
theorem dX12_firstPending_88 : Dc cX12_firstPending 88 (.iload_n 2) 1 89 := ⟨by decide +kernel, rfl⟩
theorem dX12_firstPending_89 : Dc cX12_firstPending 89 (.istore_n 1) 1 90 := ⟨by decide +kernel, rfl⟩
theorem djX12_firstPending_90 : Dj cX12_firstPending 90 (.goto 69) 3 93 69 159 := ⟨by decide +kernel, rfl, by decide⟩
theorem dX12_firstPending_93 : Dc cX12_firstPending 93 (.aload_n 0) 1 94 := ⟨by decide +kernel, rfl⟩
theorem dX12_firstPending_94 : Dc cX12_firstPending 94 (.getfield 120) 3 97 := ⟨by decide +kernel, rfl⟩
theorem dX12_firstPending_97 : Dc cX12_firstPending 97 (.iload_n 3) 1 98 := ⟨by decide +kernel, rfl⟩
theorem dX12_firstPending_98 : Dc cX12_firstPending 98 (.iaload) 1 99 := ⟨by decide +kernel, rfl⟩
theorem dX12_firstPending_99 : Dc cX12_firstPending 99 (.aload_n 0) 1 100 := ⟨by decide +kernel, rfl⟩
theorem dX12_firstPending_100 : Dc cX12_firstPending 100 (.getfield 120) 3 103 := ⟨by decide +kernel, rfl⟩
theorem dX12_firstPending_103 : Dc cX12_firstPending 103 (.aload_n 0) 1 104 := ⟨by decide +kernel, rfl⟩
theorem dX12_firstPending_104 : Dc cX12_firstPending 104 (.getfield 135) 3 107 := ⟨by decide +kernel, rfl⟩
theorem dX12_firstPending_107 : Dc cX12_firstPending 107 (.iload_n 1) 1 108 := ⟨by decide +kernel, rfl⟩
theorem dX12_firstPending_108 : Dc cX12_firstPending 108 (.iaload) 1 109 := ⟨by decide +kernel, rfl⟩
theorem dX12_firstPending_109 : Dc cX12_firstPending 109 (.iaload) 1 110 := ⟨by decide +kernel, rfl⟩
theorem djX12_firstPending_110 : Dj cX12_firstPending 110 (.if_icmp .ne 49) 3 113 49 159 := ⟨by decide +kernel, rfl, by decide⟩
theorem dX12_firstPending_113 : Dc cX12_firstPending 113 (.aload_n 0) 1 114 := ⟨by decide +kernel, rfl⟩
theorem dX12_firstPending_114 : Dc cX12_firstPending 114 (.getfield 13) 3 117 := ⟨by decide +kernel, rfl⟩
theorem dX12_firstPending_117 : Dc cX12_firstPending 117 (.aload_n 0) 1 118 := ⟨by decide +kernel, rfl⟩
theorem dX12_firstPending_118 : Dc cX12_firstPending 118 (.getfield 102) 3 121 := ⟨by decide +kernel, rfl⟩
theorem dX12_firstPending_121 : Dc cX12_firstPending 121 (.iload_n 3) 1 122 := ⟨by decide +kernel, rfl⟩
theorem dX12_firstPending_122 : Dc cX12_firstPending 122 (.iaload) 1 123 := ⟨by decide +kernel, rfl⟩
theorem dX12_firstPending_123 : Dc cX12_firstPending 123 (.iaload) 1 124 := ⟨by decide +kernel, rfl⟩
theorem dX12_firstPending_124 : Dc cX12_firstPending 124 (.aload_n 0) 1 125 := ⟨by decide +kernel, rfl⟩
theorem dX12_firstPending_125 : Dc cX12_firstPending 125 (.getfield 13) 3 128 := ⟨by decide +kernel, rfl⟩
theorem dX12_firstPending_128 : Dc cX12_firstPending 128 (.aload_n 0) 1 129 := ⟨by decide +kernel, rfl⟩
theorem dX12_firstPending_129 : Dc cX12_firstPending 129 (.getfield 102) 3 132 := ⟨by decide +kernel, rfl⟩
theorem dX12_firstPending_132 : Dc cX12_firstPending 132 (.aload_n 0) 1 133 := ⟨by decide +kernel, rfl⟩
theorem dX12_firstPending_133 : Dc cX12_firstPending 133 (.getfield 135) 3 136 := ⟨by decide +kernel, rfl⟩
theorem dX12_firstPending_136 : Dc cX12_firstPending 136 (.iload_n 1) 1 137 := ⟨by decide +kernel, rfl⟩
theorem dX12_firstPending_137 : Dc cX12_firstPending 137 (.iaload) 1 138 := ⟨by decide +kernel, rfl⟩
theorem dX12_firstPending_138 : Dc cX12_firstPending 138 (.iaload) 1 139 := ⟨by decide +kernel, rfl⟩
theorem dX12_firstPending_139 : Dc cX12_firstPending 139 (.iaload) 1 140 := ⟨by decide +kernel, rfl⟩
theorem djX12_firstPending_140 : Dj cX12_firstPending 140 (.if_icmp .ne 19) 3 143 19 159 := ⟨by decide +kernel, rfl, by decide⟩
theorem dX12_firstPending_143 : Dc cX12_firstPending 143 (.aload_n 0) 1 144 := ⟨by decide +kernel, rfl⟩
theorem dX12_firstPending_144 : Dc cX12_firstPending 144 (.iload_n 3) 1 145 := ⟨by decide +kernel, rfl⟩
theorem dX12_firstPending_145 : Dc cX12_firstPending 145 (.aload_n 0) 1 146 := ⟨by decide +kernel, rfl⟩
theorem dX12_firstPending_146 : Dc cX12_firstPending 146 (.getfield 135) 3 149 := ⟨by decide +kernel, rfl⟩
theorem dX12_firstPending_149 : Dc cX12_firstPending 149 (.iload_n 1) 1 150 := ⟨by decide +kernel, rfl⟩
theorem dX12_firstPending_150 : Dc cX12_firstPending 150 (.iaload) 1 151 := ⟨by decide +kernel, rfl⟩
theorem dX12_firstPending_151 : Dc cX12_firstPending 151 (.invokevirtual 495) 3 154 := ⟨by decide +kernel, rfl⟩
theorem djX12_firstPending_154 : Dj cX12_firstPending 154 (.ifCond .ge 5) 3 157 5 159 := ⟨by decide +kernel, rfl, by decide⟩
theorem dX12_firstPending_157 : Dc cX12_firstPending 157 (.iload_n 2) 1 158 := ⟨by decide +kernel, rfl⟩
theorem dX12_firstPending_158 : Dc cX12_firstPending 158 (.istore_n 1) 1 159 := ⟨by decide +kernel, rfl⟩
theorem dX12_firstPending_159 : Dc cX12_firstPending 159 (.iinc 2 1) 3 162 := ⟨by decide +kernel, rfl⟩
theorem djX12_firstPending_162 : Dj cX12_firstPending 162 (.goto (-158)) 3 165 (-158) 4 := ⟨by decide +kernel, rfl, by decide⟩
theorem dX12_firstPending_165 : Dc cX12_firstPending 165 (.iload_n 1) 1 166 := ⟨by decide +kernel, rfl⟩
theorem dX12_firstPending_166 : Dc cX12_firstPending 166 (.ireturn) 1 167 := ⟨by decide +kernel, rfl⟩
section
variable {p : Program} {l : Launch} {e : Env} {s : State} {m : MethodId} {args : Array Value} {below : List Frame} {meth : Method} {c : Code} {A0 : Nat → Prop} {D : va_G} {cA : Nat → ClassId} {ad : Nat → Nat} {Z : (Nat → Nat) × (Nat → Nat)} {Q : Int → St → Prop}
set_option maxHeartbeats 4000000 in
set_option maxRecDepth 100000 in
theorem t_X12_firstPending_b159 (E : Ev p s m args meth c cX12_firstPending 4 RX12 A0 D cA ad NR Z) (hr : meth.sig.returnType = (some .int)) {K4 : Int → Int → St → Prop} (hK4 : ∀ (x1 : Int) (x2 : Int) (σ : St), C32 x1 → C32 x2 → CanS shR NR σ → K4 x1 x2 σ → G p l e (rmL 802 0 0) s m args below meth c 4 A0 D cA ad shR NR 0 0 (MQ below (QIc D cA ad shR NR Q A0) args s 0 0 A0) σ 4 [some (.ref (ad 0)), some (vI x1), some (vI x2), none] []) (x1 : Int) (x2 : Int) (σ : St) (c1 : C32 x1) (c2 : C32 x2) (hσ : CanS shR NR σ) (h : wp_X12_firstPending_b159 Q K4 x1 x2 σ) : G p l e (rmL 802 0 0) s m args below meth c 4 A0 D cA ad shR NR 0 0 (MQ below (QIc D cA ad shR NR Q A0) args s 0 0 A0) σ 159 [some (.ref (ad 0)), some (vI x1), some (vI x2), none] [] := by
  unfold wp_X12_firstPending_b159 at h
  refine g_iinc_2 E rfl (by decide) dX12_firstPending_159 (fun v6 ev6 => ?_)
  replace h := h v6 ev6
  have cv6 : C32 v6 := by rw [ev6]; exact c32_w _
  refine g_goto E djX12_firstPending_162 ?_
  exact (hK4 x1 v6 σ c1 cv6 hσ h).weak (w_k (w_k (w_k (w_d w_n))))
set_option maxHeartbeats 4000000 in
set_option maxRecDepth 100000 in
theorem t_X12_firstPending_b88 (E : Ev p s m args meth c cX12_firstPending 4 RX12 A0 D cA ad NR Z) (hr : meth.sig.returnType = (some .int)) {K4 : Int → Int → St → Prop} (hK4 : ∀ (x1 : Int) (x2 : Int) (σ : St), C32 x1 → C32 x2 → CanS shR NR σ → K4 x1 x2 σ → G p l e (rmL 802 0 0) s m args below meth c 4 A0 D cA ad shR NR 0 0 (MQ below (QIc D cA ad shR NR Q A0) args s 0 0 A0) σ 4 [some (.ref (ad 0)), some (vI x1), some (vI x2), none] []) (x2 : Int) (σ : St) (c2 : C32 x2) (hσ : CanS shR NR σ) (h : wp_X12_firstPending_b88 Q K4 x2 σ) : G p l e (rmL 802 0 0) s m args below meth c 4 A0 D cA ad shR NR 0 0 (MQ below (QIc D cA ad shR NR Q A0) args s 0 0 A0) σ 88 [some (.ref (ad 0)), none, some (vI x2), none] [] := by
  unfold wp_X12_firstPending_b88 at h
  refine g_iload_2 E dX12_firstPending_88 ?_
  refine g_istore_1 E rfl (by decide) dX12_firstPending_89 ?_
  refine g_goto E djX12_firstPending_90 ?_
  exact (t_X12_firstPending_b159 E hr hK4 x2 x2 σ c2 c2 hσ h).weak (w_k (w_k (w_k (w_d w_n))))
set_option maxHeartbeats 4000000 in
set_option maxRecDepth 100000 in
theorem t_X12_firstPending_l4 (E : Ev p s m args meth c cX12_firstPending 4 RX12 A0 D cA ad NR Z) (hr : meth.sig.returnType = (some .int)) : ∀ (n : Nat) (x1 : Int) (x2 : Int) (σ : St), C32 x1 → C32 x2 → CanS shR NR σ → wp_X12_firstPending_l4 Q n x1 x2 σ → G p l e (rmL 802 0 0) s m args below meth c 4 A0 D cA ad shR NR 0 0 (MQ below (QIc D cA ad shR NR Q A0) args s 0 0 A0) σ 4 [some (.ref (ad 0)), some (vI x1), some (vI x2), none] [] := by
  intro n
  induction n with
  | zero => intro _ _ _ _ _ _ h; exact h.elim
  | succ n ih =>
    intro x1 x2 σ c1 c2 hσ h
    unfold wp_X12_firstPending_l4 at h
    refine g_iload_2 E dX12_firstPending_4 ?_
    refine g_aload_0 E dX12_firstPending_5 ?_
    refine g_getI E fl_RX12_518 kR_0 sR_0 rfl dX12_firstPending_6 ?_
    refine g_icmp_ge E c2 (fR_0_59 hσ) djX12_firstPending_9 (fun hc => ?_) (fun hc => ?_)
    · replace h := h.1 hc
      refine g_iload_1 E dX12_firstPending_165 ?_
      exact g_iret E hr c1 h hσ dX12_firstPending_166
    · replace h := h.2 hc
      refine g_aload_0 E dX12_firstPending_12 ?_
      refine g_getR E fl_RX12_135 kR_0 sR_0 rfl dX12_firstPending_13 ?_
      refine g_iload_2 E dX12_firstPending_16 ?_
      refine g_iald E kR_39 sR_39 (by decide) h.1 dX12_firstPending_17 ?_
      replace h := h.2
      refine g_nmI (fun v1 ev1 => ?_)
      replace h := h v1 ev1
      have cv1 : C32 v1 := by rw [ev1]; exact (aR_39 hσ _)
      refine g_istore_3 E rfl (by decide) dX12_firstPending_18 ?_
      refine g_iload_3 E dX12_firstPending_19 ?_
      refine g_iconst E dX12_firstPending_20 ?_
      refine g_icmp_eq E cv1 cl_m1 djX12_firstPending_21 (fun hc => ?_) (fun hc => ?_)
      · replace h := h.1 hc
        exact (t_X12_firstPending_b159 E hr ih x1 x2 σ c1 c2 hσ h).weak (w_k (w_k (w_k (w_d w_n))))
      · replace h := h.2 hc
        refine g_aload_0 E dX12_firstPending_24 ?_
        refine g_getR E fl_RX12_132 kR_0 sR_0 rfl dX12_firstPending_25 ?_
        refine g_aload_0 E dX12_firstPending_28 ?_
        refine g_getR E fl_RX12_13 kR_0 sR_0 rfl dX12_firstPending_29 ?_
        refine g_aload_0 E dX12_firstPending_32 ?_
        refine g_getR E fl_RX12_102 kR_0 sR_0 rfl dX12_firstPending_33 ?_
        refine g_iload_3 E dX12_firstPending_36 ?_
        refine g_iald E kR_28 sR_28 (by decide) h.1 dX12_firstPending_37 ?_
        replace h := h.2
        refine g_iald E kR_1 sR_1 (by decide) h.1 dX12_firstPending_38 ?_
        replace h := h.2
        refine g_aload_0 E dX12_firstPending_39 ?_
        refine g_getR E fl_RX12_105 kR_0 sR_0 rfl dX12_firstPending_40 ?_
        refine g_iload_3 E dX12_firstPending_43 ?_
        refine g_iald E kR_29 sR_29 (by decide) h.1 dX12_firstPending_44 ?_
        replace h := h.2
        refine g_aload_0 E dX12_firstPending_45 ?_
        refine g_getR E fl_RX12_111 kR_0 sR_0 rfl dX12_firstPending_46 ?_
        refine g_iload_3 E dX12_firstPending_49 ?_
        refine g_iald E kR_31 sR_31 (by decide) h.1 dX12_firstPending_50 ?_
        replace h := h.2
        refine g_callsI E my_X12_item ms_X12_item ml_RX12_282 (rm_ok (by decide) (by decide)) ⟨Nat.zero_le _, Nat.zero_le _⟩ (m_X12_item E.2.2.1 (aR_1 hσ _) (aR_29 hσ _) (aR_31 hσ _) hσ h) rfl rfl (Nat.le_of_ble_eq_true rfl) dX12_firstPending_51 (fun r2 σ3 cr2 hσ3 h => ?_)
        refine g_iald E kR_38 sR_38 (by decide) h.1 dX12_firstPending_54 ?_
        replace h := h.2
        refine g_bipush E (by decide) dX12_firstPending_55 ?_
        refine g_icmp_ne E (aR_38 hσ3 _) cl_16 djX12_firstPending_57 (fun hc => ?_) (fun hc => ?_)
        · replace h := h.1 hc
          refine g_iload_1 E dX12_firstPending_63 ?_
          refine g_iconst E dX12_firstPending_64 ?_
          refine g_icmp_eq E c1 cl_m1 djX12_firstPending_65 (fun hc => ?_) (fun hc => ?_)
          · replace h := h.1 hc
            exact (t_X12_firstPending_b88 E hr ih x2 σ3 c2 hσ3 h).weak (w_k (w_d (w_k (w_d w_n))))
          · replace h := h.2 hc
            refine g_aload_0 E dX12_firstPending_68 ?_
            refine g_getR E fl_RX12_120 kR_0 sR_0 rfl dX12_firstPending_69 ?_
            refine g_iload_3 E dX12_firstPending_72 ?_
            refine g_iald E kR_34 sR_34 (by decide) h.1 dX12_firstPending_73 ?_
            replace h := h.2
            refine g_aload_0 E dX12_firstPending_74 ?_
            refine g_getR E fl_RX12_120 kR_0 sR_0 rfl dX12_firstPending_75 ?_
            refine g_aload_0 E dX12_firstPending_78 ?_
            refine g_getR E fl_RX12_135 kR_0 sR_0 rfl dX12_firstPending_79 ?_
            refine g_iload_1 E dX12_firstPending_82 ?_
            refine g_iald E kR_39 sR_39 (by decide) h.1 dX12_firstPending_83 ?_
            replace h := h.2
            refine g_iald E kR_34 sR_34 (by decide) h.1 dX12_firstPending_84 ?_
            replace h := h.2
            refine g_icmp_ge E (aR_34 hσ3 _) (aR_34 hσ3 _) djX12_firstPending_85 (fun hc => ?_) (fun hc => ?_)
            · replace h := h.1 hc
              refine g_aload_0 E dX12_firstPending_93 ?_
              refine g_getR E fl_RX12_120 kR_0 sR_0 rfl dX12_firstPending_94 ?_
              refine g_iload_3 E dX12_firstPending_97 ?_
              refine g_iald E kR_34 sR_34 (by decide) h.1 dX12_firstPending_98 ?_
              replace h := h.2
              refine g_aload_0 E dX12_firstPending_99 ?_
              refine g_getR E fl_RX12_120 kR_0 sR_0 rfl dX12_firstPending_100 ?_
              refine g_aload_0 E dX12_firstPending_103 ?_
              refine g_getR E fl_RX12_135 kR_0 sR_0 rfl dX12_firstPending_104 ?_
              refine g_iload_1 E dX12_firstPending_107 ?_
              refine g_iald E kR_39 sR_39 (by decide) h.1 dX12_firstPending_108 ?_
              replace h := h.2
              refine g_iald E kR_34 sR_34 (by decide) h.1 dX12_firstPending_109 ?_
              replace h := h.2
              refine g_icmp_ne E (aR_34 hσ3 _) (aR_34 hσ3 _) djX12_firstPending_110 (fun hc => ?_) (fun hc => ?_)
              · replace h := h.1 hc
                exact (t_X12_firstPending_b159 E hr ih x1 x2 σ3 c1 c2 hσ3 h).weak (w_k (w_k (w_k (w_d w_n))))
              · replace h := h.2 hc
                refine g_aload_0 E dX12_firstPending_113 ?_
                refine g_getR E fl_RX12_13 kR_0 sR_0 rfl dX12_firstPending_114 ?_
                refine g_aload_0 E dX12_firstPending_117 ?_
                refine g_getR E fl_RX12_102 kR_0 sR_0 rfl dX12_firstPending_118 ?_
                refine g_iload_3 E dX12_firstPending_121 ?_
                refine g_iald E kR_28 sR_28 (by decide) h.1 dX12_firstPending_122 ?_
                replace h := h.2
                refine g_iald E kR_1 sR_1 (by decide) h.1 dX12_firstPending_123 ?_
                replace h := h.2
                refine g_aload_0 E dX12_firstPending_124 ?_
                refine g_getR E fl_RX12_13 kR_0 sR_0 rfl dX12_firstPending_125 ?_
                refine g_aload_0 E dX12_firstPending_128 ?_
                refine g_getR E fl_RX12_102 kR_0 sR_0 rfl dX12_firstPending_129 ?_
                refine g_aload_0 E dX12_firstPending_132 ?_
                refine g_getR E fl_RX12_135 kR_0 sR_0 rfl dX12_firstPending_133 ?_
                refine g_iload_1 E dX12_firstPending_136 ?_
                refine g_iald E kR_39 sR_39 (by decide) h.1 dX12_firstPending_137 ?_
                replace h := h.2
                refine g_iald E kR_28 sR_28 (by decide) h.1 dX12_firstPending_138 ?_
                replace h := h.2
                refine g_iald E kR_1 sR_1 (by decide) h.1 dX12_firstPending_139 ?_
                replace h := h.2
                refine g_icmp_ne E (aR_1 hσ3 _) (aR_1 hσ3 _) djX12_firstPending_140 (fun hc => ?_) (fun hc => ?_)
                · replace h := h.1 hc
                  exact (t_X12_firstPending_b159 E hr ih x1 x2 σ3 c1 c2 hσ3 h).weak (w_k (w_k (w_k (w_d w_n))))
                · replace h := h.2 hc
                  refine g_aload_0 E dX12_firstPending_143 ?_
                  refine g_iload_3 E dX12_firstPending_144 ?_
                  refine g_aload_0 E dX12_firstPending_145 ?_
                  refine g_getR E fl_RX12_135 kR_0 sR_0 rfl dX12_firstPending_146 ?_
                  refine g_iload_1 E dX12_firstPending_149 ?_
                  refine g_iald E kR_39 sR_39 (by decide) h.1 dX12_firstPending_150 ?_
                  replace h := h.2
                  refine g_callvI E my_X12_formOf mi_X12_formOf msel_X12_formOf ml_RX12_495 (rm_ok (by decide) (by decide)) ⟨Nat.zero_le _, Nat.zero_le _⟩ kR_0 sR_0 rfl (m_X12_formOf 400 E.2.2.1 cv1 (aR_39 hσ3 _) hσ3 h) rfl rfl (Nat.le_of_ble_eq_true rfl) dX12_firstPending_151 (fun r4 σ5 cr4 hσ5 h => ?_)
                  refine g_if_ge E cr4 djX12_firstPending_154 (fun hc => ?_) (fun hc => ?_)
                  · replace h := h.1 hc
                    exact (t_X12_firstPending_b159 E hr ih x1 x2 σ5 c1 c2 hσ5 h).weak (w_k (w_k (w_k (w_d w_n))))
                  · replace h := h.2 hc
                    refine g_iload_2 E dX12_firstPending_157 ?_
                    refine g_istore_1 E rfl (by decide) dX12_firstPending_158 ?_
                    exact (t_X12_firstPending_b159 E hr ih x2 x2 σ5 c2 c2 hσ5 h).weak (w_k (w_k (w_k (w_d w_n))))
            · replace h := h.2 hc
              exact (t_X12_firstPending_b88 E hr ih x2 σ3 c2 hσ3 h).weak (w_k (w_d (w_k (w_d w_n))))
        · replace h := h.2 hc
          refine g_goto E djX12_firstPending_60 ?_
          exact (t_X12_firstPending_b159 E hr ih x1 x2 σ3 c1 c2 hσ3 h).weak (w_k (w_k (w_k (w_d w_n))))
set_option maxHeartbeats 4000000 in
set_option maxRecDepth 100000 in
theorem t_X12_firstPending (E : Ev p s m args meth c cX12_firstPending 4 RX12 A0 D cA ad NR Z) (hr : meth.sig.returnType = (some .int)) (σ : St) (hσ : CanS shR NR σ) (h : wp_X12_firstPending  σ Q) : G p l e (rmL 802 0 0) s m args below meth c 4 A0 D cA ad shR NR 0 0 (MQ below (QIc D cA ad shR NR Q A0) args s 0 0 A0) σ 0 [some (.ref (ad 0)), none, none, none] [] := by
  unfold wp_X12_firstPending at h
  refine g_iconst E dX12_firstPending_0 ?_
  refine g_istore_1 E rfl (by decide) dX12_firstPending_1 ?_
  refine g_iconst E dX12_firstPending_2 ?_
  refine g_istore_2 E rfl (by decide) dX12_firstPending_3 ?_
  exact (t_X12_firstPending_l4 E hr bigN ((-1)) 0 σ cl_m1 cl_0 hσ h).weak (w_k (w_k (w_k (w_d w_n))))
end
theorem m_X12_firstPending {Z : (Nat → Nat) × (Nat → Nat)} {l : Launch} {D : va_G} {cA : Nat → ClassId} {ad : Nat → Nat} {σ : St} {Q : Int → St → Prop} (hA : AdOk NR ad) (hσ : CanS shR NR σ) (h : wp_X12_firstPending  σ Q) : KtI Z l D cA ad shR NR yX12_firstPending cX12_firstPending 4 (some .int) 802 [.ref (ad 0)] σ Q :=
  KtI.of my_X12_firstPending hA [some (.ref (ad 0)), none, none, none] (Nat.le_of_ble_eq_true rfl) rfl (fun p e s m args below meth c A0 E hr => t_X12_firstPending E hr σ hσ h)
theorem dX12_waits_0 : Dc cX12_waits 0 (.aload_n 0) 1 1 := ⟨by decide +kernel, rfl⟩
theorem dX12_waits_1 : Dc cX12_waits 1 (.getfield 135) 3 4 := ⟨by decide +kernel, rfl⟩
theorem dX12_waits_4 : Dc cX12_waits 4 (.aload_n 0) 1 5 := ⟨by decide +kernel, rfl⟩
theorem dX12_waits_5 : Dc cX12_waits 5 (.getfield 518) 3 8 := ⟨by decide +kernel, rfl⟩
theorem dX12_waits_8 : Dc cX12_waits 8 (.iload_n 1) 1 9 := ⟨by decide +kernel, rfl⟩
theorem dX12_waits_9 : Dc cX12_waits 9 (.iastore) 1 10 := ⟨by decide +kernel, rfl⟩
theorem dX12_waits_10 : Dc cX12_waits 10 (.aload_n 0) 1 11 := ⟨by decide +kernel, rfl⟩
theorem dX12_waits_11 : Dc cX12_waits 11 (.dup) 1 12 := ⟨by decide +kernel, rfl⟩
theorem dX12_waits_12 : Dc cX12_waits 12 (.getfield 518) 3 15 := ⟨by decide +kernel, rfl⟩
theorem dX12_waits_15 : Dc cX12_waits 15 (.iconst 1) 1 16 := ⟨by decide +kernel, rfl⟩
theorem dX12_waits_16 : Dc cX12_waits 16 (.iadd) 1 17 := ⟨by decide +kernel, rfl⟩
theorem dX12_waits_17 : Dc cX12_waits 17 (.putfield 518) 3 20 := ⟨by decide +kernel, rfl⟩
theorem dX12_waits_20 : Dc cX12_waits 20 (.return_) 1 21 := ⟨by decide +kernel, rfl⟩
section
variable {p : Program} {l : Launch} {e : Env} {s : State} {m : MethodId} {args : Array Value} {below : List Frame} {meth : Method} {c : Code} {A0 : Nat → Prop} {D : va_G} {cA : Nat → ClassId} {ad : Nat → Nat} {Z : (Nat → Nat) × (Nat → Nat)} {Q : Int → St → Prop}
set_option maxHeartbeats 4000000 in
set_option maxRecDepth 100000 in
theorem t_X12_waits (E : Ev p s m args meth c cX12_waits 2 RX12 A0 D cA ad NR Z) (hr : meth.sig.returnType = none) (x1 : Int) (σ : St) (c1 : C32 x1) (hσ : CanS shR NR σ) (h : wp_X12_waits x1 σ Q) : G p l e (rmL 1 0 0) s m args below meth c 2 A0 D cA ad shR NR 0 0 (MQ below (QVc D cA ad shR NR Q A0) args s 0 0 A0) σ 0 [some (.ref (ad 0)), some (vI x1)] [] := by
  unfold wp_X12_waits at h
  refine g_aload_0 E dX12_waits_0 ?_
  refine g_getR E fl_RX12_135 kR_0 sR_0 rfl dX12_waits_1 ?_
  refine g_aload_0 E dX12_waits_4 ?_
  refine g_getI E fl_RX12_518 kR_0 sR_0 rfl dX12_waits_5 ?_
  refine g_iload_1 E dX12_waits_8 ?_
  refine g_iast E kR_39 sR_39 (by decide) h.1 dX12_waits_9 (g_nmS (fun σ1 eσ1 => ?_))
  replace h := h.2 σ1 eσ1
  have hσ1 : CanS shR NR σ1 := by rw [eσ1]; exact wR_39 hσ c1
  refine g_aload_0 E dX12_waits_10 ?_
  refine g_dup E rfl dX12_waits_11 ?_
  refine g_getI E fl_RX12_518 kR_0 sR_0 rfl dX12_waits_12 ?_
  refine g_iconst E dX12_waits_15 ?_
  refine g_iadd E dX12_waits_16 ?_
  refine g_putI E fl_RX12_518 rfl rfl kR_0 sR_0 rfl dX12_waits_17 (g_nmS (fun σ2 eσ2 => ?_))
  replace h := h σ2 eσ2
  have hσ2 : CanS shR NR σ2 := by rw [eσ2]; exact uR_0_59 hσ1 (c32_w _)
  exact g_vret E hr h hσ2 dX12_waits_20
end
theorem m_X12_waits {Z : (Nat → Nat) × (Nat → Nat)} {l : Launch} {D : va_G} {cA : Nat → ClassId} {ad : Nat → Nat} {x1 : Int} {σ : St} {Q : Int → St → Prop} (hA : AdOk NR ad) (c1 : C32 x1) (hσ : CanS shR NR σ) (h : wp_X12_waits x1 σ Q) : KtV Z l D cA ad shR NR yX12_waits cX12_waits 2 none 1 [.ref (ad 0), vI x1] σ Q :=
  KtV.of my_X12_waits hA [some (.ref (ad 0)), some (vI x1)] (Nat.le_of_ble_eq_true rfl) rfl (fun p e s m args below meth c A0 E hr => t_X12_waits E hr x1 σ c1 hσ h)
theorem dX12_laysBestSpan_0 : Dc cX12_laysBestSpan 0 (.iconst 0) 1 1 := ⟨by decide +kernel, rfl⟩
theorem dX12_laysBestSpan_1 : Dc cX12_laysBestSpan 1 (.istore_n 3) 1 2 := ⟨by decide +kernel, rfl⟩
theorem dX12_laysBestSpan_2 : Dc cX12_laysBestSpan 2 (.iload_n 3) 1 3 := ⟨by decide +kernel, rfl⟩
theorem dX12_laysBestSpan_3 : Dc cX12_laysBestSpan 3 (.aload_n 0) 1 4 := ⟨by decide +kernel, rfl⟩
theorem dX12_laysBestSpan_4 : Dc cX12_laysBestSpan 4 (.getfield 252) 3 7 := ⟨by decide +kernel, rfl⟩
theorem djX12_laysBestSpan_7 : Dj cX12_laysBestSpan 7 (.if_icmp .ge 34) 3 10 34 41 := ⟨by decide +kernel, rfl, by decide⟩
theorem dX12_laysBestSpan_10 : Dc cX12_laysBestSpan 10 (.aload_n 0) 1 11 := ⟨by decide +kernel, rfl⟩
theorem dX12_laysBestSpan_11 : Dc cX12_laysBestSpan 11 (.iload_n 3) 1 12 := ⟨by decide +kernel, rfl⟩
theorem dX12_laysBestSpan_12 : Dc cX12_laysBestSpan 12 (.invokevirtual 298) 3 15 := ⟨by decide +kernel, rfl⟩
theorem djX12_laysBestSpan_15 : Dj cX12_laysBestSpan 15 (.ifCond .eq 20) 3 18 20 35 := ⟨by decide +kernel, rfl, by decide⟩
theorem dX12_laysBestSpan_18 : Dc cX12_laysBestSpan 18 (.aload_n 0) 1 19 := ⟨by decide +kernel, rfl⟩
theorem dX12_laysBestSpan_19 : Dc cX12_laysBestSpan 19 (.getfield 20) 3 22 := ⟨by decide +kernel, rfl⟩
theorem dX12_laysBestSpan_22 : Dc cX12_laysBestSpan 22 (.iload_n 3) 1 23 := ⟨by decide +kernel, rfl⟩
theorem dX12_laysBestSpan_23 : Dc cX12_laysBestSpan 23 (.iaload) 1 24 := ⟨by decide +kernel, rfl⟩
theorem dX12_laysBestSpan_24 : Dc cX12_laysBestSpan 24 (.iconst (-1)) 1 25 := ⟨by decide +kernel, rfl⟩
theorem djX12_laysBestSpan_25 : Dj cX12_laysBestSpan 25 (.if_icmp .eq 10) 3 28 10 35 := ⟨by decide +kernel, rfl, by decide⟩
theorem dX12_laysBestSpan_28 : Dc cX12_laysBestSpan 28 (.aload_n 0) 1 29 := ⟨by decide +kernel, rfl⟩
theorem dX12_laysBestSpan_29 : Dc cX12_laysBestSpan 29 (.iload_n 3) 1 30 := ⟨by decide +kernel, rfl⟩
theorem dX12_laysBestSpan_30 : Dc cX12_laysBestSpan 30 (.iload_n 1) 1 31 := ⟨by decide +kernel, rfl⟩
theorem dX12_laysBestSpan_31 : Dc cX12_laysBestSpan 31 (.iload_n 2) 1 32 := ⟨by decide +kernel, rfl⟩
theorem dX12_laysBestSpan_32 : Dc cX12_laysBestSpan 32 (.invokevirtual 521) 3 35 := ⟨by decide +kernel, rfl⟩
theorem dX12_laysBestSpan_35 : Dc cX12_laysBestSpan 35 (.iinc 3 1) 3 38 := ⟨by decide +kernel, rfl⟩
theorem djX12_laysBestSpan_38 : Dj cX12_laysBestSpan 38 (.goto (-36)) 3 41 (-36) 2 := ⟨by decide +kernel, rfl, by decide⟩
theorem dX12_laysBestSpan_41 : Dc cX12_laysBestSpan 41 (.aload_n 0) 1 42 := ⟨by decide +kernel, rfl⟩
theorem dX12_laysBestSpan_42 : Dc cX12_laysBestSpan 42 (.iconst 0) 1 43 := ⟨by decide +kernel, rfl⟩
theorem dX12_laysBestSpan_43 : Dc cX12_laysBestSpan 43 (.putfield 518) 3 46 := ⟨by decide +kernel, rfl⟩
theorem dX12_laysBestSpan_46 : Dc cX12_laysBestSpan 46 (.aload_n 0) 1 47 := ⟨by decide +kernel, rfl⟩
theorem dX12_laysBestSpan_47 : Dc cX12_laysBestSpan 47 (.iconst (-1)) 1 48 := ⟨by decide +kernel, rfl⟩
theorem dX12_laysBestSpan_48 : Dc cX12_laysBestSpan 48 (.putfield 480) 3 51 := ⟨by decide +kernel, rfl⟩
theorem dX12_laysBestSpan_51 : Dc cX12_laysBestSpan 51 (.iconst 0) 1 52 := ⟨by decide +kernel, rfl⟩
theorem dX12_laysBestSpan_52 : Dc cX12_laysBestSpan 52 (.istore_n 3) 1 53 := ⟨by decide +kernel, rfl⟩
theorem dX12_laysBestSpan_53 : Dc cX12_laysBestSpan 53 (.iload_n 3) 1 54 := ⟨by decide +kernel, rfl⟩
theorem dX12_laysBestSpan_54 : Dc cX12_laysBestSpan 54 (.bipush 12) 2 56 := ⟨by decide +kernel, rfl⟩
theorem djX12_laysBestSpan_56 : Dj cX12_laysBestSpan 56 (.if_icmp .ge 63) 3 59 63 119 := ⟨by decide +kernel, rfl, by decide⟩
theorem dX12_laysBestSpan_59 : Dc cX12_laysBestSpan 59 (.iload_n 3) 1 60 := ⟨by decide +kernel, rfl⟩
theorem dX12_laysBestSpan_60 : Dc cX12_laysBestSpan 60 (.iload_n 1) 1 61 := ⟨by decide +kernel, rfl⟩
theorem dX12_laysBestSpan_61 : Dc cX12_laysBestSpan 61 (.iload_n 2) 1 62 := ⟨by decide +kernel, rfl⟩
theorem dX12_laysBestSpan_62 : Dc cX12_laysBestSpan 62 (.invokestatic 282) 3 65 := ⟨by decide +kernel, rfl⟩
theorem dX12_laysBestSpan_65 : Dc cX12_laysBestSpan 65 (.istore 4) 2 67 := ⟨by decide +kernel, rfl⟩
theorem dX12_laysBestSpan_67 : Dc cX12_laysBestSpan 67 (.iconst 0) 1 68 := ⟨by decide +kernel, rfl⟩
theorem dX12_laysBestSpan_68 : Dc cX12_laysBestSpan 68 (.istore 5) 2 70 := ⟨by decide +kernel, rfl⟩
theorem dX12_laysBestSpan_70 : Dc cX12_laysBestSpan 70 (.iload 5) 2 72 := ⟨by decide +kernel, rfl⟩
theorem dX12_laysBestSpan_72 : Dc cX12_laysBestSpan 72 (.aload_n 0) 1 73 := ⟨by decide +kernel, rfl⟩
theorem dX12_laysBestSpan_73 : Dc cX12_laysBestSpan 73 (.getfield 132) 3 76 := ⟨by decide +kernel, rfl⟩
theorem dX12_laysBestSpan_76 : Dc cX12_laysBestSpan 76 (.iload 4) 2 78 := ⟨by decide +kernel, rfl⟩
theorem dX12_laysBestSpan_78 : Dc cX12_laysBestSpan 78 (.iaload) 1 79 := ⟨by decide +kernel, rfl⟩
theorem djX12_laysBestSpan_79 : Dj cX12_laysBestSpan 79 (.if_icmp .ge 26) 3 82 26 105 := ⟨by decide +kernel, rfl, by decide⟩
theorem dX12_laysBestSpan_82 : Dc cX12_laysBestSpan 82 (.aload_n 0) 1 83 := ⟨by decide +kernel, rfl⟩
theorem dX12_laysBestSpan_83 : Dc cX12_laysBestSpan 83 (.aload_n 0) 1 84 := ⟨by decide +kernel, rfl⟩
theorem dX12_laysBestSpan_84 : Dc cX12_laysBestSpan 84 (.getfield 129) 3 87 := ⟨by decide +kernel, rfl⟩
theorem dX12_laysBestSpan_87 : Dc cX12_laysBestSpan 87 (.iload 4) 2 89 := ⟨by decide +kernel, rfl⟩
theorem dX12_laysBestSpan_89 : Dc cX12_laysBestSpan 89 (.bipush 16) 2 91 := ⟨by decide +kernel, rfl⟩
theorem dX12_laysBestSpan_91 : Dc cX12_laysBestSpan 91 (.imul) 1 92 := ⟨by decide +kernel, rfl⟩
theorem dX12_laysBestSpan_92 : Dc cX12_laysBestSpan 92 (.iload 5) 2 94 := ⟨by decide +kernel, rfl⟩
theorem dX12_laysBestSpan_94 : Dc cX12_laysBestSpan 94 (.iadd) 1 95 := ⟨by decide +kernel, rfl⟩
theorem dX12_laysBestSpan_95 : Dc cX12_laysBestSpan 95 (.iaload) 1 96 := ⟨by decide +kernel, rfl⟩
theorem dX12_laysBestSpan_96 : Dc cX12_laysBestSpan 96 (.invokevirtual 524) 3 99 := ⟨by decide +kernel, rfl⟩
theorem dX12_laysBestSpan_99 : Dc cX12_laysBestSpan 99 (.iinc 5 1) 3 102 := ⟨by decide +kernel, rfl⟩
theorem djX12_laysBestSpan_102 : Dj cX12_laysBestSpan 102 (.goto (-32)) 3 105 (-32) 70 := ⟨by decide +kernel, rfl, by decide⟩
theorem dX12_laysBestSpan_105 : Dc cX12_laysBestSpan 105 (.aload_n 0) 1 106 := ⟨by decide +kernel, rfl⟩
theorem dX12_laysBestSpan_106 : Dc cX12_laysBestSpan 106 (.getfield 132) 3 109 := ⟨by decide +kernel, rfl⟩
theorem dX12_laysBestSpan_109 : Dc cX12_laysBestSpan 109 (.iload 4) 2 111 := ⟨by decide +kernel, rfl⟩
theorem dX12_laysBestSpan_111 : Dc cX12_laysBestSpan 111 (.iconst 0) 1 112 := ⟨by decide +kernel, rfl⟩
theorem dX12_laysBestSpan_112 : Dc cX12_laysBestSpan 112 (.iastore) 1 113 := ⟨by decide +kernel, rfl⟩
theorem dX12_laysBestSpan_113 : Dc cX12_laysBestSpan 113 (.iinc 3 1) 3 116 := ⟨by decide +kernel, rfl⟩
theorem djX12_laysBestSpan_116 : Dj cX12_laysBestSpan 116 (.goto (-63)) 3 119 (-63) 53 := ⟨by decide +kernel, rfl, by decide⟩
theorem dX12_laysBestSpan_119 : Dc cX12_laysBestSpan 119 (.iconst 0) 1 120 := ⟨by decide +kernel, rfl⟩
theorem dX12_laysBestSpan_120 : Dc cX12_laysBestSpan 120 (.istore_n 3) 1 121 := ⟨by decide +kernel, rfl⟩
theorem dX12_laysBestSpan_121 : Dc cX12_laysBestSpan 121 (.iload_n 3) 1 122 := ⟨by decide +kernel, rfl⟩
theorem dX12_laysBestSpan_122 : Dc cX12_laysBestSpan 122 (.aload_n 0) 1 123 := ⟨by decide +kernel, rfl⟩
theorem dX12_laysBestSpan_123 : Dc cX12_laysBestSpan 123 (.getfield 252) 3 126 := ⟨by decide +kernel, rfl⟩
theorem djX12_laysBestSpan_126 : Dj cX12_laysBestSpan 126 (.if_icmp .ge 74) 3 129 74 200 := ⟨by decide +kernel, rfl, by decide⟩
theorem dX12_laysBestSpan_129 : Dc cX12_laysBestSpan 129 (.aload_n 0) 1 130 := ⟨by decide +kernel, rfl⟩
theorem dX12_laysBestSpan_130 : Dc cX12_laysBestSpan 130 (.iload_n 3) 1 131 := ⟨by decide +kernel, rfl⟩
theorem dX12_laysBestSpan_131 : Dc cX12_laysBestSpan 131 (.invokevirtual 298) 3 134 := ⟨by decide +kernel, rfl⟩
theorem djX12_laysBestSpan_134 : Dj cX12_laysBestSpan 134 (.ifCond .eq 60) 3 137 60 194 := ⟨by decide +kernel, rfl, by decide⟩
theorem dX12_laysBestSpan_137 : Dc cX12_laysBestSpan 137 (.aload_n 0) 1 138 := ⟨by decide +kernel, rfl⟩
theorem dX12_laysBestSpan_138 : Dc cX12_laysBestSpan 138 (.getfield 20) 3 141 := ⟨by decide +kernel, rfl⟩
theorem dX12_laysBestSpan_141 : Dc cX12_laysBestSpan 141 (.iload_n 3) 1 142 := ⟨by decide +kernel, rfl⟩
theorem dX12_laysBestSpan_142 : Dc cX12_laysBestSpan 142 (.iaload) 1 143 := ⟨by decide +kernel, rfl⟩
theorem dX12_laysBestSpan_143 : Dc cX12_laysBestSpan 143 (.iconst (-1)) 1 144 := ⟨by decide +kernel, rfl⟩
theorem djX12_laysBestSpan_144 : Dj cX12_laysBestSpan 144 (.if_icmp .ne 50) 3 147 50 194 := ⟨by decide +kernel, rfl, by decide⟩
theorem dX12_laysBestSpan_147 : Dc cX12_laysBestSpan 147 (.aload_n 0) 1 148 := ⟨by decide +kernel, rfl⟩
theorem dX12_laysBestSpan_148 : Dc cX12_laysBestSpan 148 (.getfield 17) 3 151 := ⟨by decide +kernel, rfl⟩
theorem dX12_laysBestSpan_151 : Dc cX12_laysBestSpan 151 (.iload_n 3) 1 152 := ⟨by decide +kernel, rfl⟩
theorem dX12_laysBestSpan_152 : Dc cX12_laysBestSpan 152 (.iaload) 1 153 := ⟨by decide +kernel, rfl⟩
theorem dX12_laysBestSpan_153 : Dc cX12_laysBestSpan 153 (.bipush 100) 2 155 := ⟨by decide +kernel, rfl⟩
theorem djX12_laysBestSpan_155 : Dj cX12_laysBestSpan 155 (.if_icmp .lt 39) 3 158 39 194 := ⟨by decide +kernel, rfl, by decide⟩
theorem dX12_laysBestSpan_158 : Dc cX12_laysBestSpan 158 (.aload_n 0) 1 159 := ⟨by decide +kernel, rfl⟩
theorem dX12_laysBestSpan_159 : Dc cX12_laysBestSpan 159 (.aload_n 0) 1 160 := ⟨by decide +kernel, rfl⟩
theorem dX12_laysBestSpan_160 : Dc cX12_laysBestSpan 160 (.getfield 17) 3 163 := ⟨by decide +kernel, rfl⟩
theorem dX12_laysBestSpan_163 : Dc cX12_laysBestSpan 163 (.iload_n 3) 1 164 := ⟨by decide +kernel, rfl⟩
theorem dX12_laysBestSpan_164 : Dc cX12_laysBestSpan 164 (.iaload) 1 165 := ⟨by decide +kernel, rfl⟩
theorem dX12_laysBestSpan_165 : Dc cX12_laysBestSpan 165 (.iload_n 1) 1 166 := ⟨by decide +kernel, rfl⟩
theorem dX12_laysBestSpan_166 : Dc cX12_laysBestSpan 166 (.iload_n 2) 1 167 := ⟨by decide +kernel, rfl⟩
theorem dX12_laysBestSpan_167 : Dc cX12_laysBestSpan 167 (.invokevirtual 287) 3 170 := ⟨by decide +kernel, rfl⟩
theorem djX12_laysBestSpan_170 : Dj cX12_laysBestSpan 170 (.ifCond .ne 6) 3 173 6 176 := ⟨by decide +kernel, rfl, by decide⟩
theorem djX12_laysBestSpan_173 : Dj cX12_laysBestSpan 173 (.goto 21) 3 176 21 194 := ⟨by decide +kernel, rfl, by decide⟩
theorem dX12_laysBestSpan_176 : Dc cX12_laysBestSpan 176 (.aload_n 0) 1 177 := ⟨by decide +kernel, rfl⟩
theorem dX12_laysBestSpan_177 : Dc cX12_laysBestSpan 177 (.aload_n 0) 1 178 := ⟨by decide +kernel, rfl⟩
theorem dX12_laysBestSpan_178 : Dc cX12_laysBestSpan 178 (.iload_n 3) 1 179 := ⟨by decide +kernel, rfl⟩
theorem dX12_laysBestSpan_179 : Dc cX12_laysBestSpan 179 (.iload_n 1) 1 180 := ⟨by decide +kernel, rfl⟩
theorem dX12_laysBestSpan_180 : Dc cX12_laysBestSpan 180 (.iconst (-1)) 1 181 := ⟨by decide +kernel, rfl⟩
theorem dX12_laysBestSpan_181 : Dc cX12_laysBestSpan 181 (.iload_n 2) 1 182 := ⟨by decide +kernel, rfl⟩
theorem dX12_laysBestSpan_182 : Dc cX12_laysBestSpan 182 (.iconst (-1)) 1 183 := ⟨by decide +kernel, rfl⟩
theorem dX12_laysBestSpan_183 : Dc cX12_laysBestSpan 183 (.iconst (-1)) 1 184 := ⟨by decide +kernel, rfl⟩
theorem dX12_laysBestSpan_184 : Dc cX12_laysBestSpan 184 (.invokevirtual 511) 3 187 := ⟨by decide +kernel, rfl⟩
theorem dX12_laysBestSpan_187 : Dc cX12_laysBestSpan 187 (.invokevirtual 524) 3 190 := ⟨by decide +kernel, rfl⟩
theorem dX12_laysBestSpan_190 : Dc cX12_laysBestSpan 190 (.aload_n 0) 1 191 := ⟨by decide +kernel, rfl⟩
theorem dX12_laysBestSpan_191 : Dc cX12_laysBestSpan 191 (.invokevirtual 501) 3 194 := ⟨by decide +kernel, rfl⟩
theorem dX12_laysBestSpan_194 : Dc cX12_laysBestSpan 194 (.iinc 3 1) 3 197 := ⟨by decide +kernel, rfl⟩
theorem djX12_laysBestSpan_197 : Dj cX12_laysBestSpan 197 (.goto (-76)) 3 200 (-76) 121 := ⟨by decide +kernel, rfl, by decide⟩
theorem dX12_laysBestSpan_200 : Dc cX12_laysBestSpan 200 (.aload_n 0) 1 201 := ⟨by decide +kernel, rfl⟩
theorem dX12_laysBestSpan_201 : Dc cX12_laysBestSpan 201 (.invokevirtual 527) 3 204 := ⟨by decide +kernel, rfl⟩
theorem dX12_laysBestSpan_204 : Dc cX12_laysBestSpan 204 (.istore_n 3) 1 205 := ⟨by decide +kernel, rfl⟩
theorem dX12_laysBestSpan_205 : Dc cX12_laysBestSpan 205 (.iload_n 3) 1 206 := ⟨by decide +kernel, rfl⟩
theorem dX12_laysBestSpan_206 : Dc cX12_laysBestSpan 206 (.iconst (-1)) 1 207 := ⟨by decide +kernel, rfl⟩
theorem djX12_laysBestSpan_207 : Dj cX12_laysBestSpan 207 (.if_icmp .eq 153) 3 210 153 360 := ⟨by decide +kernel, rfl, by decide⟩
theorem dX12_laysBestSpan_210 : Dc cX12_laysBestSpan 210 (.aload_n 0) 1 211 := ⟨by decide +kernel, rfl⟩
theorem dX12_laysBestSpan_211 : Dc cX12_laysBestSpan 211 (.getfield 135) 3 214 := ⟨by decide +kernel, rfl⟩
theorem dX12_laysBestSpan_214 : Dc cX12_laysBestSpan 214 (.iload_n 3) 1 215 := ⟨by decide +kernel, rfl⟩
theorem dX12_laysBestSpan_215 : Dc cX12_laysBestSpan 215 (.iaload) 1 216 := ⟨by decide +kernel, rfl⟩
theorem dX12_laysBestSpan_216 : Dc cX12_laysBestSpan 216 (.istore 4) 2 218 := ⟨by decide +kernel, rfl⟩
theorem dX12_laysBestSpan_218 : Dc cX12_laysBestSpan 218 (.aload_n 0) 1 219 := ⟨by decide +kernel, rfl⟩
theorem dX12_laysBestSpan_219 : Dc cX12_laysBestSpan 219 (.getfield 135) 3 222 := ⟨by decide +kernel, rfl⟩
theorem dX12_laysBestSpan_222 : Dc cX12_laysBestSpan 222 (.iload_n 3) 1 223 := ⟨by decide +kernel, rfl⟩
theorem dX12_laysBestSpan_223 : Dc cX12_laysBestSpan 223 (.iconst (-1)) 1 224 := ⟨by decide +kernel, rfl⟩
theorem dX12_laysBestSpan_224 : Dc cX12_laysBestSpan 224 (.iastore) 1 225 := ⟨by decide +kernel, rfl⟩
theorem dX12_laysBestSpan_225 : Dc cX12_laysBestSpan 225 (.aload_n 0) 1 226 := ⟨by decide +kernel, rfl⟩
theorem dX12_laysBestSpan_226 : Dc cX12_laysBestSpan 226 (.getfield 13) 3 229 := ⟨by decide +kernel, rfl⟩
theorem dX12_laysBestSpan_229 : Dc cX12_laysBestSpan 229 (.aload_n 0) 1 230 := ⟨by decide +kernel, rfl⟩
theorem dX12_laysBestSpan_230 : Dc cX12_laysBestSpan 230 (.getfield 102) 3 233 := ⟨by decide +kernel, rfl⟩
theorem dX12_laysBestSpan_233 : Dc cX12_laysBestSpan 233 (.iload 4) 2 235 := ⟨by decide +kernel, rfl⟩
theorem dX12_laysBestSpan_235 : Dc cX12_laysBestSpan 235 (.iaload) 1 236 := ⟨by decide +kernel, rfl⟩
theorem dX12_laysBestSpan_236 : Dc cX12_laysBestSpan 236 (.iaload) 1 237 := ⟨by decide +kernel, rfl⟩
theorem dX12_laysBestSpan_237 : Dc cX12_laysBestSpan 237 (.istore 5) 2 239 := ⟨by decide +kernel, rfl⟩
theorem dX12_laysBestSpan_239 : Dc cX12_laysBestSpan 239 (.iload 5) 2 241 := ⟨by decide +kernel, rfl⟩
theorem dX12_laysBestSpan_241 : Dc cX12_laysBestSpan 241 (.iload_n 1) 1 242 := ⟨by decide +kernel, rfl⟩
theorem dX12_laysBestSpan_242 : Dc cX12_laysBestSpan 242 (.iload_n 2) 1 243 := ⟨by decide +kernel, rfl⟩
theorem dX12_laysBestSpan_243 : Dc cX12_laysBestSpan 243 (.invokestatic 282) 3 246 := ⟨by decide +kernel, rfl⟩
theorem dX12_laysBestSpan_246 : Dc cX12_laysBestSpan 246 (.istore 6) 2 248 := ⟨by decide +kernel, rfl⟩
theorem dX12_laysBestSpan_248 : Dc cX12_laysBestSpan 248 (.aload_n 0) 1 249 := ⟨by decide +kernel, rfl⟩
theorem dX12_laysBestSpan_249 : Dc cX12_laysBestSpan 249 (.getfield 129) 3 252 := ⟨by decide +kernel, rfl⟩
theorem dX12_laysBestSpan_252 : Dc cX12_laysBestSpan 252 (.iload 6) 2 254 := ⟨by decide +kernel, rfl⟩
theorem dX12_laysBestSpan_254 : Dc cX12_laysBestSpan 254 (.bipush 16) 2 256 := ⟨by decide +kernel, rfl⟩
theorem dX12_laysBestSpan_256 : Dc cX12_laysBestSpan 256 (.imul) 1 257 := ⟨by decide +kernel, rfl⟩
theorem dX12_laysBestSpan_257 : Dc cX12_laysBestSpan 257 (.aload_n 0) 1 258 := ⟨by decide +kernel, rfl⟩
theorem dX12_laysBestSpan_258 : Dc cX12_laysBestSpan 258 (.getfield 132) 3 261 := ⟨by decide +kernel, rfl⟩
theorem dX12_laysBestSpan_261 : Dc cX12_laysBestSpan 261 (.iload 6) 2 263 := ⟨by decide +kernel, rfl⟩
theorem dX12_laysBestSpan_263 : Dc cX12_laysBestSpan 263 (.iaload) 1 264 := ⟨by decide +kernel, rfl⟩
theorem dX12_laysBestSpan_264 : Dc cX12_laysBestSpan 264 (.iadd) 1 265 := ⟨by decide +kernel, rfl⟩
theorem dX12_laysBestSpan_265 : Dc cX12_laysBestSpan 265 (.iload 4) 2 267 := ⟨by decide +kernel, rfl⟩
theorem dX12_laysBestSpan_267 : Dc cX12_laysBestSpan 267 (.iastore) 1 268 := ⟨by decide +kernel, rfl⟩
theorem dX12_laysBestSpan_268 : Dc cX12_laysBestSpan 268 (.aload_n 0) 1 269 := ⟨by decide +kernel, rfl⟩
theorem dX12_laysBestSpan_269 : Dc cX12_laysBestSpan 269 (.getfield 132) 3 272 := ⟨by decide +kernel, rfl⟩
theorem dX12_laysBestSpan_272 : Dc cX12_laysBestSpan 272 (.iload 6) 2 274 := ⟨by decide +kernel, rfl⟩
theorem dX12_laysBestSpan_274 : Dc cX12_laysBestSpan 274 (.dup2) 1 275 := ⟨by decide +kernel, rfl⟩
theorem dX12_laysBestSpan_275 : Dc cX12_laysBestSpan 275 (.iaload) 1 276 := ⟨by decide +kernel, rfl⟩
theorem dX12_laysBestSpan_276 : Dc cX12_laysBestSpan 276 (.iconst 1) 1 277 := ⟨by decide +kernel, rfl⟩
theorem dX12_laysBestSpan_277 : Dc cX12_laysBestSpan 277 (.iadd) 1 278 := ⟨by decide +kernel, rfl⟩
theorem dX12_laysBestSpan_278 : Dc cX12_laysBestSpan 278 (.iastore) 1 279 := ⟨by decide +kernel, rfl⟩
theorem dX12_laysBestSpan_279 : Dc cX12_laysBestSpan 279 (.iconst 0) 1 280 := ⟨by decide +kernel, rfl⟩
theorem dX12_laysBestSpan_280 : Dc cX12_laysBestSpan 280 (.istore 7) 2 282 := ⟨by decide +kernel, rfl⟩
theorem dX12_laysBestSpan_282 : Dc cX12_laysBestSpan 282 (.iload 7) 2 284 := ⟨by decide +kernel, rfl⟩
theorem dX12_laysBestSpan_284 : Dc cX12_laysBestSpan 284 (.aload_n 0) 1 285 := ⟨by decide +kernel, rfl⟩
theorem dX12_laysBestSpan_285 : Dc cX12_laysBestSpan 285 (.getfield 252) 3 288 := ⟨by decide +kernel, rfl⟩
theorem djX12_laysBestSpan_288 : Dj cX12_laysBestSpan 288 (.if_icmp .ge 64) 3 291 64 352 := ⟨by decide +kernel, rfl, by decide⟩
theorem dX12_laysBestSpan_291 : Dc cX12_laysBestSpan 291 (.aload_n 0) 1 292 := ⟨by decide +kernel, rfl⟩
theorem dX12_laysBestSpan_292 : Dc cX12_laysBestSpan 292 (.iload 7) 2 294 := ⟨by decide +kernel, rfl⟩
theorem dX12_laysBestSpan_294 : Dc cX12_laysBestSpan 294 (.invokevirtual 298) 3 297 := ⟨by decide +kernel, rfl⟩
theorem djX12_laysBestSpan_297 : Dj cX12_laysBestSpan 297 (.ifCond .eq 49) 3 300 49 346 := ⟨by decide +kernel, rfl, by decide⟩
theorem dX12_laysBestSpan_300 : Dc cX12_laysBestSpan 300 (.aload_n 0) 1 301 := ⟨by decide +kernel, rfl⟩
theorem dX12_laysBestSpan_301 : Dc cX12_laysBestSpan 301 (.getfield 20) 3 304 := ⟨by decide +kernel, rfl⟩
theorem dX12_laysBestSpan_304 : Dc cX12_laysBestSpan 304 (.iload 7) 2 306 := ⟨by decide +kernel, rfl⟩
theorem dX12_laysBestSpan_306 : Dc cX12_laysBestSpan 306 (.iaload) 1 307 := ⟨by decide +kernel, rfl⟩
theorem dX12_laysBestSpan_307 : Dc cX12_laysBestSpan 307 (.iconst (-1)) 1 308 := ⟨by decide +kernel, rfl⟩
theorem djX12_laysBestSpan_308 : Dj cX12_laysBestSpan 308 (.if_icmp .ne 38) 3 311 38 346 := ⟨by decide +kernel, rfl, by decide⟩
theorem dX12_laysBestSpan_311 : Dc cX12_laysBestSpan 311 (.aload_n 0) 1 312 := ⟨by decide +kernel, rfl⟩
theorem dX12_laysBestSpan_312 : Dc cX12_laysBestSpan 312 (.getfield 17) 3 315 := ⟨by decide +kernel, rfl⟩
theorem dX12_laysBestSpan_315 : Dc cX12_laysBestSpan 315 (.iload 7) 2 317 := ⟨by decide +kernel, rfl⟩
theorem dX12_laysBestSpan_317 : Dc cX12_laysBestSpan 317 (.iaload) 1 318 := ⟨by decide +kernel, rfl⟩
theorem dX12_laysBestSpan_318 : Dc cX12_laysBestSpan 318 (.iload 5) 2 320 := ⟨by decide +kernel, rfl⟩
theorem djX12_laysBestSpan_320 : Dj cX12_laysBestSpan 320 (.if_icmp .eq 6) 3 323 6 326 := ⟨by decide +kernel, rfl, by decide⟩
theorem djX12_laysBestSpan_323 : Dj cX12_laysBestSpan 323 (.goto 23) 3 326 23 346 := ⟨by decide +kernel, rfl, by decide⟩
theorem dX12_laysBestSpan_326 : Dc cX12_laysBestSpan 326 (.aload_n 0) 1 327 := ⟨by decide +kernel, rfl⟩
theorem dX12_laysBestSpan_327 : Dc cX12_laysBestSpan 327 (.aload_n 0) 1 328 := ⟨by decide +kernel, rfl⟩
theorem dX12_laysBestSpan_328 : Dc cX12_laysBestSpan 328 (.iload 7) 2 330 := ⟨by decide +kernel, rfl⟩
theorem dX12_laysBestSpan_330 : Dc cX12_laysBestSpan 330 (.iload_n 1) 1 331 := ⟨by decide +kernel, rfl⟩
theorem dX12_laysBestSpan_331 : Dc cX12_laysBestSpan 331 (.iconst (-1)) 1 332 := ⟨by decide +kernel, rfl⟩
theorem dX12_laysBestSpan_332 : Dc cX12_laysBestSpan 332 (.iload_n 2) 1 333 := ⟨by decide +kernel, rfl⟩
theorem dX12_laysBestSpan_333 : Dc cX12_laysBestSpan 333 (.iload 4) 2 335 := ⟨by decide +kernel, rfl⟩
theorem dX12_laysBestSpan_335 : Dc cX12_laysBestSpan 335 (.iconst (-1)) 1 336 := ⟨by decide +kernel, rfl⟩
theorem dX12_laysBestSpan_336 : Dc cX12_laysBestSpan 336 (.invokevirtual 511) 3 339 := ⟨by decide +kernel, rfl⟩
theorem dX12_laysBestSpan_339 : Dc cX12_laysBestSpan 339 (.invokevirtual 524) 3 342 := ⟨by decide +kernel, rfl⟩
theorem dX12_laysBestSpan_342 : Dc cX12_laysBestSpan 342 (.aload_n 0) 1 343 := ⟨by decide +kernel, rfl⟩
theorem dX12_laysBestSpan_343 : Dc cX12_laysBestSpan 343 (.invokevirtual 501) 3 346 := ⟨by decide +kernel, rfl⟩
theorem dX12_laysBestSpan_346 : Dc cX12_laysBestSpan 346 (.iinc 7 1) 3 349 := ⟨by decide +kernel, rfl⟩
theorem djX12_laysBestSpan_349 : Dj cX12_laysBestSpan 349 (.goto (-67)) 3 352 (-67) 282 := ⟨by decide +kernel, rfl, by decide⟩
theorem dX12_laysBestSpan_352 : Dc cX12_laysBestSpan 352 (.aload_n 0) 1 353 := ⟨by decide +kernel, rfl⟩
theorem dX12_laysBestSpan_353 : Dc cX12_laysBestSpan 353 (.invokevirtual 527) 3 356 := ⟨by decide +kernel, rfl⟩
theorem dX12_laysBestSpan_356 : Dc cX12_laysBestSpan 356 (.istore_n 3) 1 357 := ⟨by decide +kernel, rfl⟩
theorem djX12_laysBestSpan_357 : Dj cX12_laysBestSpan 357 (.goto (-152)) 3 360 (-152) 205 := ⟨by decide +kernel, rfl, by decide⟩
theorem dX12_laysBestSpan_360 : Dc cX12_laysBestSpan 360 (.return_) 1 361 := ⟨by decide +kernel, rfl⟩
section
variable {p : Program} {l : Launch} {e : Env} {s : State} {m : MethodId} {args : Array Value} {below : List Frame} {meth : Method} {c : Code} {A0 : Nat → Prop} {D : va_G} {cA : Nat → ClassId} {ad : Nat → Nat} {Z : (Nat → Nat) × (Nat → Nat)} {Q : Int → St → Prop}
set_option maxHeartbeats 4000000 in
set_option maxRecDepth 100000 in
theorem t_X12_laysBestSpan_b35 (E : Ev p s m args meth c cX12_laysBestSpan 8 RX12 A0 D cA ad NR Z) (hr : meth.sig.returnType = none) {K2 : Int → Int → Int → St → Prop} (hK2 : ∀ (x1 : Int) (x2 : Int) (x3 : Int) (σ : St), C32 x1 → C32 x2 → C32 x3 → CanS shR NR σ → K2 x1 x2 x3 σ → G p l e (rmL 805 0 0) s m args below meth c 8 A0 D cA ad shR NR 0 0 (MQ below (QVc D cA ad shR NR Q A0) args s 0 0 A0) σ 2 [some (.ref (ad 0)), some (vI x1), some (vI x2), some (vI x3), none, none, none, none] []) (x1 : Int) (x2 : Int) (x3 : Int) (σ : St) (c1 : C32 x1) (c2 : C32 x2) (c3 : C32 x3) (hσ : CanS shR NR σ) (h : wp_X12_laysBestSpan_b35 Q K2 x1 x2 x3 σ) : G p l e (rmL 805 0 0) s m args below meth c 8 A0 D cA ad shR NR 0 0 (MQ below (QVc D cA ad shR NR Q A0) args s 0 0 A0) σ 35 [some (.ref (ad 0)), some (vI x1), some (vI x2), some (vI x3), none, none, none, none] [] := by
  unfold wp_X12_laysBestSpan_b35 at h
  refine g_iinc_3 E rfl (by decide) dX12_laysBestSpan_35 (fun v9 ev9 => ?_)
  replace h := h v9 ev9
  have cv9 : C32 v9 := by rw [ev9]; exact c32_w _
  refine g_goto E djX12_laysBestSpan_38 ?_
  exact (hK2 x1 x2 v9 σ c1 c2 cv9 hσ h).weak (w_k (w_k (w_k (w_k (w_d (w_d (w_d (w_d w_n))))))))
set_option maxHeartbeats 4000000 in
set_option maxRecDepth 100000 in
theorem t_X12_laysBestSpan_l70 (E : Ev p s m args meth c cX12_laysBestSpan 8 RX12 A0 D cA ad NR Z) (hr : meth.sig.returnType = none) {K53 : Int → Int → Int → St → Prop} (hK53 : ∀ (x1 : Int) (x2 : Int) (x3 : Int) (σ : St), C32 x1 → C32 x2 → C32 x3 → CanS shR NR σ → K53 x1 x2 x3 σ → G p l e (rmL 805 0 0) s m args below meth c 8 A0 D cA ad shR NR 0 0 (MQ below (QVc D cA ad shR NR Q A0) args s 0 0 A0) σ 53 [some (.ref (ad 0)), some (vI x1), some (vI x2), some (vI x3), none, none, none, none] []) : ∀ (n : Nat) (x1 : Int) (x2 : Int) (x3 : Int) (x4 : Int) (x5 : Int) (σ : St), C32 x1 → C32 x2 → C32 x3 → C32 x4 → C32 x5 → CanS shR NR σ → wp_X12_laysBestSpan_l70 Q K53 n x1 x2 x3 x4 x5 σ → G p l e (rmL 805 0 0) s m args below meth c 8 A0 D cA ad shR NR 0 0 (MQ below (QVc D cA ad shR NR Q A0) args s 0 0 A0) σ 70 [some (.ref (ad 0)), some (vI x1), some (vI x2), some (vI x3), some (vI x4), some (vI x5), none, none] [] := by
  intro n
  induction n with
  | zero => intro _ _ _ _ _ _ _ _ _ _ _ _ h; exact h.elim
  | succ n ih =>
    intro x1 x2 x3 x4 x5 σ c1 c2 c3 c4 c5 hσ h
    unfold wp_X12_laysBestSpan_l70 at h
    refine g_iload_5 E dX12_laysBestSpan_70 ?_
    refine g_aload_0 E dX12_laysBestSpan_72 ?_
    refine g_getR E fl_RX12_132 kR_0 sR_0 rfl dX12_laysBestSpan_73 ?_
    refine g_iload_4 E dX12_laysBestSpan_76 ?_
    refine g_iald E kR_38 sR_38 (by decide) h.1 dX12_laysBestSpan_78 ?_
    replace h := h.2
    refine g_icmp_ge E c5 (aR_38 hσ _) djX12_laysBestSpan_79 (fun hc => ?_) (fun hc => ?_)
    · replace h := h.1 hc
      refine g_aload_0 E dX12_laysBestSpan_105 ?_
      refine g_getR E fl_RX12_132 kR_0 sR_0 rfl dX12_laysBestSpan_106 ?_
      refine g_iload_4 E dX12_laysBestSpan_109 ?_
      refine g_iconst E dX12_laysBestSpan_111 ?_
      refine g_iast E kR_38 sR_38 (by decide) h.1 dX12_laysBestSpan_112 (g_nmS (fun σ22 eσ22 => ?_))
      replace h := h.2 σ22 eσ22
      have hσ22 : CanS shR NR σ22 := by rw [eσ22]; exact wR_38 hσ cl_0
      refine g_iinc_3 E rfl (by decide) dX12_laysBestSpan_113 (fun v23 ev23 => ?_)
      replace h := h v23 ev23
      have cv23 : C32 v23 := by rw [ev23]; exact c32_w _
      refine g_goto E djX12_laysBestSpan_116 ?_
      exact (hK53 x1 x2 v23 σ22 c1 c2 cv23 hσ22 h).weak (w_k (w_k (w_k (w_k (w_d (w_d (w_d (w_d w_n))))))))
    · replace h := h.2 hc
      refine g_aload_0 E dX12_laysBestSpan_82 ?_
      refine g_aload_0 E dX12_laysBestSpan_83 ?_
      refine g_getR E fl_RX12_129 kR_0 sR_0 rfl dX12_laysBestSpan_84 ?_
      refine g_iload_4 E dX12_laysBestSpan_87 ?_
      refine g_bipush E (by decide) dX12_laysBestSpan_89 ?_
      refine g_imul E dX12_laysBestSpan_91 ?_
      refine g_iload_5 E dX12_laysBestSpan_92 ?_
      refine g_iadd E dX12_laysBestSpan_94 ?_
      refine g_iald E kR_37 sR_37 (by decide) h.1 dX12_laysBestSpan_95 ?_
      replace h := h.2
      refine g_callvV E my_X12_waits mi_X12_waits msel_X12_waits ml_RX12_524 (rm_ok (by decide) (by decide)) ⟨Nat.zero_le _, Nat.zero_le _⟩ kR_0 sR_0 rfl (m_X12_waits E.2.2.1 (aR_37 hσ _) hσ h) rfl rfl (Nat.le_of_ble_eq_true rfl) dX12_laysBestSpan_96 (fun σ25 r24 hσ25 h => ?_)
      refine g_iinc_5 E rfl (by decide) dX12_laysBestSpan_99 (fun v26 ev26 => ?_)
      replace h := h v26 ev26
      have cv26 : C32 v26 := by rw [ev26]; exact c32_w _
      refine g_goto E djX12_laysBestSpan_102 ?_
      exact (ih x1 x2 x3 x4 v26 σ25 c1 c2 c3 c4 cv26 hσ25 h).weak (w_k (w_k (w_k (w_k (w_k (w_k (w_d (w_d w_n))))))))
set_option maxHeartbeats 4000000 in
set_option maxRecDepth 100000 in
theorem t_X12_laysBestSpan_b194 (E : Ev p s m args meth c cX12_laysBestSpan 8 RX12 A0 D cA ad NR Z) (hr : meth.sig.returnType = none) {K121 : Int → Int → Int → St → Prop} (hK121 : ∀ (x1 : Int) (x2 : Int) (x3 : Int) (σ : St), C32 x1 → C32 x2 → C32 x3 → CanS shR NR σ → K121 x1 x2 x3 σ → G p l e (rmL 805 0 0) s m args below meth c 8 A0 D cA ad shR NR 0 0 (MQ below (QVc D cA ad shR NR Q A0) args s 0 0 A0) σ 121 [some (.ref (ad 0)), some (vI x1), some (vI x2), some (vI x3), none, none, none, none] []) (x1 : Int) (x2 : Int) (x3 : Int) (σ : St) (c1 : C32 x1) (c2 : C32 x2) (c3 : C32 x3) (hσ : CanS shR NR σ) (h : wp_X12_laysBestSpan_b194 Q K121 x1 x2 x3 σ) : G p l e (rmL 805 0 0) s m args below meth c 8 A0 D cA ad shR NR 0 0 (MQ below (QVc D cA ad shR NR Q A0) args s 0 0 A0) σ 194 [some (.ref (ad 0)), some (vI x1), some (vI x2), some (vI x3), none, none, none, none] [] := by
  unfold wp_X12_laysBestSpan_b194 at h
  refine g_iinc_3 E rfl (by decide) dX12_laysBestSpan_194 (fun v34 ev34 => ?_)
  replace h := h v34 ev34
  have cv34 : C32 v34 := by rw [ev34]; exact c32_w _
  refine g_goto E djX12_laysBestSpan_197 ?_
  exact (hK121 x1 x2 v34 σ c1 c2 cv34 hσ h).weak (w_k (w_k (w_k (w_k (w_d (w_d (w_d (w_d w_n))))))))
set_option maxHeartbeats 4000000 in
set_option maxRecDepth 100000 in
theorem t_X12_laysBestSpan_b346 (E : Ev p s m args meth c cX12_laysBestSpan 8 RX12 A0 D cA ad NR Z) (hr : meth.sig.returnType = none) {K205 : Int → Int → Int → St → Prop} (hK205 : ∀ (x1 : Int) (x2 : Int) (x3 : Int) (σ : St), C32 x1 → C32 x2 → C32 x3 → CanS shR NR σ → K205 x1 x2 x3 σ → G p l e (rmL 805 0 0) s m args below meth c 8 A0 D cA ad shR NR 0 0 (MQ below (QVc D cA ad shR NR Q A0) args s 0 0 A0) σ 205 [some (.ref (ad 0)), some (vI x1), some (vI x2), some (vI x3), none, none, none, none] []) {K282 : Int → Int → Int → Int → Int → St → Prop} (hK282 : ∀ (x1 : Int) (x2 : Int) (x4 : Int) (x5 : Int) (x7 : Int) (σ : St), C32 x1 → C32 x2 → C32 x4 → C32 x5 → C32 x7 → CanS shR NR σ → K282 x1 x2 x4 x5 x7 σ → G p l e (rmL 805 0 0) s m args below meth c 8 A0 D cA ad shR NR 0 0 (MQ below (QVc D cA ad shR NR Q A0) args s 0 0 A0) σ 282 [some (.ref (ad 0)), some (vI x1), some (vI x2), none, some (vI x4), some (vI x5), none, some (vI x7)] []) (x1 : Int) (x2 : Int) (x4 : Int) (x5 : Int) (x7 : Int) (σ : St) (c1 : C32 x1) (c2 : C32 x2) (c4 : C32 x4) (c5 : C32 x5) (c7 : C32 x7) (hσ : CanS shR NR σ) (h : wp_X12_laysBestSpan_b346 Q K205 K282 x1 x2 x4 x5 x7 σ) : G p l e (rmL 805 0 0) s m args below meth c 8 A0 D cA ad shR NR 0 0 (MQ below (QVc D cA ad shR NR Q A0) args s 0 0 A0) σ 346 [some (.ref (ad 0)), some (vI x1), some (vI x2), none, some (vI x4), some (vI x5), none, some (vI x7)] [] := by
  unfold wp_X12_laysBestSpan_b346 at h
  refine g_iinc_7 E rfl (by decide) dX12_laysBestSpan_346 (fun v45 ev45 => ?_)
  replace h := h v45 ev45
  have cv45 : C32 v45 := by rw [ev45]; exact c32_w _
  refine g_goto E djX12_laysBestSpan_349 ?_
  exact (hK282 x1 x2 x4 x5 v45 σ c1 c2 c4 c5 cv45 hσ h).weak (w_k (w_k (w_k (w_d (w_k (w_k (w_d (w_k w_n))))))))
set_option maxHeartbeats 4000000 in
set_option maxRecDepth 100000 in
theorem t_X12_laysBestSpan_l282 (E : Ev p s m args meth c cX12_laysBestSpan 8 RX12 A0 D cA ad NR Z) (hr : meth.sig.returnType = none) {K205 : Int → Int → Int → St → Prop} (hK205 : ∀ (x1 : Int) (x2 : Int) (x3 : Int) (σ : St), C32 x1 → C32 x2 → C32 x3 → CanS shR NR σ → K205 x1 x2 x3 σ → G p l e (rmL 805 0 0) s m args below meth c 8 A0 D cA ad shR NR 0 0 (MQ below (QVc D cA ad shR NR Q A0) args s 0 0 A0) σ 205 [some (.ref (ad 0)), some (vI x1), some (vI x2), some (vI x3), none, none, none, none] []) : ∀ (n : Nat) (x1 : Int) (x2 : Int) (x4 : Int) (x5 : Int) (x7 : Int) (σ : St), C32 x1 → C32 x2 → C32 x4 → C32 x5 → C32 x7 → CanS shR NR σ → wp_X12_laysBestSpan_l282 Q K205 n x1 x2 x4 x5 x7 σ → G p l e (rmL 805 0 0) s m args below meth c 8 A0 D cA ad shR NR 0 0 (MQ below (QVc D cA ad shR NR Q A0) args s 0 0 A0) σ 282 [some (.ref (ad 0)), some (vI x1), some (vI x2), none, some (vI x4), some (vI x5), none, some (vI x7)] [] := by
  intro n
  induction n with
  | zero => intro _ _ _ _ _ _ _ _ _ _ _ _ h; exact h.elim
  | succ n ih =>
    intro x1 x2 x4 x5 x7 σ c1 c2 c4 c5 c7 hσ h
    unfold wp_X12_laysBestSpan_l282 at h
    refine g_iload_7 E dX12_laysBestSpan_282 ?_
    refine g_aload_0 E dX12_laysBestSpan_284 ?_
    refine g_getI E fl_RX12_252 kR_0 sR_0 rfl dX12_laysBestSpan_285 ?_
    refine g_icmp_ge E c7 (fR_0_1 hσ) djX12_laysBestSpan_288 (fun hc => ?_) (fun hc => ?_)
    · replace h := h.1 hc
      refine g_aload_0 E dX12_laysBestSpan_352 ?_
      refine g_callvI E my_X12_firstPending mi_X12_firstPending msel_X12_firstPending ml_RX12_527 (rm_ok (by decide) (by decide)) ⟨Nat.zero_le _, Nat.zero_le _⟩ kR_0 sR_0 rfl (m_X12_firstPending E.2.2.1 hσ h) rfl rfl (Nat.le_of_ble_eq_true rfl) dX12_laysBestSpan_353 (fun r35 σ36 cr35 hσ36 h => ?_)
      refine g_istore_3 E rfl (by decide) dX12_laysBestSpan_356 ?_
      refine g_goto E djX12_laysBestSpan_357 ?_
      exact (hK205 x1 x2 r35 σ36 c1 c2 cr35 hσ36 h).weak (w_k (w_k (w_k (w_k (w_d (w_d (w_d (w_d w_n))))))))
    · replace h := h.2 hc
      refine g_aload_0 E dX12_laysBestSpan_291 ?_
      refine g_iload_7 E dX12_laysBestSpan_292 ?_
      refine g_callvI E my_X12_isIn mi_X12_isIn msel_X12_isIn ml_RX12_298 (rm_ok (by decide) (by decide)) ⟨Nat.zero_le _, Nat.zero_le _⟩ kR_0 sR_0 rfl (m_X12_isIn E.2.2.1 c7 hσ h) rfl rfl (Nat.le_of_ble_eq_true rfl) dX12_laysBestSpan_294 (fun r37 σ38 cr37 hσ38 h => ?_)
      refine g_if_eq E cr37 djX12_laysBestSpan_297 (fun hc => ?_) (fun hc => ?_)
      · replace h := h.1 hc
        exact (t_X12_laysBestSpan_b346 E hr hK205 ih x1 x2 x4 x5 x7 σ38 c1 c2 c4 c5 c7 hσ38 h).weak (w_k (w_k (w_k (w_d (w_k (w_k (w_d (w_k w_n))))))))
      · replace h := h.2 hc
        refine g_aload_0 E dX12_laysBestSpan_300 ?_
        refine g_getR E fl_RX12_20 kR_0 sR_0 rfl dX12_laysBestSpan_301 ?_
        refine g_iload_7 E dX12_laysBestSpan_304 ?_
        refine g_iald E kR_3 sR_3 (by decide) h.1 dX12_laysBestSpan_306 ?_
        replace h := h.2
        refine g_iconst E dX12_laysBestSpan_307 ?_
        refine g_icmp_ne E (aR_3 hσ38 _) cl_m1 djX12_laysBestSpan_308 (fun hc => ?_) (fun hc => ?_)
        · replace h := h.1 hc
          exact (t_X12_laysBestSpan_b346 E hr hK205 ih x1 x2 x4 x5 x7 σ38 c1 c2 c4 c5 c7 hσ38 h).weak (w_k (w_k (w_k (w_d (w_k (w_k (w_d (w_k w_n))))))))
        · replace h := h.2 hc
          refine g_aload_0 E dX12_laysBestSpan_311 ?_
          refine g_getR E fl_RX12_17 kR_0 sR_0 rfl dX12_laysBestSpan_312 ?_
          refine g_iload_7 E dX12_laysBestSpan_315 ?_
          refine g_iald E kR_2 sR_2 (by decide) h.1 dX12_laysBestSpan_317 ?_
          replace h := h.2
          refine g_iload_5 E dX12_laysBestSpan_318 ?_
          refine g_icmp_eq E (aR_2 hσ38 _) c5 djX12_laysBestSpan_320 (fun hc => ?_) (fun hc => ?_)
          · replace h := h.1 hc
            refine g_aload_0 E dX12_laysBestSpan_326 ?_
            refine g_aload_0 E dX12_laysBestSpan_327 ?_
            refine g_iload_7 E dX12_laysBestSpan_328 ?_
            refine g_iload_1 E dX12_laysBestSpan_330 ?_
            refine g_iconst E dX12_laysBestSpan_331 ?_
            refine g_iload_2 E dX12_laysBestSpan_332 ?_
            refine g_iload_4 E dX12_laysBestSpan_333 ?_
            refine g_iconst E dX12_laysBestSpan_335 ?_
            refine g_callvI E my_X12_writes mi_X12_writes msel_X12_writes ml_RX12_511 (rm_ok (by decide) (by decide)) ⟨Nat.zero_le _, Nat.zero_le _⟩ kR_0 sR_0 rfl (m_X12_writes E.2.2.1 c7 c1 cl_m1 c2 c4 cl_m1 hσ38 h) rfl rfl (Nat.le_of_ble_eq_true rfl) dX12_laysBestSpan_336 (fun r39 σ40 cr39 hσ40 h => ?_)
            refine g_callvV E my_X12_waits mi_X12_waits msel_X12_waits ml_RX12_524 (rm_ok (by decide) (by decide)) ⟨Nat.zero_le _, Nat.zero_le _⟩ kR_0 sR_0 rfl (m_X12_waits E.2.2.1 cr39 hσ40 h) rfl rfl (Nat.le_of_ble_eq_true rfl) dX12_laysBestSpan_339 (fun σ42 r41 hσ42 h => ?_)
            refine g_aload_0 E dX12_laysBestSpan_342 ?_
            refine g_callvV E my_X12_takesNode mi_X12_takesNode msel_X12_takesNode ml_RX12_501 (rm_ok (by decide) (by decide)) ⟨Nat.zero_le _, Nat.zero_le _⟩ kR_0 sR_0 rfl (m_X12_takesNode E.2.2.1 hσ42 h) rfl rfl (Nat.le_of_ble_eq_true rfl) dX12_laysBestSpan_343 (fun σ44 r43 hσ44 h => ?_)
            exact (t_X12_laysBestSpan_b346 E hr hK205 ih x1 x2 x4 x5 x7 σ44 c1 c2 c4 c5 c7 hσ44 h).weak (w_k (w_k (w_k (w_d (w_k (w_k (w_d (w_k w_n))))))))
          · replace h := h.2 hc
            refine g_goto E djX12_laysBestSpan_323 ?_
            exact (t_X12_laysBestSpan_b346 E hr hK205 ih x1 x2 x4 x5 x7 σ38 c1 c2 c4 c5 c7 hσ38 h).weak (w_k (w_k (w_k (w_d (w_k (w_k (w_d (w_k w_n))))))))
set_option maxHeartbeats 4000000 in
set_option maxRecDepth 100000 in
theorem t_X12_laysBestSpan_l205 (E : Ev p s m args meth c cX12_laysBestSpan 8 RX12 A0 D cA ad NR Z) (hr : meth.sig.returnType = none) : ∀ (n : Nat) (x1 : Int) (x2 : Int) (x3 : Int) (σ : St), C32 x1 → C32 x2 → C32 x3 → CanS shR NR σ → wp_X12_laysBestSpan_l205 Q n x1 x2 x3 σ → G p l e (rmL 805 0 0) s m args below meth c 8 A0 D cA ad shR NR 0 0 (MQ below (QVc D cA ad shR NR Q A0) args s 0 0 A0) σ 205 [some (.ref (ad 0)), some (vI x1), some (vI x2), some (vI x3), none, none, none, none] [] := by
  intro n
  induction n with
  | zero => intro _ _ _ _ _ _ _ _ h; exact h.elim
  | succ n ih =>
    intro x1 x2 x3 σ c1 c2 c3 hσ h
    unfold wp_X12_laysBestSpan_l205 at h
    refine g_iload_3 E dX12_laysBestSpan_205 ?_
    refine g_iconst E dX12_laysBestSpan_206 ?_
    refine g_icmp_eq E c3 cl_m1 djX12_laysBestSpan_207 (fun hc => ?_) (fun hc => ?_)
    · replace h := h.1 hc
      exact g_vret E hr h hσ dX12_laysBestSpan_360
    · replace h := h.2 hc
      refine g_aload_0 E dX12_laysBestSpan_210 ?_
      refine g_getR E fl_RX12_135 kR_0 sR_0 rfl dX12_laysBestSpan_211 ?_
      refine g_iload_3 E dX12_laysBestSpan_214 ?_
      refine g_iald E kR_39 sR_39 (by decide) h.1 dX12_laysBestSpan_215 ?_
      replace h := h.2
      refine g_nmI (fun v27 ev27 => ?_)
      replace h := h v27 ev27
      have cv27 : C32 v27 := by rw [ev27]; exact (aR_39 hσ _)
      refine g_istore_4 E rfl (by decide) dX12_laysBestSpan_216 ?_
      refine g_aload_0 E dX12_laysBestSpan_218 ?_
      refine g_getR E fl_RX12_135 kR_0 sR_0 rfl dX12_laysBestSpan_219 ?_
      refine g_iload_3 E dX12_laysBestSpan_222 ?_
      refine g_iconst E dX12_laysBestSpan_223 ?_
      refine g_iast E kR_39 sR_39 (by decide) h.1 dX12_laysBestSpan_224 (g_nmS (fun σ28 eσ28 => ?_))
      replace h := h.2 σ28 eσ28
      have hσ28 : CanS shR NR σ28 := by rw [eσ28]; exact wR_39 hσ cl_m1
      refine g_aload_0 E dX12_laysBestSpan_225 ?_
      refine g_getR E fl_RX12_13 kR_0 sR_0 rfl dX12_laysBestSpan_226 ?_
      refine g_aload_0 E dX12_laysBestSpan_229 ?_
      refine g_getR E fl_RX12_102 kR_0 sR_0 rfl dX12_laysBestSpan_230 ?_
      refine g_iload_4 E dX12_laysBestSpan_233 ?_
      refine g_iald E kR_28 sR_28 (by decide) h.1 dX12_laysBestSpan_235 ?_
      replace h := h.2
      refine g_iald E kR_1 sR_1 (by decide) h.1 dX12_laysBestSpan_236 ?_
      replace h := h.2
      refine g_nmI (fun v29 ev29 => ?_)
      replace h := h v29 ev29
      have cv29 : C32 v29 := by rw [ev29]; exact (aR_1 hσ28 _)
      refine g_istore_5 E rfl (by decide) dX12_laysBestSpan_237 ?_
      refine g_iload_5 E dX12_laysBestSpan_239 ?_
      refine g_iload_1 E dX12_laysBestSpan_241 ?_
      refine g_iload_2 E dX12_laysBestSpan_242 ?_
      refine g_callsI E my_X12_item ms_X12_item ml_RX12_282 (rm_ok (by decide) (by decide)) ⟨Nat.zero_le _, Nat.zero_le _⟩ (m_X12_item E.2.2.1 cv29 c1 c2 hσ28 h) rfl rfl (Nat.le_of_ble_eq_true rfl) dX12_laysBestSpan_243 (fun r30 σ31 cr30 hσ31 h => ?_)
      refine g_istore_6 E rfl (by decide) dX12_laysBestSpan_246 ?_
      refine g_aload_0 E dX12_laysBestSpan_248 ?_
      refine g_getR E fl_RX12_129 kR_0 sR_0 rfl dX12_laysBestSpan_249 ?_
      refine g_iload_6 E dX12_laysBestSpan_252 ?_
      refine g_bipush E (by decide) dX12_laysBestSpan_254 ?_
      refine g_imul E dX12_laysBestSpan_256 ?_
      refine g_aload_0 E dX12_laysBestSpan_257 ?_
      refine g_getR E fl_RX12_132 kR_0 sR_0 rfl dX12_laysBestSpan_258 ?_
      refine g_iload_6 E dX12_laysBestSpan_261 ?_
      refine g_iald E kR_38 sR_38 (by decide) h.1 dX12_laysBestSpan_263 ?_
      replace h := h.2
      refine g_iadd E dX12_laysBestSpan_264 ?_
      refine g_iload_4 E dX12_laysBestSpan_265 ?_
      refine g_iast E kR_37 sR_37 (by decide) h.1 dX12_laysBestSpan_267 (g_nmS (fun σ32 eσ32 => ?_))
      replace h := h.2 σ32 eσ32
      have hσ32 : CanS shR NR σ32 := by rw [eσ32]; exact wR_37 hσ31 cv27
      refine g_aload_0 E dX12_laysBestSpan_268 ?_
      refine g_getR E fl_RX12_132 kR_0 sR_0 rfl dX12_laysBestSpan_269 ?_
      refine g_iload_6 E dX12_laysBestSpan_272 ?_
      refine g_dup2 E rfl rfl dX12_laysBestSpan_274 ?_
      refine g_iald E kR_38 sR_38 (by decide) h.1 dX12_laysBestSpan_275 ?_
      replace h := h.2
      refine g_iconst E dX12_laysBestSpan_276 ?_
      refine g_iadd E dX12_laysBestSpan_277 ?_
      refine g_iast E kR_38 sR_38 (by decide) h.1 dX12_laysBestSpan_278 (g_nmS (fun σ33 eσ33 => ?_))
      replace h := h.2 σ33 eσ33
      have hσ33 : CanS shR NR σ33 := by rw [eσ33]; exact wR_38 hσ32 (c32_w _)
      refine g_iconst E dX12_laysBestSpan_279 ?_
      refine g_istore_7 E rfl (by decide) dX12_laysBestSpan_280 ?_
      exact (t_X12_laysBestSpan_l282 E hr ih bigN x1 x2 v27 v29 0 σ33 c1 c2 cv27 cv29 cl_0 hσ33 h).weak (w_k (w_k (w_k (w_d (w_k (w_k (w_d (w_k w_n))))))))
set_option maxHeartbeats 4000000 in
set_option maxRecDepth 100000 in
theorem t_X12_laysBestSpan_l121 (E : Ev p s m args meth c cX12_laysBestSpan 8 RX12 A0 D cA ad NR Z) (hr : meth.sig.returnType = none) : ∀ (n : Nat) (x1 : Int) (x2 : Int) (x3 : Int) (σ : St), C32 x1 → C32 x2 → C32 x3 → CanS shR NR σ → wp_X12_laysBestSpan_l121 Q n x1 x2 x3 σ → G p l e (rmL 805 0 0) s m args below meth c 8 A0 D cA ad shR NR 0 0 (MQ below (QVc D cA ad shR NR Q A0) args s 0 0 A0) σ 121 [some (.ref (ad 0)), some (vI x1), some (vI x2), some (vI x3), none, none, none, none] [] := by
  intro n
  induction n with
  | zero => intro _ _ _ _ _ _ _ _ h; exact h.elim
  | succ n ih =>
    intro x1 x2 x3 σ c1 c2 c3 hσ h
    unfold wp_X12_laysBestSpan_l121 at h
    refine g_iload_3 E dX12_laysBestSpan_121 ?_
    refine g_aload_0 E dX12_laysBestSpan_122 ?_
    refine g_getI E fl_RX12_252 kR_0 sR_0 rfl dX12_laysBestSpan_123 ?_
    refine g_icmp_ge E c3 (fR_0_1 hσ) djX12_laysBestSpan_126 (fun hc => ?_) (fun hc => ?_)
    · replace h := h.1 hc
      refine g_aload_0 E dX12_laysBestSpan_200 ?_
      refine g_callvI E my_X12_firstPending mi_X12_firstPending msel_X12_firstPending ml_RX12_527 (rm_ok (by decide) (by decide)) ⟨Nat.zero_le _, Nat.zero_le _⟩ kR_0 sR_0 rfl (m_X12_firstPending E.2.2.1 hσ h) rfl rfl (Nat.le_of_ble_eq_true rfl) dX12_laysBestSpan_201 (fun r10 σ11 cr10 hσ11 h => ?_)
      refine g_istore_3 E rfl (by decide) dX12_laysBestSpan_204 ?_
      exact (t_X12_laysBestSpan_l205 E hr bigN x1 x2 r10 σ11 c1 c2 cr10 hσ11 h).weak (w_k (w_k (w_k (w_k (w_d (w_d (w_d (w_d w_n))))))))
    · replace h := h.2 hc
      refine g_aload_0 E dX12_laysBestSpan_129 ?_
      refine g_iload_3 E dX12_laysBestSpan_130 ?_
      refine g_callvI E my_X12_isIn mi_X12_isIn msel_X12_isIn ml_RX12_298 (rm_ok (by decide) (by decide)) ⟨Nat.zero_le _, Nat.zero_le _⟩ kR_0 sR_0 rfl (m_X12_isIn E.2.2.1 c3 hσ h) rfl rfl (Nat.le_of_ble_eq_true rfl) dX12_laysBestSpan_131 (fun r12 σ13 cr12 hσ13 h => ?_)
      refine g_if_eq E cr12 djX12_laysBestSpan_134 (fun hc => ?_) (fun hc => ?_)
      · replace h := h.1 hc
        exact (t_X12_laysBestSpan_b194 E hr ih x1 x2 x3 σ13 c1 c2 c3 hσ13 h).weak (w_k (w_k (w_k (w_k (w_d (w_d (w_d (w_d w_n))))))))
      · replace h := h.2 hc
        refine g_aload_0 E dX12_laysBestSpan_137 ?_
        refine g_getR E fl_RX12_20 kR_0 sR_0 rfl dX12_laysBestSpan_138 ?_
        refine g_iload_3 E dX12_laysBestSpan_141 ?_
        refine g_iald E kR_3 sR_3 (by decide) h.1 dX12_laysBestSpan_142 ?_
        replace h := h.2
        refine g_iconst E dX12_laysBestSpan_143 ?_
        refine g_icmp_ne E (aR_3 hσ13 _) cl_m1 djX12_laysBestSpan_144 (fun hc => ?_) (fun hc => ?_)
        · replace h := h.1 hc
          exact (t_X12_laysBestSpan_b194 E hr ih x1 x2 x3 σ13 c1 c2 c3 hσ13 h).weak (w_k (w_k (w_k (w_k (w_d (w_d (w_d (w_d w_n))))))))
        · replace h := h.2 hc
          refine g_aload_0 E dX12_laysBestSpan_147 ?_
          refine g_getR E fl_RX12_17 kR_0 sR_0 rfl dX12_laysBestSpan_148 ?_
          refine g_iload_3 E dX12_laysBestSpan_151 ?_
          refine g_iald E kR_2 sR_2 (by decide) h.1 dX12_laysBestSpan_152 ?_
          replace h := h.2
          refine g_bipush E (by decide) dX12_laysBestSpan_153 ?_
          refine g_icmp_lt E (aR_2 hσ13 _) cl_100 djX12_laysBestSpan_155 (fun hc => ?_) (fun hc => ?_)
          · replace h := h.1 hc
            exact (t_X12_laysBestSpan_b194 E hr ih x1 x2 x3 σ13 c1 c2 c3 hσ13 h).weak (w_k (w_k (w_k (w_k (w_d (w_d (w_d (w_d w_n))))))))
          · replace h := h.2 hc
            refine g_aload_0 E dX12_laysBestSpan_158 ?_
            refine g_aload_0 E dX12_laysBestSpan_159 ?_
            refine g_getR E fl_RX12_17 kR_0 sR_0 rfl dX12_laysBestSpan_160 ?_
            refine g_iload_3 E dX12_laysBestSpan_163 ?_
            refine g_iald E kR_2 sR_2 (by decide) h.1 dX12_laysBestSpan_164 ?_
            replace h := h.2
            refine g_iload_1 E dX12_laysBestSpan_165 ?_
            refine g_iload_2 E dX12_laysBestSpan_166 ?_
            refine g_callvI E my_X12_fits mi_X12_fits msel_X12_fits ml_RX12_287 (rm_ok (by decide) (by decide)) ⟨Nat.zero_le _, Nat.zero_le _⟩ kR_0 sR_0 rfl (m_X12_fits E.2.2.1 (aR_2 hσ13 _) c1 c2 hσ13 h) rfl rfl (Nat.le_of_ble_eq_true rfl) dX12_laysBestSpan_167 (fun r14 σ15 cr14 hσ15 h => ?_)
            refine g_if_ne E cr14 djX12_laysBestSpan_170 (fun hc => ?_) (fun hc => ?_)
            · replace h := h.1 hc
              refine g_aload_0 E dX12_laysBestSpan_176 ?_
              refine g_aload_0 E dX12_laysBestSpan_177 ?_
              refine g_iload_3 E dX12_laysBestSpan_178 ?_
              refine g_iload_1 E dX12_laysBestSpan_179 ?_
              refine g_iconst E dX12_laysBestSpan_180 ?_
              refine g_iload_2 E dX12_laysBestSpan_181 ?_
              refine g_iconst E dX12_laysBestSpan_182 ?_
              refine g_iconst E dX12_laysBestSpan_183 ?_
              refine g_callvI E my_X12_writes mi_X12_writes msel_X12_writes ml_RX12_511 (rm_ok (by decide) (by decide)) ⟨Nat.zero_le _, Nat.zero_le _⟩ kR_0 sR_0 rfl (m_X12_writes E.2.2.1 c3 c1 cl_m1 c2 cl_m1 cl_m1 hσ15 h) rfl rfl (Nat.le_of_ble_eq_true rfl) dX12_laysBestSpan_184 (fun r16 σ17 cr16 hσ17 h => ?_)
              refine g_callvV E my_X12_waits mi_X12_waits msel_X12_waits ml_RX12_524 (rm_ok (by decide) (by decide)) ⟨Nat.zero_le _, Nat.zero_le _⟩ kR_0 sR_0 rfl (m_X12_waits E.2.2.1 cr16 hσ17 h) rfl rfl (Nat.le_of_ble_eq_true rfl) dX12_laysBestSpan_187 (fun σ19 r18 hσ19 h => ?_)
              refine g_aload_0 E dX12_laysBestSpan_190 ?_
              refine g_callvV E my_X12_takesNode mi_X12_takesNode msel_X12_takesNode ml_RX12_501 (rm_ok (by decide) (by decide)) ⟨Nat.zero_le _, Nat.zero_le _⟩ kR_0 sR_0 rfl (m_X12_takesNode E.2.2.1 hσ19 h) rfl rfl (Nat.le_of_ble_eq_true rfl) dX12_laysBestSpan_191 (fun σ21 r20 hσ21 h => ?_)
              exact (t_X12_laysBestSpan_b194 E hr ih x1 x2 x3 σ21 c1 c2 c3 hσ21 h).weak (w_k (w_k (w_k (w_k (w_d (w_d (w_d (w_d w_n))))))))
            · replace h := h.2 hc
              refine g_goto E djX12_laysBestSpan_173 ?_
              exact (t_X12_laysBestSpan_b194 E hr ih x1 x2 x3 σ15 c1 c2 c3 hσ15 h).weak (w_k (w_k (w_k (w_k (w_d (w_d (w_d (w_d w_n))))))))
set_option maxHeartbeats 4000000 in
set_option maxRecDepth 100000 in
theorem t_X12_laysBestSpan_l53 (E : Ev p s m args meth c cX12_laysBestSpan 8 RX12 A0 D cA ad NR Z) (hr : meth.sig.returnType = none) : ∀ (n : Nat) (x1 : Int) (x2 : Int) (x3 : Int) (σ : St), C32 x1 → C32 x2 → C32 x3 → CanS shR NR σ → wp_X12_laysBestSpan_l53 Q n x1 x2 x3 σ → G p l e (rmL 805 0 0) s m args below meth c 8 A0 D cA ad shR NR 0 0 (MQ below (QVc D cA ad shR NR Q A0) args s 0 0 A0) σ 53 [some (.ref (ad 0)), some (vI x1), some (vI x2), some (vI x3), none, none, none, none] [] := by
  intro n
  induction n with
  | zero => intro _ _ _ _ _ _ _ _ h; exact h.elim
  | succ n ih =>
    intro x1 x2 x3 σ c1 c2 c3 hσ h
    unfold wp_X12_laysBestSpan_l53 at h
    refine g_iload_3 E dX12_laysBestSpan_53 ?_
    refine g_bipush E (by decide) dX12_laysBestSpan_54 ?_
    refine g_icmp_ge E c3 cl_12 djX12_laysBestSpan_56 (fun hc => ?_) (fun hc => ?_)
    · replace h := h.1 hc
      refine g_iconst E dX12_laysBestSpan_119 ?_
      refine g_istore_3 E rfl (by decide) dX12_laysBestSpan_120 ?_
      exact (t_X12_laysBestSpan_l121 E hr bigN x1 x2 0 σ c1 c2 cl_0 hσ h).weak (w_k (w_k (w_k (w_k (w_d (w_d (w_d (w_d w_n))))))))
    · replace h := h.2 hc
      refine g_iload_3 E dX12_laysBestSpan_59 ?_
      refine g_iload_1 E dX12_laysBestSpan_60 ?_
      refine g_iload_2 E dX12_laysBestSpan_61 ?_
      refine g_callsI E my_X12_item ms_X12_item ml_RX12_282 (rm_ok (by decide) (by decide)) ⟨Nat.zero_le _, Nat.zero_le _⟩ (m_X12_item E.2.2.1 c3 c1 c2 hσ h) rfl rfl (Nat.le_of_ble_eq_true rfl) dX12_laysBestSpan_62 (fun r7 σ8 cr7 hσ8 h => ?_)
      refine g_istore_4 E rfl (by decide) dX12_laysBestSpan_65 ?_
      refine g_iconst E dX12_laysBestSpan_67 ?_
      refine g_istore_5 E rfl (by decide) dX12_laysBestSpan_68 ?_
      exact (t_X12_laysBestSpan_l70 E hr ih bigN x1 x2 x3 r7 0 σ8 c1 c2 c3 cr7 cl_0 hσ8 h).weak (w_k (w_k (w_k (w_k (w_k (w_k (w_d (w_d w_n))))))))
set_option maxHeartbeats 4000000 in
set_option maxRecDepth 100000 in
theorem t_X12_laysBestSpan_l2 (E : Ev p s m args meth c cX12_laysBestSpan 8 RX12 A0 D cA ad NR Z) (hr : meth.sig.returnType = none) : ∀ (n : Nat) (x1 : Int) (x2 : Int) (x3 : Int) (σ : St), C32 x1 → C32 x2 → C32 x3 → CanS shR NR σ → wp_X12_laysBestSpan_l2 Q n x1 x2 x3 σ → G p l e (rmL 805 0 0) s m args below meth c 8 A0 D cA ad shR NR 0 0 (MQ below (QVc D cA ad shR NR Q A0) args s 0 0 A0) σ 2 [some (.ref (ad 0)), some (vI x1), some (vI x2), some (vI x3), none, none, none, none] [] := by
  intro n
  induction n with
  | zero => intro _ _ _ _ _ _ _ _ h; exact h.elim
  | succ n ih =>
    intro x1 x2 x3 σ c1 c2 c3 hσ h
    unfold wp_X12_laysBestSpan_l2 at h
    refine g_iload_3 E dX12_laysBestSpan_2 ?_
    refine g_aload_0 E dX12_laysBestSpan_3 ?_
    refine g_getI E fl_RX12_252 kR_0 sR_0 rfl dX12_laysBestSpan_4 ?_
    refine g_icmp_ge E c3 (fR_0_1 hσ) djX12_laysBestSpan_7 (fun hc => ?_) (fun hc => ?_)
    · replace h := h.1 hc
      refine g_aload_0 E dX12_laysBestSpan_41 ?_
      refine g_iconst E dX12_laysBestSpan_42 ?_
      refine g_putI E fl_RX12_518 rfl rfl kR_0 sR_0 rfl dX12_laysBestSpan_43 (g_nmS (fun σ1 eσ1 => ?_))
      replace h := h σ1 eσ1
      have hσ1 : CanS shR NR σ1 := by rw [eσ1]; exact uR_0_59 hσ cl_0
      refine g_aload_0 E dX12_laysBestSpan_46 ?_
      refine g_iconst E dX12_laysBestSpan_47 ?_
      refine g_putI E fl_RX12_480 rfl rfl kR_0 sR_0 rfl dX12_laysBestSpan_48 (g_nmS (fun σ2 eσ2 => ?_))
      replace h := h σ2 eσ2
      have hσ2 : CanS shR NR σ2 := by rw [eσ2]; exact uR_0_55 hσ1 cl_m1
      refine g_iconst E dX12_laysBestSpan_51 ?_
      refine g_istore_3 E rfl (by decide) dX12_laysBestSpan_52 ?_
      exact (t_X12_laysBestSpan_l53 E hr bigN x1 x2 0 σ2 c1 c2 cl_0 hσ2 h).weak (w_k (w_k (w_k (w_k (w_d (w_d (w_d (w_d w_n))))))))
    · replace h := h.2 hc
      refine g_aload_0 E dX12_laysBestSpan_10 ?_
      refine g_iload_3 E dX12_laysBestSpan_11 ?_
      refine g_callvI E my_X12_isIn mi_X12_isIn msel_X12_isIn ml_RX12_298 (rm_ok (by decide) (by decide)) ⟨Nat.zero_le _, Nat.zero_le _⟩ kR_0 sR_0 rfl (m_X12_isIn E.2.2.1 c3 hσ h) rfl rfl (Nat.le_of_ble_eq_true rfl) dX12_laysBestSpan_12 (fun r3 σ4 cr3 hσ4 h => ?_)
      refine g_if_eq E cr3 djX12_laysBestSpan_15 (fun hc => ?_) (fun hc => ?_)
      · replace h := h.1 hc
        exact (t_X12_laysBestSpan_b35 E hr ih x1 x2 x3 σ4 c1 c2 c3 hσ4 h).weak (w_k (w_k (w_k (w_k (w_d (w_d (w_d (w_d w_n))))))))
      · replace h := h.2 hc
        refine g_aload_0 E dX12_laysBestSpan_18 ?_
        refine g_getR E fl_RX12_20 kR_0 sR_0 rfl dX12_laysBestSpan_19 ?_
        refine g_iload_3 E dX12_laysBestSpan_22 ?_
        refine g_iald E kR_3 sR_3 (by decide) h.1 dX12_laysBestSpan_23 ?_
        replace h := h.2
        refine g_iconst E dX12_laysBestSpan_24 ?_
        refine g_icmp_eq E (aR_3 hσ4 _) cl_m1 djX12_laysBestSpan_25 (fun hc => ?_) (fun hc => ?_)
        · replace h := h.1 hc
          exact (t_X12_laysBestSpan_b35 E hr ih x1 x2 x3 σ4 c1 c2 c3 hσ4 h).weak (w_k (w_k (w_k (w_k (w_d (w_d (w_d (w_d w_n))))))))
        · replace h := h.2 hc
          refine g_aload_0 E dX12_laysBestSpan_28 ?_
          refine g_iload_3 E dX12_laysBestSpan_29 ?_
          refine g_iload_1 E dX12_laysBestSpan_30 ?_
          refine g_iload_2 E dX12_laysBestSpan_31 ?_
          refine g_callvV E my_X12_laysTwoBest mi_X12_laysTwoBest msel_X12_laysTwoBest ml_RX12_521 (rm_ok (by decide) (by decide)) ⟨Nat.zero_le _, Nat.zero_le _⟩ kR_0 sR_0 rfl (m_X12_laysTwoBest E.2.2.1 c3 c1 c2 hσ4 h) rfl rfl (Nat.le_of_ble_eq_true rfl) dX12_laysBestSpan_32 (fun σ6 r5 hσ6 h => ?_)
          exact (t_X12_laysBestSpan_b35 E hr ih x1 x2 x3 σ6 c1 c2 c3 hσ6 h).weak (w_k (w_k (w_k (w_k (w_d (w_d (w_d (w_d w_n))))))))
set_option maxHeartbeats 4000000 in
set_option maxRecDepth 100000 in
theorem t_X12_laysBestSpan (E : Ev p s m args meth c cX12_laysBestSpan 8 RX12 A0 D cA ad NR Z) (hr : meth.sig.returnType = none) (x1 : Int) (x2 : Int) (σ : St) (c1 : C32 x1) (c2 : C32 x2) (hσ : CanS shR NR σ) (h : wp_X12_laysBestSpan x1 x2 σ Q) : G p l e (rmL 805 0 0) s m args below meth c 8 A0 D cA ad shR NR 0 0 (MQ below (QVc D cA ad shR NR Q A0) args s 0 0 A0) σ 0 [some (.ref (ad 0)), some (vI x1), some (vI x2), none, none, none, none, none] [] := by
  unfold wp_X12_laysBestSpan at h
  refine g_iconst E dX12_laysBestSpan_0 ?_
  refine g_istore_3 E rfl (by decide) dX12_laysBestSpan_1 ?_
  exact (t_X12_laysBestSpan_l2 E hr bigN x1 x2 0 σ c1 c2 cl_0 hσ h).weak (w_k (w_k (w_k (w_k (w_d (w_d (w_d (w_d w_n))))))))
end
theorem m_X12_laysBestSpan {Z : (Nat → Nat) × (Nat → Nat)} {l : Launch} {D : va_G} {cA : Nat → ClassId} {ad : Nat → Nat} {x1 x2 : Int} {σ : St} {Q : Int → St → Prop} (hA : AdOk NR ad) (c1 : C32 x1) (c2 : C32 x2) (hσ : CanS shR NR σ) (h : wp_X12_laysBestSpan x1 x2 σ Q) : KtV Z l D cA ad shR NR yX12_laysBestSpan cX12_laysBestSpan 8 none 805 [.ref (ad 0), vI x1, vI x2] σ Q :=
  KtV.of my_X12_laysBestSpan hA [some (.ref (ad 0)), some (vI x1), some (vI x2), none, none, none, none, none] (Nat.le_of_ble_eq_true rfl) rfl (fun p e s m args below meth c A0 E hr => t_X12_laysBestSpan E hr x1 x2 σ c1 c2 hσ h)
theorem dX12_laysBest_0 : Dc cX12_laysBest 0 (.aload_n 0) 1 1 := ⟨by decide +kernel, rfl⟩
theorem dX12_laysBest_1 : Dc cX12_laysBest 1 (.invokevirtual 321) 3 4 := ⟨by decide +kernel, rfl⟩
theorem dX12_laysBest_4 : Dc cX12_laysBest 4 (.aload_n 0) 1 5 := ⟨by decide +kernel, rfl⟩
theorem dX12_laysBest_5 : Dc cX12_laysBest 5 (.iconst 0) 1 6 := ⟨by decide +kernel, rfl⟩
theorem dX12_laysBest_6 : Dc cX12_laysBest 6 (.putfield 483) 3 9 := ⟨by decide +kernel, rfl⟩
theorem dX12_laysBest_9 : Dc cX12_laysBest 9 (.aload_n 0) 1 10 := ⟨by decide +kernel, rfl⟩
theorem dX12_laysBest_10 : Dc cX12_laysBest 10 (.iconst (-1)) 1 11 := ⟨by decide +kernel, rfl⟩
theorem dX12_laysBest_11 : Dc cX12_laysBest 11 (.putfield 480) 3 14 := ⟨by decide +kernel, rfl⟩
theorem dX12_laysBest_14 : Dc cX12_laysBest 14 (.iconst 0) 1 15 := ⟨by decide +kernel, rfl⟩
theorem dX12_laysBest_15 : Dc cX12_laysBest 15 (.istore_n 1) 1 16 := ⟨by decide +kernel, rfl⟩
theorem dX12_laysBest_16 : Dc cX12_laysBest 16 (.iload_n 1) 1 17 := ⟨by decide +kernel, rfl⟩
theorem dX12_laysBest_17 : Dc cX12_laysBest 17 (.sipush 768) 3 20 := ⟨by decide +kernel, rfl⟩
theorem djX12_laysBest_20 : Dj cX12_laysBest 20 (.if_icmp .ge 16) 3 23 16 36 := ⟨by decide +kernel, rfl, by decide⟩
theorem dX12_laysBest_23 : Dc cX12_laysBest 23 (.aload_n 0) 1 24 := ⟨by decide +kernel, rfl⟩
theorem dX12_laysBest_24 : Dc cX12_laysBest 24 (.getfield 132) 3 27 := ⟨by decide +kernel, rfl⟩
theorem dX12_laysBest_27 : Dc cX12_laysBest 27 (.iload_n 1) 1 28 := ⟨by decide +kernel, rfl⟩
theorem dX12_laysBest_28 : Dc cX12_laysBest 28 (.iconst 0) 1 29 := ⟨by decide +kernel, rfl⟩
theorem dX12_laysBest_29 : Dc cX12_laysBest 29 (.iastore) 1 30 := ⟨by decide +kernel, rfl⟩
theorem dX12_laysBest_30 : Dc cX12_laysBest 30 (.iinc 1 1) 3 33 := ⟨by decide +kernel, rfl⟩
theorem djX12_laysBest_33 : Dj cX12_laysBest 33 (.goto (-17)) 3 36 (-17) 16 := ⟨by decide +kernel, rfl, by decide⟩
theorem dX12_laysBest_36 : Dc cX12_laysBest 36 (.iconst 1) 1 37 := ⟨by decide +kernel, rfl⟩
theorem dX12_laysBest_37 : Dc cX12_laysBest 37 (.istore_n 1) 1 38 := ⟨by decide +kernel, rfl⟩
theorem dX12_laysBest_38 : Dc cX12_laysBest 38 (.iload_n 1) 1 39 := ⟨by decide +kernel, rfl⟩
theorem dX12_laysBest_39 : Dc cX12_laysBest 39 (.aload_n 0) 1 40 := ⟨by decide +kernel, rfl⟩
theorem dX12_laysBest_40 : Dc cX12_laysBest 40 (.getfield 305) 3 43 := ⟨by decide +kernel, rfl⟩
theorem djX12_laysBest_43 : Dj cX12_laysBest 43 (.if_icmp .gt 35) 3 46 35 78 := ⟨by decide +kernel, rfl, by decide⟩
theorem dX12_laysBest_46 : Dc cX12_laysBest 46 (.iconst 0) 1 47 := ⟨by decide +kernel, rfl⟩
theorem dX12_laysBest_47 : Dc cX12_laysBest 47 (.istore_n 2) 1 48 := ⟨by decide +kernel, rfl⟩
theorem dX12_laysBest_48 : Dc cX12_laysBest 48 (.iload_n 2) 1 49 := ⟨by decide +kernel, rfl⟩
theorem dX12_laysBest_49 : Dc cX12_laysBest 49 (.iload_n 1) 1 50 := ⟨by decide +kernel, rfl⟩
theorem dX12_laysBest_50 : Dc cX12_laysBest 50 (.iadd) 1 51 := ⟨by decide +kernel, rfl⟩
theorem dX12_laysBest_51 : Dc cX12_laysBest 51 (.aload_n 0) 1 52 := ⟨by decide +kernel, rfl⟩
theorem dX12_laysBest_52 : Dc cX12_laysBest 52 (.getfield 305) 3 55 := ⟨by decide +kernel, rfl⟩
theorem djX12_laysBest_55 : Dj cX12_laysBest 55 (.if_icmp .gt 17) 3 58 17 72 := ⟨by decide +kernel, rfl, by decide⟩
theorem dX12_laysBest_58 : Dc cX12_laysBest 58 (.aload_n 0) 1 59 := ⟨by decide +kernel, rfl⟩
theorem dX12_laysBest_59 : Dc cX12_laysBest 59 (.iload_n 2) 1 60 := ⟨by decide +kernel, rfl⟩
theorem dX12_laysBest_60 : Dc cX12_laysBest 60 (.iload_n 2) 1 61 := ⟨by decide +kernel, rfl⟩
theorem dX12_laysBest_61 : Dc cX12_laysBest 61 (.iload_n 1) 1 62 := ⟨by decide +kernel, rfl⟩
theorem dX12_laysBest_62 : Dc cX12_laysBest 62 (.iadd) 1 63 := ⟨by decide +kernel, rfl⟩
theorem dX12_laysBest_63 : Dc cX12_laysBest 63 (.invokevirtual 530) 3 66 := ⟨by decide +kernel, rfl⟩
theorem dX12_laysBest_66 : Dc cX12_laysBest 66 (.iinc 2 1) 3 69 := ⟨by decide +kernel, rfl⟩
theorem djX12_laysBest_69 : Dj cX12_laysBest 69 (.goto (-21)) 3 72 (-21) 48 := ⟨by decide +kernel, rfl, by decide⟩
theorem dX12_laysBest_72 : Dc cX12_laysBest 72 (.iinc 1 1) 3 75 := ⟨by decide +kernel, rfl⟩
theorem djX12_laysBest_75 : Dj cX12_laysBest 75 (.goto (-37)) 3 78 (-37) 38 := ⟨by decide +kernel, rfl, by decide⟩
theorem dX12_laysBest_78 : Dc cX12_laysBest 78 (.return_) 1 79 := ⟨by decide +kernel, rfl⟩
section
variable {p : Program} {l : Launch} {e : Env} {s : State} {m : MethodId} {args : Array Value} {below : List Frame} {meth : Method} {c : Code} {A0 : Nat → Prop} {D : va_G} {cA : Nat → ClassId} {ad : Nat → Nat} {Z : (Nat → Nat) × (Nat → Nat)} {Q : Int → St → Prop}
set_option maxHeartbeats 4000000 in
set_option maxRecDepth 100000 in
theorem t_X12_laysBest_l48 (E : Ev p s m args meth c cX12_laysBest 3 RX12 A0 D cA ad NR Z) (hr : meth.sig.returnType = none) {K38 : Int → St → Prop} (hK38 : ∀ (x1 : Int) (σ : St), C32 x1 → CanS shR NR σ → K38 x1 σ → G p l e (rmL 806 0 0) s m args below meth c 3 A0 D cA ad shR NR 0 0 (MQ below (QVc D cA ad shR NR Q A0) args s 0 0 A0) σ 38 [some (.ref (ad 0)), some (vI x1), none] []) : ∀ (n : Nat) (x1 : Int) (x2 : Int) (σ : St), C32 x1 → C32 x2 → CanS shR NR σ → wp_X12_laysBest_l48 Q K38 n x1 x2 σ → G p l e (rmL 806 0 0) s m args below meth c 3 A0 D cA ad shR NR 0 0 (MQ below (QVc D cA ad shR NR Q A0) args s 0 0 A0) σ 48 [some (.ref (ad 0)), some (vI x1), some (vI x2)] [] := by
  intro n
  induction n with
  | zero => intro _ _ _ _ _ _ h; exact h.elim
  | succ n ih =>
    intro x1 x2 σ c1 c2 hσ h
    unfold wp_X12_laysBest_l48 at h
    refine g_iload_2 E dX12_laysBest_48 ?_
    refine g_iload_1 E dX12_laysBest_49 ?_
    refine g_iadd E dX12_laysBest_50 ?_
    refine g_aload_0 E dX12_laysBest_51 ?_
    refine g_getI E fl_RX12_305 kR_0 sR_0 rfl dX12_laysBest_52 ?_
    refine g_icmp_gt E (c32_w _) (fR_0_27 hσ) djX12_laysBest_55 (fun hc => ?_) (fun hc => ?_)
    · replace h := h.1 hc
      refine g_iinc_1 E rfl (by decide) dX12_laysBest_72 (fun v7 ev7 => ?_)
      replace h := h v7 ev7
      have cv7 : C32 v7 := by rw [ev7]; exact c32_w _
      refine g_goto E djX12_laysBest_75 ?_
      exact (hK38 v7 σ cv7 hσ h).weak (w_k (w_k (w_d w_n)))
    · replace h := h.2 hc
      refine g_aload_0 E dX12_laysBest_58 ?_
      refine g_iload_2 E dX12_laysBest_59 ?_
      refine g_iload_2 E dX12_laysBest_60 ?_
      refine g_iload_1 E dX12_laysBest_61 ?_
      refine g_iadd E dX12_laysBest_62 ?_
      refine g_callvV E my_X12_laysBestSpan mi_X12_laysBestSpan msel_X12_laysBestSpan ml_RX12_530 (rm_ok (by decide) (by decide)) ⟨Nat.zero_le _, Nat.zero_le _⟩ kR_0 sR_0 rfl (m_X12_laysBestSpan E.2.2.1 c2 (c32_w _) hσ h) rfl rfl (Nat.le_of_ble_eq_true rfl) dX12_laysBest_63 (fun σ9 r8 hσ9 h => ?_)
      refine g_iinc_2 E rfl (by decide) dX12_laysBest_66 (fun v10 ev10 => ?_)
      replace h := h v10 ev10
      have cv10 : C32 v10 := by rw [ev10]; exact c32_w _
      refine g_goto E djX12_laysBest_69 ?_
      exact (ih x1 v10 σ9 c1 cv10 hσ9 h).weak (w_k (w_k (w_k w_n)))
set_option maxHeartbeats 4000000 in
set_option maxRecDepth 100000 in
theorem t_X12_laysBest_l38 (E : Ev p s m args meth c cX12_laysBest 3 RX12 A0 D cA ad NR Z) (hr : meth.sig.returnType = none) : ∀ (n : Nat) (x1 : Int) (σ : St), C32 x1 → CanS shR NR σ → wp_X12_laysBest_l38 Q n x1 σ → G p l e (rmL 806 0 0) s m args below meth c 3 A0 D cA ad shR NR 0 0 (MQ below (QVc D cA ad shR NR Q A0) args s 0 0 A0) σ 38 [some (.ref (ad 0)), some (vI x1), none] [] := by
  intro n
  induction n with
  | zero => intro _ _ _ _ h; exact h.elim
  | succ n ih =>
    intro x1 σ c1 hσ h
    unfold wp_X12_laysBest_l38 at h
    refine g_iload_1 E dX12_laysBest_38 ?_
    refine g_aload_0 E dX12_laysBest_39 ?_
    refine g_getI E fl_RX12_305 kR_0 sR_0 rfl dX12_laysBest_40 ?_
    refine g_icmp_gt E c1 (fR_0_27 hσ) djX12_laysBest_43 (fun hc => ?_) (fun hc => ?_)
    · replace h := h.1 hc
      exact g_vret E hr h hσ dX12_laysBest_78
    · replace h := h.2 hc
      refine g_iconst E dX12_laysBest_46 ?_
      refine g_istore_2 E rfl (by decide) dX12_laysBest_47 ?_
      exact (t_X12_laysBest_l48 E hr ih bigN x1 0 σ c1 cl_0 hσ h).weak (w_k (w_k (w_k w_n)))
set_option maxHeartbeats 4000000 in
set_option maxRecDepth 100000 in
theorem t_X12_laysBest_l16 (E : Ev p s m args meth c cX12_laysBest 3 RX12 A0 D cA ad NR Z) (hr : meth.sig.returnType = none) : ∀ (n : Nat) (x1 : Int) (σ : St), C32 x1 → CanS shR NR σ → wp_X12_laysBest_l16 Q n x1 σ → G p l e (rmL 806 0 0) s m args below meth c 3 A0 D cA ad shR NR 0 0 (MQ below (QVc D cA ad shR NR Q A0) args s 0 0 A0) σ 16 [some (.ref (ad 0)), some (vI x1), none] [] := by
  intro n
  induction n with
  | zero => intro _ _ _ _ h; exact h.elim
  | succ n ih =>
    intro x1 σ c1 hσ h
    unfold wp_X12_laysBest_l16 at h
    refine g_iload_1 E dX12_laysBest_16 ?_
    refine g_sipush E (by decide) dX12_laysBest_17 ?_
    refine g_icmp_ge E c1 cl_768 djX12_laysBest_20 (fun hc => ?_) (fun hc => ?_)
    · replace h := h.1 hc
      refine g_iconst E dX12_laysBest_36 ?_
      refine g_istore_1 E rfl (by decide) dX12_laysBest_37 ?_
      exact (t_X12_laysBest_l38 E hr bigN 1 σ cl_1 hσ h).weak (w_k (w_k (w_d w_n)))
    · replace h := h.2 hc
      refine g_aload_0 E dX12_laysBest_23 ?_
      refine g_getR E fl_RX12_132 kR_0 sR_0 rfl dX12_laysBest_24 ?_
      refine g_iload_1 E dX12_laysBest_27 ?_
      refine g_iconst E dX12_laysBest_28 ?_
      refine g_iast E kR_38 sR_38 (by decide) h.1 dX12_laysBest_29 (g_nmS (fun σ5 eσ5 => ?_))
      replace h := h.2 σ5 eσ5
      have hσ5 : CanS shR NR σ5 := by rw [eσ5]; exact wR_38 hσ cl_0
      refine g_iinc_1 E rfl (by decide) dX12_laysBest_30 (fun v6 ev6 => ?_)
      replace h := h v6 ev6
      have cv6 : C32 v6 := by rw [ev6]; exact c32_w _
      refine g_goto E djX12_laysBest_33 ?_
      exact (ih v6 σ5 cv6 hσ5 h).weak (w_k (w_k (w_d w_n)))
set_option maxHeartbeats 4000000 in
set_option maxRecDepth 100000 in
theorem t_X12_laysBest (E : Ev p s m args meth c cX12_laysBest 3 RX12 A0 D cA ad NR Z) (hr : meth.sig.returnType = none) (σ : St) (hσ : CanS shR NR σ) (h : wp_X12_laysBest  σ Q) : G p l e (rmL 806 0 0) s m args below meth c 3 A0 D cA ad shR NR 0 0 (MQ below (QVc D cA ad shR NR Q A0) args s 0 0 A0) σ 0 [some (.ref (ad 0)), none, none] [] := by
  unfold wp_X12_laysBest at h
  refine g_aload_0 E dX12_laysBest_0 ?_
  refine g_callvV E my_X12_looks mi_X12_looks msel_X12_looks ml_RX12_321 (rm_ok (by decide) (by decide)) ⟨Nat.zero_le _, Nat.zero_le _⟩ kR_0 sR_0 rfl (m_X12_looks E.2.2.1 hσ h) rfl rfl (Nat.le_of_ble_eq_true rfl) dX12_laysBest_1 (fun σ2 r1 hσ2 h => ?_)
  refine g_aload_0 E dX12_laysBest_4 ?_
  refine g_iconst E dX12_laysBest_5 ?_
  refine g_putI E fl_RX12_483 rfl rfl kR_0 sR_0 rfl dX12_laysBest_6 (g_nmS (fun σ3 eσ3 => ?_))
  replace h := h σ3 eσ3
  have hσ3 : CanS shR NR σ3 := by rw [eσ3]; exact uR_0_54 hσ2 cl_0
  refine g_aload_0 E dX12_laysBest_9 ?_
  refine g_iconst E dX12_laysBest_10 ?_
  refine g_putI E fl_RX12_480 rfl rfl kR_0 sR_0 rfl dX12_laysBest_11 (g_nmS (fun σ4 eσ4 => ?_))
  replace h := h σ4 eσ4
  have hσ4 : CanS shR NR σ4 := by rw [eσ4]; exact uR_0_55 hσ3 cl_m1
  refine g_iconst E dX12_laysBest_14 ?_
  refine g_istore_1 E rfl (by decide) dX12_laysBest_15 ?_
  exact (t_X12_laysBest_l16 E hr bigN 0 σ4 cl_0 hσ4 h).weak (w_k (w_k (w_d w_n)))
end
theorem m_X12_laysBest {Z : (Nat → Nat) × (Nat → Nat)} {l : Launch} {D : va_G} {cA : Nat → ClassId} {ad : Nat → Nat} {σ : St} {Q : Int → St → Prop} (hA : AdOk NR ad) (hσ : CanS shR NR σ) (h : wp_X12_laysBest  σ Q) : KtV Z l D cA ad shR NR yX12_laysBest cX12_laysBest 3 none 806 [.ref (ad 0)] σ Q :=
  KtV.of my_X12_laysBest hA [some (.ref (ad 0)), none, none] (Nat.le_of_ble_eq_true rfl) rfl (fun p e s m args below meth c A0 E hr => t_X12_laysBest E hr σ hσ h)
theorem dX12_treeOf_0 : Dc cX12_treeOf 0 (.iload_n 1) 1 1 := ⟨by decide +kernel, rfl⟩
theorem dX12_treeOf_1 : Dc cX12_treeOf 1 (.iload_n 2) 1 2 := ⟨by decide +kernel, rfl⟩
theorem dX12_treeOf_2 : Dc cX12_treeOf 2 (.iload_n 3) 1 3 := ⟨by decide +kernel, rfl⟩
theorem dX12_treeOf_3 : Dc cX12_treeOf 3 (.invokestatic 282) 3 6 := ⟨by decide +kernel, rfl⟩
theorem dX12_treeOf_6 : Dc cX12_treeOf 6 (.istore 5) 2 8 := ⟨by decide +kernel, rfl⟩
theorem dX12_treeOf_8 : Dc cX12_treeOf 8 (.iload 4) 2 10 := ⟨by decide +kernel, rfl⟩
theorem dX12_treeOf_10 : Dc cX12_treeOf 10 (.aload_n 0) 1 11 := ⟨by decide +kernel, rfl⟩
theorem dX12_treeOf_11 : Dc cX12_treeOf 11 (.getfield 132) 3 14 := ⟨by decide +kernel, rfl⟩
theorem dX12_treeOf_14 : Dc cX12_treeOf 14 (.iload 5) 2 16 := ⟨by decide +kernel, rfl⟩
theorem dX12_treeOf_16 : Dc cX12_treeOf 16 (.iaload) 1 17 := ⟨by decide +kernel, rfl⟩
theorem djX12_treeOf_17 : Dj cX12_treeOf 17 (.if_icmp .ge 19) 3 20 19 36 := ⟨by decide +kernel, rfl, by decide⟩
theorem dX12_treeOf_20 : Dc cX12_treeOf 20 (.aload_n 0) 1 21 := ⟨by decide +kernel, rfl⟩
theorem dX12_treeOf_21 : Dc cX12_treeOf 21 (.getfield 129) 3 24 := ⟨by decide +kernel, rfl⟩
theorem dX12_treeOf_24 : Dc cX12_treeOf 24 (.iload 5) 2 26 := ⟨by decide +kernel, rfl⟩
theorem dX12_treeOf_26 : Dc cX12_treeOf 26 (.bipush 16) 2 28 := ⟨by decide +kernel, rfl⟩
theorem dX12_treeOf_28 : Dc cX12_treeOf 28 (.imul) 1 29 := ⟨by decide +kernel, rfl⟩
theorem dX12_treeOf_29 : Dc cX12_treeOf 29 (.iload 4) 2 31 := ⟨by decide +kernel, rfl⟩
theorem dX12_treeOf_31 : Dc cX12_treeOf 31 (.iadd) 1 32 := ⟨by decide +kernel, rfl⟩
theorem dX12_treeOf_32 : Dc cX12_treeOf 32 (.iaload) 1 33 := ⟨by decide +kernel, rfl⟩
theorem djX12_treeOf_33 : Dj cX12_treeOf 33 (.goto 4) 3 36 4 37 := ⟨by decide +kernel, rfl, by decide⟩
theorem dX12_treeOf_36 : Dc cX12_treeOf 36 (.iconst (-1)) 1 37 := ⟨by decide +kernel, rfl⟩
theorem dX12_treeOf_37 : Dc cX12_treeOf 37 (.ireturn) 1 38 := ⟨by decide +kernel, rfl⟩
section
variable {p : Program} {l : Launch} {e : Env} {s : State} {m : MethodId} {args : Array Value} {below : List Frame} {meth : Method} {c : Code} {A0 : Nat → Prop} {D : va_G} {cA : Nat → ClassId} {ad : Nat → Nat} {Z : (Nat → Nat) × (Nat → Nat)} {Q : Int → St → Prop}
set_option maxHeartbeats 4000000 in
set_option maxRecDepth 100000 in
theorem t_X12_treeOf (E : Ev p s m args meth c cX12_treeOf 6 RX12 A0 D cA ad NR Z) (hr : meth.sig.returnType = (some .int)) (x1 : Int) (x2 : Int) (x3 : Int) (x4 : Int) (σ : St) (c1 : C32 x1) (c2 : C32 x2) (c3 : C32 x3) (c4 : C32 x4) (hσ : CanS shR NR σ) (h : wp_X12_treeOf x1 x2 x3 x4 σ Q) : G p l e (rmL 2 0 0) s m args below meth c 6 A0 D cA ad shR NR 0 0 (MQ below (QIc D cA ad shR NR Q A0) args s 0 0 A0) σ 0 [some (.ref (ad 0)), some (vI x1), some (vI x2), some (vI x3), some (vI x4), none] [] := by
  unfold wp_X12_treeOf at h
  refine g_iload_1 E dX12_treeOf_0 ?_
  refine g_iload_2 E dX12_treeOf_1 ?_
  refine g_iload_3 E dX12_treeOf_2 ?_
  refine g_callsI E my_X12_item ms_X12_item ml_RX12_282 (rm_ok (by decide) (by decide)) ⟨Nat.zero_le _, Nat.zero_le _⟩ (m_X12_item E.2.2.1 c1 c2 c3 hσ h) rfl rfl (Nat.le_of_ble_eq_true rfl) dX12_treeOf_3 (fun r1 σ2 cr1 hσ2 h => ?_)
  refine g_istore_5 E rfl (by decide) dX12_treeOf_6 ?_
  refine g_iload_4 E dX12_treeOf_8 ?_
  refine g_aload_0 E dX12_treeOf_10 ?_
  refine g_getR E fl_RX12_132 kR_0 sR_0 rfl dX12_treeOf_11 ?_
  refine g_iload_5 E dX12_treeOf_14 ?_
  refine g_iald E kR_38 sR_38 (by decide) h.1 dX12_treeOf_16 ?_
  replace h := h.2
  refine g_icmp_ge E c4 (aR_38 hσ2 _) djX12_treeOf_17 (fun hc => ?_) (fun hc => ?_)
  · replace h := h.1 hc
    refine g_iconst E dX12_treeOf_36 ?_
    exact g_iret E hr cl_m1 h hσ2 dX12_treeOf_37
  · replace h := h.2 hc
    refine g_aload_0 E dX12_treeOf_20 ?_
    refine g_getR E fl_RX12_129 kR_0 sR_0 rfl dX12_treeOf_21 ?_
    refine g_iload_5 E dX12_treeOf_24 ?_
    refine g_bipush E (by decide) dX12_treeOf_26 ?_
    refine g_imul E dX12_treeOf_28 ?_
    refine g_iload_4 E dX12_treeOf_29 ?_
    refine g_iadd E dX12_treeOf_31 ?_
    refine g_iald E kR_37 sR_37 (by decide) h.1 dX12_treeOf_32 ?_
    replace h := h.2
    refine g_goto E djX12_treeOf_33 ?_
    exact g_iret E hr (aR_37 hσ2 _) h hσ2 dX12_treeOf_37
end
theorem m_X12_treeOf {Z : (Nat → Nat) × (Nat → Nat)} {l : Launch} {D : va_G} {cA : Nat → ClassId} {ad : Nat → Nat} {x1 x2 x3 x4 : Int} {σ : St} {Q : Int → St → Prop} (hA : AdOk NR ad) (c1 : C32 x1) (c2 : C32 x2) (c3 : C32 x3) (c4 : C32 x4) (hσ : CanS shR NR σ) (h : wp_X12_treeOf x1 x2 x3 x4 σ Q) : KtI Z l D cA ad shR NR yX12_treeOf cX12_treeOf 6 (some .int) 2 [.ref (ad 0), vI x1, vI x2, vI x3, vI x4] σ Q :=
  KtI.of my_X12_treeOf hA [some (.ref (ad 0)), some (vI x1), some (vI x2), some (vI x3), some (vI x4), none] (Nat.le_of_ble_eq_true rfl) rfl (fun p e s m args below meth c A0 E hr => t_X12_treeOf E hr x1 x2 x3 x4 σ c1 c2 c3 c4 hσ h)
theorem dX12_best_0 : Dc cX12_best 0 (.aload_n 0) 1 1 := ⟨by decide +kernel, rfl⟩
theorem dX12_best_1 : Dc cX12_best 1 (.iload_n 1) 1 2 := ⟨by decide +kernel, rfl⟩
theorem dX12_best_2 : Dc cX12_best 2 (.iload_n 2) 1 3 := ⟨by decide +kernel, rfl⟩
theorem dX12_best_3 : Dc cX12_best 3 (.iload_n 3) 1 4 := ⟨by decide +kernel, rfl⟩
theorem dX12_best_4 : Dc cX12_best 4 (.invokevirtual 318) 3 7 := ⟨by decide +kernel, rfl⟩
theorem djX12_best_7 : Dj cX12_best 7 (.ifCond .eq 11) 3 10 11 18 := ⟨by decide +kernel, rfl, by decide⟩
theorem dX12_best_10 : Dc cX12_best 10 (.iload 4) 2 12 := ⟨by decide +kernel, rfl⟩
theorem dX12_best_12 : Dc cX12_best 12 (.invokestatic 533) 3 15 := ⟨by decide +kernel, rfl⟩
theorem djX12_best_15 : Dj cX12_best 15 (.ifCond .ne 6) 3 18 6 21 := ⟨by decide +kernel, rfl, by decide⟩
theorem dX12_best_18 : Dc cX12_best 18 (.bipush (-2)) 2 20 := ⟨by decide +kernel, rfl⟩
theorem dX12_best_20 : Dc cX12_best 20 (.ireturn) 1 21 := ⟨by decide +kernel, rfl⟩
theorem dX12_best_21 : Dc cX12_best 21 (.aload_n 0) 1 22 := ⟨by decide +kernel, rfl⟩
theorem dX12_best_22 : Dc cX12_best 22 (.invokevirtual 536) 3 25 := ⟨by decide +kernel, rfl⟩
theorem dX12_best_25 : Dc cX12_best 25 (.aload_n 0) 1 26 := ⟨by decide +kernel, rfl⟩
theorem dX12_best_26 : Dc cX12_best 26 (.iload_n 1) 1 27 := ⟨by decide +kernel, rfl⟩
theorem dX12_best_27 : Dc cX12_best 27 (.iload_n 2) 1 28 := ⟨by decide +kernel, rfl⟩
theorem dX12_best_28 : Dc cX12_best 28 (.iload_n 3) 1 29 := ⟨by decide +kernel, rfl⟩
theorem dX12_best_29 : Dc cX12_best 29 (.iload 4) 2 31 := ⟨by decide +kernel, rfl⟩
theorem dX12_best_31 : Dc cX12_best 31 (.invokevirtual 539) 3 34 := ⟨by decide +kernel, rfl⟩
theorem dX12_best_34 : Dc cX12_best 34 (.istore 5) 2 36 := ⟨by decide +kernel, rfl⟩
theorem dX12_best_36 : Dc cX12_best 36 (.iload 5) 2 38 := ⟨by decide +kernel, rfl⟩
theorem dX12_best_38 : Dc cX12_best 38 (.iconst (-1)) 1 39 := ⟨by decide +kernel, rfl⟩
theorem djX12_best_39 : Dj cX12_best 39 (.if_icmp .ne 7) 3 42 7 46 := ⟨by decide +kernel, rfl, by decide⟩
theorem dX12_best_42 : Dc cX12_best 42 (.iconst (-1)) 1 43 := ⟨by decide +kernel, rfl⟩
theorem djX12_best_43 : Dj cX12_best 43 (.goto 10) 3 46 10 53 := ⟨by decide +kernel, rfl, by decide⟩
theorem dX12_best_46 : Dc cX12_best 46 (.aload_n 0) 1 47 := ⟨by decide +kernel, rfl⟩
theorem dX12_best_47 : Dc cX12_best 47 (.getfield 120) 3 50 := ⟨by decide +kernel, rfl⟩
theorem dX12_best_50 : Dc cX12_best 50 (.iload 5) 2 52 := ⟨by decide +kernel, rfl⟩
theorem dX12_best_52 : Dc cX12_best 52 (.iaload) 1 53 := ⟨by decide +kernel, rfl⟩
theorem dX12_best_53 : Dc cX12_best 53 (.ireturn) 1 54 := ⟨by decide +kernel, rfl⟩
section
variable {p : Program} {l : Launch} {e : Env} {s : State} {m : MethodId} {args : Array Value} {below : List Frame} {meth : Method} {c : Code} {A0 : Nat → Prop} {D : va_G} {cA : Nat → ClassId} {ad : Nat → Nat} {Z : (Nat → Nat) × (Nat → Nat)} {Q : Int → St → Prop}
set_option maxHeartbeats 4000000 in
set_option maxRecDepth 100000 in
theorem t_X12_best (E : Ev p s m args meth c cX12_best 6 RX12 A0 D cA ad NR Z) (hr : meth.sig.returnType = (some .int)) (x1 : Int) (x2 : Int) (x3 : Int) (x4 : Int) (σ : St) (c1 : C32 x1) (c2 : C32 x2) (c3 : C32 x3) (c4 : C32 x4) (hσ : CanS shR NR σ) (h : wp_X12_best x1 x2 x3 x4 σ Q) : G p l e (rmL 807 0 0) s m args below meth c 6 A0 D cA ad shR NR 0 0 (MQ below (QIc D cA ad shR NR Q A0) args s 0 0 A0) σ 0 [some (.ref (ad 0)), some (vI x1), some (vI x2), some (vI x3), some (vI x4), none] [] := by
  unfold wp_X12_best at h
  refine g_aload_0 E dX12_best_0 ?_
  refine g_iload_1 E dX12_best_1 ?_
  refine g_iload_2 E dX12_best_2 ?_
  refine g_iload_3 E dX12_best_3 ?_
  refine g_callvI E my_X12_isItem mi_X12_isItem msel_X12_isItem ml_RX12_318 (rm_ok (by decide) (by decide)) ⟨Nat.zero_le _, Nat.zero_le _⟩ kR_0 sR_0 rfl (m_X12_isItem E.2.2.1 c1 c2 c3 hσ h) rfl rfl (Nat.le_of_ble_eq_true rfl) dX12_best_4 (fun r1 σ2 cr1 hσ2 h => ?_)
  refine g_if_eq E cr1 djX12_best_7 (fun hc => ?_) (fun hc => ?_)
  · replace h := h.1 hc
    refine g_bipush E (by decide) dX12_best_18 ?_
    exact g_iret E hr cl_m2 h hσ2 dX12_best_20
  · replace h := h.2 hc
    refine g_iload_4 E dX12_best_10 ?_
    refine g_callsI E my_X12_isPlace ms_X12_isPlace ml_RX12_533 (rm_ok (by decide) (by decide)) ⟨Nat.zero_le _, Nat.zero_le _⟩ (m_X12_isPlace E.2.2.1 c4 hσ2 h) rfl rfl (Nat.le_of_ble_eq_true rfl) dX12_best_12 (fun r3 σ4 cr3 hσ4 h => ?_)
    refine g_if_ne E cr3 djX12_best_15 (fun hc => ?_) (fun hc => ?_)
    · replace h := h.1 hc
      refine g_aload_0 E dX12_best_21 ?_
      refine g_callvV E my_X12_laysBest mi_X12_laysBest msel_X12_laysBest ml_RX12_536 (rm_ok (by decide) (by decide)) ⟨Nat.zero_le _, Nat.zero_le _⟩ kR_0 sR_0 rfl (m_X12_laysBest E.2.2.1 hσ4 h) rfl rfl (Nat.le_of_ble_eq_true rfl) dX12_best_22 (fun σ6 r5 hσ6 h => ?_)
      refine g_aload_0 E dX12_best_25 ?_
      refine g_iload_1 E dX12_best_26 ?_
      refine g_iload_2 E dX12_best_27 ?_
      refine g_iload_3 E dX12_best_28 ?_
      refine g_iload_4 E dX12_best_29 ?_
      refine g_callvI E my_X12_treeOf mi_X12_treeOf msel_X12_treeOf ml_RX12_539 (rm_ok (by decide) (by decide)) ⟨Nat.zero_le _, Nat.zero_le _⟩ kR_0 sR_0 rfl (m_X12_treeOf E.2.2.1 c1 c2 c3 c4 hσ6 h) rfl rfl (Nat.le_of_ble_eq_true rfl) dX12_best_31 (fun r7 σ8 cr7 hσ8 h => ?_)
      refine g_istore_5 E rfl (by decide) dX12_best_34 ?_
      refine g_iload_5 E dX12_best_36 ?_
      refine g_iconst E dX12_best_38 ?_
      refine g_icmp_ne E cr7 cl_m1 djX12_best_39 (fun hc => ?_) (fun hc => ?_)
      · replace h := h.1 hc
        refine g_aload_0 E dX12_best_46 ?_
        refine g_getR E fl_RX12_120 kR_0 sR_0 rfl dX12_best_47 ?_
        refine g_iload_5 E dX12_best_50 ?_
        refine g_iald E kR_34 sR_34 (by decide) h.1 dX12_best_52 ?_
        replace h := h.2
        exact g_iret E hr (aR_34 hσ8 _) h hσ8 dX12_best_53
      · replace h := h.2 hc
        refine g_iconst E dX12_best_42 ?_
        refine g_goto E djX12_best_43 ?_
        exact g_iret E hr cl_m1 h hσ8 dX12_best_53
    · replace h := h.2 hc
      refine g_bipush E (by decide) dX12_best_18 ?_
      exact g_iret E hr cl_m2 h hσ4 dX12_best_20
end
theorem m_X12_best {Z : (Nat → Nat) × (Nat → Nat)} {l : Launch} {D : va_G} {cA : Nat → ClassId} {ad : Nat → Nat} {x1 x2 x3 x4 : Int} {σ : St} {Q : Int → St → Prop} (hA : AdOk NR ad) (c1 : C32 x1) (c2 : C32 x2) (c3 : C32 x3) (c4 : C32 x4) (hσ : CanS shR NR σ) (h : wp_X12_best x1 x2 x3 x4 σ Q) : KtI Z l D cA ad shR NR yX12_best cX12_best 6 (some .int) 807 [.ref (ad 0), vI x1, vI x2, vI x3, vI x4] σ Q :=
  KtI.of my_X12_best hA [some (.ref (ad 0)), some (vI x1), some (vI x2), some (vI x3), some (vI x4), none] (Nat.le_of_ble_eq_true rfl) rfl (fun p e s m args below meth c A0 E hr => t_X12_best E hr x1 x2 x3 x4 σ c1 c2 c3 c4 hσ h)
theorem dX12_size_0 : Dc cX12_size 0 (.aload_n 0) 1 1 := ⟨by decide +kernel, rfl⟩
theorem dX12_size_1 : Dc cX12_size 1 (.iload_n 1) 1 2 := ⟨by decide +kernel, rfl⟩
theorem dX12_size_2 : Dc cX12_size 2 (.iload_n 2) 1 3 := ⟨by decide +kernel, rfl⟩
theorem dX12_size_3 : Dc cX12_size 3 (.iload_n 3) 1 4 := ⟨by decide +kernel, rfl⟩
theorem dX12_size_4 : Dc cX12_size 4 (.invokevirtual 318) 3 7 := ⟨by decide +kernel, rfl⟩
theorem djX12_size_7 : Dj cX12_size 7 (.ifCond .eq 22) 3 10 22 29 := ⟨by decide +kernel, rfl, by decide⟩
theorem dX12_size_10 : Dc cX12_size 10 (.iload 4) 2 12 := ⟨by decide +kernel, rfl⟩
theorem dX12_size_12 : Dc cX12_size 12 (.invokestatic 533) 3 15 := ⟨by decide +kernel, rfl⟩
theorem djX12_size_15 : Dj cX12_size 15 (.ifCond .eq 14) 3 18 14 29 := ⟨by decide +kernel, rfl, by decide⟩
theorem dX12_size_18 : Dc cX12_size 18 (.iload 5) 2 20 := ⟨by decide +kernel, rfl⟩
theorem dX12_size_20 : Dc cX12_size 20 (.i2l) 1 21 := ⟨by decide +kernel, rfl⟩
theorem dX12_size_21 : Dc cX12_size 21 (.lconst 0) 1 22 := ⟨by decide +kernel, rfl⟩
theorem dX12_size_22 : Dc cX12_size 22 (.lconst 1) 1 23 := ⟨by decide +kernel, rfl⟩
theorem dX12_size_23 : Dc cX12_size 23 (.invokestatic 148) 3 26 := ⟨by decide +kernel, rfl⟩
theorem djX12_size_26 : Dj cX12_size 26 (.ifCond .ne 6) 3 29 6 32 := ⟨by decide +kernel, rfl, by decide⟩
theorem dX12_size_29 : Dc cX12_size 29 (.bipush (-2)) 2 31 := ⟨by decide +kernel, rfl⟩
theorem dX12_size_31 : Dc cX12_size 31 (.ireturn) 1 32 := ⟨by decide +kernel, rfl⟩
theorem dX12_size_32 : Dc cX12_size 32 (.aload_n 0) 1 33 := ⟨by decide +kernel, rfl⟩
theorem dX12_size_33 : Dc cX12_size 33 (.invokevirtual 536) 3 36 := ⟨by decide +kernel, rfl⟩
theorem dX12_size_36 : Dc cX12_size 36 (.aload_n 0) 1 37 := ⟨by decide +kernel, rfl⟩
theorem dX12_size_37 : Dc cX12_size 37 (.iload_n 1) 1 38 := ⟨by decide +kernel, rfl⟩
theorem dX12_size_38 : Dc cX12_size 38 (.iload_n 2) 1 39 := ⟨by decide +kernel, rfl⟩
theorem dX12_size_39 : Dc cX12_size 39 (.iload_n 3) 1 40 := ⟨by decide +kernel, rfl⟩
theorem dX12_size_40 : Dc cX12_size 40 (.iload 4) 2 42 := ⟨by decide +kernel, rfl⟩
theorem dX12_size_42 : Dc cX12_size 42 (.invokevirtual 539) 3 45 := ⟨by decide +kernel, rfl⟩
theorem dX12_size_45 : Dc cX12_size 45 (.istore 6) 2 47 := ⟨by decide +kernel, rfl⟩
theorem dX12_size_47 : Dc cX12_size 47 (.iload 6) 2 49 := ⟨by decide +kernel, rfl⟩
theorem dX12_size_49 : Dc cX12_size 49 (.iconst (-1)) 1 50 := ⟨by decide +kernel, rfl⟩
theorem djX12_size_50 : Dj cX12_size 50 (.if_icmp .ne 7) 3 53 7 57 := ⟨by decide +kernel, rfl, by decide⟩
theorem dX12_size_53 : Dc cX12_size 53 (.iconst (-1)) 1 54 := ⟨by decide +kernel, rfl⟩
theorem djX12_size_54 : Dj cX12_size 54 (.goto 25) 3 57 25 79 := ⟨by decide +kernel, rfl, by decide⟩
theorem dX12_size_57 : Dc cX12_size 57 (.iload 5) 2 59 := ⟨by decide +kernel, rfl⟩
theorem djX12_size_59 : Dj cX12_size 59 (.ifCond .ne 13) 3 62 13 72 := ⟨by decide +kernel, rfl, by decide⟩
theorem dX12_size_62 : Dc cX12_size 62 (.aload_n 0) 1 63 := ⟨by decide +kernel, rfl⟩
theorem dX12_size_63 : Dc cX12_size 63 (.getfield 123) 3 66 := ⟨by decide +kernel, rfl⟩
theorem dX12_size_66 : Dc cX12_size 66 (.iload 6) 2 68 := ⟨by decide +kernel, rfl⟩
theorem dX12_size_68 : Dc cX12_size 68 (.iaload) 1 69 := ⟨by decide +kernel, rfl⟩
theorem djX12_size_69 : Dj cX12_size 69 (.goto 10) 3 72 10 79 := ⟨by decide +kernel, rfl, by decide⟩
theorem dX12_size_72 : Dc cX12_size 72 (.aload_n 0) 1 73 := ⟨by decide +kernel, rfl⟩
theorem dX12_size_73 : Dc cX12_size 73 (.getfield 126) 3 76 := ⟨by decide +kernel, rfl⟩
theorem dX12_size_76 : Dc cX12_size 76 (.iload 6) 2 78 := ⟨by decide +kernel, rfl⟩
theorem dX12_size_78 : Dc cX12_size 78 (.iaload) 1 79 := ⟨by decide +kernel, rfl⟩
theorem dX12_size_79 : Dc cX12_size 79 (.ireturn) 1 80 := ⟨by decide +kernel, rfl⟩
section
variable {p : Program} {l : Launch} {e : Env} {s : State} {m : MethodId} {args : Array Value} {below : List Frame} {meth : Method} {c : Code} {A0 : Nat → Prop} {D : va_G} {cA : Nat → ClassId} {ad : Nat → Nat} {Z : (Nat → Nat) × (Nat → Nat)} {Q : Int → St → Prop}
set_option maxHeartbeats 4000000 in
set_option maxRecDepth 100000 in
theorem t_X12_size (E : Ev p s m args meth c cX12_size 7 RX12 A0 D cA ad NR Z) (hr : meth.sig.returnType = (some .int)) (x1 : Int) (x2 : Int) (x3 : Int) (x4 : Int) (x5 : Int) (σ : St) (c1 : C32 x1) (c2 : C32 x2) (c3 : C32 x3) (c4 : C32 x4) (c5 : C32 x5) (hσ : CanS shR NR σ) (h : wp_X12_size x1 x2 x3 x4 x5 σ Q) : G p l e (rmL 807 0 0) s m args below meth c 7 A0 D cA ad shR NR 0 0 (MQ below (QIc D cA ad shR NR Q A0) args s 0 0 A0) σ 0 [some (.ref (ad 0)), some (vI x1), some (vI x2), some (vI x3), some (vI x4), some (vI x5), none] [] := by
  unfold wp_X12_size at h
  refine g_aload_0 E dX12_size_0 ?_
  refine g_iload_1 E dX12_size_1 ?_
  refine g_iload_2 E dX12_size_2 ?_
  refine g_iload_3 E dX12_size_3 ?_
  refine g_callvI E my_X12_isItem mi_X12_isItem msel_X12_isItem ml_RX12_318 (rm_ok (by decide) (by decide)) ⟨Nat.zero_le _, Nat.zero_le _⟩ kR_0 sR_0 rfl (m_X12_isItem E.2.2.1 c1 c2 c3 hσ h) rfl rfl (Nat.le_of_ble_eq_true rfl) dX12_size_4 (fun r1 σ2 cr1 hσ2 h => ?_)
  refine g_if_eq E cr1 djX12_size_7 (fun hc => ?_) (fun hc => ?_)
  · replace h := h.1 hc
    refine g_bipush E (by decide) dX12_size_29 ?_
    exact g_iret E hr cl_m2 h hσ2 dX12_size_31
  · replace h := h.2 hc
    refine g_iload_4 E dX12_size_10 ?_
    refine g_callsI E my_X12_isPlace ms_X12_isPlace ml_RX12_533 (rm_ok (by decide) (by decide)) ⟨Nat.zero_le _, Nat.zero_le _⟩ (m_X12_isPlace E.2.2.1 c4 hσ2 h) rfl rfl (Nat.le_of_ble_eq_true rfl) dX12_size_12 (fun r3 σ4 cr3 hσ4 h => ?_)
    refine g_if_eq E cr3 djX12_size_15 (fun hc => ?_) (fun hc => ?_)
    · replace h := h.1 hc
      refine g_bipush E (by decide) dX12_size_29 ?_
      exact g_iret E hr cl_m2 h hσ4 dX12_size_31
    · replace h := h.2 hc
      refine g_iload_5 E dX12_size_18 ?_
      refine g_i2l E c5 dX12_size_20 ?_
      refine g_lconst (n := 0) E (by decide) dX12_size_21 ?_
      refine g_lconst (n := 1) E (by decide) dX12_size_22 ?_
      refine g_callsI E my_X12_in ms_X12_in ml_RX12_148 (rm_ok (by decide) (by decide)) ⟨Nat.zero_le _, Nat.zero_le _⟩ (m_X12_in E.2.2.1 (c32_of_c64 c5) cL_0 cL_1 hσ4 h) rfl rfl (Nat.le_of_ble_eq_true rfl) dX12_size_23 (fun r5 σ6 cr5 hσ6 h => ?_)
      refine g_if_ne E cr5 djX12_size_26 (fun hc => ?_) (fun hc => ?_)
      · replace h := h.1 hc
        refine g_aload_0 E dX12_size_32 ?_
        refine g_callvV E my_X12_laysBest mi_X12_laysBest msel_X12_laysBest ml_RX12_536 (rm_ok (by decide) (by decide)) ⟨Nat.zero_le _, Nat.zero_le _⟩ kR_0 sR_0 rfl (m_X12_laysBest E.2.2.1 hσ6 h) rfl rfl (Nat.le_of_ble_eq_true rfl) dX12_size_33 (fun σ8 r7 hσ8 h => ?_)
        refine g_aload_0 E dX12_size_36 ?_
        refine g_iload_1 E dX12_size_37 ?_
        refine g_iload_2 E dX12_size_38 ?_
        refine g_iload_3 E dX12_size_39 ?_
        refine g_iload_4 E dX12_size_40 ?_
        refine g_callvI E my_X12_treeOf mi_X12_treeOf msel_X12_treeOf ml_RX12_539 (rm_ok (by decide) (by decide)) ⟨Nat.zero_le _, Nat.zero_le _⟩ kR_0 sR_0 rfl (m_X12_treeOf E.2.2.1 c1 c2 c3 c4 hσ8 h) rfl rfl (Nat.le_of_ble_eq_true rfl) dX12_size_42 (fun r9 σ10 cr9 hσ10 h => ?_)
        refine g_istore_6 E rfl (by decide) dX12_size_45 ?_
        refine g_iload_6 E dX12_size_47 ?_
        refine g_iconst E dX12_size_49 ?_
        refine g_icmp_ne E cr9 cl_m1 djX12_size_50 (fun hc => ?_) (fun hc => ?_)
        · replace h := h.1 hc
          refine g_iload_5 E dX12_size_57 ?_
          refine g_if_ne E c5 djX12_size_59 (fun hc => ?_) (fun hc => ?_)
          · replace h := h.1 hc
            refine g_aload_0 E dX12_size_72 ?_
            refine g_getR E fl_RX12_126 kR_0 sR_0 rfl dX12_size_73 ?_
            refine g_iload_6 E dX12_size_76 ?_
            refine g_iald E kR_36 sR_36 (by decide) h.1 dX12_size_78 ?_
            replace h := h.2
            exact g_iret E hr (aR_36 hσ10 _) h hσ10 dX12_size_79
          · replace h := h.2 hc
            refine g_aload_0 E dX12_size_62 ?_
            refine g_getR E fl_RX12_123 kR_0 sR_0 rfl dX12_size_63 ?_
            refine g_iload_6 E dX12_size_66 ?_
            refine g_iald E kR_35 sR_35 (by decide) h.1 dX12_size_68 ?_
            replace h := h.2
            refine g_goto E djX12_size_69 ?_
            exact g_iret E hr (aR_35 hσ10 _) h hσ10 dX12_size_79
        · replace h := h.2 hc
          refine g_iconst E dX12_size_53 ?_
          refine g_goto E djX12_size_54 ?_
          exact g_iret E hr cl_m1 h hσ10 dX12_size_79
      · replace h := h.2 hc
        refine g_bipush E (by decide) dX12_size_29 ?_
        exact g_iret E hr cl_m2 h hσ6 dX12_size_31
end
theorem m_X12_size {Z : (Nat → Nat) × (Nat → Nat)} {l : Launch} {D : va_G} {cA : Nat → ClassId} {ad : Nat → Nat} {x1 x2 x3 x4 x5 : Int} {σ : St} {Q : Int → St → Prop} (hA : AdOk NR ad) (c1 : C32 x1) (c2 : C32 x2) (c3 : C32 x3) (c4 : C32 x4) (c5 : C32 x5) (hσ : CanS shR NR σ) (h : wp_X12_size x1 x2 x3 x4 x5 σ Q) : KtI Z l D cA ad shR NR yX12_size cX12_size 7 (some .int) 807 [.ref (ad 0), vI x1, vI x2, vI x3, vI x4, vI x5] σ Q :=
  KtI.of my_X12_size hA [some (.ref (ad 0)), some (vI x1), some (vI x2), some (vI x3), some (vI x4), some (vI x5), none] (Nat.le_of_ble_eq_true rfl) rfl (fun p e s m args below meth c A0 E hr => t_X12_size E hr x1 x2 x3 x4 x5 σ c1 c2 c3 c4 c5 hσ h)
theorem dX12_stepOf_0 : Dc cX12_stepOf 0 (.iload_n 1) 1 1 := ⟨by decide +kernel, rfl⟩
theorem dX12_stepOf_1 : Dc cX12_stepOf 1 (.iconst (-1)) 1 2 := ⟨by decide +kernel, rfl⟩
theorem djX12_stepOf_2 : Dj cX12_stepOf 2 (.if_icmp .eq 13) 3 5 13 15 := ⟨by decide +kernel, rfl, by decide⟩
theorem dX12_stepOf_5 : Dc cX12_stepOf 5 (.iload_n 2) 1 6 := ⟨by decide +kernel, rfl⟩
theorem dX12_stepOf_6 : Dc cX12_stepOf 6 (.aload_n 0) 1 7 := ⟨by decide +kernel, rfl⟩
theorem dX12_stepOf_7 : Dc cX12_stepOf 7 (.getfield 123) 3 10 := ⟨by decide +kernel, rfl⟩
theorem dX12_stepOf_10 : Dc cX12_stepOf 10 (.iload_n 1) 1 11 := ⟨by decide +kernel, rfl⟩
theorem dX12_stepOf_11 : Dc cX12_stepOf 11 (.iaload) 1 12 := ⟨by decide +kernel, rfl⟩
theorem djX12_stepOf_12 : Dj cX12_stepOf 12 (.if_icmp .lt 5) 3 15 5 17 := ⟨by decide +kernel, rfl, by decide⟩
theorem dX12_stepOf_15 : Dc cX12_stepOf 15 (.iconst (-1)) 1 16 := ⟨by decide +kernel, rfl⟩
theorem dX12_stepOf_16 : Dc cX12_stepOf 16 (.ireturn) 1 17 := ⟨by decide +kernel, rfl⟩
theorem dX12_stepOf_17 : Dc cX12_stepOf 17 (.iload_n 1) 1 18 := ⟨by decide +kernel, rfl⟩
theorem dX12_stepOf_18 : Dc cX12_stepOf 18 (.istore_n 3) 1 19 := ⟨by decide +kernel, rfl⟩
theorem dX12_stepOf_19 : Dc cX12_stepOf 19 (.iload_n 2) 1 20 := ⟨by decide +kernel, rfl⟩
theorem dX12_stepOf_20 : Dc cX12_stepOf 20 (.istore 4) 2 22 := ⟨by decide +kernel, rfl⟩
theorem dX12_stepOf_22 : Dc cX12_stepOf 22 (.iload 4) 2 24 := ⟨by decide +kernel, rfl⟩
theorem djX12_stepOf_24 : Dj cX12_stepOf 24 (.ifCond .le 52) 3 27 52 76 := ⟨by decide +kernel, rfl, by decide⟩
theorem dX12_stepOf_27 : Dc cX12_stepOf 27 (.iinc 4 (-1)) 3 30 := ⟨by decide +kernel, rfl⟩
theorem dX12_stepOf_30 : Dc cX12_stepOf 30 (.aload_n 0) 1 31 := ⟨by decide +kernel, rfl⟩
theorem dX12_stepOf_31 : Dc cX12_stepOf 31 (.aload_n 0) 1 32 := ⟨by decide +kernel, rfl⟩
theorem dX12_stepOf_32 : Dc cX12_stepOf 32 (.getfield 114) 3 35 := ⟨by decide +kernel, rfl⟩
theorem dX12_stepOf_35 : Dc cX12_stepOf 35 (.iload_n 3) 1 36 := ⟨by decide +kernel, rfl⟩
theorem dX12_stepOf_36 : Dc cX12_stepOf 36 (.iaload) 1 37 := ⟨by decide +kernel, rfl⟩
theorem dX12_stepOf_37 : Dc cX12_stepOf 37 (.invokevirtual 489) 3 40 := ⟨by decide +kernel, rfl⟩
theorem dX12_stepOf_40 : Dc cX12_stepOf 40 (.istore 5) 2 42 := ⟨by decide +kernel, rfl⟩
theorem dX12_stepOf_42 : Dc cX12_stepOf 42 (.iload 4) 2 44 := ⟨by decide +kernel, rfl⟩
theorem dX12_stepOf_44 : Dc cX12_stepOf 44 (.iload 5) 2 46 := ⟨by decide +kernel, rfl⟩
theorem djX12_stepOf_46 : Dj cX12_stepOf 46 (.if_icmp .ge 13) 3 49 13 59 := ⟨by decide +kernel, rfl, by decide⟩
theorem dX12_stepOf_49 : Dc cX12_stepOf 49 (.aload_n 0) 1 50 := ⟨by decide +kernel, rfl⟩
theorem dX12_stepOf_50 : Dc cX12_stepOf 50 (.getfield 114) 3 53 := ⟨by decide +kernel, rfl⟩
theorem dX12_stepOf_53 : Dc cX12_stepOf 53 (.iload_n 3) 1 54 := ⟨by decide +kernel, rfl⟩
theorem dX12_stepOf_54 : Dc cX12_stepOf 54 (.iaload) 1 55 := ⟨by decide +kernel, rfl⟩
theorem dX12_stepOf_55 : Dc cX12_stepOf 55 (.istore_n 3) 1 56 := ⟨by decide +kernel, rfl⟩
theorem djX12_stepOf_56 : Dj cX12_stepOf 56 (.goto 17) 3 59 17 73 := ⟨by decide +kernel, rfl, by decide⟩
theorem dX12_stepOf_59 : Dc cX12_stepOf 59 (.iload 4) 2 61 := ⟨by decide +kernel, rfl⟩
theorem dX12_stepOf_61 : Dc cX12_stepOf 61 (.iload 5) 2 63 := ⟨by decide +kernel, rfl⟩
theorem dX12_stepOf_63 : Dc cX12_stepOf 63 (.isub) 1 64 := ⟨by decide +kernel, rfl⟩
theorem dX12_stepOf_64 : Dc cX12_stepOf 64 (.istore 4) 2 66 := ⟨by decide +kernel, rfl⟩
theorem dX12_stepOf_66 : Dc cX12_stepOf 66 (.aload_n 0) 1 67 := ⟨by decide +kernel, rfl⟩
theorem dX12_stepOf_67 : Dc cX12_stepOf 67 (.getfield 117) 3 70 := ⟨by decide +kernel, rfl⟩
theorem dX12_stepOf_70 : Dc cX12_stepOf 70 (.iload_n 3) 1 71 := ⟨by decide +kernel, rfl⟩
theorem dX12_stepOf_71 : Dc cX12_stepOf 71 (.iaload) 1 72 := ⟨by decide +kernel, rfl⟩
theorem dX12_stepOf_72 : Dc cX12_stepOf 72 (.istore_n 3) 1 73 := ⟨by decide +kernel, rfl⟩
theorem djX12_stepOf_73 : Dj cX12_stepOf 73 (.goto (-51)) 3 76 (-51) 22 := ⟨by decide +kernel, rfl, by decide⟩
theorem dX12_stepOf_76 : Dc cX12_stepOf 76 (.iload_n 3) 1 77 := ⟨by decide +kernel, rfl⟩
theorem dX12_stepOf_77 : Dc cX12_stepOf 77 (.ireturn) 1 78 := ⟨by decide +kernel, rfl⟩
section
variable {p : Program} {l : Launch} {e : Env} {s : State} {m : MethodId} {args : Array Value} {below : List Frame} {meth : Method} {c : Code} {A0 : Nat → Prop} {D : va_G} {cA : Nat → ClassId} {ad : Nat → Nat} {Z : (Nat → Nat) × (Nat → Nat)} {Q : Int → St → Prop}
set_option maxHeartbeats 4000000 in
set_option maxRecDepth 100000 in
theorem t_X12_stepOf_b73 (E : Ev p s m args meth c cX12_stepOf 6 RX12 A0 D cA ad NR Z) (hr : meth.sig.returnType = (some .int)) {K22 : Int → Int → St → Prop} (hK22 : ∀ (x3 : Int) (x4 : Int) (σ : St), C32 x3 → C32 x4 → CanS shR NR σ → K22 x3 x4 σ → G p l e (rmL 2 0 0) s m args below meth c 6 A0 D cA ad shR NR 0 0 (MQ below (QIc D cA ad shR NR Q A0) args s 0 0 A0) σ 22 [some (.ref (ad 0)), none, none, some (vI x3), some (vI x4), none] []) (x3 : Int) (x4 : Int) (σ : St) (c3 : C32 x3) (c4 : C32 x4) (hσ : CanS shR NR σ) (h : wp_X12_stepOf_b73 Q K22 x3 x4 σ) : G p l e (rmL 2 0 0) s m args below meth c 6 A0 D cA ad shR NR 0 0 (MQ below (QIc D cA ad shR NR Q A0) args s 0 0 A0) σ 73 [some (.ref (ad 0)), none, none, some (vI x3), some (vI x4), none] [] := by
  unfold wp_X12_stepOf_b73 at h
  refine g_goto E djX12_stepOf_73 ?_
  exact (hK22 x3 x4 σ c3 c4 hσ h).weak (w_k (w_d (w_d (w_k (w_k (w_d w_n))))))
set_option maxHeartbeats 4000000 in
set_option maxRecDepth 100000 in
theorem t_X12_stepOf_l22 (E : Ev p s m args meth c cX12_stepOf 6 RX12 A0 D cA ad NR Z) (hr : meth.sig.returnType = (some .int)) : ∀ (n : Nat) (x3 : Int) (x4 : Int) (σ : St), C32 x3 → C32 x4 → CanS shR NR σ → wp_X12_stepOf_l22 Q n x3 x4 σ → G p l e (rmL 2 0 0) s m args below meth c 6 A0 D cA ad shR NR 0 0 (MQ below (QIc D cA ad shR NR Q A0) args s 0 0 A0) σ 22 [some (.ref (ad 0)), none, none, some (vI x3), some (vI x4), none] [] := by
  intro n
  induction n with
  | zero => intro _ _ _ _ _ _ h; exact h.elim
  | succ n ih =>
    intro x3 x4 σ c3 c4 hσ h
    unfold wp_X12_stepOf_l22 at h
    refine g_iload_4 E dX12_stepOf_22 ?_
    refine g_if_le E c4 djX12_stepOf_24 (fun hc => ?_) (fun hc => ?_)
    · replace h := h.1 hc
      refine g_iload_3 E dX12_stepOf_76 ?_
      exact g_iret E hr c3 h hσ dX12_stepOf_77
    · replace h := h.2 hc
      refine g_iinc_4 E rfl (by decide) dX12_stepOf_27 (fun v1 ev1 => ?_)
      replace h := h v1 ev1
      have cv1 : C32 v1 := by rw [ev1]; exact c32_w _
      refine g_aload_0 E dX12_stepOf_30 ?_
      refine g_aload_0 E dX12_stepOf_31 ?_
      refine g_getR E fl_RX12_114 kR_0 sR_0 rfl dX12_stepOf_32 ?_
      refine g_iload_3 E dX12_stepOf_35 ?_
      refine g_iald E kR_32 sR_32 (by decide) h.1 dX12_stepOf_36 ?_
      replace h := h.2
      refine g_callvI E my_X12_stepsNode mi_X12_stepsNode msel_X12_stepsNode ml_RX12_489 (rm_ok (by decide) (by decide)) ⟨Nat.zero_le _, Nat.zero_le _⟩ kR_0 sR_0 rfl (m_X12_stepsNode E.2.2.1 (aR_32 hσ _) hσ h) rfl rfl (Nat.le_of_ble_eq_true rfl) dX12_stepOf_37 (fun r2 σ3 cr2 hσ3 h => ?_)
      refine g_istore_5 E rfl (by decide) dX12_stepOf_40 ?_
      refine g_iload_4 E dX12_stepOf_42 ?_
      refine g_iload_5 E dX12_stepOf_44 ?_
      refine g_icmp_ge E cv1 cr2 djX12_stepOf_46 (fun hc => ?_) (fun hc => ?_)
      · replace h := h.1 hc
        refine g_iload_4 E dX12_stepOf_59 ?_
        refine g_iload_5 E dX12_stepOf_61 ?_
        refine g_isub E dX12_stepOf_63 ?_
        refine g_nmI (fun v4 ev4 => ?_)
        replace h := h v4 ev4
        have cv4 : C32 v4 := by rw [ev4]; exact (c32_w _)
        refine g_istore_4 E rfl (by decide) dX12_stepOf_64 ?_
        refine g_aload_0 E dX12_stepOf_66 ?_
        refine g_getR E fl_RX12_117 kR_0 sR_0 rfl dX12_stepOf_67 ?_
        refine g_iload_3 E dX12_stepOf_70 ?_
        refine g_iald E kR_33 sR_33 (by decide) h.1 dX12_stepOf_71 ?_
        replace h := h.2
        refine g_nmI (fun v5 ev5 => ?_)
        replace h := h v5 ev5
        have cv5 : C32 v5 := by rw [ev5]; exact (aR_33 hσ3 _)
        refine g_istore_3 E rfl (by decide) dX12_stepOf_72 ?_
        exact (t_X12_stepOf_b73 E hr ih v5 v4 σ3 cv5 cv4 hσ3 h).weak (w_k (w_d (w_d (w_k (w_k (w_d w_n))))))
      · replace h := h.2 hc
        refine g_aload_0 E dX12_stepOf_49 ?_
        refine g_getR E fl_RX12_114 kR_0 sR_0 rfl dX12_stepOf_50 ?_
        refine g_iload_3 E dX12_stepOf_53 ?_
        refine g_iald E kR_32 sR_32 (by decide) h.1 dX12_stepOf_54 ?_
        replace h := h.2
        refine g_nmI (fun v6 ev6 => ?_)
        replace h := h v6 ev6
        have cv6 : C32 v6 := by rw [ev6]; exact (aR_32 hσ3 _)
        refine g_istore_3 E rfl (by decide) dX12_stepOf_55 ?_
        refine g_goto E djX12_stepOf_56 ?_
        exact (t_X12_stepOf_b73 E hr ih v6 v1 σ3 cv6 cv1 hσ3 h).weak (w_k (w_d (w_d (w_k (w_k (w_d w_n))))))
set_option maxHeartbeats 4000000 in
set_option maxRecDepth 100000 in
theorem t_X12_stepOf (E : Ev p s m args meth c cX12_stepOf 6 RX12 A0 D cA ad NR Z) (hr : meth.sig.returnType = (some .int)) (x1 : Int) (x2 : Int) (σ : St) (c1 : C32 x1) (c2 : C32 x2) (hσ : CanS shR NR σ) (h : wp_X12_stepOf x1 x2 σ Q) : G p l e (rmL 2 0 0) s m args below meth c 6 A0 D cA ad shR NR 0 0 (MQ below (QIc D cA ad shR NR Q A0) args s 0 0 A0) σ 0 [some (.ref (ad 0)), some (vI x1), some (vI x2), none, none, none] [] := by
  unfold wp_X12_stepOf at h
  refine g_iload_1 E dX12_stepOf_0 ?_
  refine g_iconst E dX12_stepOf_1 ?_
  refine g_icmp_eq E c1 cl_m1 djX12_stepOf_2 (fun hc => ?_) (fun hc => ?_)
  · replace h := h.1 hc
    refine g_iconst E dX12_stepOf_15 ?_
    exact g_iret E hr cl_m1 h hσ dX12_stepOf_16
  · replace h := h.2 hc
    refine g_iload_2 E dX12_stepOf_5 ?_
    refine g_aload_0 E dX12_stepOf_6 ?_
    refine g_getR E fl_RX12_123 kR_0 sR_0 rfl dX12_stepOf_7 ?_
    refine g_iload_1 E dX12_stepOf_10 ?_
    refine g_iald E kR_35 sR_35 (by decide) h.1 dX12_stepOf_11 ?_
    replace h := h.2
    refine g_icmp_lt E c2 (aR_35 hσ _) djX12_stepOf_12 (fun hc => ?_) (fun hc => ?_)
    · replace h := h.1 hc
      refine g_iload_1 E dX12_stepOf_17 ?_
      refine g_istore_3 E rfl (by decide) dX12_stepOf_18 ?_
      refine g_iload_2 E dX12_stepOf_19 ?_
      refine g_istore_4 E rfl (by decide) dX12_stepOf_20 ?_
      exact (t_X12_stepOf_l22 E hr bigN x1 x2 σ c1 c2 hσ h).weak (w_k (w_d (w_d (w_k (w_k (w_d w_n))))))
    · replace h := h.2 hc
      refine g_iconst E dX12_stepOf_15 ?_
      exact g_iret E hr cl_m1 h hσ dX12_stepOf_16
end
theorem m_X12_stepOf {Z : (Nat → Nat) × (Nat → Nat)} {l : Launch} {D : va_G} {cA : Nat → ClassId} {ad : Nat → Nat} {x1 x2 : Int} {σ : St} {Q : Int → St → Prop} (hA : AdOk NR ad) (c1 : C32 x1) (c2 : C32 x2) (hσ : CanS shR NR σ) (h : wp_X12_stepOf x1 x2 σ Q) : KtI Z l D cA ad shR NR yX12_stepOf cX12_stepOf 6 (some .int) 2 [.ref (ad 0), vI x1, vI x2] σ Q :=
  KtI.of my_X12_stepOf hA [some (.ref (ad 0)), some (vI x1), some (vI x2), none, none, none] (Nat.le_of_ble_eq_true rfl) rfl (fun p e s m args below meth c A0 E hr => t_X12_stepOf E hr x1 x2 σ c1 c2 hσ h)
theorem dX12_step_0 : Dc cX12_step 0 (.aload_n 0) 1 1 := ⟨by decide +kernel, rfl⟩
theorem dX12_step_1 : Dc cX12_step 1 (.iload_n 1) 1 2 := ⟨by decide +kernel, rfl⟩
theorem dX12_step_2 : Dc cX12_step 2 (.iload_n 2) 1 3 := ⟨by decide +kernel, rfl⟩
theorem dX12_step_3 : Dc cX12_step 3 (.iload_n 3) 1 4 := ⟨by decide +kernel, rfl⟩
theorem dX12_step_4 : Dc cX12_step 4 (.invokevirtual 318) 3 7 := ⟨by decide +kernel, rfl⟩
theorem djX12_step_7 : Dj cX12_step 7 (.ifCond .eq 16) 3 10 16 23 := ⟨by decide +kernel, rfl, by decide⟩
theorem dX12_step_10 : Dc cX12_step 10 (.iload 4) 2 12 := ⟨by decide +kernel, rfl⟩
theorem dX12_step_12 : Dc cX12_step 12 (.invokestatic 533) 3 15 := ⟨by decide +kernel, rfl⟩
theorem djX12_step_15 : Dj cX12_step 15 (.ifCond .eq 8) 3 18 8 23 := ⟨by decide +kernel, rfl, by decide⟩
theorem dX12_step_18 : Dc cX12_step 18 (.iload 5) 2 20 := ⟨by decide +kernel, rfl⟩
theorem djX12_step_20 : Dj cX12_step 20 (.ifCond .ge 6) 3 23 6 26 := ⟨by decide +kernel, rfl, by decide⟩
theorem dX12_step_23 : Dc cX12_step 23 (.bipush (-2)) 2 25 := ⟨by decide +kernel, rfl⟩
theorem dX12_step_25 : Dc cX12_step 25 (.ireturn) 1 26 := ⟨by decide +kernel, rfl⟩
theorem dX12_step_26 : Dc cX12_step 26 (.aload_n 0) 1 27 := ⟨by decide +kernel, rfl⟩
theorem dX12_step_27 : Dc cX12_step 27 (.invokevirtual 536) 3 30 := ⟨by decide +kernel, rfl⟩
theorem dX12_step_30 : Dc cX12_step 30 (.aload_n 0) 1 31 := ⟨by decide +kernel, rfl⟩
theorem dX12_step_31 : Dc cX12_step 31 (.aload_n 0) 1 32 := ⟨by decide +kernel, rfl⟩
theorem dX12_step_32 : Dc cX12_step 32 (.iload_n 1) 1 33 := ⟨by decide +kernel, rfl⟩
theorem dX12_step_33 : Dc cX12_step 33 (.iload_n 2) 1 34 := ⟨by decide +kernel, rfl⟩
theorem dX12_step_34 : Dc cX12_step 34 (.iload_n 3) 1 35 := ⟨by decide +kernel, rfl⟩
theorem dX12_step_35 : Dc cX12_step 35 (.iload 4) 2 37 := ⟨by decide +kernel, rfl⟩
theorem dX12_step_37 : Dc cX12_step 37 (.invokevirtual 539) 3 40 := ⟨by decide +kernel, rfl⟩
theorem dX12_step_40 : Dc cX12_step 40 (.iload 5) 2 42 := ⟨by decide +kernel, rfl⟩
theorem dX12_step_42 : Dc cX12_step 42 (.invokevirtual 542) 3 45 := ⟨by decide +kernel, rfl⟩
theorem dX12_step_45 : Dc cX12_step 45 (.istore 6) 2 47 := ⟨by decide +kernel, rfl⟩
theorem dX12_step_47 : Dc cX12_step 47 (.iload 6) 2 49 := ⟨by decide +kernel, rfl⟩
theorem dX12_step_49 : Dc cX12_step 49 (.iconst (-1)) 1 50 := ⟨by decide +kernel, rfl⟩
theorem djX12_step_50 : Dj cX12_step 50 (.if_icmp .ne 7) 3 53 7 57 := ⟨by decide +kernel, rfl, by decide⟩
theorem dX12_step_53 : Dc cX12_step 53 (.iconst (-1)) 1 54 := ⟨by decide +kernel, rfl⟩
theorem djX12_step_54 : Dj cX12_step 54 (.goto 10) 3 57 10 64 := ⟨by decide +kernel, rfl, by decide⟩
theorem dX12_step_57 : Dc cX12_step 57 (.aload_n 0) 1 58 := ⟨by decide +kernel, rfl⟩
theorem dX12_step_58 : Dc cX12_step 58 (.getfield 102) 3 61 := ⟨by decide +kernel, rfl⟩
theorem dX12_step_61 : Dc cX12_step 61 (.iload 6) 2 63 := ⟨by decide +kernel, rfl⟩
theorem dX12_step_63 : Dc cX12_step 63 (.iaload) 1 64 := ⟨by decide +kernel, rfl⟩
theorem dX12_step_64 : Dc cX12_step 64 (.ireturn) 1 65 := ⟨by decide +kernel, rfl⟩
section
variable {p : Program} {l : Launch} {e : Env} {s : State} {m : MethodId} {args : Array Value} {below : List Frame} {meth : Method} {c : Code} {A0 : Nat → Prop} {D : va_G} {cA : Nat → ClassId} {ad : Nat → Nat} {Z : (Nat → Nat) × (Nat → Nat)} {Q : Int → St → Prop}
set_option maxHeartbeats 4000000 in
set_option maxRecDepth 100000 in
theorem t_X12_step (E : Ev p s m args meth c cX12_step 7 RX12 A0 D cA ad NR Z) (hr : meth.sig.returnType = (some .int)) (x1 : Int) (x2 : Int) (x3 : Int) (x4 : Int) (x5 : Int) (σ : St) (c1 : C32 x1) (c2 : C32 x2) (c3 : C32 x3) (c4 : C32 x4) (c5 : C32 x5) (hσ : CanS shR NR σ) (h : wp_X12_step x1 x2 x3 x4 x5 σ Q) : G p l e (rmL 807 0 0) s m args below meth c 7 A0 D cA ad shR NR 0 0 (MQ below (QIc D cA ad shR NR Q A0) args s 0 0 A0) σ 0 [some (.ref (ad 0)), some (vI x1), some (vI x2), some (vI x3), some (vI x4), some (vI x5), none] [] := by
  unfold wp_X12_step at h
  refine g_aload_0 E dX12_step_0 ?_
  refine g_iload_1 E dX12_step_1 ?_
  refine g_iload_2 E dX12_step_2 ?_
  refine g_iload_3 E dX12_step_3 ?_
  refine g_callvI E my_X12_isItem mi_X12_isItem msel_X12_isItem ml_RX12_318 (rm_ok (by decide) (by decide)) ⟨Nat.zero_le _, Nat.zero_le _⟩ kR_0 sR_0 rfl (m_X12_isItem E.2.2.1 c1 c2 c3 hσ h) rfl rfl (Nat.le_of_ble_eq_true rfl) dX12_step_4 (fun r1 σ2 cr1 hσ2 h => ?_)
  refine g_if_eq E cr1 djX12_step_7 (fun hc => ?_) (fun hc => ?_)
  · replace h := h.1 hc
    refine g_bipush E (by decide) dX12_step_23 ?_
    exact g_iret E hr cl_m2 h hσ2 dX12_step_25
  · replace h := h.2 hc
    refine g_iload_4 E dX12_step_10 ?_
    refine g_callsI E my_X12_isPlace ms_X12_isPlace ml_RX12_533 (rm_ok (by decide) (by decide)) ⟨Nat.zero_le _, Nat.zero_le _⟩ (m_X12_isPlace E.2.2.1 c4 hσ2 h) rfl rfl (Nat.le_of_ble_eq_true rfl) dX12_step_12 (fun r3 σ4 cr3 hσ4 h => ?_)
    refine g_if_eq E cr3 djX12_step_15 (fun hc => ?_) (fun hc => ?_)
    · replace h := h.1 hc
      refine g_bipush E (by decide) dX12_step_23 ?_
      exact g_iret E hr cl_m2 h hσ4 dX12_step_25
    · replace h := h.2 hc
      refine g_iload_5 E dX12_step_18 ?_
      refine g_if_ge E c5 djX12_step_20 (fun hc => ?_) (fun hc => ?_)
      · replace h := h.1 hc
        refine g_aload_0 E dX12_step_26 ?_
        refine g_callvV E my_X12_laysBest mi_X12_laysBest msel_X12_laysBest ml_RX12_536 (rm_ok (by decide) (by decide)) ⟨Nat.zero_le _, Nat.zero_le _⟩ kR_0 sR_0 rfl (m_X12_laysBest E.2.2.1 hσ4 h) rfl rfl (Nat.le_of_ble_eq_true rfl) dX12_step_27 (fun σ6 r5 hσ6 h => ?_)
        refine g_aload_0 E dX12_step_30 ?_
        refine g_aload_0 E dX12_step_31 ?_
        refine g_iload_1 E dX12_step_32 ?_
        refine g_iload_2 E dX12_step_33 ?_
        refine g_iload_3 E dX12_step_34 ?_
        refine g_iload_4 E dX12_step_35 ?_
        refine g_callvI E my_X12_treeOf mi_X12_treeOf msel_X12_treeOf ml_RX12_539 (rm_ok (by decide) (by decide)) ⟨Nat.zero_le _, Nat.zero_le _⟩ kR_0 sR_0 rfl (m_X12_treeOf E.2.2.1 c1 c2 c3 c4 hσ6 h) rfl rfl (Nat.le_of_ble_eq_true rfl) dX12_step_37 (fun r7 σ8 cr7 hσ8 h => ?_)
        refine g_iload_5 E dX12_step_40 ?_
        refine g_callvI E my_X12_stepOf mi_X12_stepOf msel_X12_stepOf ml_RX12_542 (rm_ok (by decide) (by decide)) ⟨Nat.zero_le _, Nat.zero_le _⟩ kR_0 sR_0 rfl (m_X12_stepOf E.2.2.1 cr7 c5 hσ8 h) rfl rfl (Nat.le_of_ble_eq_true rfl) dX12_step_42 (fun r9 σ10 cr9 hσ10 h => ?_)
        refine g_istore_6 E rfl (by decide) dX12_step_45 ?_
        refine g_iload_6 E dX12_step_47 ?_
        refine g_iconst E dX12_step_49 ?_
        refine g_icmp_ne E cr9 cl_m1 djX12_step_50 (fun hc => ?_) (fun hc => ?_)
        · replace h := h.1 hc
          refine g_aload_0 E dX12_step_57 ?_
          refine g_getR E fl_RX12_102 kR_0 sR_0 rfl dX12_step_58 ?_
          refine g_iload_6 E dX12_step_61 ?_
          refine g_iald E kR_28 sR_28 (by decide) h.1 dX12_step_63 ?_
          replace h := h.2
          exact g_iret E hr (aR_28 hσ10 _) h hσ10 dX12_step_64
        · replace h := h.2 hc
          refine g_iconst E dX12_step_53 ?_
          refine g_goto E djX12_step_54 ?_
          exact g_iret E hr cl_m1 h hσ10 dX12_step_64
      · replace h := h.2 hc
        refine g_bipush E (by decide) dX12_step_23 ?_
        exact g_iret E hr cl_m2 h hσ4 dX12_step_25
end
theorem m_X12_step {Z : (Nat → Nat) × (Nat → Nat)} {l : Launch} {D : va_G} {cA : Nat → ClassId} {ad : Nat → Nat} {x1 x2 x3 x4 x5 : Int} {σ : St} {Q : Int → St → Prop} (hA : AdOk NR ad) (c1 : C32 x1) (c2 : C32 x2) (c3 : C32 x3) (c4 : C32 x4) (c5 : C32 x5) (hσ : CanS shR NR σ) (h : wp_X12_step x1 x2 x3 x4 x5 σ Q) : KtI Z l D cA ad shR NR yX12_step cX12_step 7 (some .int) 807 [.ref (ad 0), vI x1, vI x2, vI x3, vI x4, vI x5] σ Q :=
  KtI.of my_X12_step hA [some (.ref (ad 0)), some (vI x1), some (vI x2), some (vI x3), some (vI x4), some (vI x5), none] (Nat.le_of_ble_eq_true rfl) rfl (fun p e s m args below meth c A0 E hr => t_X12_step E hr x1 x2 x3 x4 x5 σ c1 c2 c3 c4 c5 hσ h)
theorem dX12_start_0 : Dc cX12_start 0 (.aload_n 0) 1 1 := ⟨by decide +kernel, rfl⟩
theorem dX12_start_1 : Dc cX12_start 1 (.getfield 252) 3 4 := ⟨by decide +kernel, rfl⟩
theorem djX12_start_4 : Dj cX12_start 4 (.ifCond .ne 7) 3 7 7 11 := ⟨by decide +kernel, rfl, by decide⟩
theorem dX12_start_7 : Dc cX12_start 7 (.iconst (-1)) 1 8 := ⟨by decide +kernel, rfl⟩
theorem djX12_start_8 : Dj cX12_start 8 (.goto 9) 3 11 9 17 := ⟨by decide +kernel, rfl, by decide⟩
theorem dX12_start_11 : Dc cX12_start 11 (.aload_n 0) 1 12 := ⟨by decide +kernel, rfl⟩
theorem dX12_start_12 : Dc cX12_start 12 (.getfield 13) 3 15 := ⟨by decide +kernel, rfl⟩
theorem dX12_start_15 : Dc cX12_start 15 (.iconst 0) 1 16 := ⟨by decide +kernel, rfl⟩
theorem dX12_start_16 : Dc cX12_start 16 (.iaload) 1 17 := ⟨by decide +kernel, rfl⟩
theorem dX12_start_17 : Dc cX12_start 17 (.ireturn) 1 18 := ⟨by decide +kernel, rfl⟩
section
variable {p : Program} {l : Launch} {e : Env} {s : State} {m : MethodId} {args : Array Value} {below : List Frame} {meth : Method} {c : Code} {A0 : Nat → Prop} {D : va_G} {cA : Nat → ClassId} {ad : Nat → Nat} {Z : (Nat → Nat) × (Nat → Nat)} {Q : Int → St → Prop}
set_option maxHeartbeats 4000000 in
set_option maxRecDepth 100000 in
theorem t_X12_start (E : Ev p s m args meth c cX12_start 1 RX12 A0 D cA ad NR Z) (hr : meth.sig.returnType = (some .int)) (σ : St) (hσ : CanS shR NR σ) (h : wp_X12_start  σ Q) : G p l e (rmL 1 0 0) s m args below meth c 1 A0 D cA ad shR NR 0 0 (MQ below (QIc D cA ad shR NR Q A0) args s 0 0 A0) σ 0 [some (.ref (ad 0))] [] := by
  unfold wp_X12_start at h
  refine g_aload_0 E dX12_start_0 ?_
  refine g_getI E fl_RX12_252 kR_0 sR_0 rfl dX12_start_1 ?_
  refine g_if_ne E (fR_0_1 hσ) djX12_start_4 (fun hc => ?_) (fun hc => ?_)
  · replace h := h.1 hc
    refine g_aload_0 E dX12_start_11 ?_
    refine g_getR E fl_RX12_13 kR_0 sR_0 rfl dX12_start_12 ?_
    refine g_iconst E dX12_start_15 ?_
    refine g_iald E kR_1 sR_1 (by decide) (by decide) dX12_start_16 ?_
    exact g_iret E hr (aR_1 hσ _) h hσ dX12_start_17
  · replace h := h.2 hc
    refine g_iconst E dX12_start_7 ?_
    refine g_goto E djX12_start_8 ?_
    exact g_iret E hr cl_m1 h hσ dX12_start_17
end
theorem m_X12_start {Z : (Nat → Nat) × (Nat → Nat)} {l : Launch} {D : va_G} {cA : Nat → ClassId} {ad : Nat → Nat} {σ : St} {Q : Int → St → Prop} (hA : AdOk NR ad) (hσ : CanS shR NR σ) (h : wp_X12_start  σ Q) : KtI Z l D cA ad shR NR yX12_start cX12_start 1 (some .int) 1 [.ref (ad 0)] σ Q :=
  KtI.of my_X12_start hA [some (.ref (ad 0))] (Nat.le_of_ble_eq_true rfl) rfl (fun p e s m args below meth c A0 E hr => t_X12_start E hr σ hσ h)
theorem dX12_bounds_0 : Dc cX12_bounds 0 (.iload_n 1) 1 1 := ⟨by decide +kernel, rfl⟩
theorem dX12_bounds_1 : Dc cX12_bounds 1 (.invokestatic 533) 3 4 := ⟨by decide +kernel, rfl⟩
theorem djX12_bounds_4 : Dj cX12_bounds 4 (.ifCond .eq 19) 3 7 19 23 := ⟨by decide +kernel, rfl, by decide⟩
theorem dX12_bounds_7 : Dc cX12_bounds 7 (.iload_n 2) 1 8 := ⟨by decide +kernel, rfl⟩
theorem djX12_bounds_8 : Dj cX12_bounds 8 (.ifCond .lt 15) 3 11 15 23 := ⟨by decide +kernel, rfl, by decide⟩
theorem dX12_bounds_11 : Dc cX12_bounds 11 (.iload_n 3) 1 12 := ⟨by decide +kernel, rfl⟩
theorem dX12_bounds_12 : Dc cX12_bounds 12 (.i2l) 1 13 := ⟨by decide +kernel, rfl⟩
theorem dX12_bounds_13 : Dc cX12_bounds 13 (.lconst 0) 1 14 := ⟨by decide +kernel, rfl⟩
theorem dX12_bounds_14 : Dc cX12_bounds 14 (.ldc2_w 454) 3 17 := ⟨by decide +kernel, rfl⟩
theorem dX12_bounds_17 : Dc cX12_bounds 17 (.invokestatic 148) 3 20 := ⟨by decide +kernel, rfl⟩
theorem djX12_bounds_20 : Dj cX12_bounds 20 (.ifCond .ne 6) 3 23 6 26 := ⟨by decide +kernel, rfl, by decide⟩
theorem dX12_bounds_23 : Dc cX12_bounds 23 (.bipush (-2)) 2 25 := ⟨by decide +kernel, rfl⟩
theorem dX12_bounds_25 : Dc cX12_bounds 25 (.ireturn) 1 26 := ⟨by decide +kernel, rfl⟩
theorem dX12_bounds_26 : Dc cX12_bounds 26 (.aload_n 0) 1 27 := ⟨by decide +kernel, rfl⟩
theorem dX12_bounds_27 : Dc cX12_bounds 27 (.getfield 259) 3 30 := ⟨by decide +kernel, rfl⟩
theorem djX12_bounds_30 : Dj cX12_bounds 30 (.ifCond .eq 10) 3 33 10 40 := ⟨by decide +kernel, rfl, by decide⟩
theorem dX12_bounds_33 : Dc cX12_bounds 33 (.aload_n 0) 1 34 := ⟨by decide +kernel, rfl⟩
theorem dX12_bounds_34 : Dc cX12_bounds 34 (.getfield 252) 3 37 := ⟨by decide +kernel, rfl⟩
theorem djX12_bounds_37 : Dj cX12_bounds 37 (.ifCond .ne 5) 3 40 5 42 := ⟨by decide +kernel, rfl, by decide⟩
theorem dX12_bounds_40 : Dc cX12_bounds 40 (.iconst (-1)) 1 41 := ⟨by decide +kernel, rfl⟩
theorem dX12_bounds_41 : Dc cX12_bounds 41 (.ireturn) 1 42 := ⟨by decide +kernel, rfl⟩
theorem dX12_bounds_42 : Dc cX12_bounds 42 (.aload_n 0) 1 43 := ⟨by decide +kernel, rfl⟩
theorem dX12_bounds_43 : Dc cX12_bounds 43 (.invokevirtual 536) 3 46 := ⟨by decide +kernel, rfl⟩
theorem dX12_bounds_46 : Dc cX12_bounds 46 (.aload_n 0) 1 47 := ⟨by decide +kernel, rfl⟩
theorem dX12_bounds_47 : Dc cX12_bounds 47 (.aload_n 0) 1 48 := ⟨by decide +kernel, rfl⟩
theorem dX12_bounds_48 : Dc cX12_bounds 48 (.aload_n 0) 1 49 := ⟨by decide +kernel, rfl⟩
theorem dX12_bounds_49 : Dc cX12_bounds 49 (.invokevirtual 545) 3 52 := ⟨by decide +kernel, rfl⟩
theorem dX12_bounds_52 : Dc cX12_bounds 52 (.iconst 0) 1 53 := ⟨by decide +kernel, rfl⟩
theorem dX12_bounds_53 : Dc cX12_bounds 53 (.aload_n 0) 1 54 := ⟨by decide +kernel, rfl⟩
theorem dX12_bounds_54 : Dc cX12_bounds 54 (.getfield 259) 3 57 := ⟨by decide +kernel, rfl⟩
theorem dX12_bounds_57 : Dc cX12_bounds 57 (.iload_n 1) 1 58 := ⟨by decide +kernel, rfl⟩
theorem dX12_bounds_58 : Dc cX12_bounds 58 (.invokevirtual 539) 3 61 := ⟨by decide +kernel, rfl⟩
theorem dX12_bounds_61 : Dc cX12_bounds 61 (.iload_n 2) 1 62 := ⟨by decide +kernel, rfl⟩
theorem dX12_bounds_62 : Dc cX12_bounds 62 (.invokevirtual 542) 3 65 := ⟨by decide +kernel, rfl⟩
theorem dX12_bounds_65 : Dc cX12_bounds 65 (.istore 4) 2 67 := ⟨by decide +kernel, rfl⟩
theorem dX12_bounds_67 : Dc cX12_bounds 67 (.iload 4) 2 69 := ⟨by decide +kernel, rfl⟩
theorem dX12_bounds_69 : Dc cX12_bounds 69 (.iconst (-1)) 1 70 := ⟨by decide +kernel, rfl⟩
theorem djX12_bounds_70 : Dj cX12_bounds 70 (.if_icmp .ne 5) 3 73 5 75 := ⟨by decide +kernel, rfl, by decide⟩
theorem dX12_bounds_73 : Dc cX12_bounds 73 (.iconst (-1)) 1 74 := ⟨by decide +kernel, rfl⟩
theorem dX12_bounds_74 : Dc cX12_bounds 74 (.ireturn) 1 75 := ⟨by decide +kernel, rfl⟩
theorem dX12_bounds_75 : Dc cX12_bounds 75 (.iload_n 3) 1 76 := ⟨by decide +kernel, rfl⟩
theorem djX12_bounds_76 : Dj cX12_bounds 76 (.ifCond .ne 13) 3 79 13 89 := ⟨by decide +kernel, rfl, by decide⟩
theorem dX12_bounds_79 : Dc cX12_bounds 79 (.aload_n 0) 1 80 := ⟨by decide +kernel, rfl⟩
theorem dX12_bounds_80 : Dc cX12_bounds 80 (.getfield 105) 3 83 := ⟨by decide +kernel, rfl⟩
theorem dX12_bounds_83 : Dc cX12_bounds 83 (.iload 4) 2 85 := ⟨by decide +kernel, rfl⟩
theorem dX12_bounds_85 : Dc cX12_bounds 85 (.iaload) 1 86 := ⟨by decide +kernel, rfl⟩
theorem djX12_bounds_86 : Dj cX12_bounds 86 (.goto 25) 3 89 25 111 := ⟨by decide +kernel, rfl, by decide⟩
theorem dX12_bounds_89 : Dc cX12_bounds 89 (.iload_n 3) 1 90 := ⟨by decide +kernel, rfl⟩
theorem dX12_bounds_90 : Dc cX12_bounds 90 (.iconst 1) 1 91 := ⟨by decide +kernel, rfl⟩
theorem djX12_bounds_91 : Dj cX12_bounds 91 (.if_icmp .ne 13) 3 94 13 104 := ⟨by decide +kernel, rfl, by decide⟩
theorem dX12_bounds_94 : Dc cX12_bounds 94 (.aload_n 0) 1 95 := ⟨by decide +kernel, rfl⟩
theorem dX12_bounds_95 : Dc cX12_bounds 95 (.getfield 108) 3 98 := ⟨by decide +kernel, rfl⟩
theorem dX12_bounds_98 : Dc cX12_bounds 98 (.iload 4) 2 100 := ⟨by decide +kernel, rfl⟩
theorem dX12_bounds_100 : Dc cX12_bounds 100 (.iaload) 1 101 := ⟨by decide +kernel, rfl⟩
theorem djX12_bounds_101 : Dj cX12_bounds 101 (.goto 10) 3 104 10 111 := ⟨by decide +kernel, rfl, by decide⟩
theorem dX12_bounds_104 : Dc cX12_bounds 104 (.aload_n 0) 1 105 := ⟨by decide +kernel, rfl⟩
theorem dX12_bounds_105 : Dc cX12_bounds 105 (.getfield 111) 3 108 := ⟨by decide +kernel, rfl⟩
theorem dX12_bounds_108 : Dc cX12_bounds 108 (.iload 4) 2 110 := ⟨by decide +kernel, rfl⟩
theorem dX12_bounds_110 : Dc cX12_bounds 110 (.iaload) 1 111 := ⟨by decide +kernel, rfl⟩
theorem dX12_bounds_111 : Dc cX12_bounds 111 (.ireturn) 1 112 := ⟨by decide +kernel, rfl⟩
section
variable {p : Program} {l : Launch} {e : Env} {s : State} {m : MethodId} {args : Array Value} {below : List Frame} {meth : Method} {c : Code} {A0 : Nat → Prop} {D : va_G} {cA : Nat → ClassId} {ad : Nat → Nat} {Z : (Nat → Nat) × (Nat → Nat)} {Q : Int → St → Prop}
set_option maxHeartbeats 4000000 in
set_option maxRecDepth 100000 in
theorem t_X12_bounds (E : Ev p s m args meth c cX12_bounds 5 RX12 A0 D cA ad NR Z) (hr : meth.sig.returnType = (some .int)) (x1 : Int) (x2 : Int) (x3 : Int) (σ : St) (c1 : C32 x1) (c2 : C32 x2) (c3 : C32 x3) (hσ : CanS shR NR σ) (h : wp_X12_bounds x1 x2 x3 σ Q) : G p l e (rmL 807 0 0) s m args below meth c 5 A0 D cA ad shR NR 0 0 (MQ below (QIc D cA ad shR NR Q A0) args s 0 0 A0) σ 0 [some (.ref (ad 0)), some (vI x1), some (vI x2), some (vI x3), none] [] := by
  unfold wp_X12_bounds at h
  refine g_iload_1 E dX12_bounds_0 ?_
  refine g_callsI E my_X12_isPlace ms_X12_isPlace ml_RX12_533 (rm_ok (by decide) (by decide)) ⟨Nat.zero_le _, Nat.zero_le _⟩ (m_X12_isPlace E.2.2.1 c1 hσ h) rfl rfl (Nat.le_of_ble_eq_true rfl) dX12_bounds_1 (fun r1 σ2 cr1 hσ2 h => ?_)
  refine g_if_eq E cr1 djX12_bounds_4 (fun hc => ?_) (fun hc => ?_)
  · replace h := h.1 hc
    refine g_bipush E (by decide) dX12_bounds_23 ?_
    exact g_iret E hr cl_m2 h hσ2 dX12_bounds_25
  · replace h := h.2 hc
    refine g_iload_2 E dX12_bounds_7 ?_
    refine g_if_lt E c2 djX12_bounds_8 (fun hc => ?_) (fun hc => ?_)
    · replace h := h.1 hc
      refine g_bipush E (by decide) dX12_bounds_23 ?_
      exact g_iret E hr cl_m2 h hσ2 dX12_bounds_25
    · replace h := h.2 hc
      refine g_iload_3 E dX12_bounds_11 ?_
      refine g_i2l E c3 dX12_bounds_12 ?_
      refine g_lconst (n := 0) E (by decide) dX12_bounds_13 ?_
      refine g_ldc2 (n := 2) E wc_RX12_454 dX12_bounds_14 ?_
      refine g_callsI E my_X12_in ms_X12_in ml_RX12_148 (rm_ok (by decide) (by decide)) ⟨Nat.zero_le _, Nat.zero_le _⟩ (m_X12_in E.2.2.1 (c32_of_c64 c3) cL_0 cL_2 hσ2 h) rfl rfl (Nat.le_of_ble_eq_true rfl) dX12_bounds_17 (fun r3 σ4 cr3 hσ4 h => ?_)
      refine g_if_ne E cr3 djX12_bounds_20 (fun hc => ?_) (fun hc => ?_)
      · replace h := h.1 hc
        refine g_aload_0 E dX12_bounds_26 ?_
        refine g_getI E fl_RX12_259 kR_0 sR_0 rfl dX12_bounds_27 ?_
        refine g_if_eq E (fR_0_15 hσ4) djX12_bounds_30 (fun hc => ?_) (fun hc => ?_)
        · replace h := h.1 hc
          refine g_iconst E dX12_bounds_40 ?_
          exact g_iret E hr cl_m1 h hσ4 dX12_bounds_41
        · replace h := h.2 hc
          refine g_aload_0 E dX12_bounds_33 ?_
          refine g_getI E fl_RX12_252 kR_0 sR_0 rfl dX12_bounds_34 ?_
          refine g_if_ne E (fR_0_1 hσ4) djX12_bounds_37 (fun hc => ?_) (fun hc => ?_)
          · replace h := h.1 hc
            refine g_aload_0 E dX12_bounds_42 ?_
            refine g_callvV E my_X12_laysBest mi_X12_laysBest msel_X12_laysBest ml_RX12_536 (rm_ok (by decide) (by decide)) ⟨Nat.zero_le _, Nat.zero_le _⟩ kR_0 sR_0 rfl (m_X12_laysBest E.2.2.1 hσ4 h) rfl rfl (Nat.le_of_ble_eq_true rfl) dX12_bounds_43 (fun σ6 r5 hσ6 h => ?_)
            refine g_aload_0 E dX12_bounds_46 ?_
            refine g_aload_0 E dX12_bounds_47 ?_
            refine g_aload_0 E dX12_bounds_48 ?_
            refine g_callvI E my_X12_start mi_X12_start msel_X12_start ml_RX12_545 (rm_ok (by decide) (by decide)) ⟨Nat.zero_le _, Nat.zero_le _⟩ kR_0 sR_0 rfl (m_X12_start E.2.2.1 hσ6 h) rfl rfl (Nat.le_of_ble_eq_true rfl) dX12_bounds_49 (fun r7 σ8 cr7 hσ8 h => ?_)
            refine g_iconst E dX12_bounds_52 ?_
            refine g_aload_0 E dX12_bounds_53 ?_
            refine g_getI E fl_RX12_259 kR_0 sR_0 rfl dX12_bounds_54 ?_
            refine g_iload_1 E dX12_bounds_57 ?_
            refine g_callvI E my_X12_treeOf mi_X12_treeOf msel_X12_treeOf ml_RX12_539 (rm_ok (by decide) (by decide)) ⟨Nat.zero_le _, Nat.zero_le _⟩ kR_0 sR_0 rfl (m_X12_treeOf E.2.2.1 cr7 cl_0 (fR_0_15 hσ8) c1 hσ8 h) rfl rfl (Nat.le_of_ble_eq_true rfl) dX12_bounds_58 (fun r9 σ10 cr9 hσ10 h => ?_)
            refine g_iload_2 E dX12_bounds_61 ?_
            refine g_callvI E my_X12_stepOf mi_X12_stepOf msel_X12_stepOf ml_RX12_542 (rm_ok (by decide) (by decide)) ⟨Nat.zero_le _, Nat.zero_le _⟩ kR_0 sR_0 rfl (m_X12_stepOf E.2.2.1 cr9 c2 hσ10 h) rfl rfl (Nat.le_of_ble_eq_true rfl) dX12_bounds_62 (fun r11 σ12 cr11 hσ12 h => ?_)
            refine g_istore_4 E rfl (by decide) dX12_bounds_65 ?_
            refine g_iload_4 E dX12_bounds_67 ?_
            refine g_iconst E dX12_bounds_69 ?_
            refine g_icmp_ne E cr11 cl_m1 djX12_bounds_70 (fun hc => ?_) (fun hc => ?_)
            · replace h := h.1 hc
              refine g_iload_3 E dX12_bounds_75 ?_
              refine g_if_ne E c3 djX12_bounds_76 (fun hc => ?_) (fun hc => ?_)
              · replace h := h.1 hc
                refine g_iload_3 E dX12_bounds_89 ?_
                refine g_iconst E dX12_bounds_90 ?_
                refine g_icmp_ne E c3 cl_1 djX12_bounds_91 (fun hc => ?_) (fun hc => ?_)
                · replace h := h.1 hc
                  refine g_aload_0 E dX12_bounds_104 ?_
                  refine g_getR E fl_RX12_111 kR_0 sR_0 rfl dX12_bounds_105 ?_
                  refine g_iload_4 E dX12_bounds_108 ?_
                  refine g_iald E kR_31 sR_31 (by decide) h.1 dX12_bounds_110 ?_
                  replace h := h.2
                  exact g_iret E hr (aR_31 hσ12 _) h hσ12 dX12_bounds_111
                · replace h := h.2 hc
                  refine g_aload_0 E dX12_bounds_94 ?_
                  refine g_getR E fl_RX12_108 kR_0 sR_0 rfl dX12_bounds_95 ?_
                  refine g_iload_4 E dX12_bounds_98 ?_
                  refine g_iald E kR_30 sR_30 (by decide) h.1 dX12_bounds_100 ?_
                  replace h := h.2
                  refine g_goto E djX12_bounds_101 ?_
                  exact g_iret E hr (aR_30 hσ12 _) h hσ12 dX12_bounds_111
              · replace h := h.2 hc
                refine g_aload_0 E dX12_bounds_79 ?_
                refine g_getR E fl_RX12_105 kR_0 sR_0 rfl dX12_bounds_80 ?_
                refine g_iload_4 E dX12_bounds_83 ?_
                refine g_iald E kR_29 sR_29 (by decide) h.1 dX12_bounds_85 ?_
                replace h := h.2
                refine g_goto E djX12_bounds_86 ?_
                exact g_iret E hr (aR_29 hσ12 _) h hσ12 dX12_bounds_111
            · replace h := h.2 hc
              refine g_iconst E dX12_bounds_73 ?_
              exact g_iret E hr cl_m1 h hσ12 dX12_bounds_74
          · replace h := h.2 hc
            refine g_iconst E dX12_bounds_40 ?_
            exact g_iret E hr cl_m1 h hσ4 dX12_bounds_41
      · replace h := h.2 hc
        refine g_bipush E (by decide) dX12_bounds_23 ?_
        exact g_iret E hr cl_m2 h hσ4 dX12_bounds_25
end
theorem m_X12_bounds {Z : (Nat → Nat) × (Nat → Nat)} {l : Launch} {D : va_G} {cA : Nat → ClassId} {ad : Nat → Nat} {x1 x2 x3 : Int} {σ : St} {Q : Int → St → Prop} (hA : AdOk NR ad) (c1 : C32 x1) (c2 : C32 x2) (c3 : C32 x3) (hσ : CanS shR NR σ) (h : wp_X12_bounds x1 x2 x3 σ Q) : KtI Z l D cA ad shR NR yX12_bounds cX12_bounds 5 (some .int) 807 [.ref (ad 0), vI x1, vI x2, vI x3] σ Q :=
  KtI.of my_X12_bounds hA [some (.ref (ad 0)), some (vI x1), some (vI x2), some (vI x3), none] (Nat.le_of_ble_eq_true rfl) rfl (fun p e s m args below meth c A0 E hr => t_X12_bounds E hr x1 x2 x3 σ c1 c2 c3 hσ h)
theorem dX12_areAlike_0 : Dc cX12_areAlike 0 (.iload_n 1) 1 1 := ⟨by decide +kernel, rfl⟩
theorem dX12_areAlike_1 : Dc cX12_areAlike 1 (.iconst (-1)) 1 2 := ⟨by decide +kernel, rfl⟩
theorem djX12_areAlike_2 : Dj cX12_areAlike 2 (.if_icmp .eq 72) 3 5 72 74 := ⟨by decide +kernel, rfl, by decide⟩
theorem dX12_areAlike_5 : Dc cX12_areAlike 5 (.iload_n 2) 1 6 := ⟨by decide +kernel, rfl⟩
theorem dX12_areAlike_6 : Dc cX12_areAlike 6 (.iconst (-1)) 1 7 := ⟨by decide +kernel, rfl⟩
theorem djX12_areAlike_7 : Dj cX12_areAlike 7 (.if_icmp .eq 67) 3 10 67 74 := ⟨by decide +kernel, rfl, by decide⟩
theorem dX12_areAlike_10 : Dc cX12_areAlike 10 (.aload_n 0) 1 11 := ⟨by decide +kernel, rfl⟩
theorem dX12_areAlike_11 : Dc cX12_areAlike 11 (.getfield 102) 3 14 := ⟨by decide +kernel, rfl⟩
theorem dX12_areAlike_14 : Dc cX12_areAlike 14 (.iload_n 1) 1 15 := ⟨by decide +kernel, rfl⟩
theorem dX12_areAlike_15 : Dc cX12_areAlike 15 (.iaload) 1 16 := ⟨by decide +kernel, rfl⟩
theorem dX12_areAlike_16 : Dc cX12_areAlike 16 (.aload_n 0) 1 17 := ⟨by decide +kernel, rfl⟩
theorem dX12_areAlike_17 : Dc cX12_areAlike 17 (.getfield 102) 3 20 := ⟨by decide +kernel, rfl⟩
theorem dX12_areAlike_20 : Dc cX12_areAlike 20 (.iload_n 2) 1 21 := ⟨by decide +kernel, rfl⟩
theorem dX12_areAlike_21 : Dc cX12_areAlike 21 (.iaload) 1 22 := ⟨by decide +kernel, rfl⟩
theorem djX12_areAlike_22 : Dj cX12_areAlike 22 (.if_icmp .ne 52) 3 25 52 74 := ⟨by decide +kernel, rfl, by decide⟩
theorem dX12_areAlike_25 : Dc cX12_areAlike 25 (.aload_n 0) 1 26 := ⟨by decide +kernel, rfl⟩
theorem dX12_areAlike_26 : Dc cX12_areAlike 26 (.getfield 105) 3 29 := ⟨by decide +kernel, rfl⟩
theorem dX12_areAlike_29 : Dc cX12_areAlike 29 (.iload_n 1) 1 30 := ⟨by decide +kernel, rfl⟩
theorem dX12_areAlike_30 : Dc cX12_areAlike 30 (.iaload) 1 31 := ⟨by decide +kernel, rfl⟩
theorem dX12_areAlike_31 : Dc cX12_areAlike 31 (.aload_n 0) 1 32 := ⟨by decide +kernel, rfl⟩
theorem dX12_areAlike_32 : Dc cX12_areAlike 32 (.getfield 105) 3 35 := ⟨by decide +kernel, rfl⟩
theorem dX12_areAlike_35 : Dc cX12_areAlike 35 (.iload_n 2) 1 36 := ⟨by decide +kernel, rfl⟩
theorem dX12_areAlike_36 : Dc cX12_areAlike 36 (.iaload) 1 37 := ⟨by decide +kernel, rfl⟩
theorem djX12_areAlike_37 : Dj cX12_areAlike 37 (.if_icmp .ne 37) 3 40 37 74 := ⟨by decide +kernel, rfl, by decide⟩
theorem dX12_areAlike_40 : Dc cX12_areAlike 40 (.aload_n 0) 1 41 := ⟨by decide +kernel, rfl⟩
theorem dX12_areAlike_41 : Dc cX12_areAlike 41 (.getfield 111) 3 44 := ⟨by decide +kernel, rfl⟩
theorem dX12_areAlike_44 : Dc cX12_areAlike 44 (.iload_n 1) 1 45 := ⟨by decide +kernel, rfl⟩
theorem dX12_areAlike_45 : Dc cX12_areAlike 45 (.iaload) 1 46 := ⟨by decide +kernel, rfl⟩
theorem dX12_areAlike_46 : Dc cX12_areAlike 46 (.aload_n 0) 1 47 := ⟨by decide +kernel, rfl⟩
theorem dX12_areAlike_47 : Dc cX12_areAlike 47 (.getfield 111) 3 50 := ⟨by decide +kernel, rfl⟩
theorem dX12_areAlike_50 : Dc cX12_areAlike 50 (.iload_n 2) 1 51 := ⟨by decide +kernel, rfl⟩
theorem dX12_areAlike_51 : Dc cX12_areAlike 51 (.iaload) 1 52 := ⟨by decide +kernel, rfl⟩
theorem djX12_areAlike_52 : Dj cX12_areAlike 52 (.if_icmp .ne 22) 3 55 22 74 := ⟨by decide +kernel, rfl, by decide⟩
theorem dX12_areAlike_55 : Dc cX12_areAlike 55 (.aload_n 0) 1 56 := ⟨by decide +kernel, rfl⟩
theorem dX12_areAlike_56 : Dc cX12_areAlike 56 (.getfield 108) 3 59 := ⟨by decide +kernel, rfl⟩
theorem dX12_areAlike_59 : Dc cX12_areAlike 59 (.iload_n 1) 1 60 := ⟨by decide +kernel, rfl⟩
theorem dX12_areAlike_60 : Dc cX12_areAlike 60 (.iaload) 1 61 := ⟨by decide +kernel, rfl⟩
theorem dX12_areAlike_61 : Dc cX12_areAlike 61 (.aload_n 0) 1 62 := ⟨by decide +kernel, rfl⟩
theorem dX12_areAlike_62 : Dc cX12_areAlike 62 (.getfield 108) 3 65 := ⟨by decide +kernel, rfl⟩
theorem dX12_areAlike_65 : Dc cX12_areAlike 65 (.iload_n 2) 1 66 := ⟨by decide +kernel, rfl⟩
theorem dX12_areAlike_66 : Dc cX12_areAlike 66 (.iaload) 1 67 := ⟨by decide +kernel, rfl⟩
theorem djX12_areAlike_67 : Dj cX12_areAlike 67 (.if_icmp .ne 7) 3 70 7 74 := ⟨by decide +kernel, rfl, by decide⟩
theorem dX12_areAlike_70 : Dc cX12_areAlike 70 (.iconst 1) 1 71 := ⟨by decide +kernel, rfl⟩
theorem djX12_areAlike_71 : Dj cX12_areAlike 71 (.goto 4) 3 74 4 75 := ⟨by decide +kernel, rfl, by decide⟩
theorem dX12_areAlike_74 : Dc cX12_areAlike 74 (.iconst 0) 1 75 := ⟨by decide +kernel, rfl⟩
theorem dX12_areAlike_75 : Dc cX12_areAlike 75 (.ireturn) 1 76 := ⟨by decide +kernel, rfl⟩
section
variable {p : Program} {l : Launch} {e : Env} {s : State} {m : MethodId} {args : Array Value} {below : List Frame} {meth : Method} {c : Code} {A0 : Nat → Prop} {D : va_G} {cA : Nat → ClassId} {ad : Nat → Nat} {Z : (Nat → Nat) × (Nat → Nat)} {Q : Int → St → Prop}
set_option maxHeartbeats 4000000 in
set_option maxRecDepth 100000 in
theorem t_X12_areAlike_b74 (E : Ev p s m args meth c cX12_areAlike 3 RX12 A0 D cA ad NR Z) (hr : meth.sig.returnType = (some .boolean)) (σ : St) (hσ : CanS shR NR σ) (h : wp_X12_areAlike_b74 Q  σ) : G p l e (rmL 1 0 0) s m args below meth c 3 A0 D cA ad shR NR 0 0 (MQ below (QIc D cA ad shR NR Q A0) args s 0 0 A0) σ 74 [none, none, none] [] := by
  unfold wp_X12_areAlike_b74 at h
  refine g_iconst E dX12_areAlike_74 ?_
  exact g_zret E hr (Or.inl rfl) h hσ dX12_areAlike_75
set_option maxHeartbeats 4000000 in
set_option maxRecDepth 100000 in
theorem t_X12_areAlike (E : Ev p s m args meth c cX12_areAlike 3 RX12 A0 D cA ad NR Z) (hr : meth.sig.returnType = (some .boolean)) (x1 : Int) (x2 : Int) (σ : St) (c1 : C32 x1) (c2 : C32 x2) (hσ : CanS shR NR σ) (h : wp_X12_areAlike x1 x2 σ Q) : G p l e (rmL 1 0 0) s m args below meth c 3 A0 D cA ad shR NR 0 0 (MQ below (QIc D cA ad shR NR Q A0) args s 0 0 A0) σ 0 [some (.ref (ad 0)), some (vI x1), some (vI x2)] [] := by
  unfold wp_X12_areAlike at h
  refine g_iload_1 E dX12_areAlike_0 ?_
  refine g_iconst E dX12_areAlike_1 ?_
  refine g_icmp_eq E c1 cl_m1 djX12_areAlike_2 (fun hc => ?_) (fun hc => ?_)
  · replace h := h.1 hc
    exact (t_X12_areAlike_b74 E hr σ hσ h).weak (w_d (w_d (w_d w_n)))
  · replace h := h.2 hc
    refine g_iload_2 E dX12_areAlike_5 ?_
    refine g_iconst E dX12_areAlike_6 ?_
    refine g_icmp_eq E c2 cl_m1 djX12_areAlike_7 (fun hc => ?_) (fun hc => ?_)
    · replace h := h.1 hc
      exact (t_X12_areAlike_b74 E hr σ hσ h).weak (w_d (w_d (w_d w_n)))
    · replace h := h.2 hc
      refine g_aload_0 E dX12_areAlike_10 ?_
      refine g_getR E fl_RX12_102 kR_0 sR_0 rfl dX12_areAlike_11 ?_
      refine g_iload_1 E dX12_areAlike_14 ?_
      refine g_iald E kR_28 sR_28 (by decide) h.1 dX12_areAlike_15 ?_
      replace h := h.2
      refine g_aload_0 E dX12_areAlike_16 ?_
      refine g_getR E fl_RX12_102 kR_0 sR_0 rfl dX12_areAlike_17 ?_
      refine g_iload_2 E dX12_areAlike_20 ?_
      refine g_iald E kR_28 sR_28 (by decide) h.1 dX12_areAlike_21 ?_
      replace h := h.2
      refine g_icmp_ne E (aR_28 hσ _) (aR_28 hσ _) djX12_areAlike_22 (fun hc => ?_) (fun hc => ?_)
      · replace h := h.1 hc
        exact (t_X12_areAlike_b74 E hr σ hσ h).weak (w_d (w_d (w_d w_n)))
      · replace h := h.2 hc
        refine g_aload_0 E dX12_areAlike_25 ?_
        refine g_getR E fl_RX12_105 kR_0 sR_0 rfl dX12_areAlike_26 ?_
        refine g_iload_1 E dX12_areAlike_29 ?_
        refine g_iald E kR_29 sR_29 (by decide) h.1 dX12_areAlike_30 ?_
        replace h := h.2
        refine g_aload_0 E dX12_areAlike_31 ?_
        refine g_getR E fl_RX12_105 kR_0 sR_0 rfl dX12_areAlike_32 ?_
        refine g_iload_2 E dX12_areAlike_35 ?_
        refine g_iald E kR_29 sR_29 (by decide) h.1 dX12_areAlike_36 ?_
        replace h := h.2
        refine g_icmp_ne E (aR_29 hσ _) (aR_29 hσ _) djX12_areAlike_37 (fun hc => ?_) (fun hc => ?_)
        · replace h := h.1 hc
          exact (t_X12_areAlike_b74 E hr σ hσ h).weak (w_d (w_d (w_d w_n)))
        · replace h := h.2 hc
          refine g_aload_0 E dX12_areAlike_40 ?_
          refine g_getR E fl_RX12_111 kR_0 sR_0 rfl dX12_areAlike_41 ?_
          refine g_iload_1 E dX12_areAlike_44 ?_
          refine g_iald E kR_31 sR_31 (by decide) h.1 dX12_areAlike_45 ?_
          replace h := h.2
          refine g_aload_0 E dX12_areAlike_46 ?_
          refine g_getR E fl_RX12_111 kR_0 sR_0 rfl dX12_areAlike_47 ?_
          refine g_iload_2 E dX12_areAlike_50 ?_
          refine g_iald E kR_31 sR_31 (by decide) h.1 dX12_areAlike_51 ?_
          replace h := h.2
          refine g_icmp_ne E (aR_31 hσ _) (aR_31 hσ _) djX12_areAlike_52 (fun hc => ?_) (fun hc => ?_)
          · replace h := h.1 hc
            exact (t_X12_areAlike_b74 E hr σ hσ h).weak (w_d (w_d (w_d w_n)))
          · replace h := h.2 hc
            refine g_aload_0 E dX12_areAlike_55 ?_
            refine g_getR E fl_RX12_108 kR_0 sR_0 rfl dX12_areAlike_56 ?_
            refine g_iload_1 E dX12_areAlike_59 ?_
            refine g_iald E kR_30 sR_30 (by decide) h.1 dX12_areAlike_60 ?_
            replace h := h.2
            refine g_aload_0 E dX12_areAlike_61 ?_
            refine g_getR E fl_RX12_108 kR_0 sR_0 rfl dX12_areAlike_62 ?_
            refine g_iload_2 E dX12_areAlike_65 ?_
            refine g_iald E kR_30 sR_30 (by decide) h.1 dX12_areAlike_66 ?_
            replace h := h.2
            refine g_icmp_ne E (aR_30 hσ _) (aR_30 hσ _) djX12_areAlike_67 (fun hc => ?_) (fun hc => ?_)
            · replace h := h.1 hc
              exact (t_X12_areAlike_b74 E hr σ hσ h).weak (w_d (w_d (w_d w_n)))
            · replace h := h.2 hc
              refine g_iconst E dX12_areAlike_70 ?_
              refine g_goto E djX12_areAlike_71 ?_
              exact g_zret E hr (Or.inr rfl) h hσ dX12_areAlike_75
end
theorem m_X12_areAlike {Z : (Nat → Nat) × (Nat → Nat)} {l : Launch} {D : va_G} {cA : Nat → ClassId} {ad : Nat → Nat} {x1 x2 : Int} {σ : St} {Q : Int → St → Prop} (hA : AdOk NR ad) (c1 : C32 x1) (c2 : C32 x2) (hσ : CanS shR NR σ) (h : wp_X12_areAlike x1 x2 σ Q) : KtI Z l D cA ad shR NR yX12_areAlike cX12_areAlike 3 (some .boolean) 1 [.ref (ad 0), vI x1, vI x2] σ Q :=
  KtI.of my_X12_areAlike hA [some (.ref (ad 0)), some (vI x1), some (vI x2)] (Nat.le_of_ble_eq_true rfl) rfl (fun p e s m args below meth c A0 E hr => t_X12_areAlike E hr x1 x2 σ c1 c2 hσ h)
