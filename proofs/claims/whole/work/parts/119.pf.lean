theorem dX12_alike_0 : Dc cX12_alike 0 (.aload_n 0) 1 1 := ⟨by decide +kernel, rfl⟩
theorem dX12_alike_1 : Dc cX12_alike 1 (.iload_n 1) 1 2 := ⟨by decide +kernel, rfl⟩
theorem dX12_alike_2 : Dc cX12_alike 2 (.iload_n 2) 1 3 := ⟨by decide +kernel, rfl⟩
theorem dX12_alike_3 : Dc cX12_alike 3 (.iload_n 3) 1 4 := ⟨by decide +kernel, rfl⟩
theorem dX12_alike_4 : Dc cX12_alike 4 (.invokevirtual 318) 3 7 := ⟨by decide +kernel, rfl⟩
theorem djX12_alike_7 : Dj cX12_alike 7 (.ifCond .eq 19) 3 10 19 26 := ⟨by decide +kernel, rfl, by decide⟩
theorem dX12_alike_10 : Dc cX12_alike 10 (.iload 4) 2 12 := ⟨by decide +kernel, rfl⟩
theorem dX12_alike_12 : Dc cX12_alike 12 (.invokestatic 533) 3 15 := ⟨by decide +kernel, rfl⟩
theorem djX12_alike_15 : Dj cX12_alike 15 (.ifCond .eq 11) 3 18 11 26 := ⟨by decide +kernel, rfl, by decide⟩
theorem dX12_alike_18 : Dc cX12_alike 18 (.iload 5) 2 20 := ⟨by decide +kernel, rfl⟩
theorem dX12_alike_20 : Dc cX12_alike 20 (.invokestatic 533) 3 23 := ⟨by decide +kernel, rfl⟩
theorem djX12_alike_23 : Dj cX12_alike 23 (.ifCond .ne 6) 3 26 6 29 := ⟨by decide +kernel, rfl, by decide⟩
theorem dX12_alike_26 : Dc cX12_alike 26 (.bipush (-2)) 2 28 := ⟨by decide +kernel, rfl⟩
theorem dX12_alike_28 : Dc cX12_alike 28 (.ireturn) 1 29 := ⟨by decide +kernel, rfl⟩
theorem dX12_alike_29 : Dc cX12_alike 29 (.aload_n 0) 1 30 := ⟨by decide +kernel, rfl⟩
theorem dX12_alike_30 : Dc cX12_alike 30 (.invokevirtual 536) 3 33 := ⟨by decide +kernel, rfl⟩
theorem dX12_alike_33 : Dc cX12_alike 33 (.aload_n 0) 1 34 := ⟨by decide +kernel, rfl⟩
theorem dX12_alike_34 : Dc cX12_alike 34 (.iload_n 1) 1 35 := ⟨by decide +kernel, rfl⟩
theorem dX12_alike_35 : Dc cX12_alike 35 (.iload_n 2) 1 36 := ⟨by decide +kernel, rfl⟩
theorem dX12_alike_36 : Dc cX12_alike 36 (.iload_n 3) 1 37 := ⟨by decide +kernel, rfl⟩
theorem dX12_alike_37 : Dc cX12_alike 37 (.iload 4) 2 39 := ⟨by decide +kernel, rfl⟩
theorem dX12_alike_39 : Dc cX12_alike 39 (.invokevirtual 539) 3 42 := ⟨by decide +kernel, rfl⟩
theorem dX12_alike_42 : Dc cX12_alike 42 (.istore 6) 2 44 := ⟨by decide +kernel, rfl⟩
theorem dX12_alike_44 : Dc cX12_alike 44 (.aload_n 0) 1 45 := ⟨by decide +kernel, rfl⟩
theorem dX12_alike_45 : Dc cX12_alike 45 (.iload_n 1) 1 46 := ⟨by decide +kernel, rfl⟩
theorem dX12_alike_46 : Dc cX12_alike 46 (.iload_n 2) 1 47 := ⟨by decide +kernel, rfl⟩
theorem dX12_alike_47 : Dc cX12_alike 47 (.iload_n 3) 1 48 := ⟨by decide +kernel, rfl⟩
theorem dX12_alike_48 : Dc cX12_alike 48 (.iload 5) 2 50 := ⟨by decide +kernel, rfl⟩
theorem dX12_alike_50 : Dc cX12_alike 50 (.invokevirtual 539) 3 53 := ⟨by decide +kernel, rfl⟩
theorem dX12_alike_53 : Dc cX12_alike 53 (.istore 7) 2 55 := ⟨by decide +kernel, rfl⟩
theorem dX12_alike_55 : Dc cX12_alike 55 (.iload 6) 2 57 := ⟨by decide +kernel, rfl⟩
theorem dX12_alike_57 : Dc cX12_alike 57 (.iconst (-1)) 1 58 := ⟨by decide +kernel, rfl⟩
theorem djX12_alike_58 : Dj cX12_alike 58 (.if_icmp .eq 9) 3 61 9 67 := ⟨by decide +kernel, rfl, by decide⟩
theorem dX12_alike_61 : Dc cX12_alike 61 (.iload 7) 2 63 := ⟨by decide +kernel, rfl⟩
theorem dX12_alike_63 : Dc cX12_alike 63 (.iconst (-1)) 1 64 := ⟨by decide +kernel, rfl⟩
theorem djX12_alike_64 : Dj cX12_alike 64 (.if_icmp .ne 5) 3 67 5 69 := ⟨by decide +kernel, rfl, by decide⟩
theorem dX12_alike_67 : Dc cX12_alike 67 (.iconst (-1)) 1 68 := ⟨by decide +kernel, rfl⟩
theorem dX12_alike_68 : Dc cX12_alike 68 (.ireturn) 1 69 := ⟨by decide +kernel, rfl⟩
theorem dX12_alike_69 : Dc cX12_alike 69 (.iconst 0) 1 70 := ⟨by decide +kernel, rfl⟩
theorem dX12_alike_70 : Dc cX12_alike 70 (.istore 8) 2 72 := ⟨by decide +kernel, rfl⟩
theorem dX12_alike_72 : Dc cX12_alike 72 (.aload_n 0) 1 73 := ⟨by decide +kernel, rfl⟩
theorem dX12_alike_73 : Dc cX12_alike 73 (.aload_n 0) 1 74 := ⟨by decide +kernel, rfl⟩
theorem dX12_alike_74 : Dc cX12_alike 74 (.iload 6) 2 76 := ⟨by decide +kernel, rfl⟩
theorem dX12_alike_76 : Dc cX12_alike 76 (.iload 8) 2 78 := ⟨by decide +kernel, rfl⟩
theorem dX12_alike_78 : Dc cX12_alike 78 (.invokevirtual 542) 3 81 := ⟨by decide +kernel, rfl⟩
theorem dX12_alike_81 : Dc cX12_alike 81 (.aload_n 0) 1 82 := ⟨by decide +kernel, rfl⟩
theorem dX12_alike_82 : Dc cX12_alike 82 (.iload 7) 2 84 := ⟨by decide +kernel, rfl⟩
theorem dX12_alike_84 : Dc cX12_alike 84 (.iload 8) 2 86 := ⟨by decide +kernel, rfl⟩
theorem dX12_alike_86 : Dc cX12_alike 86 (.invokevirtual 542) 3 89 := ⟨by decide +kernel, rfl⟩
theorem dX12_alike_89 : Dc cX12_alike 89 (.invokevirtual 548) 3 92 := ⟨by decide +kernel, rfl⟩
theorem djX12_alike_92 : Dj cX12_alike 92 (.ifCond .eq 9) 3 95 9 101 := ⟨by decide +kernel, rfl, by decide⟩
theorem dX12_alike_95 : Dc cX12_alike 95 (.iinc 8 1) 3 98 := ⟨by decide +kernel, rfl⟩
theorem djX12_alike_98 : Dj cX12_alike 98 (.goto (-26)) 3 101 (-26) 72 := ⟨by decide +kernel, rfl, by decide⟩
theorem dX12_alike_101 : Dc cX12_alike 101 (.iload 8) 2 103 := ⟨by decide +kernel, rfl⟩
theorem dX12_alike_103 : Dc cX12_alike 103 (.ireturn) 1 104 := ⟨by decide +kernel, rfl⟩
section
variable {p : Program} {l : Launch} {e : Env} {s : State} {m : MethodId} {args : Array Value} {below : List Frame} {meth : Method} {c : Code} {A0 : Nat → Prop} {D : va_G} {cA : Nat → ClassId} {ad : Nat → Nat} {Z : (Nat → Nat) × (Nat → Nat)} {Q : Int → St → Prop}
set_option maxHeartbeats 4000000 in
set_option maxRecDepth 100000 in
theorem t_X12_alike_l72 (E : Ev p s m args meth c cX12_alike 9 RX12 A0 D cA ad NR Z) (hr : meth.sig.returnType = (some .int)) : ∀ (n : Nat) (x6 : Int) (x7 : Int) (x8 : Int) (σ : St), C32 x6 → C32 x7 → C32 x8 → CanS shR NR σ → wp_X12_alike_l72 Q n x6 x7 x8 σ → G p l e (rmL 807 0 0) s m args below meth c 9 A0 D cA ad shR NR 0 0 (MQ below (QIc D cA ad shR NR Q A0) args s 0 0 A0) σ 72 [some (.ref (ad 0)), none, none, none, none, none, some (vI x6), some (vI x7), some (vI x8)] [] := by
  intro n
  induction n with
  | zero => intro _ _ _ _ _ _ _ _ h; exact h.elim
  | succ n ih =>
    intro x6 x7 x8 σ c6 c7 c8 hσ h
    unfold wp_X12_alike_l72 at h
    refine g_aload_0 E dX12_alike_72 ?_
    refine g_aload_0 E dX12_alike_73 ?_
    refine g_iload_6 E dX12_alike_74 ?_
    refine g_iload_8 E dX12_alike_76 ?_
    refine g_callvI E my_X12_stepOf mi_X12_stepOf msel_X12_stepOf ml_RX12_542 (rm_ok (by decide) (by decide)) ⟨Nat.zero_le _, Nat.zero_le _⟩ kR_0 sR_0 rfl (m_X12_stepOf E.2.2.1 c6 c8 hσ h) rfl rfl (Nat.le_of_ble_eq_true rfl) dX12_alike_78 (fun r13 σ14 cr13 hσ14 h => ?_)
    refine g_aload_0 E dX12_alike_81 ?_
    refine g_iload_7 E dX12_alike_82 ?_
    refine g_iload_8 E dX12_alike_84 ?_
    refine g_callvI E my_X12_stepOf mi_X12_stepOf msel_X12_stepOf ml_RX12_542 (rm_ok (by decide) (by decide)) ⟨Nat.zero_le _, Nat.zero_le _⟩ kR_0 sR_0 rfl (m_X12_stepOf E.2.2.1 c7 c8 hσ14 h) rfl rfl (Nat.le_of_ble_eq_true rfl) dX12_alike_86 (fun r15 σ16 cr15 hσ16 h => ?_)
    refine g_callvI E my_X12_areAlike mi_X12_areAlike msel_X12_areAlike ml_RX12_548 (rm_ok (by decide) (by decide)) ⟨Nat.zero_le _, Nat.zero_le _⟩ kR_0 sR_0 rfl (m_X12_areAlike E.2.2.1 cr13 cr15 hσ16 h) rfl rfl (Nat.le_of_ble_eq_true rfl) dX12_alike_89 (fun r17 σ18 cr17 hσ18 h => ?_)
    refine g_if_eq E cr17 djX12_alike_92 (fun hc => ?_) (fun hc => ?_)
    · replace h := h.1 hc
      refine g_iload_8 E dX12_alike_101 ?_
      exact g_iret E hr c8 h hσ18 dX12_alike_103
    · replace h := h.2 hc
      refine g_iinc_8 E rfl (by decide) dX12_alike_95 (fun v19 ev19 => ?_)
      replace h := h v19 ev19
      have cv19 : C32 v19 := by rw [ev19]; exact c32_w _
      refine g_goto E djX12_alike_98 ?_
      exact (ih x6 x7 v19 σ18 c6 c7 cv19 hσ18 h).weak (w_k (w_d (w_d (w_d (w_d (w_d (w_k (w_k (w_k w_n)))))))))
set_option maxHeartbeats 4000000 in
set_option maxRecDepth 100000 in
theorem t_X12_alike (E : Ev p s m args meth c cX12_alike 9 RX12 A0 D cA ad NR Z) (hr : meth.sig.returnType = (some .int)) (x1 : Int) (x2 : Int) (x3 : Int) (x4 : Int) (x5 : Int) (σ : St) (c1 : C32 x1) (c2 : C32 x2) (c3 : C32 x3) (c4 : C32 x4) (c5 : C32 x5) (hσ : CanS shR NR σ) (h : wp_X12_alike x1 x2 x3 x4 x5 σ Q) : G p l e (rmL 807 0 0) s m args below meth c 9 A0 D cA ad shR NR 0 0 (MQ below (QIc D cA ad shR NR Q A0) args s 0 0 A0) σ 0 [some (.ref (ad 0)), some (vI x1), some (vI x2), some (vI x3), some (vI x4), some (vI x5), none, none, none] [] := by
  unfold wp_X12_alike at h
  refine g_aload_0 E dX12_alike_0 ?_
  refine g_iload_1 E dX12_alike_1 ?_
  refine g_iload_2 E dX12_alike_2 ?_
  refine g_iload_3 E dX12_alike_3 ?_
  refine g_callvI E my_X12_isItem mi_X12_isItem msel_X12_isItem ml_RX12_318 (rm_ok (by decide) (by decide)) ⟨Nat.zero_le _, Nat.zero_le _⟩ kR_0 sR_0 rfl (m_X12_isItem E.2.2.1 c1 c2 c3 hσ h) rfl rfl (Nat.le_of_ble_eq_true rfl) dX12_alike_4 (fun r1 σ2 cr1 hσ2 h => ?_)
  refine g_if_eq E cr1 djX12_alike_7 (fun hc => ?_) (fun hc => ?_)
  · replace h := h.1 hc
    refine g_bipush E (by decide) dX12_alike_26 ?_
    exact g_iret E hr cl_m2 h hσ2 dX12_alike_28
  · replace h := h.2 hc
    refine g_iload_4 E dX12_alike_10 ?_
    refine g_callsI E my_X12_isPlace ms_X12_isPlace ml_RX12_533 (rm_ok (by decide) (by decide)) ⟨Nat.zero_le _, Nat.zero_le _⟩ (m_X12_isPlace E.2.2.1 c4 hσ2 h) rfl rfl (Nat.le_of_ble_eq_true rfl) dX12_alike_12 (fun r3 σ4 cr3 hσ4 h => ?_)
    refine g_if_eq E cr3 djX12_alike_15 (fun hc => ?_) (fun hc => ?_)
    · replace h := h.1 hc
      refine g_bipush E (by decide) dX12_alike_26 ?_
      exact g_iret E hr cl_m2 h hσ4 dX12_alike_28
    · replace h := h.2 hc
      refine g_iload_5 E dX12_alike_18 ?_
      refine g_callsI E my_X12_isPlace ms_X12_isPlace ml_RX12_533 (rm_ok (by decide) (by decide)) ⟨Nat.zero_le _, Nat.zero_le _⟩ (m_X12_isPlace E.2.2.1 c5 hσ4 h) rfl rfl (Nat.le_of_ble_eq_true rfl) dX12_alike_20 (fun r5 σ6 cr5 hσ6 h => ?_)
      refine g_if_ne E cr5 djX12_alike_23 (fun hc => ?_) (fun hc => ?_)
      · replace h := h.1 hc
        refine g_aload_0 E dX12_alike_29 ?_
        refine g_callvV E my_X12_laysBest mi_X12_laysBest msel_X12_laysBest ml_RX12_536 (rm_ok (by decide) (by decide)) ⟨Nat.zero_le _, Nat.zero_le _⟩ kR_0 sR_0 rfl (m_X12_laysBest E.2.2.1 hσ6 h) rfl rfl (Nat.le_of_ble_eq_true rfl) dX12_alike_30 (fun σ8 r7 hσ8 h => ?_)
        refine g_aload_0 E dX12_alike_33 ?_
        refine g_iload_1 E dX12_alike_34 ?_
        refine g_iload_2 E dX12_alike_35 ?_
        refine g_iload_3 E dX12_alike_36 ?_
        refine g_iload_4 E dX12_alike_37 ?_
        refine g_callvI E my_X12_treeOf mi_X12_treeOf msel_X12_treeOf ml_RX12_539 (rm_ok (by decide) (by decide)) ⟨Nat.zero_le _, Nat.zero_le _⟩ kR_0 sR_0 rfl (m_X12_treeOf E.2.2.1 c1 c2 c3 c4 hσ8 h) rfl rfl (Nat.le_of_ble_eq_true rfl) dX12_alike_39 (fun r9 σ10 cr9 hσ10 h => ?_)
        refine g_istore_6 E rfl (by decide) dX12_alike_42 ?_
        refine g_aload_0 E dX12_alike_44 ?_
        refine g_iload_1 E dX12_alike_45 ?_
        refine g_iload_2 E dX12_alike_46 ?_
        refine g_iload_3 E dX12_alike_47 ?_
        refine g_iload_5 E dX12_alike_48 ?_
        refine g_callvI E my_X12_treeOf mi_X12_treeOf msel_X12_treeOf ml_RX12_539 (rm_ok (by decide) (by decide)) ⟨Nat.zero_le _, Nat.zero_le _⟩ kR_0 sR_0 rfl (m_X12_treeOf E.2.2.1 c1 c2 c3 c5 hσ10 h) rfl rfl (Nat.le_of_ble_eq_true rfl) dX12_alike_50 (fun r11 σ12 cr11 hσ12 h => ?_)
        refine g_istore_7 E rfl (by decide) dX12_alike_53 ?_
        refine g_iload_6 E dX12_alike_55 ?_
        refine g_iconst E dX12_alike_57 ?_
        refine g_icmp_eq E cr9 cl_m1 djX12_alike_58 (fun hc => ?_) (fun hc => ?_)
        · replace h := h.1 hc
          refine g_iconst E dX12_alike_67 ?_
          exact g_iret E hr cl_m1 h hσ12 dX12_alike_68
        · replace h := h.2 hc
          refine g_iload_7 E dX12_alike_61 ?_
          refine g_iconst E dX12_alike_63 ?_
          refine g_icmp_ne E cr11 cl_m1 djX12_alike_64 (fun hc => ?_) (fun hc => ?_)
          · replace h := h.1 hc
            refine g_iconst E dX12_alike_69 ?_
            refine g_istore_8 E rfl (by decide) dX12_alike_70 ?_
            exact (t_X12_alike_l72 E hr bigN r9 r11 0 σ12 cr9 cr11 cl_0 hσ12 h).weak (w_k (w_d (w_d (w_d (w_d (w_d (w_k (w_k (w_k w_n)))))))))
          · replace h := h.2 hc
            refine g_iconst E dX12_alike_67 ?_
            exact g_iret E hr cl_m1 h hσ12 dX12_alike_68
      · replace h := h.2 hc
        refine g_bipush E (by decide) dX12_alike_26 ?_
        exact g_iret E hr cl_m2 h hσ6 dX12_alike_28
end
theorem m_X12_alike {Z : (Nat → Nat) × (Nat → Nat)} {l : Launch} {D : va_G} {cA : Nat → ClassId} {ad : Nat → Nat} {x1 x2 x3 x4 x5 : Int} {σ : St} {Q : Int → St → Prop} (hA : AdOk NR ad) (c1 : C32 x1) (c2 : C32 x2) (c3 : C32 x3) (c4 : C32 x4) (c5 : C32 x5) (hσ : CanS shR NR σ) (h : wp_X12_alike x1 x2 x3 x4 x5 σ Q) : KtI Z l D cA ad shR NR yX12_alike cX12_alike 9 (some .int) 807 [.ref (ad 0), vI x1, vI x2, vI x3, vI x4, vI x5] σ Q :=
  KtI.of my_X12_alike hA [some (.ref (ad 0)), some (vI x1), some (vI x2), some (vI x3), some (vI x4), some (vI x5), none, none, none] (Nat.le_of_ble_eq_true rfl) rfl (fun p e s m args below meth c A0 E hr => t_X12_alike E hr x1 x2 x3 x4 x5 σ c1 c2 c3 c4 c5 hσ h)
theorem dX12_puts_0 : Dc cX12_puts 0 (.aload_n 0) 1 1 := ⟨by decide +kernel, rfl⟩
theorem dX12_puts_1 : Dc cX12_puts 1 (.getfield 138) 3 4 := ⟨by decide +kernel, rfl⟩
theorem dX12_puts_4 : Dc cX12_puts 4 (.aload_n 0) 1 5 := ⟨by decide +kernel, rfl⟩
theorem dX12_puts_5 : Dc cX12_puts 5 (.getfield 551) 3 8 := ⟨by decide +kernel, rfl⟩
theorem dX12_puts_8 : Dc cX12_puts 8 (.iload_n 1) 1 9 := ⟨by decide +kernel, rfl⟩
theorem dX12_puts_9 : Dc cX12_puts 9 (.i2b) 1 10 := ⟨by decide +kernel, rfl⟩
theorem dX12_puts_10 : Dc cX12_puts 10 (.bastore) 1 11 := ⟨by decide +kernel, rfl⟩
theorem dX12_puts_11 : Dc cX12_puts 11 (.aload_n 0) 1 12 := ⟨by decide +kernel, rfl⟩
theorem dX12_puts_12 : Dc cX12_puts 12 (.dup) 1 13 := ⟨by decide +kernel, rfl⟩
theorem dX12_puts_13 : Dc cX12_puts 13 (.getfield 551) 3 16 := ⟨by decide +kernel, rfl⟩
theorem dX12_puts_16 : Dc cX12_puts 16 (.iconst 1) 1 17 := ⟨by decide +kernel, rfl⟩
theorem dX12_puts_17 : Dc cX12_puts 17 (.iadd) 1 18 := ⟨by decide +kernel, rfl⟩
theorem dX12_puts_18 : Dc cX12_puts 18 (.putfield 551) 3 21 := ⟨by decide +kernel, rfl⟩
theorem dX12_puts_21 : Dc cX12_puts 21 (.return_) 1 22 := ⟨by decide +kernel, rfl⟩
section
variable {p : Program} {l : Launch} {e : Env} {s : State} {m : MethodId} {args : Array Value} {below : List Frame} {meth : Method} {c : Code} {A0 : Nat → Prop} {D : va_G} {cA : Nat → ClassId} {ad : Nat → Nat} {Z : (Nat → Nat) × (Nat → Nat)} {Q : Int → St → Prop}
set_option maxHeartbeats 4000000 in
set_option maxRecDepth 100000 in
theorem t_X12_puts (E : Ev p s m args meth c cX12_puts 2 RX12 A0 D cA ad NR Z) (hr : meth.sig.returnType = none) (x1 : Int) (σ : St) (c1 : C32 x1) (hσ : CanS shR NR σ) (h : wp_X12_puts x1 σ Q) : G p l e (rmL 1 0 0) s m args below meth c 2 A0 D cA ad shR NR 0 0 (MQ below (QVc D cA ad shR NR Q A0) args s 0 0 A0) σ 0 [some (.ref (ad 0)), some (vI x1)] [] := by
  unfold wp_X12_puts at h
  refine g_aload_0 E dX12_puts_0 ?_
  refine g_getR E fl_RX12_138 kR_0 sR_0 rfl dX12_puts_1 ?_
  refine g_aload_0 E dX12_puts_4 ?_
  refine g_getI E fl_RX12_551 kR_0 sR_0 rfl dX12_puts_5 ?_
  refine g_iload_1 E dX12_puts_8 ?_
  refine g_i2b E dX12_puts_9 ?_
  refine g_bast E kR_40 sR_40 (by decide) h.1 dX12_puts_10 (g_nmS (fun σ1 eσ1 => ?_))
  replace h := h.2 σ1 eσ1
  have hσ1 : CanS shR NR σ1 := by rw [eσ1]; exact wR_40 hσ (c32_t _)
  refine g_aload_0 E dX12_puts_11 ?_
  refine g_dup E rfl dX12_puts_12 ?_
  refine g_getI E fl_RX12_551 kR_0 sR_0 rfl dX12_puts_13 ?_
  refine g_iconst E dX12_puts_16 ?_
  refine g_iadd E dX12_puts_17 ?_
  refine g_putI E fl_RX12_551 rfl rfl kR_0 sR_0 rfl dX12_puts_18 (g_nmS (fun σ2 eσ2 => ?_))
  replace h := h σ2 eσ2
  have hσ2 : CanS shR NR σ2 := by rw [eσ2]; exact uR_0_61 hσ1 (c32_w _)
  exact g_vret E hr h hσ2 dX12_puts_21
end
theorem m_X12_puts {Z : (Nat → Nat) × (Nat → Nat)} {l : Launch} {D : va_G} {cA : Nat → ClassId} {ad : Nat → Nat} {x1 : Int} {σ : St} {Q : Int → St → Prop} (hA : AdOk NR ad) (c1 : C32 x1) (hσ : CanS shR NR σ) (h : wp_X12_puts x1 σ Q) : KtV Z l D cA ad shR NR yX12_puts cX12_puts 2 none 1 [.ref (ad 0), vI x1] σ Q :=
  KtV.of my_X12_puts hA [some (.ref (ad 0)), some (vI x1)] (Nat.le_of_ble_eq_true rfl) rfl (fun p e s m args below meth c A0 E hr => t_X12_puts E hr x1 σ c1 hσ h)
theorem dX12_tellsPart_0 : Dc cX12_tellsPart 0 (.aload_n 0) 1 1 := ⟨by decide +kernel, rfl⟩
theorem dX12_tellsPart_1 : Dc cX12_tellsPart 1 (.bipush 32) 2 3 := ⟨by decide +kernel, rfl⟩
theorem dX12_tellsPart_3 : Dc cX12_tellsPart 3 (.invokevirtual 554) 3 6 := ⟨by decide +kernel, rfl⟩
theorem dX12_tellsPart_6 : Dc cX12_tellsPart 6 (.iload_n 1) 1 7 := ⟨by decide +kernel, rfl⟩
theorem dX12_tellsPart_7 : Dc cX12_tellsPart 7 (.bipush 100) 2 9 := ⟨by decide +kernel, rfl⟩
theorem djX12_tellsPart_9 : Dj cX12_tellsPart 9 (.if_icmp .lt 17) 3 12 17 26 := ⟨by decide +kernel, rfl, by decide⟩
theorem dX12_tellsPart_12 : Dc cX12_tellsPart 12 (.aload_n 0) 1 13 := ⟨by decide +kernel, rfl⟩
theorem dX12_tellsPart_13 : Dc cX12_tellsPart 13 (.bipush 97) 2 15 := ⟨by decide +kernel, rfl⟩
theorem dX12_tellsPart_15 : Dc cX12_tellsPart 15 (.iload_n 1) 1 16 := ⟨by decide +kernel, rfl⟩
theorem dX12_tellsPart_16 : Dc cX12_tellsPart 16 (.iadd) 1 17 := ⟨by decide +kernel, rfl⟩
theorem dX12_tellsPart_17 : Dc cX12_tellsPart 17 (.bipush 100) 2 19 := ⟨by decide +kernel, rfl⟩
theorem dX12_tellsPart_19 : Dc cX12_tellsPart 19 (.isub) 1 20 := ⟨by decide +kernel, rfl⟩
theorem dX12_tellsPart_20 : Dc cX12_tellsPart 20 (.invokevirtual 554) 3 23 := ⟨by decide +kernel, rfl⟩
theorem djX12_tellsPart_23 : Dj cX12_tellsPart 23 (.goto 8) 3 26 8 31 := ⟨by decide +kernel, rfl, by decide⟩
theorem dX12_tellsPart_26 : Dc cX12_tellsPart 26 (.aload_n 0) 1 27 := ⟨by decide +kernel, rfl⟩
theorem dX12_tellsPart_27 : Dc cX12_tellsPart 27 (.iload_n 2) 1 28 := ⟨by decide +kernel, rfl⟩
theorem dX12_tellsPart_28 : Dc cX12_tellsPart 28 (.invokevirtual 557) 3 31 := ⟨by decide +kernel, rfl⟩
theorem dX12_tellsPart_31 : Dc cX12_tellsPart 31 (.return_) 1 32 := ⟨by decide +kernel, rfl⟩
section
variable {p : Program} {l : Launch} {e : Env} {s : State} {m : MethodId} {args : Array Value} {below : List Frame} {meth : Method} {c : Code} {A0 : Nat → Prop} {D : va_G} {cA : Nat → ClassId} {ad : Nat → Nat} {Z : (Nat → Nat) × (Nat → Nat)} {Q : Int → St → Prop}
set_option maxHeartbeats 4000000 in
set_option maxRecDepth 100000 in
theorem t_X12_tellsPart (E : Ev p s m args meth c cX12_tellsPart 3 RX12 A0 D cA ad NR Z) (hr : meth.sig.returnType = none) {M : Int → St → (Int → St → Prop) → Prop} {d : Nat} (hM : ∀ (x1 : Int) (σ : St) (Q : Int → St → Prop), C32 x1 → CanS shR NR σ → M x1 σ Q → KtV Z l D cA ad shR NR yX12_tells cX12_tells 3 none (2 + 2 * d) [.ref (ad 0), vI x1] σ Q) (x1 : Int) (x2 : Int) (σ : St) (c1 : C32 x1) (c2 : C32 x2) (hσ : CanS shR NR σ) (h : wp_X12_tellsPart M x1 x2 σ Q) : G p l e (rmL (2 + 2 * d + 1) 0 0) s m args below meth c 3 A0 D cA ad shR NR 0 0 (MQ below (QVc D cA ad shR NR Q A0) args s 0 0 A0) σ 0 [some (.ref (ad 0)), some (vI x1), some (vI x2)] [] := by
  unfold wp_X12_tellsPart at h
  refine g_aload_0 E dX12_tellsPart_0 ?_
  refine g_bipush E (by decide) dX12_tellsPart_1 ?_
  refine g_callvV E my_X12_puts mi_X12_puts msel_X12_puts ml_RX12_554 (rm_ok (by omega) (by decide)) ⟨Nat.zero_le _, Nat.zero_le _⟩ kR_0 sR_0 rfl (m_X12_puts E.2.2.1 cl_32 hσ h) rfl rfl (Nat.le_of_ble_eq_true rfl) dX12_tellsPart_3 (fun σ2 r1 hσ2 h => ?_)
  refine g_iload_1 E dX12_tellsPart_6 ?_
  refine g_bipush E (by decide) dX12_tellsPart_7 ?_
  refine g_icmp_lt E c1 cl_100 djX12_tellsPart_9 (fun hc => ?_) (fun hc => ?_)
  · replace h := h.1 hc
    refine g_aload_0 E dX12_tellsPart_26 ?_
    refine g_iload_2 E dX12_tellsPart_27 ?_
    refine g_callvV E my_X12_tells mi_X12_tells msel_X12_tells ml_RX12_557 (rm_ok (by omega) (by decide)) ⟨Nat.zero_le _, Nat.zero_le _⟩ kR_0 sR_0 rfl (hM x2 σ2 _ c2 hσ2 h) rfl rfl (Nat.le_of_ble_eq_true rfl) dX12_tellsPart_28 (fun σ4 r3 hσ4 h => ?_)
    exact g_vret E hr h hσ4 dX12_tellsPart_31
  · replace h := h.2 hc
    refine g_aload_0 E dX12_tellsPart_12 ?_
    refine g_bipush E (by decide) dX12_tellsPart_13 ?_
    refine g_iload_1 E dX12_tellsPart_15 ?_
    refine g_iadd E dX12_tellsPart_16 ?_
    refine g_bipush E (by decide) dX12_tellsPart_17 ?_
    refine g_isub E dX12_tellsPart_19 ?_
    refine g_callvV E my_X12_puts mi_X12_puts msel_X12_puts ml_RX12_554 (rm_ok (by omega) (by decide)) ⟨Nat.zero_le _, Nat.zero_le _⟩ kR_0 sR_0 rfl (m_X12_puts E.2.2.1 (c32_w _) hσ2 h) rfl rfl (Nat.le_of_ble_eq_true rfl) dX12_tellsPart_20 (fun σ6 r5 hσ6 h => ?_)
    refine g_goto E djX12_tellsPart_23 ?_
    exact g_vret E hr h hσ6 dX12_tellsPart_31
end
theorem m_X12_tellsPart {Z : (Nat → Nat) × (Nat → Nat)} {l : Launch} {D : va_G} {cA : Nat → ClassId} {ad : Nat → Nat} {M : Int → St → (Int → St → Prop) → Prop} {d : Nat} (hM : ∀ (x1 : Int) (σ : St) (Q : Int → St → Prop), C32 x1 → CanS shR NR σ → M x1 σ Q → KtV Z l D cA ad shR NR yX12_tells cX12_tells 3 none (2 + 2 * d) [.ref (ad 0), vI x1] σ Q) {x1 x2 : Int} {σ : St} {Q : Int → St → Prop} (hA : AdOk NR ad) (c1 : C32 x1) (c2 : C32 x2) (hσ : CanS shR NR σ) (h : wp_X12_tellsPart M x1 x2 σ Q) : KtV Z l D cA ad shR NR yX12_tellsPart cX12_tellsPart 3 none (2 + 2 * d + 1) [.ref (ad 0), vI x1, vI x2] σ Q :=
  KtV.of my_X12_tellsPart hA [some (.ref (ad 0)), some (vI x1), some (vI x2)] (Nat.le_of_ble_eq_true rfl) rfl (fun p e s m args below meth c A0 E hr => t_X12_tellsPart E hr hM x1 x2 σ c1 c2 hσ h)
theorem dX12_tells_0 : Dc cX12_tells 0 (.aload_n 0) 1 1 := ⟨by decide +kernel, rfl⟩
theorem dX12_tells_1 : Dc cX12_tells 1 (.getfield 102) 3 4 := ⟨by decide +kernel, rfl⟩
theorem dX12_tells_4 : Dc cX12_tells 4 (.iload_n 1) 1 5 := ⟨by decide +kernel, rfl⟩
theorem dX12_tells_5 : Dc cX12_tells 5 (.iaload) 1 6 := ⟨by decide +kernel, rfl⟩
theorem dX12_tells_6 : Dc cX12_tells 6 (.istore_n 2) 1 7 := ⟨by decide +kernel, rfl⟩
theorem dX12_tells_7 : Dc cX12_tells 7 (.aload_n 0) 1 8 := ⟨by decide +kernel, rfl⟩
theorem dX12_tells_8 : Dc cX12_tells 8 (.bipush 40) 2 10 := ⟨by decide +kernel, rfl⟩
theorem dX12_tells_10 : Dc cX12_tells 10 (.invokevirtual 554) 3 13 := ⟨by decide +kernel, rfl⟩
theorem dX12_tells_13 : Dc cX12_tells 13 (.aload_n 0) 1 14 := ⟨by decide +kernel, rfl⟩
theorem dX12_tells_14 : Dc cX12_tells 14 (.bipush 65) 2 16 := ⟨by decide +kernel, rfl⟩
theorem dX12_tells_16 : Dc cX12_tells 16 (.aload_n 0) 1 17 := ⟨by decide +kernel, rfl⟩
theorem dX12_tells_17 : Dc cX12_tells 17 (.getfield 13) 3 20 := ⟨by decide +kernel, rfl⟩
theorem dX12_tells_20 : Dc cX12_tells 20 (.iload_n 2) 1 21 := ⟨by decide +kernel, rfl⟩
theorem dX12_tells_21 : Dc cX12_tells 21 (.iaload) 1 22 := ⟨by decide +kernel, rfl⟩
theorem dX12_tells_22 : Dc cX12_tells 22 (.iadd) 1 23 := ⟨by decide +kernel, rfl⟩
theorem dX12_tells_23 : Dc cX12_tells 23 (.invokevirtual 554) 3 26 := ⟨by decide +kernel, rfl⟩
theorem dX12_tells_26 : Dc cX12_tells 26 (.aload_n 0) 1 27 := ⟨by decide +kernel, rfl⟩
theorem dX12_tells_27 : Dc cX12_tells 27 (.aload_n 0) 1 28 := ⟨by decide +kernel, rfl⟩
theorem dX12_tells_28 : Dc cX12_tells 28 (.getfield 17) 3 31 := ⟨by decide +kernel, rfl⟩
theorem dX12_tells_31 : Dc cX12_tells 31 (.iload_n 2) 1 32 := ⟨by decide +kernel, rfl⟩
theorem dX12_tells_32 : Dc cX12_tells 32 (.iaload) 1 33 := ⟨by decide +kernel, rfl⟩
theorem dX12_tells_33 : Dc cX12_tells 33 (.aload_n 0) 1 34 := ⟨by decide +kernel, rfl⟩
theorem dX12_tells_34 : Dc cX12_tells 34 (.getfield 114) 3 37 := ⟨by decide +kernel, rfl⟩
theorem dX12_tells_37 : Dc cX12_tells 37 (.iload_n 1) 1 38 := ⟨by decide +kernel, rfl⟩
theorem dX12_tells_38 : Dc cX12_tells 38 (.iaload) 1 39 := ⟨by decide +kernel, rfl⟩
theorem dX12_tells_39 : Dc cX12_tells 39 (.invokevirtual 560) 3 42 := ⟨by decide +kernel, rfl⟩
theorem dX12_tells_42 : Dc cX12_tells 42 (.aload_n 0) 1 43 := ⟨by decide +kernel, rfl⟩
theorem dX12_tells_43 : Dc cX12_tells 43 (.getfield 20) 3 46 := ⟨by decide +kernel, rfl⟩
theorem dX12_tells_46 : Dc cX12_tells 46 (.iload_n 2) 1 47 := ⟨by decide +kernel, rfl⟩
theorem dX12_tells_47 : Dc cX12_tells 47 (.iaload) 1 48 := ⟨by decide +kernel, rfl⟩
theorem dX12_tells_48 : Dc cX12_tells 48 (.iconst (-1)) 1 49 := ⟨by decide +kernel, rfl⟩
theorem djX12_tells_49 : Dj cX12_tells 49 (.if_icmp .eq 19) 3 52 19 68 := ⟨by decide +kernel, rfl, by decide⟩
theorem dX12_tells_52 : Dc cX12_tells 52 (.aload_n 0) 1 53 := ⟨by decide +kernel, rfl⟩
theorem dX12_tells_53 : Dc cX12_tells 53 (.aload_n 0) 1 54 := ⟨by decide +kernel, rfl⟩
theorem dX12_tells_54 : Dc cX12_tells 54 (.getfield 20) 3 57 := ⟨by decide +kernel, rfl⟩
theorem dX12_tells_57 : Dc cX12_tells 57 (.iload_n 2) 1 58 := ⟨by decide +kernel, rfl⟩
theorem dX12_tells_58 : Dc cX12_tells 58 (.iaload) 1 59 := ⟨by decide +kernel, rfl⟩
theorem dX12_tells_59 : Dc cX12_tells 59 (.aload_n 0) 1 60 := ⟨by decide +kernel, rfl⟩
theorem dX12_tells_60 : Dc cX12_tells 60 (.getfield 117) 3 63 := ⟨by decide +kernel, rfl⟩
theorem dX12_tells_63 : Dc cX12_tells 63 (.iload_n 1) 1 64 := ⟨by decide +kernel, rfl⟩
theorem dX12_tells_64 : Dc cX12_tells 64 (.iaload) 1 65 := ⟨by decide +kernel, rfl⟩
theorem dX12_tells_65 : Dc cX12_tells 65 (.invokevirtual 560) 3 68 := ⟨by decide +kernel, rfl⟩
theorem dX12_tells_68 : Dc cX12_tells 68 (.aload_n 0) 1 69 := ⟨by decide +kernel, rfl⟩
theorem dX12_tells_69 : Dc cX12_tells 69 (.bipush 41) 2 71 := ⟨by decide +kernel, rfl⟩
theorem dX12_tells_71 : Dc cX12_tells 71 (.invokevirtual 554) 3 74 := ⟨by decide +kernel, rfl⟩
theorem dX12_tells_74 : Dc cX12_tells 74 (.return_) 1 75 := ⟨by decide +kernel, rfl⟩
section
variable {p : Program} {l : Launch} {e : Env} {s : State} {m : MethodId} {args : Array Value} {below : List Frame} {meth : Method} {c : Code} {A0 : Nat → Prop} {D : va_G} {cA : Nat → ClassId} {ad : Nat → Nat} {Z : (Nat → Nat) × (Nat → Nat)} {Q : Int → St → Prop}
set_option maxHeartbeats 4000000 in
set_option maxRecDepth 100000 in
theorem t_X12_tells_b68 (E : Ev p s m args meth c cX12_tells 3 RX12 A0 D cA ad NR Z) (hr : meth.sig.returnType = none) {M : Int → St → (Int → St → Prop) → Prop} {d : Nat} (hM : ∀ (x1 : Int) (σ : St) (Q : Int → St → Prop), C32 x1 → CanS shR NR σ → M x1 σ Q → KtV Z l D cA ad shR NR yX12_tells cX12_tells 3 none (2 + 2 * d) [.ref (ad 0), vI x1] σ Q) (σ : St) (hσ : CanS shR NR σ) (h : wp_X12_tells_b68 M Q  σ) : G p l e (rmL (2 + 2 * (d + 1)) 0 0) s m args below meth c 3 A0 D cA ad shR NR 0 0 (MQ below (QVc D cA ad shR NR Q A0) args s 0 0 A0) σ 68 [some (.ref (ad 0)), none, none] [] := by
  unfold wp_X12_tells_b68 at h
  refine g_aload_0 E dX12_tells_68 ?_
  refine g_bipush E (by decide) dX12_tells_69 ?_
  refine g_callvV E my_X12_puts mi_X12_puts msel_X12_puts ml_RX12_554 (rm_ok (by omega) (by decide)) ⟨Nat.zero_le _, Nat.zero_le _⟩ kR_0 sR_0 rfl (m_X12_puts E.2.2.1 cl_41 hσ h) rfl rfl (Nat.le_of_ble_eq_true rfl) dX12_tells_71 (fun σ11 r10 hσ11 h => ?_)
  exact g_vret E hr h hσ11 dX12_tells_74
set_option maxHeartbeats 4000000 in
set_option maxRecDepth 100000 in
theorem t_X12_tells (E : Ev p s m args meth c cX12_tells 3 RX12 A0 D cA ad NR Z) (hr : meth.sig.returnType = none) {M : Int → St → (Int → St → Prop) → Prop} {d : Nat} (hM : ∀ (x1 : Int) (σ : St) (Q : Int → St → Prop), C32 x1 → CanS shR NR σ → M x1 σ Q → KtV Z l D cA ad shR NR yX12_tells cX12_tells 3 none (2 + 2 * d) [.ref (ad 0), vI x1] σ Q) (x1 : Int) (σ : St) (c1 : C32 x1) (hσ : CanS shR NR σ) (h : (0 ≤ x1 ∧ x1 < 40000) ∧ ∀ v1 : Int, v1 = σ 28 (x1.toNat) → wp_X12_puts 40 σ (fun r2 σ3 => (0 ≤ v1 ∧ v1 < 80) ∧ wp_X12_puts (w32 (65 + (σ3 1 (v1.toNat)))) σ3 (fun r4 σ5 => (0 ≤ v1 ∧ v1 < 80) ∧ (0 ≤ x1 ∧ x1 < 40000) ∧ wp_X12_tellsPart M (σ5 2 (v1.toNat)) (σ5 32 (x1.toNat)) σ5 (fun r6 σ7 => (0 ≤ v1 ∧ v1 < 80) ∧ ((σ7 3 (v1.toNat) = (-1)) → wp_X12_tells_b68 M Q σ7) ∧ (¬ (σ7 3 (v1.toNat) = (-1)) → (0 ≤ v1 ∧ v1 < 80) ∧ (0 ≤ x1 ∧ x1 < 40000) ∧ wp_X12_tellsPart M (σ7 3 (v1.toNat)) (σ7 33 (x1.toNat)) σ7 (fun r8 σ9 => wp_X12_tells_b68 M Q σ9)))))) : G p l e (rmL (2 + 2 * (d + 1)) 0 0) s m args below meth c 3 A0 D cA ad shR NR 0 0 (MQ below (QVc D cA ad shR NR Q A0) args s 0 0 A0) σ 0 [some (.ref (ad 0)), some (vI x1), none] [] := by
  refine g_aload_0 E dX12_tells_0 ?_
  refine g_getR E fl_RX12_102 kR_0 sR_0 rfl dX12_tells_1 ?_
  refine g_iload_1 E dX12_tells_4 ?_
  refine g_iald E kR_28 sR_28 (by decide) h.1 dX12_tells_5 ?_
  replace h := h.2
  refine g_nmI (fun v1 ev1 => ?_)
  replace h := h v1 ev1
  have cv1 : C32 v1 := by rw [ev1]; exact (aR_28 hσ _)
  refine g_istore_2 E rfl (by decide) dX12_tells_6 ?_
  refine g_aload_0 E dX12_tells_7 ?_
  refine g_bipush E (by decide) dX12_tells_8 ?_
  refine g_callvV E my_X12_puts mi_X12_puts msel_X12_puts ml_RX12_554 (rm_ok (by omega) (by decide)) ⟨Nat.zero_le _, Nat.zero_le _⟩ kR_0 sR_0 rfl (m_X12_puts E.2.2.1 cl_40 hσ h) rfl rfl (Nat.le_of_ble_eq_true rfl) dX12_tells_10 (fun σ3 r2 hσ3 h => ?_)
  refine g_aload_0 E dX12_tells_13 ?_
  refine g_bipush E (by decide) dX12_tells_14 ?_
  refine g_aload_0 E dX12_tells_16 ?_
  refine g_getR E fl_RX12_13 kR_0 sR_0 rfl dX12_tells_17 ?_
  refine g_iload_2 E dX12_tells_20 ?_
  refine g_iald E kR_1 sR_1 (by decide) h.1 dX12_tells_21 ?_
  replace h := h.2
  refine g_iadd E dX12_tells_22 ?_
  refine g_callvV E my_X12_puts mi_X12_puts msel_X12_puts ml_RX12_554 (rm_ok (by omega) (by decide)) ⟨Nat.zero_le _, Nat.zero_le _⟩ kR_0 sR_0 rfl (m_X12_puts E.2.2.1 (c32_w _) hσ3 h) rfl rfl (Nat.le_of_ble_eq_true rfl) dX12_tells_23 (fun σ5 r4 hσ5 h => ?_)
  refine g_aload_0 E dX12_tells_26 ?_
  refine g_aload_0 E dX12_tells_27 ?_
  refine g_getR E fl_RX12_17 kR_0 sR_0 rfl dX12_tells_28 ?_
  refine g_iload_2 E dX12_tells_31 ?_
  refine g_iald E kR_2 sR_2 (by decide) h.1 dX12_tells_32 ?_
  replace h := h.2
  refine g_aload_0 E dX12_tells_33 ?_
  refine g_getR E fl_RX12_114 kR_0 sR_0 rfl dX12_tells_34 ?_
  refine g_iload_1 E dX12_tells_37 ?_
  refine g_iald E kR_32 sR_32 (by decide) h.1 dX12_tells_38 ?_
  replace h := h.2
  refine g_callvV E my_X12_tellsPart mi_X12_tellsPart msel_X12_tellsPart ml_RX12_560 (rm_ok (by omega) (by decide)) ⟨Nat.zero_le _, Nat.zero_le _⟩ kR_0 sR_0 rfl (m_X12_tellsPart hM E.2.2.1 (aR_2 hσ5 _) (aR_32 hσ5 _) hσ5 h) rfl rfl (Nat.le_of_ble_eq_true rfl) dX12_tells_39 (fun σ7 r6 hσ7 h => ?_)
  refine g_aload_0 E dX12_tells_42 ?_
  refine g_getR E fl_RX12_20 kR_0 sR_0 rfl dX12_tells_43 ?_
  refine g_iload_2 E dX12_tells_46 ?_
  refine g_iald E kR_3 sR_3 (by decide) h.1 dX12_tells_47 ?_
  replace h := h.2
  refine g_iconst E dX12_tells_48 ?_
  refine g_icmp_eq E (aR_3 hσ7 _) cl_m1 djX12_tells_49 (fun hc => ?_) (fun hc => ?_)
  · replace h := h.1 hc
    exact (t_X12_tells_b68 E hr hM σ7 hσ7 h).weak (w_k (w_d (w_d w_n)))
  · replace h := h.2 hc
    refine g_aload_0 E dX12_tells_52 ?_
    refine g_aload_0 E dX12_tells_53 ?_
    refine g_getR E fl_RX12_20 kR_0 sR_0 rfl dX12_tells_54 ?_
    refine g_iload_2 E dX12_tells_57 ?_
    refine g_iald E kR_3 sR_3 (by decide) h.1 dX12_tells_58 ?_
    replace h := h.2
    refine g_aload_0 E dX12_tells_59 ?_
    refine g_getR E fl_RX12_117 kR_0 sR_0 rfl dX12_tells_60 ?_
    refine g_iload_1 E dX12_tells_63 ?_
    refine g_iald E kR_33 sR_33 (by decide) h.1 dX12_tells_64 ?_
    replace h := h.2
    refine g_callvV E my_X12_tellsPart mi_X12_tellsPart msel_X12_tellsPart ml_RX12_560 (rm_ok (by omega) (by decide)) ⟨Nat.zero_le _, Nat.zero_le _⟩ kR_0 sR_0 rfl (m_X12_tellsPart hM E.2.2.1 (aR_3 hσ7 _) (aR_33 hσ7 _) hσ7 h) rfl rfl (Nat.le_of_ble_eq_true rfl) dX12_tells_65 (fun σ9 r8 hσ9 h => ?_)
    exact (t_X12_tells_b68 E hr hM σ9 hσ9 h).weak (w_k (w_d (w_d w_n)))
end
theorem m_X12_tells {Z : (Nat → Nat) × (Nat → Nat)} {l : Launch} {D : va_G} {cA : Nat → ClassId} {ad : Nat → Nat} (d : Nat) (hA : AdOk NR ad) : ∀ {x1 : Int} {σ : St} {Q : Int → St → Prop}, C32 x1 → CanS shR NR σ → wp_X12_tells d x1 σ Q → KtV Z l D cA ad shR NR yX12_tells cX12_tells 3 none (2 + 2 * d) [.ref (ad 0), vI x1] σ Q := by
  induction d with
  | zero => intro _ _ _ _ _ h; exact h.elim
  | succ d ih =>
    intro x1 σ Q c1 hσ h
    unfold wp_X12_tells at h
    exact KtV.of my_X12_tells hA [some (.ref (ad 0)), some (vI x1), none] (Nat.le_of_ble_eq_true rfl) rfl (fun p e s m args below meth c A0 E hr => t_X12_tells E hr (fun x1 σ Q c1 hσ h => ih c1 hσ h) x1 σ c1 hσ h)
theorem dX12_tell_0 : Dc cX12_tell 0 (.aload_n 0) 1 1 := ⟨by decide +kernel, rfl⟩
theorem dX12_tell_1 : Dc cX12_tell 1 (.iload_n 1) 1 2 := ⟨by decide +kernel, rfl⟩
theorem dX12_tell_2 : Dc cX12_tell 2 (.iload_n 2) 1 3 := ⟨by decide +kernel, rfl⟩
theorem dX12_tell_3 : Dc cX12_tell 3 (.iload_n 3) 1 4 := ⟨by decide +kernel, rfl⟩
theorem dX12_tell_4 : Dc cX12_tell 4 (.invokevirtual 318) 3 7 := ⟨by decide +kernel, rfl⟩
theorem djX12_tell_7 : Dj cX12_tell 7 (.ifCond .eq 11) 3 10 11 18 := ⟨by decide +kernel, rfl, by decide⟩
theorem dX12_tell_10 : Dc cX12_tell 10 (.iload 4) 2 12 := ⟨by decide +kernel, rfl⟩
theorem dX12_tell_12 : Dc cX12_tell 12 (.invokestatic 533) 3 15 := ⟨by decide +kernel, rfl⟩
theorem djX12_tell_15 : Dj cX12_tell 15 (.ifCond .ne 6) 3 18 6 21 := ⟨by decide +kernel, rfl, by decide⟩
theorem dX12_tell_18 : Dc cX12_tell 18 (.bipush (-2)) 2 20 := ⟨by decide +kernel, rfl⟩
theorem dX12_tell_20 : Dc cX12_tell 20 (.ireturn) 1 21 := ⟨by decide +kernel, rfl⟩
theorem dX12_tell_21 : Dc cX12_tell 21 (.aload_n 0) 1 22 := ⟨by decide +kernel, rfl⟩
theorem dX12_tell_22 : Dc cX12_tell 22 (.invokevirtual 536) 3 25 := ⟨by decide +kernel, rfl⟩
theorem dX12_tell_25 : Dc cX12_tell 25 (.aload_n 0) 1 26 := ⟨by decide +kernel, rfl⟩
theorem dX12_tell_26 : Dc cX12_tell 26 (.iload_n 1) 1 27 := ⟨by decide +kernel, rfl⟩
theorem dX12_tell_27 : Dc cX12_tell 27 (.iload_n 2) 1 28 := ⟨by decide +kernel, rfl⟩
theorem dX12_tell_28 : Dc cX12_tell 28 (.iload_n 3) 1 29 := ⟨by decide +kernel, rfl⟩
theorem dX12_tell_29 : Dc cX12_tell 29 (.iload 4) 2 31 := ⟨by decide +kernel, rfl⟩
theorem dX12_tell_31 : Dc cX12_tell 31 (.invokevirtual 539) 3 34 := ⟨by decide +kernel, rfl⟩
theorem dX12_tell_34 : Dc cX12_tell 34 (.istore 5) 2 36 := ⟨by decide +kernel, rfl⟩
theorem dX12_tell_36 : Dc cX12_tell 36 (.iload 5) 2 38 := ⟨by decide +kernel, rfl⟩
theorem dX12_tell_38 : Dc cX12_tell 38 (.iconst (-1)) 1 39 := ⟨by decide +kernel, rfl⟩
theorem djX12_tell_39 : Dj cX12_tell 39 (.if_icmp .ne 5) 3 42 5 44 := ⟨by decide +kernel, rfl, by decide⟩
theorem dX12_tell_42 : Dc cX12_tell 42 (.iconst (-1)) 1 43 := ⟨by decide +kernel, rfl⟩
theorem dX12_tell_43 : Dc cX12_tell 43 (.ireturn) 1 44 := ⟨by decide +kernel, rfl⟩
theorem dX12_tell_44 : Dc cX12_tell 44 (.aload_n 0) 1 45 := ⟨by decide +kernel, rfl⟩
theorem dX12_tell_45 : Dc cX12_tell 45 (.iconst 0) 1 46 := ⟨by decide +kernel, rfl⟩
theorem dX12_tell_46 : Dc cX12_tell 46 (.putfield 551) 3 49 := ⟨by decide +kernel, rfl⟩
theorem dX12_tell_49 : Dc cX12_tell 49 (.aload_n 0) 1 50 := ⟨by decide +kernel, rfl⟩
theorem dX12_tell_50 : Dc cX12_tell 50 (.iload 5) 2 52 := ⟨by decide +kernel, rfl⟩
theorem dX12_tell_52 : Dc cX12_tell 52 (.invokevirtual 557) 3 55 := ⟨by decide +kernel, rfl⟩
theorem dX12_tell_55 : Dc cX12_tell 55 (.aload_n 0) 1 56 := ⟨by decide +kernel, rfl⟩
theorem dX12_tell_56 : Dc cX12_tell 56 (.getfield 551) 3 59 := ⟨by decide +kernel, rfl⟩
theorem dX12_tell_59 : Dc cX12_tell 59 (.ireturn) 1 60 := ⟨by decide +kernel, rfl⟩
section
variable {p : Program} {l : Launch} {e : Env} {s : State} {m : MethodId} {args : Array Value} {below : List Frame} {meth : Method} {c : Code} {A0 : Nat → Prop} {D : va_G} {cA : Nat → ClassId} {ad : Nat → Nat} {Z : (Nat → Nat) × (Nat → Nat)} {Q : Int → St → Prop}
set_option maxHeartbeats 4000000 in
set_option maxRecDepth 100000 in
theorem t_X12_tell (E : Ev p s m args meth c cX12_tell 6 RX12 A0 D cA ad NR Z) (hr : meth.sig.returnType = (some .int)) (x1 : Int) (x2 : Int) (x3 : Int) (x4 : Int) (σ : St) (c1 : C32 x1) (c2 : C32 x2) (c3 : C32 x3) (c4 : C32 x4) (hσ : CanS shR NR σ) (h : wp_X12_tell x1 x2 x3 x4 σ Q) : G p l e (rmL 807 0 0) s m args below meth c 6 A0 D cA ad shR NR 0 0 (MQ below (QIc D cA ad shR NR Q A0) args s 0 0 A0) σ 0 [some (.ref (ad 0)), some (vI x1), some (vI x2), some (vI x3), some (vI x4), none] [] := by
  unfold wp_X12_tell at h
  refine g_aload_0 E dX12_tell_0 ?_
  refine g_iload_1 E dX12_tell_1 ?_
  refine g_iload_2 E dX12_tell_2 ?_
  refine g_iload_3 E dX12_tell_3 ?_
  refine g_callvI E my_X12_isItem mi_X12_isItem msel_X12_isItem ml_RX12_318 (rm_ok (by decide) (by decide)) ⟨Nat.zero_le _, Nat.zero_le _⟩ kR_0 sR_0 rfl (m_X12_isItem E.2.2.1 c1 c2 c3 hσ h) rfl rfl (Nat.le_of_ble_eq_true rfl) dX12_tell_4 (fun r1 σ2 cr1 hσ2 h => ?_)
  refine g_if_eq E cr1 djX12_tell_7 (fun hc => ?_) (fun hc => ?_)
  · replace h := h.1 hc
    refine g_bipush E (by decide) dX12_tell_18 ?_
    exact g_iret E hr cl_m2 h hσ2 dX12_tell_20
  · replace h := h.2 hc
    refine g_iload_4 E dX12_tell_10 ?_
    refine g_callsI E my_X12_isPlace ms_X12_isPlace ml_RX12_533 (rm_ok (by decide) (by decide)) ⟨Nat.zero_le _, Nat.zero_le _⟩ (m_X12_isPlace E.2.2.1 c4 hσ2 h) rfl rfl (Nat.le_of_ble_eq_true rfl) dX12_tell_12 (fun r3 σ4 cr3 hσ4 h => ?_)
    refine g_if_ne E cr3 djX12_tell_15 (fun hc => ?_) (fun hc => ?_)
    · replace h := h.1 hc
      refine g_aload_0 E dX12_tell_21 ?_
      refine g_callvV E my_X12_laysBest mi_X12_laysBest msel_X12_laysBest ml_RX12_536 (rm_ok (by decide) (by decide)) ⟨Nat.zero_le _, Nat.zero_le _⟩ kR_0 sR_0 rfl (m_X12_laysBest E.2.2.1 hσ4 h) rfl rfl (Nat.le_of_ble_eq_true rfl) dX12_tell_22 (fun σ6 r5 hσ6 h => ?_)
      refine g_aload_0 E dX12_tell_25 ?_
      refine g_iload_1 E dX12_tell_26 ?_
      refine g_iload_2 E dX12_tell_27 ?_
      refine g_iload_3 E dX12_tell_28 ?_
      refine g_iload_4 E dX12_tell_29 ?_
      refine g_callvI E my_X12_treeOf mi_X12_treeOf msel_X12_treeOf ml_RX12_539 (rm_ok (by decide) (by decide)) ⟨Nat.zero_le _, Nat.zero_le _⟩ kR_0 sR_0 rfl (m_X12_treeOf E.2.2.1 c1 c2 c3 c4 hσ6 h) rfl rfl (Nat.le_of_ble_eq_true rfl) dX12_tell_31 (fun r7 σ8 cr7 hσ8 h => ?_)
      refine g_istore_5 E rfl (by decide) dX12_tell_34 ?_
      refine g_iload_5 E dX12_tell_36 ?_
      refine g_iconst E dX12_tell_38 ?_
      refine g_icmp_ne E cr7 cl_m1 djX12_tell_39 (fun hc => ?_) (fun hc => ?_)
      · replace h := h.1 hc
        refine g_aload_0 E dX12_tell_44 ?_
        refine g_iconst E dX12_tell_45 ?_
        refine g_putI E fl_RX12_551 rfl rfl kR_0 sR_0 rfl dX12_tell_46 (g_nmS (fun σ9 eσ9 => ?_))
        replace h := h σ9 eσ9
        have hσ9 : CanS shR NR σ9 := by rw [eσ9]; exact uR_0_61 hσ8 cl_0
        refine g_aload_0 E dX12_tell_49 ?_
        refine g_iload_5 E dX12_tell_50 ?_
        refine g_callvV E my_X12_tells mi_X12_tells msel_X12_tells ml_RX12_557 (rm_ok (by decide) (by decide)) ⟨Nat.zero_le _, Nat.zero_le _⟩ kR_0 sR_0 rfl (m_X12_tells 400 E.2.2.1 cr7 hσ9 h) rfl rfl (Nat.le_of_ble_eq_true rfl) dX12_tell_52 (fun σ11 r10 hσ11 h => ?_)
        refine g_aload_0 E dX12_tell_55 ?_
        refine g_getI E fl_RX12_551 kR_0 sR_0 rfl dX12_tell_56 ?_
        exact g_iret E hr (fR_0_61 hσ11) h hσ11 dX12_tell_59
      · replace h := h.2 hc
        refine g_iconst E dX12_tell_42 ?_
        exact g_iret E hr cl_m1 h hσ8 dX12_tell_43
    · replace h := h.2 hc
      refine g_bipush E (by decide) dX12_tell_18 ?_
      exact g_iret E hr cl_m2 h hσ4 dX12_tell_20
end
theorem m_X12_tell {Z : (Nat → Nat) × (Nat → Nat)} {l : Launch} {D : va_G} {cA : Nat → ClassId} {ad : Nat → Nat} {x1 x2 x3 x4 : Int} {σ : St} {Q : Int → St → Prop} (hA : AdOk NR ad) (c1 : C32 x1) (c2 : C32 x2) (c3 : C32 x3) (c4 : C32 x4) (hσ : CanS shR NR σ) (h : wp_X12_tell x1 x2 x3 x4 σ Q) : KtI Z l D cA ad shR NR yX12_tell cX12_tell 6 (some .int) 807 [.ref (ad 0), vI x1, vI x2, vI x3, vI x4] σ Q :=
  KtI.of my_X12_tell hA [some (.ref (ad 0)), some (vI x1), some (vI x2), some (vI x3), some (vI x4), none] (Nat.le_of_ble_eq_true rfl) rfl (fun p e s m args below meth c A0 E hr => t_X12_tell E hr x1 x2 x3 x4 σ c1 c2 c3 c4 hσ h)
theorem dX12_octet_0 : Dc cX12_octet 0 (.iload_n 1) 1 1 := ⟨by decide +kernel, rfl⟩
theorem dX12_octet_1 : Dc cX12_octet 1 (.i2l) 1 2 := ⟨by decide +kernel, rfl⟩
theorem dX12_octet_2 : Dc cX12_octet 2 (.lconst 0) 1 3 := ⟨by decide +kernel, rfl⟩
theorem dX12_octet_3 : Dc cX12_octet 3 (.aload_n 0) 1 4 := ⟨by decide +kernel, rfl⟩
theorem dX12_octet_4 : Dc cX12_octet 4 (.getfield 551) 3 7 := ⟨by decide +kernel, rfl⟩
theorem dX12_octet_7 : Dc cX12_octet 7 (.iconst 1) 1 8 := ⟨by decide +kernel, rfl⟩
theorem dX12_octet_8 : Dc cX12_octet 8 (.isub) 1 9 := ⟨by decide +kernel, rfl⟩
theorem dX12_octet_9 : Dc cX12_octet 9 (.i2l) 1 10 := ⟨by decide +kernel, rfl⟩
theorem dX12_octet_10 : Dc cX12_octet 10 (.invokestatic 148) 3 13 := ⟨by decide +kernel, rfl⟩
theorem djX12_octet_13 : Dj cX12_octet 13 (.ifCond .eq 12) 3 16 12 25 := ⟨by decide +kernel, rfl, by decide⟩
theorem dX12_octet_16 : Dc cX12_octet 16 (.aload_n 0) 1 17 := ⟨by decide +kernel, rfl⟩
theorem dX12_octet_17 : Dc cX12_octet 17 (.getfield 138) 3 20 := ⟨by decide +kernel, rfl⟩
theorem dX12_octet_20 : Dc cX12_octet 20 (.iload_n 1) 1 21 := ⟨by decide +kernel, rfl⟩
theorem dX12_octet_21 : Dc cX12_octet 21 (.baload) 1 22 := ⟨by decide +kernel, rfl⟩
theorem djX12_octet_22 : Dj cX12_octet 22 (.goto 4) 3 25 4 26 := ⟨by decide +kernel, rfl, by decide⟩
theorem dX12_octet_25 : Dc cX12_octet 25 (.iconst (-1)) 1 26 := ⟨by decide +kernel, rfl⟩
theorem dX12_octet_26 : Dc cX12_octet 26 (.ireturn) 1 27 := ⟨by decide +kernel, rfl⟩
section
variable {p : Program} {l : Launch} {e : Env} {s : State} {m : MethodId} {args : Array Value} {below : List Frame} {meth : Method} {c : Code} {A0 : Nat → Prop} {D : va_G} {cA : Nat → ClassId} {ad : Nat → Nat} {Z : (Nat → Nat) × (Nat → Nat)} {Q : Int → St → Prop}
set_option maxHeartbeats 4000000 in
set_option maxRecDepth 100000 in
theorem t_X12_octet (E : Ev p s m args meth c cX12_octet 2 RX12 A0 D cA ad NR Z) (hr : meth.sig.returnType = (some .int)) (x1 : Int) (σ : St) (c1 : C32 x1) (hσ : CanS shR NR σ) (h : wp_X12_octet x1 σ Q) : G p l e (rmL 2 0 0) s m args below meth c 2 A0 D cA ad shR NR 0 0 (MQ below (QIc D cA ad shR NR Q A0) args s 0 0 A0) σ 0 [some (.ref (ad 0)), some (vI x1)] [] := by
  unfold wp_X12_octet at h
  refine g_iload_1 E dX12_octet_0 ?_
  refine g_i2l E c1 dX12_octet_1 ?_
  refine g_lconst (n := 0) E (by decide) dX12_octet_2 ?_
  refine g_aload_0 E dX12_octet_3 ?_
  refine g_getI E fl_RX12_551 kR_0 sR_0 rfl dX12_octet_4 ?_
  refine g_iconst E dX12_octet_7 ?_
  refine g_isub E dX12_octet_8 ?_
  refine g_i2l E (c32_w _) dX12_octet_9 ?_
  refine g_callsI E my_X12_in ms_X12_in ml_RX12_148 (rm_ok (by decide) (by decide)) ⟨Nat.zero_le _, Nat.zero_le _⟩ (m_X12_in E.2.2.1 (c32_of_c64 c1) cL_0 (c32_of_c64 (c32_w _)) hσ h) rfl rfl (Nat.le_of_ble_eq_true rfl) dX12_octet_10 (fun r1 σ2 cr1 hσ2 h => ?_)
  refine g_if_eq E cr1 djX12_octet_13 (fun hc => ?_) (fun hc => ?_)
  · replace h := h.1 hc
    refine g_iconst E dX12_octet_25 ?_
    exact g_iret E hr cl_m1 h hσ2 dX12_octet_26
  · replace h := h.2 hc
    refine g_aload_0 E dX12_octet_16 ?_
    refine g_getR E fl_RX12_138 kR_0 sR_0 rfl dX12_octet_17 ?_
    refine g_iload_1 E dX12_octet_20 ?_
    refine g_bald E kR_40 sR_40 (by decide) h.1 dX12_octet_21 ?_
    replace h := h.2
    refine g_goto E djX12_octet_22 ?_
    exact g_iret E hr (aR_40 hσ2 _) h hσ2 dX12_octet_26
end
theorem m_X12_octet {Z : (Nat → Nat) × (Nat → Nat)} {l : Launch} {D : va_G} {cA : Nat → ClassId} {ad : Nat → Nat} {x1 : Int} {σ : St} {Q : Int → St → Prop} (hA : AdOk NR ad) (c1 : C32 x1) (hσ : CanS shR NR σ) (h : wp_X12_octet x1 σ Q) : KtI Z l D cA ad shR NR yX12_octet cX12_octet 2 (some .int) 2 [.ref (ad 0), vI x1] σ Q :=
  KtI.of my_X12_octet hA [some (.ref (ad 0)), some (vI x1)] (Nat.le_of_ble_eq_true rfl) rfl (fun p e s m args below meth c A0 E hr => t_X12_octet E hr x1 σ c1 hσ h)
theorem dX12_cheapPart_0 : Dc cX12_cheapPart 0 (.iload_n 1) 1 1 := ⟨by decide +kernel, rfl⟩
theorem dX12_cheapPart_1 : Dc cX12_cheapPart 1 (.bipush 100) 2 3 := ⟨by decide +kernel, rfl⟩
theorem djX12_cheapPart_3 : Dj cX12_cheapPart 3 (.if_icmp .lt 24) 3 6 24 27 := ⟨by decide +kernel, rfl, by decide⟩
theorem dX12_cheapPart_6 : Dc cX12_cheapPart 6 (.iload 4) 2 8 := ⟨by decide +kernel, rfl⟩
theorem djX12_cheapPart_8 : Dj cX12_cheapPart 8 (.ifCond .ne 17) 3 11 17 25 := ⟨by decide +kernel, rfl, by decide⟩
theorem dX12_cheapPart_11 : Dc cX12_cheapPart 11 (.aload_n 0) 1 12 := ⟨by decide +kernel, rfl⟩
theorem dX12_cheapPart_12 : Dc cX12_cheapPart 12 (.iload_n 1) 1 13 := ⟨by decide +kernel, rfl⟩
theorem dX12_cheapPart_13 : Dc cX12_cheapPart 13 (.iload_n 2) 1 14 := ⟨by decide +kernel, rfl⟩
theorem dX12_cheapPart_14 : Dc cX12_cheapPart 14 (.iload_n 3) 1 15 := ⟨by decide +kernel, rfl⟩
theorem dX12_cheapPart_15 : Dc cX12_cheapPart 15 (.invokevirtual 287) 3 18 := ⟨by decide +kernel, rfl⟩
theorem djX12_cheapPart_18 : Dj cX12_cheapPart 18 (.ifCond .eq 7) 3 21 7 25 := ⟨by decide +kernel, rfl, by decide⟩
theorem dX12_cheapPart_21 : Dc cX12_cheapPart 21 (.lconst 1) 1 22 := ⟨by decide +kernel, rfl⟩
theorem djX12_cheapPart_22 : Dj cX12_cheapPart 22 (.goto 4) 3 25 4 26 := ⟨by decide +kernel, rfl, by decide⟩
theorem dX12_cheapPart_25 : Dc cX12_cheapPart 25 (.lconst 0) 1 26 := ⟨by decide +kernel, rfl⟩
theorem dX12_cheapPart_26 : Dc cX12_cheapPart 26 (.lreturn) 1 27 := ⟨by decide +kernel, rfl⟩
theorem dX12_cheapPart_27 : Dc cX12_cheapPart 27 (.iload 4) 2 29 := ⟨by decide +kernel, rfl⟩
theorem dX12_cheapPart_29 : Dc cX12_cheapPart 29 (.iconst 1) 1 30 := ⟨by decide +kernel, rfl⟩
theorem djX12_cheapPart_30 : Dj cX12_cheapPart 30 (.if_icmp .ge 7) 3 33 7 37 := ⟨by decide +kernel, rfl, by decide⟩
theorem dX12_cheapPart_33 : Dc cX12_cheapPart 33 (.lconst 0) 1 34 := ⟨by decide +kernel, rfl⟩
theorem djX12_cheapPart_34 : Dj cX12_cheapPart 34 (.goto 21) 3 37 21 55 := ⟨by decide +kernel, rfl, by decide⟩
theorem dX12_cheapPart_37 : Dc cX12_cheapPart 37 (.aload_n 0) 1 38 := ⟨by decide +kernel, rfl⟩
theorem dX12_cheapPart_38 : Dc cX12_cheapPart 38 (.getfield 142) 3 41 := ⟨by decide +kernel, rfl⟩
theorem dX12_cheapPart_41 : Dc cX12_cheapPart 41 (.iload_n 1) 1 42 := ⟨by decide +kernel, rfl⟩
theorem dX12_cheapPart_42 : Dc cX12_cheapPart 42 (.iload_n 2) 1 43 := ⟨by decide +kernel, rfl⟩
theorem dX12_cheapPart_43 : Dc cX12_cheapPart 43 (.iload_n 3) 1 44 := ⟨by decide +kernel, rfl⟩
theorem dX12_cheapPart_44 : Dc cX12_cheapPart 44 (.invokestatic 282) 3 47 := ⟨by decide +kernel, rfl⟩
theorem dX12_cheapPart_47 : Dc cX12_cheapPart 47 (.sipush 301) 3 50 := ⟨by decide +kernel, rfl⟩
theorem dX12_cheapPart_50 : Dc cX12_cheapPart 50 (.imul) 1 51 := ⟨by decide +kernel, rfl⟩
theorem dX12_cheapPart_51 : Dc cX12_cheapPart 51 (.iload 4) 2 53 := ⟨by decide +kernel, rfl⟩
theorem dX12_cheapPart_53 : Dc cX12_cheapPart 53 (.iadd) 1 54 := ⟨by decide +kernel, rfl⟩
theorem dX12_cheapPart_54 : Dc cX12_cheapPart 54 (.laload) 1 55 := ⟨by decide +kernel, rfl⟩
theorem dX12_cheapPart_55 : Dc cX12_cheapPart 55 (.lreturn) 1 56 := ⟨by decide +kernel, rfl⟩
section
variable {p : Program} {l : Launch} {e : Env} {s : State} {m : MethodId} {args : Array Value} {below : List Frame} {meth : Method} {c : Code} {A0 : Nat → Prop} {D : va_G} {cA : Nat → ClassId} {ad : Nat → Nat} {Z : (Nat → Nat) × (Nat → Nat)} {Q : Int → St → Prop}
set_option maxHeartbeats 4000000 in
set_option maxRecDepth 100000 in
theorem t_X12_cheapPart_b25 (E : Ev p s m args meth c cX12_cheapPart 5 RX12 A0 D cA ad NR Z) (hr : meth.sig.returnType = (some .long)) (σ : St) (hσ : CanS shR NR σ) (h : wp_X12_cheapPart_b25 Q  σ) : G p l e (rmL 3 0 0) s m args below meth c 5 A0 D cA ad shR NR 0 0 (MQ below (QLc D cA ad shR NR Q A0) args s 0 0 A0) σ 25 [none, none, none, none, none] [] := by
  unfold wp_X12_cheapPart_b25 at h
  refine g_lconst (n := 0) E (by decide) dX12_cheapPart_25 ?_
  exact g_lret E hr cL_0 h hσ dX12_cheapPart_26
set_option maxHeartbeats 4000000 in
set_option maxRecDepth 100000 in
theorem t_X12_cheapPart (E : Ev p s m args meth c cX12_cheapPart 5 RX12 A0 D cA ad NR Z) (hr : meth.sig.returnType = (some .long)) (x1 : Int) (x2 : Int) (x3 : Int) (x4 : Int) (σ : St) (c1 : C32 x1) (c2 : C32 x2) (c3 : C32 x3) (c4 : C32 x4) (hσ : CanS shR NR σ) (h : wp_X12_cheapPart x1 x2 x3 x4 σ Q) : G p l e (rmL 3 0 0) s m args below meth c 5 A0 D cA ad shR NR 0 0 (MQ below (QLc D cA ad shR NR Q A0) args s 0 0 A0) σ 0 [some (.ref (ad 0)), some (vI x1), some (vI x2), some (vI x3), some (vI x4)] [] := by
  unfold wp_X12_cheapPart at h
  refine g_iload_1 E dX12_cheapPart_0 ?_
  refine g_bipush E (by decide) dX12_cheapPart_1 ?_
  refine g_icmp_lt E c1 cl_100 djX12_cheapPart_3 (fun hc => ?_) (fun hc => ?_)
  · replace h := h.1 hc
    refine g_iload_4 E dX12_cheapPart_27 ?_
    refine g_iconst E dX12_cheapPart_29 ?_
    refine g_icmp_ge E c4 cl_1 djX12_cheapPart_30 (fun hc => ?_) (fun hc => ?_)
    · replace h := h.1 hc
      refine g_aload_0 E dX12_cheapPart_37 ?_
      refine g_getR E fl_RX12_142 kR_0 sR_0 rfl dX12_cheapPart_38 ?_
      refine g_iload_1 E dX12_cheapPart_41 ?_
      refine g_iload_2 E dX12_cheapPart_42 ?_
      refine g_iload_3 E dX12_cheapPart_43 ?_
      refine g_callsI E my_X12_item ms_X12_item ml_RX12_282 (rm_ok (by decide) (by decide)) ⟨Nat.zero_le _, Nat.zero_le _⟩ (m_X12_item E.2.2.1 c1 c2 c3 hσ h) rfl rfl (Nat.le_of_ble_eq_true rfl) dX12_cheapPart_44 (fun r1 σ2 cr1 hσ2 h => ?_)
      refine g_sipush E (by decide) dX12_cheapPart_47 ?_
      refine g_imul E dX12_cheapPart_50 ?_
      refine g_iload_4 E dX12_cheapPart_51 ?_
      refine g_iadd E dX12_cheapPart_53 ?_
      refine g_lald E kR_41 sR_41 (by decide) h.1 dX12_cheapPart_54 ?_
      replace h := h.2
      exact g_lret E hr (aR_41 hσ2 _) h hσ2 dX12_cheapPart_55
    · replace h := h.2 hc
      refine g_lconst (n := 0) E (by decide) dX12_cheapPart_33 ?_
      refine g_goto E djX12_cheapPart_34 ?_
      exact g_lret E hr cL_0 h hσ dX12_cheapPart_55
  · replace h := h.2 hc
    refine g_iload_4 E dX12_cheapPart_6 ?_
    refine g_if_ne E c4 djX12_cheapPart_8 (fun hc => ?_) (fun hc => ?_)
    · replace h := h.1 hc
      exact (t_X12_cheapPart_b25 E hr σ hσ h).weak (w_d (w_d (w_d (w_d (w_d w_n)))))
    · replace h := h.2 hc
      refine g_aload_0 E dX12_cheapPart_11 ?_
      refine g_iload_1 E dX12_cheapPart_12 ?_
      refine g_iload_2 E dX12_cheapPart_13 ?_
      refine g_iload_3 E dX12_cheapPart_14 ?_
      refine g_callvI E my_X12_fits mi_X12_fits msel_X12_fits ml_RX12_287 (rm_ok (by decide) (by decide)) ⟨Nat.zero_le _, Nat.zero_le _⟩ kR_0 sR_0 rfl (m_X12_fits E.2.2.1 c1 c2 c3 hσ h) rfl rfl (Nat.le_of_ble_eq_true rfl) dX12_cheapPart_15 (fun r3 σ4 cr3 hσ4 h => ?_)
      refine g_if_eq E cr3 djX12_cheapPart_18 (fun hc => ?_) (fun hc => ?_)
      · replace h := h.1 hc
        exact (t_X12_cheapPart_b25 E hr σ4 hσ4 h).weak (w_d (w_d (w_d (w_d (w_d w_n)))))
      · replace h := h.2 hc
        refine g_lconst (n := 1) E (by decide) dX12_cheapPart_21 ?_
        refine g_goto E djX12_cheapPart_22 ?_
        exact g_lret E hr cL_1 h hσ4 dX12_cheapPart_26
end
theorem m_X12_cheapPart {Z : (Nat → Nat) × (Nat → Nat)} {l : Launch} {D : va_G} {cA : Nat → ClassId} {ad : Nat → Nat} {x1 x2 x3 x4 : Int} {σ : St} {Q : Int → St → Prop} (hA : AdOk NR ad) (c1 : C32 x1) (c2 : C32 x2) (c3 : C32 x3) (c4 : C32 x4) (hσ : CanS shR NR σ) (h : wp_X12_cheapPart x1 x2 x3 x4 σ Q) : KtL Z l D cA ad shR NR yX12_cheapPart cX12_cheapPart 5 (some .long) 3 [.ref (ad 0), vI x1, vI x2, vI x3, vI x4] σ Q :=
  KtL.of my_X12_cheapPart hA [some (.ref (ad 0)), some (vI x1), some (vI x2), some (vI x3), some (vI x4)] (Nat.le_of_ble_eq_true rfl) rfl (fun p e s m args below meth c A0 E hr => t_X12_cheapPart E hr x1 x2 x3 x4 σ c1 c2 c3 c4 hσ h)
theorem dX12_cheapTwos_0 : Dc cX12_cheapTwos 0 (.lconst 0) 1 1 := ⟨by decide +kernel, rfl⟩
theorem dX12_cheapTwos_1 : Dc cX12_cheapTwos 1 (.lstore 5) 2 3 := ⟨by decide +kernel, rfl⟩
theorem dX12_cheapTwos_3 : Dc cX12_cheapTwos 3 (.iload_n 2) 1 4 := ⟨by decide +kernel, rfl⟩
theorem dX12_cheapTwos_4 : Dc cX12_cheapTwos 4 (.iconst 1) 1 5 := ⟨by decide +kernel, rfl⟩
theorem dX12_cheapTwos_5 : Dc cX12_cheapTwos 5 (.iadd) 1 6 := ⟨by decide +kernel, rfl⟩
theorem dX12_cheapTwos_6 : Dc cX12_cheapTwos 6 (.istore 7) 2 8 := ⟨by decide +kernel, rfl⟩
theorem dX12_cheapTwos_8 : Dc cX12_cheapTwos 8 (.iload 7) 2 10 := ⟨by decide +kernel, rfl⟩
theorem dX12_cheapTwos_10 : Dc cX12_cheapTwos 10 (.iload_n 3) 1 11 := ⟨by decide +kernel, rfl⟩
theorem djX12_cheapTwos_11 : Dj cX12_cheapTwos 11 (.if_icmp .ge 148) 3 14 148 159 := ⟨by decide +kernel, rfl, by decide⟩
theorem dX12_cheapTwos_14 : Dc cX12_cheapTwos 14 (.aload_n 0) 1 15 := ⟨by decide +kernel, rfl⟩
theorem dX12_cheapTwos_15 : Dc cX12_cheapTwos 15 (.aload_n 0) 1 16 := ⟨by decide +kernel, rfl⟩
theorem dX12_cheapTwos_16 : Dc cX12_cheapTwos 16 (.getfield 17) 3 19 := ⟨by decide +kernel, rfl⟩
theorem dX12_cheapTwos_19 : Dc cX12_cheapTwos 19 (.iload_n 1) 1 20 := ⟨by decide +kernel, rfl⟩
theorem dX12_cheapTwos_20 : Dc cX12_cheapTwos 20 (.iaload) 1 21 := ⟨by decide +kernel, rfl⟩
theorem dX12_cheapTwos_21 : Dc cX12_cheapTwos 21 (.iload_n 2) 1 22 := ⟨by decide +kernel, rfl⟩
theorem dX12_cheapTwos_22 : Dc cX12_cheapTwos 22 (.iload 7) 2 24 := ⟨by decide +kernel, rfl⟩
theorem dX12_cheapTwos_24 : Dc cX12_cheapTwos 24 (.invokevirtual 287) 3 27 := ⟨by decide +kernel, rfl⟩
theorem djX12_cheapTwos_27 : Dj cX12_cheapTwos 27 (.ifCond .eq 126) 3 30 126 153 := ⟨by decide +kernel, rfl, by decide⟩
theorem dX12_cheapTwos_30 : Dc cX12_cheapTwos 30 (.aload_n 0) 1 31 := ⟨by decide +kernel, rfl⟩
theorem dX12_cheapTwos_31 : Dc cX12_cheapTwos 31 (.aload_n 0) 1 32 := ⟨by decide +kernel, rfl⟩
theorem dX12_cheapTwos_32 : Dc cX12_cheapTwos 32 (.getfield 20) 3 35 := ⟨by decide +kernel, rfl⟩
theorem dX12_cheapTwos_35 : Dc cX12_cheapTwos 35 (.iload_n 1) 1 36 := ⟨by decide +kernel, rfl⟩
theorem dX12_cheapTwos_36 : Dc cX12_cheapTwos 36 (.iaload) 1 37 := ⟨by decide +kernel, rfl⟩
theorem dX12_cheapTwos_37 : Dc cX12_cheapTwos 37 (.iload 7) 2 39 := ⟨by decide +kernel, rfl⟩
theorem dX12_cheapTwos_39 : Dc cX12_cheapTwos 39 (.iload_n 3) 1 40 := ⟨by decide +kernel, rfl⟩
theorem dX12_cheapTwos_40 : Dc cX12_cheapTwos 40 (.invokevirtual 287) 3 43 := ⟨by decide +kernel, rfl⟩
theorem djX12_cheapTwos_43 : Dj cX12_cheapTwos 43 (.ifCond .ne 6) 3 46 6 49 := ⟨by decide +kernel, rfl, by decide⟩
theorem djX12_cheapTwos_46 : Dj cX12_cheapTwos 46 (.goto 107) 3 49 107 153 := ⟨by decide +kernel, rfl, by decide⟩
theorem dX12_cheapTwos_49 : Dc cX12_cheapTwos 49 (.aload_n 0) 1 50 := ⟨by decide +kernel, rfl⟩
theorem dX12_cheapTwos_50 : Dc cX12_cheapTwos 50 (.aload_n 0) 1 51 := ⟨by decide +kernel, rfl⟩
theorem dX12_cheapTwos_51 : Dc cX12_cheapTwos 51 (.getfield 17) 3 54 := ⟨by decide +kernel, rfl⟩
theorem dX12_cheapTwos_54 : Dc cX12_cheapTwos 54 (.iload_n 1) 1 55 := ⟨by decide +kernel, rfl⟩
theorem dX12_cheapTwos_55 : Dc cX12_cheapTwos 55 (.iaload) 1 56 := ⟨by decide +kernel, rfl⟩
theorem dX12_cheapTwos_56 : Dc cX12_cheapTwos 56 (.iload_n 2) 1 57 := ⟨by decide +kernel, rfl⟩
theorem dX12_cheapTwos_57 : Dc cX12_cheapTwos 57 (.iload 7) 2 59 := ⟨by decide +kernel, rfl⟩
theorem dX12_cheapTwos_59 : Dc cX12_cheapTwos 59 (.invokevirtual 291) 3 62 := ⟨by decide +kernel, rfl⟩
theorem dX12_cheapTwos_62 : Dc cX12_cheapTwos 62 (.istore 8) 2 64 := ⟨by decide +kernel, rfl⟩
theorem dX12_cheapTwos_64 : Dc cX12_cheapTwos 64 (.iload 4) 2 66 := ⟨by decide +kernel, rfl⟩
theorem dX12_cheapTwos_66 : Dc cX12_cheapTwos 66 (.aload_n 0) 1 67 := ⟨by decide +kernel, rfl⟩
theorem dX12_cheapTwos_67 : Dc cX12_cheapTwos 67 (.aload_n 0) 1 68 := ⟨by decide +kernel, rfl⟩
theorem dX12_cheapTwos_68 : Dc cX12_cheapTwos 68 (.getfield 20) 3 71 := ⟨by decide +kernel, rfl⟩
theorem dX12_cheapTwos_71 : Dc cX12_cheapTwos 71 (.iload_n 1) 1 72 := ⟨by decide +kernel, rfl⟩
theorem dX12_cheapTwos_72 : Dc cX12_cheapTwos 72 (.iaload) 1 73 := ⟨by decide +kernel, rfl⟩
theorem dX12_cheapTwos_73 : Dc cX12_cheapTwos 73 (.iload 7) 2 75 := ⟨by decide +kernel, rfl⟩
theorem dX12_cheapTwos_75 : Dc cX12_cheapTwos 75 (.iload_n 3) 1 76 := ⟨by decide +kernel, rfl⟩
theorem dX12_cheapTwos_76 : Dc cX12_cheapTwos 76 (.invokevirtual 291) 3 79 := ⟨by decide +kernel, rfl⟩
theorem dX12_cheapTwos_79 : Dc cX12_cheapTwos 79 (.isub) 1 80 := ⟨by decide +kernel, rfl⟩
theorem dX12_cheapTwos_80 : Dc cX12_cheapTwos 80 (.istore 9) 2 82 := ⟨by decide +kernel, rfl⟩
theorem dX12_cheapTwos_82 : Dc cX12_cheapTwos 82 (.iload 8) 2 84 := ⟨by decide +kernel, rfl⟩
theorem dX12_cheapTwos_84 : Dc cX12_cheapTwos 84 (.istore 10) 2 86 := ⟨by decide +kernel, rfl⟩
theorem dX12_cheapTwos_86 : Dc cX12_cheapTwos 86 (.iload 10) 2 88 := ⟨by decide +kernel, rfl⟩
theorem dX12_cheapTwos_88 : Dc cX12_cheapTwos 88 (.iload 9) 2 90 := ⟨by decide +kernel, rfl⟩
theorem djX12_cheapTwos_90 : Dj cX12_cheapTwos 90 (.if_icmp .gt 63) 3 93 63 153 := ⟨by decide +kernel, rfl, by decide⟩
theorem dX12_cheapTwos_93 : Dc cX12_cheapTwos 93 (.aload_n 0) 1 94 := ⟨by decide +kernel, rfl⟩
theorem dX12_cheapTwos_94 : Dc cX12_cheapTwos 94 (.aload_n 0) 1 95 := ⟨by decide +kernel, rfl⟩
theorem dX12_cheapTwos_95 : Dc cX12_cheapTwos 95 (.getfield 17) 3 98 := ⟨by decide +kernel, rfl⟩
theorem dX12_cheapTwos_98 : Dc cX12_cheapTwos 98 (.iload_n 1) 1 99 := ⟨by decide +kernel, rfl⟩
theorem dX12_cheapTwos_99 : Dc cX12_cheapTwos 99 (.iaload) 1 100 := ⟨by decide +kernel, rfl⟩
theorem dX12_cheapTwos_100 : Dc cX12_cheapTwos 100 (.iload_n 2) 1 101 := ⟨by decide +kernel, rfl⟩
theorem dX12_cheapTwos_101 : Dc cX12_cheapTwos 101 (.iload 7) 2 103 := ⟨by decide +kernel, rfl⟩
theorem dX12_cheapTwos_103 : Dc cX12_cheapTwos 103 (.iload 10) 2 105 := ⟨by decide +kernel, rfl⟩
theorem dX12_cheapTwos_105 : Dc cX12_cheapTwos 105 (.invokevirtual 563) 3 108 := ⟨by decide +kernel, rfl⟩
theorem dX12_cheapTwos_108 : Dc cX12_cheapTwos 108 (.lstore 11) 2 110 := ⟨by decide +kernel, rfl⟩
theorem dX12_cheapTwos_110 : Dc cX12_cheapTwos 110 (.lload 11) 2 112 := ⟨by decide +kernel, rfl⟩
theorem dX12_cheapTwos_112 : Dc cX12_cheapTwos 112 (.lconst 0) 1 113 := ⟨by decide +kernel, rfl⟩
theorem dX12_cheapTwos_113 : Dc cX12_cheapTwos 113 (.lcmp) 1 114 := ⟨by decide +kernel, rfl⟩
theorem djX12_cheapTwos_114 : Dj cX12_cheapTwos 114 (.ifCond .le 33) 3 117 33 147 := ⟨by decide +kernel, rfl, by decide⟩
theorem dX12_cheapTwos_117 : Dc cX12_cheapTwos 117 (.lload 5) 2 119 := ⟨by decide +kernel, rfl⟩
theorem dX12_cheapTwos_119 : Dc cX12_cheapTwos 119 (.lload 11) 2 121 := ⟨by decide +kernel, rfl⟩
theorem dX12_cheapTwos_121 : Dc cX12_cheapTwos 121 (.aload_n 0) 1 122 := ⟨by decide +kernel, rfl⟩
theorem dX12_cheapTwos_122 : Dc cX12_cheapTwos 122 (.aload_n 0) 1 123 := ⟨by decide +kernel, rfl⟩
theorem dX12_cheapTwos_123 : Dc cX12_cheapTwos 123 (.getfield 20) 3 126 := ⟨by decide +kernel, rfl⟩
theorem dX12_cheapTwos_126 : Dc cX12_cheapTwos 126 (.iload_n 1) 1 127 := ⟨by decide +kernel, rfl⟩
theorem dX12_cheapTwos_127 : Dc cX12_cheapTwos 127 (.iaload) 1 128 := ⟨by decide +kernel, rfl⟩
theorem dX12_cheapTwos_128 : Dc cX12_cheapTwos 128 (.iload 7) 2 130 := ⟨by decide +kernel, rfl⟩
theorem dX12_cheapTwos_130 : Dc cX12_cheapTwos 130 (.iload_n 3) 1 131 := ⟨by decide +kernel, rfl⟩
theorem dX12_cheapTwos_131 : Dc cX12_cheapTwos 131 (.iload 4) 2 133 := ⟨by decide +kernel, rfl⟩
theorem dX12_cheapTwos_133 : Dc cX12_cheapTwos 133 (.iload 10) 2 135 := ⟨by decide +kernel, rfl⟩
theorem dX12_cheapTwos_135 : Dc cX12_cheapTwos 135 (.isub) 1 136 := ⟨by decide +kernel, rfl⟩
theorem dX12_cheapTwos_136 : Dc cX12_cheapTwos 136 (.invokevirtual 563) 3 139 := ⟨by decide +kernel, rfl⟩
theorem dX12_cheapTwos_139 : Dc cX12_cheapTwos 139 (.invokestatic 359) 3 142 := ⟨by decide +kernel, rfl⟩
theorem dX12_cheapTwos_142 : Dc cX12_cheapTwos 142 (.invokestatic 356) 3 145 := ⟨by decide +kernel, rfl⟩
theorem dX12_cheapTwos_145 : Dc cX12_cheapTwos 145 (.lstore 5) 2 147 := ⟨by decide +kernel, rfl⟩
theorem dX12_cheapTwos_147 : Dc cX12_cheapTwos 147 (.iinc 10 1) 3 150 := ⟨by decide +kernel, rfl⟩
theorem djX12_cheapTwos_150 : Dj cX12_cheapTwos 150 (.goto (-64)) 3 153 (-64) 86 := ⟨by decide +kernel, rfl, by decide⟩
theorem dX12_cheapTwos_153 : Dc cX12_cheapTwos 153 (.iinc 7 1) 3 156 := ⟨by decide +kernel, rfl⟩
theorem djX12_cheapTwos_156 : Dj cX12_cheapTwos 156 (.goto (-148)) 3 159 (-148) 8 := ⟨by decide +kernel, rfl, by decide⟩
theorem dX12_cheapTwos_159 : Dc cX12_cheapTwos 159 (.lload 5) 2 161 := ⟨by decide +kernel, rfl⟩
theorem dX12_cheapTwos_161 : Dc cX12_cheapTwos 161 (.lreturn) 1 162 := ⟨by decide +kernel, rfl⟩
section
variable {p : Program} {l : Launch} {e : Env} {s : State} {m : MethodId} {args : Array Value} {below : List Frame} {meth : Method} {c : Code} {A0 : Nat → Prop} {D : va_G} {cA : Nat → ClassId} {ad : Nat → Nat} {Z : (Nat → Nat) × (Nat → Nat)} {Q : Int → St → Prop}
set_option maxHeartbeats 4000000 in
set_option maxRecDepth 100000 in
theorem t_X12_cheapTwos_b147 (E : Ev p s m args meth c cX12_cheapTwos 13 RX12 A0 D cA ad NR Z) (hr : meth.sig.returnType = (some .long)) {K8 : Int → Int → Int → Int → Int → Int → St → Prop} (hK8 : ∀ (x1 : Int) (x2 : Int) (x3 : Int) (x4 : Int) (x5 : Int) (x7 : Int) (σ : St), C32 x1 → C32 x2 → C32 x3 → C32 x4 → C64 x5 → C32 x7 → CanS shR NR σ → K8 x1 x2 x3 x4 x5 x7 σ → G p l e (rmL 4 0 0) s m args below meth c 13 A0 D cA ad shR NR 0 0 (MQ below (QLc D cA ad shR NR Q A0) args s 0 0 A0) σ 8 [some (.ref (ad 0)), some (vI x1), some (vI x2), some (vI x3), some (vI x4), some (vL x5), none, some (vI x7), none, none, none, none, none] []) {K86 : Int → Int → Int → Int → Int → Int → Int → Int → St → Prop} (hK86 : ∀ (x1 : Int) (x2 : Int) (x3 : Int) (x4 : Int) (x5 : Int) (x7 : Int) (x9 : Int) (x10 : Int) (σ : St), C32 x1 → C32 x2 → C32 x3 → C32 x4 → C64 x5 → C32 x7 → C32 x9 → C32 x10 → CanS shR NR σ → K86 x1 x2 x3 x4 x5 x7 x9 x10 σ → G p l e (rmL 4 0 0) s m args below meth c 13 A0 D cA ad shR NR 0 0 (MQ below (QLc D cA ad shR NR Q A0) args s 0 0 A0) σ 86 [some (.ref (ad 0)), some (vI x1), some (vI x2), some (vI x3), some (vI x4), some (vL x5), none, some (vI x7), none, some (vI x9), some (vI x10), none, none] []) (x1 : Int) (x2 : Int) (x3 : Int) (x4 : Int) (x5 : Int) (x7 : Int) (x9 : Int) (x10 : Int) (σ : St) (c1 : C32 x1) (c2 : C32 x2) (c3 : C32 x3) (c4 : C32 x4) (c5 : C64 x5) (c7 : C32 x7) (c9 : C32 x9) (c10 : C32 x10) (hσ : CanS shR NR σ) (h : wp_X12_cheapTwos_b147 Q K8 K86 x1 x2 x3 x4 x5 x7 x9 x10 σ) : G p l e (rmL 4 0 0) s m args below meth c 13 A0 D cA ad shR NR 0 0 (MQ below (QLc D cA ad shR NR Q A0) args s 0 0 A0) σ 147 [some (.ref (ad 0)), some (vI x1), some (vI x2), some (vI x3), some (vI x4), some (vL x5), none, some (vI x7), none, some (vI x9), some (vI x10), none, none] [] := by
  unfold wp_X12_cheapTwos_b147 at h
  refine g_iinc_10 E rfl (by decide) dX12_cheapTwos_147 (fun v20 ev20 => ?_)
  replace h := h v20 ev20
  have cv20 : C32 v20 := by rw [ev20]; exact c32_w _
  refine g_goto E djX12_cheapTwos_150 ?_
  exact (hK86 x1 x2 x3 x4 x5 x7 x9 v20 σ c1 c2 c3 c4 c5 c7 c9 cv20 hσ h).weak (w_k (w_k (w_k (w_k (w_k (w_k (w_d (w_k (w_d (w_k (w_k (w_d (w_d w_n)))))))))))))
set_option maxHeartbeats 4000000 in
set_option maxRecDepth 100000 in
theorem t_X12_cheapTwos_b153 (E : Ev p s m args meth c cX12_cheapTwos 13 RX12 A0 D cA ad NR Z) (hr : meth.sig.returnType = (some .long)) {K8 : Int → Int → Int → Int → Int → Int → St → Prop} (hK8 : ∀ (x1 : Int) (x2 : Int) (x3 : Int) (x4 : Int) (x5 : Int) (x7 : Int) (σ : St), C32 x1 → C32 x2 → C32 x3 → C32 x4 → C64 x5 → C32 x7 → CanS shR NR σ → K8 x1 x2 x3 x4 x5 x7 σ → G p l e (rmL 4 0 0) s m args below meth c 13 A0 D cA ad shR NR 0 0 (MQ below (QLc D cA ad shR NR Q A0) args s 0 0 A0) σ 8 [some (.ref (ad 0)), some (vI x1), some (vI x2), some (vI x3), some (vI x4), some (vL x5), none, some (vI x7), none, none, none, none, none] []) (x1 : Int) (x2 : Int) (x3 : Int) (x4 : Int) (x5 : Int) (x7 : Int) (σ : St) (c1 : C32 x1) (c2 : C32 x2) (c3 : C32 x3) (c4 : C32 x4) (c5 : C64 x5) (c7 : C32 x7) (hσ : CanS shR NR σ) (h : wp_X12_cheapTwos_b153 Q K8 x1 x2 x3 x4 x5 x7 σ) : G p l e (rmL 4 0 0) s m args below meth c 13 A0 D cA ad shR NR 0 0 (MQ below (QLc D cA ad shR NR Q A0) args s 0 0 A0) σ 153 [some (.ref (ad 0)), some (vI x1), some (vI x2), some (vI x3), some (vI x4), some (vL x5), none, some (vI x7), none, none, none, none, none] [] := by
  unfold wp_X12_cheapTwos_b153 at h
  refine g_iinc_7 E rfl (by decide) dX12_cheapTwos_153 (fun v11 ev11 => ?_)
  replace h := h v11 ev11
  have cv11 : C32 v11 := by rw [ev11]; exact c32_w _
  refine g_goto E djX12_cheapTwos_156 ?_
  exact (hK8 x1 x2 x3 x4 x5 v11 σ c1 c2 c3 c4 c5 cv11 hσ h).weak (w_k (w_k (w_k (w_k (w_k (w_k (w_d (w_k (w_d (w_d (w_d (w_d (w_d w_n)))))))))))))
set_option maxHeartbeats 4000000 in
set_option maxRecDepth 100000 in
theorem t_X12_cheapTwos_l86 (E : Ev p s m args meth c cX12_cheapTwos 13 RX12 A0 D cA ad NR Z) (hr : meth.sig.returnType = (some .long)) {K8 : Int → Int → Int → Int → Int → Int → St → Prop} (hK8 : ∀ (x1 : Int) (x2 : Int) (x3 : Int) (x4 : Int) (x5 : Int) (x7 : Int) (σ : St), C32 x1 → C32 x2 → C32 x3 → C32 x4 → C64 x5 → C32 x7 → CanS shR NR σ → K8 x1 x2 x3 x4 x5 x7 σ → G p l e (rmL 4 0 0) s m args below meth c 13 A0 D cA ad shR NR 0 0 (MQ below (QLc D cA ad shR NR Q A0) args s 0 0 A0) σ 8 [some (.ref (ad 0)), some (vI x1), some (vI x2), some (vI x3), some (vI x4), some (vL x5), none, some (vI x7), none, none, none, none, none] []) : ∀ (n : Nat) (x1 : Int) (x2 : Int) (x3 : Int) (x4 : Int) (x5 : Int) (x7 : Int) (x9 : Int) (x10 : Int) (σ : St), C32 x1 → C32 x2 → C32 x3 → C32 x4 → C64 x5 → C32 x7 → C32 x9 → C32 x10 → CanS shR NR σ → wp_X12_cheapTwos_l86 Q K8 n x1 x2 x3 x4 x5 x7 x9 x10 σ → G p l e (rmL 4 0 0) s m args below meth c 13 A0 D cA ad shR NR 0 0 (MQ below (QLc D cA ad shR NR Q A0) args s 0 0 A0) σ 86 [some (.ref (ad 0)), some (vI x1), some (vI x2), some (vI x3), some (vI x4), some (vL x5), none, some (vI x7), none, some (vI x9), some (vI x10), none, none] [] := by
  intro n
  induction n with
  | zero => intro _ _ _ _ _ _ _ _ _ _ _ _ _ _ _ _ _ _ h; exact h.elim
  | succ n ih =>
    intro x1 x2 x3 x4 x5 x7 x9 x10 σ c1 c2 c3 c4 c5 c7 c9 c10 hσ h
    unfold wp_X12_cheapTwos_l86 at h
    refine g_iload_10 E dX12_cheapTwos_86 ?_
    refine g_iload_9 E dX12_cheapTwos_88 ?_
    refine g_icmp_gt E c10 c9 djX12_cheapTwos_90 (fun hc => ?_) (fun hc => ?_)
    · replace h := h.1 hc
      exact (t_X12_cheapTwos_b153 E hr hK8 x1 x2 x3 x4 x5 x7 σ c1 c2 c3 c4 c5 c7 hσ h).weak (w_k (w_k (w_k (w_k (w_k (w_k (w_d (w_k (w_d (w_d (w_d (w_d (w_d w_n)))))))))))))
    · replace h := h.2 hc
      refine g_aload_0 E dX12_cheapTwos_93 ?_
      refine g_aload_0 E dX12_cheapTwos_94 ?_
      refine g_getR E fl_RX12_17 kR_0 sR_0 rfl dX12_cheapTwos_95 ?_
      refine g_iload_1 E dX12_cheapTwos_98 ?_
      refine g_iald E kR_2 sR_2 (by decide) h.1 dX12_cheapTwos_99 ?_
      replace h := h.2
      refine g_iload_2 E dX12_cheapTwos_100 ?_
      refine g_iload_7 E dX12_cheapTwos_101 ?_
      refine g_iload_10 E dX12_cheapTwos_103 ?_
      refine g_callvL E my_X12_cheapPart mi_X12_cheapPart msel_X12_cheapPart ml_RX12_563 (rm_ok (by decide) (by decide)) ⟨Nat.zero_le _, Nat.zero_le _⟩ kR_0 sR_0 rfl (m_X12_cheapPart E.2.2.1 (aR_2 hσ _) c2 c7 c10 hσ h) rfl rfl (Nat.le_of_ble_eq_true rfl) dX12_cheapTwos_105 (fun r12 σ13 cr12 hσ13 h => ?_)
      refine g_lstore_11 E rfl (by decide) dX12_cheapTwos_108 ?_
      refine g_lload_11 E dX12_cheapTwos_110 ?_
      refine g_lconst (n := 0) E (by decide) dX12_cheapTwos_112 ?_
      refine g_lcmp_le E cr12 cL_0 dX12_cheapTwos_113 djX12_cheapTwos_114 (fun hc => ?_) (fun hc => ?_)
      · replace h := h.1 hc
        exact (t_X12_cheapTwos_b147 E hr hK8 ih x1 x2 x3 x4 x5 x7 x9 x10 σ13 c1 c2 c3 c4 c5 c7 c9 c10 hσ13 h).weak (w_k (w_k (w_k (w_k (w_k (w_k (w_d (w_k (w_d (w_k (w_k (w_d (w_d w_n)))))))))))))
      · replace h := h.2 hc
        refine g_lload_5 E dX12_cheapTwos_117 ?_
        refine g_lload_11 E dX12_cheapTwos_119 ?_
        refine g_aload_0 E dX12_cheapTwos_121 ?_
        refine g_aload_0 E dX12_cheapTwos_122 ?_
        refine g_getR E fl_RX12_20 kR_0 sR_0 rfl dX12_cheapTwos_123 ?_
        refine g_iload_1 E dX12_cheapTwos_126 ?_
        refine g_iald E kR_3 sR_3 (by decide) h.1 dX12_cheapTwos_127 ?_
        replace h := h.2
        refine g_iload_7 E dX12_cheapTwos_128 ?_
        refine g_iload_3 E dX12_cheapTwos_130 ?_
        refine g_iload_4 E dX12_cheapTwos_131 ?_
        refine g_iload_10 E dX12_cheapTwos_133 ?_
        refine g_isub E dX12_cheapTwos_135 ?_
        refine g_callvL E my_X12_cheapPart mi_X12_cheapPart msel_X12_cheapPart ml_RX12_563 (rm_ok (by decide) (by decide)) ⟨Nat.zero_le _, Nat.zero_le _⟩ kR_0 sR_0 rfl (m_X12_cheapPart E.2.2.1 (aR_3 hσ13 _) c7 c3 (c32_w _) hσ13 h) rfl rfl (Nat.le_of_ble_eq_true rfl) dX12_cheapTwos_136 (fun r14 σ15 cr14 hσ15 h => ?_)
        refine g_callsL E my_X12_timesGreat ms_X12_timesGreat ml_RX12_359 (rm_ok (by decide) (by decide)) ⟨Nat.zero_le _, Nat.zero_le _⟩ (m_X12_timesGreat E.2.2.1 cr12 cr14 hσ15 h) rfl rfl (Nat.le_of_ble_eq_true rfl) dX12_cheapTwos_139 (fun r16 σ17 cr16 hσ17 h => ?_)
        refine g_callsL E my_X12_plusGreat ms_X12_plusGreat ml_RX12_356 (rm_ok (by decide) (by decide)) ⟨Nat.zero_le _, Nat.zero_le _⟩ (m_X12_plusGreat E.2.2.1 c5 cr16 hσ17 h) rfl rfl (Nat.le_of_ble_eq_true rfl) dX12_cheapTwos_142 (fun r18 σ19 cr18 hσ19 h => ?_)
        refine g_lstore_5 E rfl (by decide) dX12_cheapTwos_145 ?_
        exact (t_X12_cheapTwos_b147 E hr hK8 ih x1 x2 x3 x4 r18 x7 x9 x10 σ19 c1 c2 c3 c4 cr18 c7 c9 c10 hσ19 h).weak (w_k (w_k (w_k (w_k (w_k (w_k (w_d (w_k (w_d (w_k (w_k (w_d (w_d w_n)))))))))))))
set_option maxHeartbeats 4000000 in
set_option maxRecDepth 100000 in
theorem t_X12_cheapTwos_l8 (E : Ev p s m args meth c cX12_cheapTwos 13 RX12 A0 D cA ad NR Z) (hr : meth.sig.returnType = (some .long)) : ∀ (n : Nat) (x1 : Int) (x2 : Int) (x3 : Int) (x4 : Int) (x5 : Int) (x7 : Int) (σ : St), C32 x1 → C32 x2 → C32 x3 → C32 x4 → C64 x5 → C32 x7 → CanS shR NR σ → wp_X12_cheapTwos_l8 Q n x1 x2 x3 x4 x5 x7 σ → G p l e (rmL 4 0 0) s m args below meth c 13 A0 D cA ad shR NR 0 0 (MQ below (QLc D cA ad shR NR Q A0) args s 0 0 A0) σ 8 [some (.ref (ad 0)), some (vI x1), some (vI x2), some (vI x3), some (vI x4), some (vL x5), none, some (vI x7), none, none, none, none, none] [] := by
  intro n
  induction n with
  | zero => intro _ _ _ _ _ _ _ _ _ _ _ _ _ _ h; exact h.elim
  | succ n ih =>
    intro x1 x2 x3 x4 x5 x7 σ c1 c2 c3 c4 c5 c7 hσ h
    unfold wp_X12_cheapTwos_l8 at h
    refine g_iload_7 E dX12_cheapTwos_8 ?_
    refine g_iload_3 E dX12_cheapTwos_10 ?_
    refine g_icmp_ge E c7 c3 djX12_cheapTwos_11 (fun hc => ?_) (fun hc => ?_)
    · replace h := h.1 hc
      refine g_lload_5 E dX12_cheapTwos_159 ?_
      exact g_lret E hr c5 h hσ dX12_cheapTwos_161
    · replace h := h.2 hc
      refine g_aload_0 E dX12_cheapTwos_14 ?_
      refine g_aload_0 E dX12_cheapTwos_15 ?_
      refine g_getR E fl_RX12_17 kR_0 sR_0 rfl dX12_cheapTwos_16 ?_
      refine g_iload_1 E dX12_cheapTwos_19 ?_
      refine g_iald E kR_2 sR_2 (by decide) h.1 dX12_cheapTwos_20 ?_
      replace h := h.2
      refine g_iload_2 E dX12_cheapTwos_21 ?_
      refine g_iload_7 E dX12_cheapTwos_22 ?_
      refine g_callvI E my_X12_fits mi_X12_fits msel_X12_fits ml_RX12_287 (rm_ok (by decide) (by decide)) ⟨Nat.zero_le _, Nat.zero_le _⟩ kR_0 sR_0 rfl (m_X12_fits E.2.2.1 (aR_2 hσ _) c2 c7 hσ h) rfl rfl (Nat.le_of_ble_eq_true rfl) dX12_cheapTwos_24 (fun r2 σ3 cr2 hσ3 h => ?_)
      refine g_if_eq E cr2 djX12_cheapTwos_27 (fun hc => ?_) (fun hc => ?_)
      · replace h := h.1 hc
        exact (t_X12_cheapTwos_b153 E hr ih x1 x2 x3 x4 x5 x7 σ3 c1 c2 c3 c4 c5 c7 hσ3 h).weak (w_k (w_k (w_k (w_k (w_k (w_k (w_d (w_k (w_d (w_d (w_d (w_d (w_d w_n)))))))))))))
      · replace h := h.2 hc
        refine g_aload_0 E dX12_cheapTwos_30 ?_
        refine g_aload_0 E dX12_cheapTwos_31 ?_
        refine g_getR E fl_RX12_20 kR_0 sR_0 rfl dX12_cheapTwos_32 ?_
        refine g_iload_1 E dX12_cheapTwos_35 ?_
        refine g_iald E kR_3 sR_3 (by decide) h.1 dX12_cheapTwos_36 ?_
        replace h := h.2
        refine g_iload_7 E dX12_cheapTwos_37 ?_
        refine g_iload_3 E dX12_cheapTwos_39 ?_
        refine g_callvI E my_X12_fits mi_X12_fits msel_X12_fits ml_RX12_287 (rm_ok (by decide) (by decide)) ⟨Nat.zero_le _, Nat.zero_le _⟩ kR_0 sR_0 rfl (m_X12_fits E.2.2.1 (aR_3 hσ3 _) c7 c3 hσ3 h) rfl rfl (Nat.le_of_ble_eq_true rfl) dX12_cheapTwos_40 (fun r4 σ5 cr4 hσ5 h => ?_)
        refine g_if_ne E cr4 djX12_cheapTwos_43 (fun hc => ?_) (fun hc => ?_)
        · replace h := h.1 hc
          refine g_aload_0 E dX12_cheapTwos_49 ?_
          refine g_aload_0 E dX12_cheapTwos_50 ?_
          refine g_getR E fl_RX12_17 kR_0 sR_0 rfl dX12_cheapTwos_51 ?_
          refine g_iload_1 E dX12_cheapTwos_54 ?_
          refine g_iald E kR_2 sR_2 (by decide) h.1 dX12_cheapTwos_55 ?_
          replace h := h.2
          refine g_iload_2 E dX12_cheapTwos_56 ?_
          refine g_iload_7 E dX12_cheapTwos_57 ?_
          refine g_callvI E my_X12_leastPart mi_X12_leastPart msel_X12_leastPart ml_RX12_291 (rm_ok (by decide) (by decide)) ⟨Nat.zero_le _, Nat.zero_le _⟩ kR_0 sR_0 rfl (m_X12_leastPart E.2.2.1 (aR_2 hσ5 _) c2 c7 hσ5 h) rfl rfl (Nat.le_of_ble_eq_true rfl) dX12_cheapTwos_59 (fun r6 σ7 cr6 hσ7 h => ?_)
          refine g_istore_8 E rfl (by decide) dX12_cheapTwos_62 ?_
          refine g_iload_4 E dX12_cheapTwos_64 ?_
          refine g_aload_0 E dX12_cheapTwos_66 ?_
          refine g_aload_0 E dX12_cheapTwos_67 ?_
          refine g_getR E fl_RX12_20 kR_0 sR_0 rfl dX12_cheapTwos_68 ?_
          refine g_iload_1 E dX12_cheapTwos_71 ?_
          refine g_iald E kR_3 sR_3 (by decide) h.1 dX12_cheapTwos_72 ?_
          replace h := h.2
          refine g_iload_7 E dX12_cheapTwos_73 ?_
          refine g_iload_3 E dX12_cheapTwos_75 ?_
          refine g_callvI E my_X12_leastPart mi_X12_leastPart msel_X12_leastPart ml_RX12_291 (rm_ok (by decide) (by decide)) ⟨Nat.zero_le _, Nat.zero_le _⟩ kR_0 sR_0 rfl (m_X12_leastPart E.2.2.1 (aR_3 hσ7 _) c7 c3 hσ7 h) rfl rfl (Nat.le_of_ble_eq_true rfl) dX12_cheapTwos_76 (fun r8 σ9 cr8 hσ9 h => ?_)
          refine g_isub E dX12_cheapTwos_79 ?_
          refine g_nmI (fun v10 ev10 => ?_)
          replace h := h v10 ev10
          have cv10 : C32 v10 := by rw [ev10]; exact (c32_w _)
          refine g_istore_9 E rfl (by decide) dX12_cheapTwos_80 ?_
          refine g_iload_8 E dX12_cheapTwos_82 ?_
          refine g_istore_10 E rfl (by decide) dX12_cheapTwos_84 ?_
          exact (t_X12_cheapTwos_l86 E hr ih bigN x1 x2 x3 x4 x5 x7 v10 r6 σ9 c1 c2 c3 c4 c5 c7 cv10 cr6 hσ9 h).weak (w_k (w_k (w_k (w_k (w_k (w_k (w_d (w_k (w_d (w_k (w_k (w_d (w_d w_n)))))))))))))
        · replace h := h.2 hc
          refine g_goto E djX12_cheapTwos_46 ?_
          exact (t_X12_cheapTwos_b153 E hr ih x1 x2 x3 x4 x5 x7 σ5 c1 c2 c3 c4 c5 c7 hσ5 h).weak (w_k (w_k (w_k (w_k (w_k (w_k (w_d (w_k (w_d (w_d (w_d (w_d (w_d w_n)))))))))))))
set_option maxHeartbeats 4000000 in
set_option maxRecDepth 100000 in
theorem t_X12_cheapTwos (E : Ev p s m args meth c cX12_cheapTwos 13 RX12 A0 D cA ad NR Z) (hr : meth.sig.returnType = (some .long)) (x1 : Int) (x2 : Int) (x3 : Int) (x4 : Int) (σ : St) (c1 : C32 x1) (c2 : C32 x2) (c3 : C32 x3) (c4 : C32 x4) (hσ : CanS shR NR σ) (h : wp_X12_cheapTwos x1 x2 x3 x4 σ Q) : G p l e (rmL 4 0 0) s m args below meth c 13 A0 D cA ad shR NR 0 0 (MQ below (QLc D cA ad shR NR Q A0) args s 0 0 A0) σ 0 [some (.ref (ad 0)), some (vI x1), some (vI x2), some (vI x3), some (vI x4), none, none, none, none, none, none, none, none] [] := by
  unfold wp_X12_cheapTwos at h
  refine g_lconst (n := 0) E (by decide) dX12_cheapTwos_0 ?_
  refine g_lstore_5 E rfl (by decide) dX12_cheapTwos_1 ?_
  refine g_iload_2 E dX12_cheapTwos_3 ?_
  refine g_iconst E dX12_cheapTwos_4 ?_
  refine g_iadd E dX12_cheapTwos_5 ?_
  refine g_nmI (fun v1 ev1 => ?_)
  replace h := h v1 ev1
  have cv1 : C32 v1 := by rw [ev1]; exact (c32_w _)
  refine g_istore_7 E rfl (by decide) dX12_cheapTwos_6 ?_
  exact (t_X12_cheapTwos_l8 E hr bigN x1 x2 x3 x4 0 v1 σ c1 c2 c3 c4 cL_0 cv1 hσ h).weak (w_k (w_k (w_k (w_k (w_k (w_k (w_d (w_k (w_d (w_d (w_d (w_d (w_d w_n)))))))))))))
end
theorem m_X12_cheapTwos {Z : (Nat → Nat) × (Nat → Nat)} {l : Launch} {D : va_G} {cA : Nat → ClassId} {ad : Nat → Nat} {x1 x2 x3 x4 : Int} {σ : St} {Q : Int → St → Prop} (hA : AdOk NR ad) (c1 : C32 x1) (c2 : C32 x2) (c3 : C32 x3) (c4 : C32 x4) (hσ : CanS shR NR σ) (h : wp_X12_cheapTwos x1 x2 x3 x4 σ Q) : KtL Z l D cA ad shR NR yX12_cheapTwos cX12_cheapTwos 13 (some .long) 4 [.ref (ad 0), vI x1, vI x2, vI x3, vI x4] σ Q :=
  KtL.of my_X12_cheapTwos hA [some (.ref (ad 0)), some (vI x1), some (vI x2), some (vI x3), some (vI x4), none, none, none, none, none, none, none, none] (Nat.le_of_ble_eq_true rfl) rfl (fun p e s m args below meth c A0 E hr => t_X12_cheapTwos E hr x1 x2 x3 x4 σ c1 c2 c3 c4 hσ h)
theorem dX12_laysCheap_0 : Dc cX12_laysCheap 0 (.iconst 1) 1 1 := ⟨by decide +kernel, rfl⟩
theorem dX12_laysCheap_1 : Dc cX12_laysCheap 1 (.istore 4) 2 3 := ⟨by decide +kernel, rfl⟩
theorem dX12_laysCheap_3 : Dc cX12_laysCheap 3 (.iload 4) 2 5 := ⟨by decide +kernel, rfl⟩
theorem dX12_laysCheap_5 : Dc cX12_laysCheap 5 (.iload_n 3) 1 6 := ⟨by decide +kernel, rfl⟩
theorem djX12_laysCheap_6 : Dj cX12_laysCheap 6 (.if_icmp .gt 184) 3 9 184 190 := ⟨by decide +kernel, rfl, by decide⟩
theorem dX12_laysCheap_9 : Dc cX12_laysCheap 9 (.iconst 0) 1 10 := ⟨by decide +kernel, rfl⟩
theorem dX12_laysCheap_10 : Dc cX12_laysCheap 10 (.istore 5) 2 12 := ⟨by decide +kernel, rfl⟩
theorem dX12_laysCheap_12 : Dc cX12_laysCheap 12 (.iload 5) 2 14 := ⟨by decide +kernel, rfl⟩
theorem dX12_laysCheap_14 : Dc cX12_laysCheap 14 (.bipush 12) 2 16 := ⟨by decide +kernel, rfl⟩
theorem djX12_laysCheap_16 : Dj cX12_laysCheap 16 (.if_icmp .ge 29) 3 19 29 45 := ⟨by decide +kernel, rfl, by decide⟩
theorem dX12_laysCheap_19 : Dc cX12_laysCheap 19 (.aload_n 0) 1 20 := ⟨by decide +kernel, rfl⟩
theorem dX12_laysCheap_20 : Dc cX12_laysCheap 20 (.getfield 142) 3 23 := ⟨by decide +kernel, rfl⟩
theorem dX12_laysCheap_23 : Dc cX12_laysCheap 23 (.iload 5) 2 25 := ⟨by decide +kernel, rfl⟩
theorem dX12_laysCheap_25 : Dc cX12_laysCheap 25 (.iload_n 1) 1 26 := ⟨by decide +kernel, rfl⟩
theorem dX12_laysCheap_26 : Dc cX12_laysCheap 26 (.iload_n 2) 1 27 := ⟨by decide +kernel, rfl⟩
theorem dX12_laysCheap_27 : Dc cX12_laysCheap 27 (.invokestatic 282) 3 30 := ⟨by decide +kernel, rfl⟩
theorem dX12_laysCheap_30 : Dc cX12_laysCheap 30 (.sipush 301) 3 33 := ⟨by decide +kernel, rfl⟩
theorem dX12_laysCheap_33 : Dc cX12_laysCheap 33 (.imul) 1 34 := ⟨by decide +kernel, rfl⟩
theorem dX12_laysCheap_34 : Dc cX12_laysCheap 34 (.iload 4) 2 36 := ⟨by decide +kernel, rfl⟩
theorem dX12_laysCheap_36 : Dc cX12_laysCheap 36 (.iadd) 1 37 := ⟨by decide +kernel, rfl⟩
theorem dX12_laysCheap_37 : Dc cX12_laysCheap 37 (.lconst 0) 1 38 := ⟨by decide +kernel, rfl⟩
theorem dX12_laysCheap_38 : Dc cX12_laysCheap 38 (.lastore) 1 39 := ⟨by decide +kernel, rfl⟩
theorem dX12_laysCheap_39 : Dc cX12_laysCheap 39 (.iinc 5 1) 3 42 := ⟨by decide +kernel, rfl⟩
theorem djX12_laysCheap_42 : Dj cX12_laysCheap 42 (.goto (-30)) 3 45 (-30) 12 := ⟨by decide +kernel, rfl, by decide⟩
theorem dX12_laysCheap_45 : Dc cX12_laysCheap 45 (.iconst 0) 1 46 := ⟨by decide +kernel, rfl⟩
theorem dX12_laysCheap_46 : Dc cX12_laysCheap 46 (.istore 5) 2 48 := ⟨by decide +kernel, rfl⟩
theorem dX12_laysCheap_48 : Dc cX12_laysCheap 48 (.iload 5) 2 50 := ⟨by decide +kernel, rfl⟩
theorem dX12_laysCheap_50 : Dc cX12_laysCheap 50 (.aload_n 0) 1 51 := ⟨by decide +kernel, rfl⟩
theorem dX12_laysCheap_51 : Dc cX12_laysCheap 51 (.getfield 252) 3 54 := ⟨by decide +kernel, rfl⟩
theorem djX12_laysCheap_54 : Dj cX12_laysCheap 54 (.if_icmp .ge 130) 3 57 130 184 := ⟨by decide +kernel, rfl, by decide⟩
theorem dX12_laysCheap_57 : Dc cX12_laysCheap 57 (.aload_n 0) 1 58 := ⟨by decide +kernel, rfl⟩
theorem dX12_laysCheap_58 : Dc cX12_laysCheap 58 (.iload 5) 2 60 := ⟨by decide +kernel, rfl⟩
theorem dX12_laysCheap_60 : Dc cX12_laysCheap 60 (.invokevirtual 298) 3 63 := ⟨by decide +kernel, rfl⟩
theorem djX12_laysCheap_63 : Dj cX12_laysCheap 63 (.ifCond .eq 115) 3 66 115 178 := ⟨by decide +kernel, rfl, by decide⟩
theorem dX12_laysCheap_66 : Dc cX12_laysCheap 66 (.iload 4) 2 68 := ⟨by decide +kernel, rfl⟩
theorem dX12_laysCheap_68 : Dc cX12_laysCheap 68 (.aload_n 0) 1 69 := ⟨by decide +kernel, rfl⟩
theorem dX12_laysCheap_69 : Dc cX12_laysCheap 69 (.getfield 23) 3 72 := ⟨by decide +kernel, rfl⟩
theorem dX12_laysCheap_72 : Dc cX12_laysCheap 72 (.iload 5) 2 74 := ⟨by decide +kernel, rfl⟩
theorem dX12_laysCheap_74 : Dc cX12_laysCheap 74 (.iaload) 1 75 := ⟨by decide +kernel, rfl⟩
theorem djX12_laysCheap_75 : Dj cX12_laysCheap 75 (.if_icmp .ge 6) 3 78 6 81 := ⟨by decide +kernel, rfl, by decide⟩
theorem djX12_laysCheap_78 : Dj cX12_laysCheap 78 (.goto 100) 3 81 100 178 := ⟨by decide +kernel, rfl, by decide⟩
theorem dX12_laysCheap_81 : Dc cX12_laysCheap 81 (.aload_n 0) 1 82 := ⟨by decide +kernel, rfl⟩
theorem dX12_laysCheap_82 : Dc cX12_laysCheap 82 (.getfield 13) 3 85 := ⟨by decide +kernel, rfl⟩
theorem dX12_laysCheap_85 : Dc cX12_laysCheap 85 (.iload 5) 2 87 := ⟨by decide +kernel, rfl⟩
theorem dX12_laysCheap_87 : Dc cX12_laysCheap 87 (.iaload) 1 88 := ⟨by decide +kernel, rfl⟩
theorem dX12_laysCheap_88 : Dc cX12_laysCheap 88 (.iload_n 1) 1 89 := ⟨by decide +kernel, rfl⟩
theorem dX12_laysCheap_89 : Dc cX12_laysCheap 89 (.iload_n 2) 1 90 := ⟨by decide +kernel, rfl⟩
theorem dX12_laysCheap_90 : Dc cX12_laysCheap 90 (.invokestatic 282) 3 93 := ⟨by decide +kernel, rfl⟩
theorem dX12_laysCheap_93 : Dc cX12_laysCheap 93 (.sipush 301) 3 96 := ⟨by decide +kernel, rfl⟩
theorem dX12_laysCheap_96 : Dc cX12_laysCheap 96 (.imul) 1 97 := ⟨by decide +kernel, rfl⟩
theorem dX12_laysCheap_97 : Dc cX12_laysCheap 97 (.iload 4) 2 99 := ⟨by decide +kernel, rfl⟩
theorem dX12_laysCheap_99 : Dc cX12_laysCheap 99 (.iadd) 1 100 := ⟨by decide +kernel, rfl⟩
theorem dX12_laysCheap_100 : Dc cX12_laysCheap 100 (.istore 6) 2 102 := ⟨by decide +kernel, rfl⟩
theorem dX12_laysCheap_102 : Dc cX12_laysCheap 102 (.aload_n 0) 1 103 := ⟨by decide +kernel, rfl⟩
theorem dX12_laysCheap_103 : Dc cX12_laysCheap 103 (.getfield 20) 3 106 := ⟨by decide +kernel, rfl⟩
theorem dX12_laysCheap_106 : Dc cX12_laysCheap 106 (.iload 5) 2 108 := ⟨by decide +kernel, rfl⟩
theorem dX12_laysCheap_108 : Dc cX12_laysCheap 108 (.iaload) 1 109 := ⟨by decide +kernel, rfl⟩
theorem dX12_laysCheap_109 : Dc cX12_laysCheap 109 (.iconst (-1)) 1 110 := ⟨by decide +kernel, rfl⟩
theorem djX12_laysCheap_110 : Dj cX12_laysCheap 110 (.if_icmp .ne 29) 3 113 29 139 := ⟨by decide +kernel, rfl, by decide⟩
theorem dX12_laysCheap_113 : Dc cX12_laysCheap 113 (.aload_n 0) 1 114 := ⟨by decide +kernel, rfl⟩
theorem dX12_laysCheap_114 : Dc cX12_laysCheap 114 (.aload_n 0) 1 115 := ⟨by decide +kernel, rfl⟩
theorem dX12_laysCheap_115 : Dc cX12_laysCheap 115 (.getfield 17) 3 118 := ⟨by decide +kernel, rfl⟩
theorem dX12_laysCheap_118 : Dc cX12_laysCheap 118 (.iload 5) 2 120 := ⟨by decide +kernel, rfl⟩
theorem dX12_laysCheap_120 : Dc cX12_laysCheap 120 (.iaload) 1 121 := ⟨by decide +kernel, rfl⟩
theorem dX12_laysCheap_121 : Dc cX12_laysCheap 121 (.iload_n 1) 1 122 := ⟨by decide +kernel, rfl⟩
theorem dX12_laysCheap_122 : Dc cX12_laysCheap 122 (.iload_n 2) 1 123 := ⟨by decide +kernel, rfl⟩
theorem dX12_laysCheap_123 : Dc cX12_laysCheap 123 (.iload 4) 2 125 := ⟨by decide +kernel, rfl⟩
theorem dX12_laysCheap_125 : Dc cX12_laysCheap 125 (.aload_n 0) 1 126 := ⟨by decide +kernel, rfl⟩
theorem dX12_laysCheap_126 : Dc cX12_laysCheap 126 (.getfield 23) 3 129 := ⟨by decide +kernel, rfl⟩
theorem dX12_laysCheap_129 : Dc cX12_laysCheap 129 (.iload 5) 2 131 := ⟨by decide +kernel, rfl⟩
theorem dX12_laysCheap_131 : Dc cX12_laysCheap 131 (.iaload) 1 132 := ⟨by decide +kernel, rfl⟩
theorem dX12_laysCheap_132 : Dc cX12_laysCheap 132 (.isub) 1 133 := ⟨by decide +kernel, rfl⟩
theorem dX12_laysCheap_133 : Dc cX12_laysCheap 133 (.invokevirtual 563) 3 136 := ⟨by decide +kernel, rfl⟩
theorem djX12_laysCheap_136 : Dj cX12_laysCheap 136 (.goto 21) 3 139 21 157 := ⟨by decide +kernel, rfl, by decide⟩
theorem dX12_laysCheap_139 : Dc cX12_laysCheap 139 (.aload_n 0) 1 140 := ⟨by decide +kernel, rfl⟩
theorem dX12_laysCheap_140 : Dc cX12_laysCheap 140 (.iload 5) 2 142 := ⟨by decide +kernel, rfl⟩
theorem dX12_laysCheap_142 : Dc cX12_laysCheap 142 (.iload_n 1) 1 143 := ⟨by decide +kernel, rfl⟩
theorem dX12_laysCheap_143 : Dc cX12_laysCheap 143 (.iload_n 2) 1 144 := ⟨by decide +kernel, rfl⟩
theorem dX12_laysCheap_144 : Dc cX12_laysCheap 144 (.iload 4) 2 146 := ⟨by decide +kernel, rfl⟩
theorem dX12_laysCheap_146 : Dc cX12_laysCheap 146 (.aload_n 0) 1 147 := ⟨by decide +kernel, rfl⟩
theorem dX12_laysCheap_147 : Dc cX12_laysCheap 147 (.getfield 23) 3 150 := ⟨by decide +kernel, rfl⟩
theorem dX12_laysCheap_150 : Dc cX12_laysCheap 150 (.iload 5) 2 152 := ⟨by decide +kernel, rfl⟩
theorem dX12_laysCheap_152 : Dc cX12_laysCheap 152 (.iaload) 1 153 := ⟨by decide +kernel, rfl⟩
theorem dX12_laysCheap_153 : Dc cX12_laysCheap 153 (.isub) 1 154 := ⟨by decide +kernel, rfl⟩
theorem dX12_laysCheap_154 : Dc cX12_laysCheap 154 (.invokevirtual 566) 3 157 := ⟨by decide +kernel, rfl⟩
theorem dX12_laysCheap_157 : Dc cX12_laysCheap 157 (.lstore 7) 2 159 := ⟨by decide +kernel, rfl⟩
theorem dX12_laysCheap_159 : Dc cX12_laysCheap 159 (.aload_n 0) 1 160 := ⟨by decide +kernel, rfl⟩
theorem dX12_laysCheap_160 : Dc cX12_laysCheap 160 (.getfield 142) 3 163 := ⟨by decide +kernel, rfl⟩
theorem dX12_laysCheap_163 : Dc cX12_laysCheap 163 (.iload 6) 2 165 := ⟨by decide +kernel, rfl⟩
theorem dX12_laysCheap_165 : Dc cX12_laysCheap 165 (.aload_n 0) 1 166 := ⟨by decide +kernel, rfl⟩
theorem dX12_laysCheap_166 : Dc cX12_laysCheap 166 (.getfield 142) 3 169 := ⟨by decide +kernel, rfl⟩
theorem dX12_laysCheap_169 : Dc cX12_laysCheap 169 (.iload 6) 2 171 := ⟨by decide +kernel, rfl⟩
theorem dX12_laysCheap_171 : Dc cX12_laysCheap 171 (.laload) 1 172 := ⟨by decide +kernel, rfl⟩
theorem dX12_laysCheap_172 : Dc cX12_laysCheap 172 (.lload 7) 2 174 := ⟨by decide +kernel, rfl⟩
theorem dX12_laysCheap_174 : Dc cX12_laysCheap 174 (.invokestatic 356) 3 177 := ⟨by decide +kernel, rfl⟩
theorem dX12_laysCheap_177 : Dc cX12_laysCheap 177 (.lastore) 1 178 := ⟨by decide +kernel, rfl⟩
theorem dX12_laysCheap_178 : Dc cX12_laysCheap 178 (.iinc 5 1) 3 181 := ⟨by decide +kernel, rfl⟩
theorem djX12_laysCheap_181 : Dj cX12_laysCheap 181 (.goto (-133)) 3 184 (-133) 48 := ⟨by decide +kernel, rfl, by decide⟩
theorem dX12_laysCheap_184 : Dc cX12_laysCheap 184 (.iinc 4 1) 3 187 := ⟨by decide +kernel, rfl⟩
theorem djX12_laysCheap_187 : Dj cX12_laysCheap 187 (.goto (-184)) 3 190 (-184) 3 := ⟨by decide +kernel, rfl, by decide⟩
theorem dX12_laysCheap_190 : Dc cX12_laysCheap 190 (.return_) 1 191 := ⟨by decide +kernel, rfl⟩
section
variable {p : Program} {l : Launch} {e : Env} {s : State} {m : MethodId} {args : Array Value} {below : List Frame} {meth : Method} {c : Code} {A0 : Nat → Prop} {D : va_G} {cA : Nat → ClassId} {ad : Nat → Nat} {Z : (Nat → Nat) × (Nat → Nat)} {Q : Int → St → Prop}
set_option maxHeartbeats 4000000 in
set_option maxRecDepth 100000 in
theorem t_X12_laysCheap_b178 (E : Ev p s m args meth c cX12_laysCheap 9 RX12 A0 D cA ad NR Z) (hr : meth.sig.returnType = none) {K3 : Int → Int → Int → Int → St → Prop} (hK3 : ∀ (x1 : Int) (x2 : Int) (x3 : Int) (x4 : Int) (σ : St), C32 x1 → C32 x2 → C32 x3 → C32 x4 → CanS shR NR σ → K3 x1 x2 x3 x4 σ → G p l e (rmL 5 0 0) s m args below meth c 9 A0 D cA ad shR NR 0 0 (MQ below (QVc D cA ad shR NR Q A0) args s 0 0 A0) σ 3 [some (.ref (ad 0)), some (vI x1), some (vI x2), some (vI x3), some (vI x4), none, none, none, none] []) {K48 : Int → Int → Int → Int → Int → St → Prop} (hK48 : ∀ (x1 : Int) (x2 : Int) (x3 : Int) (x4 : Int) (x5 : Int) (σ : St), C32 x1 → C32 x2 → C32 x3 → C32 x4 → C32 x5 → CanS shR NR σ → K48 x1 x2 x3 x4 x5 σ → G p l e (rmL 5 0 0) s m args below meth c 9 A0 D cA ad shR NR 0 0 (MQ below (QVc D cA ad shR NR Q A0) args s 0 0 A0) σ 48 [some (.ref (ad 0)), some (vI x1), some (vI x2), some (vI x3), some (vI x4), some (vI x5), none, none, none] []) (x1 : Int) (x2 : Int) (x3 : Int) (x4 : Int) (x5 : Int) (σ : St) (c1 : C32 x1) (c2 : C32 x2) (c3 : C32 x3) (c4 : C32 x4) (c5 : C32 x5) (hσ : CanS shR NR σ) (h : wp_X12_laysCheap_b178 Q K3 K48 x1 x2 x3 x4 x5 σ) : G p l e (rmL 5 0 0) s m args below meth c 9 A0 D cA ad shR NR 0 0 (MQ below (QVc D cA ad shR NR Q A0) args s 0 0 A0) σ 178 [some (.ref (ad 0)), some (vI x1), some (vI x2), some (vI x3), some (vI x4), some (vI x5), none, none, none] [] := by
  unfold wp_X12_laysCheap_b178 at h
  refine g_iinc_5 E rfl (by decide) dX12_laysCheap_178 (fun v15 ev15 => ?_)
  replace h := h v15 ev15
  have cv15 : C32 v15 := by rw [ev15]; exact c32_w _
  refine g_goto E djX12_laysCheap_181 ?_
  exact (hK48 x1 x2 x3 x4 v15 σ c1 c2 c3 c4 cv15 hσ h).weak (w_k (w_k (w_k (w_k (w_k (w_k (w_d (w_d (w_d w_n)))))))))
set_option maxHeartbeats 4000000 in
set_option maxRecDepth 100000 in
theorem t_X12_laysCheap_b157 (E : Ev p s m args meth c cX12_laysCheap 9 RX12 A0 D cA ad NR Z) (hr : meth.sig.returnType = none) {K3 : Int → Int → Int → Int → St → Prop} (hK3 : ∀ (x1 : Int) (x2 : Int) (x3 : Int) (x4 : Int) (σ : St), C32 x1 → C32 x2 → C32 x3 → C32 x4 → CanS shR NR σ → K3 x1 x2 x3 x4 σ → G p l e (rmL 5 0 0) s m args below meth c 9 A0 D cA ad shR NR 0 0 (MQ below (QVc D cA ad shR NR Q A0) args s 0 0 A0) σ 3 [some (.ref (ad 0)), some (vI x1), some (vI x2), some (vI x3), some (vI x4), none, none, none, none] []) {K48 : Int → Int → Int → Int → Int → St → Prop} (hK48 : ∀ (x1 : Int) (x2 : Int) (x3 : Int) (x4 : Int) (x5 : Int) (σ : St), C32 x1 → C32 x2 → C32 x3 → C32 x4 → C32 x5 → CanS shR NR σ → K48 x1 x2 x3 x4 x5 σ → G p l e (rmL 5 0 0) s m args below meth c 9 A0 D cA ad shR NR 0 0 (MQ below (QVc D cA ad shR NR Q A0) args s 0 0 A0) σ 48 [some (.ref (ad 0)), some (vI x1), some (vI x2), some (vI x3), some (vI x4), some (vI x5), none, none, none] []) (x1 : Int) (x2 : Int) (x3 : Int) (x4 : Int) (x5 : Int) (x6 : Int) (s0 : Int) (σ : St) (c1 : C32 x1) (c2 : C32 x2) (c3 : C32 x3) (c4 : C32 x4) (c5 : C32 x5) (c6 : C32 x6) (cs0 : C64 s0) (hσ : CanS shR NR σ) (h : wp_X12_laysCheap_b157 Q K3 K48 x1 x2 x3 x4 x5 x6 s0 σ) : G p l e (rmL 5 0 0) s m args below meth c 9 A0 D cA ad shR NR 0 0 (MQ below (QVc D cA ad shR NR Q A0) args s 0 0 A0) σ 157 [some (.ref (ad 0)), some (vI x1), some (vI x2), some (vI x3), some (vI x4), some (vI x5), some (vI x6), none, none] [vL s0] := by
  unfold wp_X12_laysCheap_b157 at h
  refine g_lstore_7 E rfl (by decide) dX12_laysCheap_157 ?_
  refine g_aload_0 E dX12_laysCheap_159 ?_
  refine g_getR E fl_RX12_142 kR_0 sR_0 rfl dX12_laysCheap_160 ?_
  refine g_iload_6 E dX12_laysCheap_163 ?_
  refine g_aload_0 E dX12_laysCheap_165 ?_
  refine g_getR E fl_RX12_142 kR_0 sR_0 rfl dX12_laysCheap_166 ?_
  refine g_iload_6 E dX12_laysCheap_169 ?_
  refine g_lald E kR_41 sR_41 (by decide) h.1 dX12_laysCheap_171 ?_
  replace h := h.2
  refine g_lload_7 E dX12_laysCheap_172 ?_
  refine g_callsL E my_X12_plusGreat ms_X12_plusGreat ml_RX12_356 (rm_ok (by decide) (by decide)) ⟨Nat.zero_le _, Nat.zero_le _⟩ (m_X12_plusGreat E.2.2.1 (aR_41 hσ _) cs0 hσ h) rfl rfl (Nat.le_of_ble_eq_true rfl) dX12_laysCheap_174 (fun r16 σ17 cr16 hσ17 h => ?_)
  refine g_last E kR_41 sR_41 (by decide) h.1 dX12_laysCheap_177 (g_nmS (fun σ18 eσ18 => ?_))
  replace h := h.2 σ18 eσ18
  have hσ18 : CanS shR NR σ18 := by rw [eσ18]; exact wR_41 hσ17 cr16
  exact (t_X12_laysCheap_b178 E hr hK3 hK48 x1 x2 x3 x4 x5 σ18 c1 c2 c3 c4 c5 hσ18 h).weak (w_k (w_k (w_k (w_k (w_k (w_k (w_d (w_d (w_d w_n)))))))))
set_option maxHeartbeats 4000000 in
set_option maxRecDepth 100000 in
theorem t_X12_laysCheap_l48 (E : Ev p s m args meth c cX12_laysCheap 9 RX12 A0 D cA ad NR Z) (hr : meth.sig.returnType = none) {K3 : Int → Int → Int → Int → St → Prop} (hK3 : ∀ (x1 : Int) (x2 : Int) (x3 : Int) (x4 : Int) (σ : St), C32 x1 → C32 x2 → C32 x3 → C32 x4 → CanS shR NR σ → K3 x1 x2 x3 x4 σ → G p l e (rmL 5 0 0) s m args below meth c 9 A0 D cA ad shR NR 0 0 (MQ below (QVc D cA ad shR NR Q A0) args s 0 0 A0) σ 3 [some (.ref (ad 0)), some (vI x1), some (vI x2), some (vI x3), some (vI x4), none, none, none, none] []) : ∀ (n : Nat) (x1 : Int) (x2 : Int) (x3 : Int) (x4 : Int) (x5 : Int) (σ : St), C32 x1 → C32 x2 → C32 x3 → C32 x4 → C32 x5 → CanS shR NR σ → wp_X12_laysCheap_l48 Q K3 n x1 x2 x3 x4 x5 σ → G p l e (rmL 5 0 0) s m args below meth c 9 A0 D cA ad shR NR 0 0 (MQ below (QVc D cA ad shR NR Q A0) args s 0 0 A0) σ 48 [some (.ref (ad 0)), some (vI x1), some (vI x2), some (vI x3), some (vI x4), some (vI x5), none, none, none] [] := by
  intro n
  induction n with
  | zero => intro _ _ _ _ _ _ _ _ _ _ _ _ h; exact h.elim
  | succ n ih =>
    intro x1 x2 x3 x4 x5 σ c1 c2 c3 c4 c5 hσ h
    unfold wp_X12_laysCheap_l48 at h
    refine g_iload_5 E dX12_laysCheap_48 ?_
    refine g_aload_0 E dX12_laysCheap_50 ?_
    refine g_getI E fl_RX12_252 kR_0 sR_0 rfl dX12_laysCheap_51 ?_
    refine g_icmp_ge E c5 (fR_0_1 hσ) djX12_laysCheap_54 (fun hc => ?_) (fun hc => ?_)
    · replace h := h.1 hc
      refine g_iinc_4 E rfl (by decide) dX12_laysCheap_184 (fun v5 ev5 => ?_)
      replace h := h v5 ev5
      have cv5 : C32 v5 := by rw [ev5]; exact c32_w _
      refine g_goto E djX12_laysCheap_187 ?_
      exact (hK3 x1 x2 x3 v5 σ c1 c2 c3 cv5 hσ h).weak (w_k (w_k (w_k (w_k (w_k (w_d (w_d (w_d (w_d w_n)))))))))
    · replace h := h.2 hc
      refine g_aload_0 E dX12_laysCheap_57 ?_
      refine g_iload_5 E dX12_laysCheap_58 ?_
      refine g_callvI E my_X12_isIn mi_X12_isIn msel_X12_isIn ml_RX12_298 (rm_ok (by decide) (by decide)) ⟨Nat.zero_le _, Nat.zero_le _⟩ kR_0 sR_0 rfl (m_X12_isIn E.2.2.1 c5 hσ h) rfl rfl (Nat.le_of_ble_eq_true rfl) dX12_laysCheap_60 (fun r6 σ7 cr6 hσ7 h => ?_)
      refine g_if_eq E cr6 djX12_laysCheap_63 (fun hc => ?_) (fun hc => ?_)
      · replace h := h.1 hc
        exact (t_X12_laysCheap_b178 E hr hK3 ih x1 x2 x3 x4 x5 σ7 c1 c2 c3 c4 c5 hσ7 h).weak (w_k (w_k (w_k (w_k (w_k (w_k (w_d (w_d (w_d w_n)))))))))
      · replace h := h.2 hc
        refine g_iload_4 E dX12_laysCheap_66 ?_
        refine g_aload_0 E dX12_laysCheap_68 ?_
        refine g_getR E fl_RX12_23 kR_0 sR_0 rfl dX12_laysCheap_69 ?_
        refine g_iload_5 E dX12_laysCheap_72 ?_
        refine g_iald E kR_4 sR_4 (by decide) h.1 dX12_laysCheap_74 ?_
        replace h := h.2
        refine g_icmp_ge E c4 (aR_4 hσ7 _) djX12_laysCheap_75 (fun hc => ?_) (fun hc => ?_)
        · replace h := h.1 hc
          refine g_aload_0 E dX12_laysCheap_81 ?_
          refine g_getR E fl_RX12_13 kR_0 sR_0 rfl dX12_laysCheap_82 ?_
          refine g_iload_5 E dX12_laysCheap_85 ?_
          refine g_iald E kR_1 sR_1 (by decide) h.1 dX12_laysCheap_87 ?_
          replace h := h.2
          refine g_iload_1 E dX12_laysCheap_88 ?_
          refine g_iload_2 E dX12_laysCheap_89 ?_
          refine g_callsI E my_X12_item ms_X12_item ml_RX12_282 (rm_ok (by decide) (by decide)) ⟨Nat.zero_le _, Nat.zero_le _⟩ (m_X12_item E.2.2.1 (aR_1 hσ7 _) c1 c2 hσ7 h) rfl rfl (Nat.le_of_ble_eq_true rfl) dX12_laysCheap_90 (fun r8 σ9 cr8 hσ9 h => ?_)
          refine g_sipush E (by decide) dX12_laysCheap_93 ?_
          refine g_imul E dX12_laysCheap_96 ?_
          refine g_iload_4 E dX12_laysCheap_97 ?_
          refine g_iadd E dX12_laysCheap_99 ?_
          refine g_nmI (fun v10 ev10 => ?_)
          replace h := h v10 ev10
          have cv10 : C32 v10 := by rw [ev10]; exact (c32_w _)
          refine g_istore_6 E rfl (by decide) dX12_laysCheap_100 ?_
          refine g_aload_0 E dX12_laysCheap_102 ?_
          refine g_getR E fl_RX12_20 kR_0 sR_0 rfl dX12_laysCheap_103 ?_
          refine g_iload_5 E dX12_laysCheap_106 ?_
          refine g_iald E kR_3 sR_3 (by decide) h.1 dX12_laysCheap_108 ?_
          replace h := h.2
          refine g_iconst E dX12_laysCheap_109 ?_
          refine g_icmp_ne E (aR_3 hσ9 _) cl_m1 djX12_laysCheap_110 (fun hc => ?_) (fun hc => ?_)
          · replace h := h.1 hc
            refine g_aload_0 E dX12_laysCheap_139 ?_
            refine g_iload_5 E dX12_laysCheap_140 ?_
            refine g_iload_1 E dX12_laysCheap_142 ?_
            refine g_iload_2 E dX12_laysCheap_143 ?_
            refine g_iload_4 E dX12_laysCheap_144 ?_
            refine g_aload_0 E dX12_laysCheap_146 ?_
            refine g_getR E fl_RX12_23 kR_0 sR_0 rfl dX12_laysCheap_147 ?_
            refine g_iload_5 E dX12_laysCheap_150 ?_
            refine g_iald E kR_4 sR_4 (by decide) h.1 dX12_laysCheap_152 ?_
            replace h := h.2
            refine g_isub E dX12_laysCheap_153 ?_
            refine g_callvL E my_X12_cheapTwos mi_X12_cheapTwos msel_X12_cheapTwos ml_RX12_566 (rm_ok (by decide) (by decide)) ⟨Nat.zero_le _, Nat.zero_le _⟩ kR_0 sR_0 rfl (m_X12_cheapTwos E.2.2.1 c5 c1 c2 (c32_w _) hσ9 h) rfl rfl (Nat.le_of_ble_eq_true rfl) dX12_laysCheap_154 (fun r11 σ12 cr11 hσ12 h => ?_)
            exact (t_X12_laysCheap_b157 E hr hK3 ih x1 x2 x3 x4 x5 v10 r11 σ12 c1 c2 c3 c4 c5 cv10 cr11 hσ12 h).weak (w_k (w_k (w_k (w_k (w_k (w_k (w_k (w_d (w_d w_n)))))))))
          · replace h := h.2 hc
            refine g_aload_0 E dX12_laysCheap_113 ?_
            refine g_aload_0 E dX12_laysCheap_114 ?_
            refine g_getR E fl_RX12_17 kR_0 sR_0 rfl dX12_laysCheap_115 ?_
            refine g_iload_5 E dX12_laysCheap_118 ?_
            refine g_iald E kR_2 sR_2 (by decide) h.1 dX12_laysCheap_120 ?_
            replace h := h.2
            refine g_iload_1 E dX12_laysCheap_121 ?_
            refine g_iload_2 E dX12_laysCheap_122 ?_
            refine g_iload_4 E dX12_laysCheap_123 ?_
            refine g_aload_0 E dX12_laysCheap_125 ?_
            refine g_getR E fl_RX12_23 kR_0 sR_0 rfl dX12_laysCheap_126 ?_
            refine g_iload_5 E dX12_laysCheap_129 ?_
            refine g_iald E kR_4 sR_4 (by decide) h.1 dX12_laysCheap_131 ?_
            replace h := h.2
            refine g_isub E dX12_laysCheap_132 ?_
            refine g_callvL E my_X12_cheapPart mi_X12_cheapPart msel_X12_cheapPart ml_RX12_563 (rm_ok (by decide) (by decide)) ⟨Nat.zero_le _, Nat.zero_le _⟩ kR_0 sR_0 rfl (m_X12_cheapPart E.2.2.1 (aR_2 hσ9 _) c1 c2 (c32_w _) hσ9 h) rfl rfl (Nat.le_of_ble_eq_true rfl) dX12_laysCheap_133 (fun r13 σ14 cr13 hσ14 h => ?_)
            refine g_goto E djX12_laysCheap_136 ?_
            exact (t_X12_laysCheap_b157 E hr hK3 ih x1 x2 x3 x4 x5 v10 r13 σ14 c1 c2 c3 c4 c5 cv10 cr13 hσ14 h).weak (w_k (w_k (w_k (w_k (w_k (w_k (w_k (w_d (w_d w_n)))))))))
        · replace h := h.2 hc
          refine g_goto E djX12_laysCheap_78 ?_
          exact (t_X12_laysCheap_b178 E hr hK3 ih x1 x2 x3 x4 x5 σ7 c1 c2 c3 c4 c5 hσ7 h).weak (w_k (w_k (w_k (w_k (w_k (w_k (w_d (w_d (w_d w_n)))))))))
set_option maxHeartbeats 4000000 in
set_option maxRecDepth 100000 in
theorem t_X12_laysCheap_l12 (E : Ev p s m args meth c cX12_laysCheap 9 RX12 A0 D cA ad NR Z) (hr : meth.sig.returnType = none) {K3 : Int → Int → Int → Int → St → Prop} (hK3 : ∀ (x1 : Int) (x2 : Int) (x3 : Int) (x4 : Int) (σ : St), C32 x1 → C32 x2 → C32 x3 → C32 x4 → CanS shR NR σ → K3 x1 x2 x3 x4 σ → G p l e (rmL 5 0 0) s m args below meth c 9 A0 D cA ad shR NR 0 0 (MQ below (QVc D cA ad shR NR Q A0) args s 0 0 A0) σ 3 [some (.ref (ad 0)), some (vI x1), some (vI x2), some (vI x3), some (vI x4), none, none, none, none] []) : ∀ (n : Nat) (x1 : Int) (x2 : Int) (x3 : Int) (x4 : Int) (x5 : Int) (σ : St), C32 x1 → C32 x2 → C32 x3 → C32 x4 → C32 x5 → CanS shR NR σ → wp_X12_laysCheap_l12 Q K3 n x1 x2 x3 x4 x5 σ → G p l e (rmL 5 0 0) s m args below meth c 9 A0 D cA ad shR NR 0 0 (MQ below (QVc D cA ad shR NR Q A0) args s 0 0 A0) σ 12 [some (.ref (ad 0)), some (vI x1), some (vI x2), some (vI x3), some (vI x4), some (vI x5), none, none, none] [] := by
  intro n
  induction n with
  | zero => intro _ _ _ _ _ _ _ _ _ _ _ _ h; exact h.elim
  | succ n ih =>
    intro x1 x2 x3 x4 x5 σ c1 c2 c3 c4 c5 hσ h
    unfold wp_X12_laysCheap_l12 at h
    refine g_iload_5 E dX12_laysCheap_12 ?_
    refine g_bipush E (by decide) dX12_laysCheap_14 ?_
    refine g_icmp_ge E c5 cl_12 djX12_laysCheap_16 (fun hc => ?_) (fun hc => ?_)
    · replace h := h.1 hc
      refine g_iconst E dX12_laysCheap_45 ?_
      refine g_istore_5 E rfl (by decide) dX12_laysCheap_46 ?_
      exact (t_X12_laysCheap_l48 E hr hK3 bigN x1 x2 x3 x4 0 σ c1 c2 c3 c4 cl_0 hσ h).weak (w_k (w_k (w_k (w_k (w_k (w_k (w_d (w_d (w_d w_n)))))))))
    · replace h := h.2 hc
      refine g_aload_0 E dX12_laysCheap_19 ?_
      refine g_getR E fl_RX12_142 kR_0 sR_0 rfl dX12_laysCheap_20 ?_
      refine g_iload_5 E dX12_laysCheap_23 ?_
      refine g_iload_1 E dX12_laysCheap_25 ?_
      refine g_iload_2 E dX12_laysCheap_26 ?_
      refine g_callsI E my_X12_item ms_X12_item ml_RX12_282 (rm_ok (by decide) (by decide)) ⟨Nat.zero_le _, Nat.zero_le _⟩ (m_X12_item E.2.2.1 c5 c1 c2 hσ h) rfl rfl (Nat.le_of_ble_eq_true rfl) dX12_laysCheap_27 (fun r1 σ2 cr1 hσ2 h => ?_)
      refine g_sipush E (by decide) dX12_laysCheap_30 ?_
      refine g_imul E dX12_laysCheap_33 ?_
      refine g_iload_4 E dX12_laysCheap_34 ?_
      refine g_iadd E dX12_laysCheap_36 ?_
      refine g_lconst (n := 0) E (by decide) dX12_laysCheap_37 ?_
      refine g_last E kR_41 sR_41 (by decide) h.1 dX12_laysCheap_38 (g_nmS (fun σ3 eσ3 => ?_))
      replace h := h.2 σ3 eσ3
      have hσ3 : CanS shR NR σ3 := by rw [eσ3]; exact wR_41 hσ2 cL_0
      refine g_iinc_5 E rfl (by decide) dX12_laysCheap_39 (fun v4 ev4 => ?_)
      replace h := h v4 ev4
      have cv4 : C32 v4 := by rw [ev4]; exact c32_w _
      refine g_goto E djX12_laysCheap_42 ?_
      exact (ih x1 x2 x3 x4 v4 σ3 c1 c2 c3 c4 cv4 hσ3 h).weak (w_k (w_k (w_k (w_k (w_k (w_k (w_d (w_d (w_d w_n)))))))))
set_option maxHeartbeats 4000000 in
set_option maxRecDepth 100000 in
theorem t_X12_laysCheap_l3 (E : Ev p s m args meth c cX12_laysCheap 9 RX12 A0 D cA ad NR Z) (hr : meth.sig.returnType = none) : ∀ (n : Nat) (x1 : Int) (x2 : Int) (x3 : Int) (x4 : Int) (σ : St), C32 x1 → C32 x2 → C32 x3 → C32 x4 → CanS shR NR σ → wp_X12_laysCheap_l3 Q n x1 x2 x3 x4 σ → G p l e (rmL 5 0 0) s m args below meth c 9 A0 D cA ad shR NR 0 0 (MQ below (QVc D cA ad shR NR Q A0) args s 0 0 A0) σ 3 [some (.ref (ad 0)), some (vI x1), some (vI x2), some (vI x3), some (vI x4), none, none, none, none] [] := by
  intro n
  induction n with
  | zero => intro _ _ _ _ _ _ _ _ _ _ h; exact h.elim
  | succ n ih =>
    intro x1 x2 x3 x4 σ c1 c2 c3 c4 hσ h
    unfold wp_X12_laysCheap_l3 at h
    refine g_iload_4 E dX12_laysCheap_3 ?_
    refine g_iload_3 E dX12_laysCheap_5 ?_
    refine g_icmp_gt E c4 c3 djX12_laysCheap_6 (fun hc => ?_) (fun hc => ?_)
    · replace h := h.1 hc
      exact g_vret E hr h hσ dX12_laysCheap_190
    · replace h := h.2 hc
      refine g_iconst E dX12_laysCheap_9 ?_
      refine g_istore_5 E rfl (by decide) dX12_laysCheap_10 ?_
      exact (t_X12_laysCheap_l12 E hr ih bigN x1 x2 x3 x4 0 σ c1 c2 c3 c4 cl_0 hσ h).weak (w_k (w_k (w_k (w_k (w_k (w_k (w_d (w_d (w_d w_n)))))))))
set_option maxHeartbeats 4000000 in
set_option maxRecDepth 100000 in
theorem t_X12_laysCheap (E : Ev p s m args meth c cX12_laysCheap 9 RX12 A0 D cA ad NR Z) (hr : meth.sig.returnType = none) (x1 : Int) (x2 : Int) (x3 : Int) (σ : St) (c1 : C32 x1) (c2 : C32 x2) (c3 : C32 x3) (hσ : CanS shR NR σ) (h : wp_X12_laysCheap x1 x2 x3 σ Q) : G p l e (rmL 5 0 0) s m args below meth c 9 A0 D cA ad shR NR 0 0 (MQ below (QVc D cA ad shR NR Q A0) args s 0 0 A0) σ 0 [some (.ref (ad 0)), some (vI x1), some (vI x2), some (vI x3), none, none, none, none, none] [] := by
  unfold wp_X12_laysCheap at h
  refine g_iconst E dX12_laysCheap_0 ?_
  refine g_istore_4 E rfl (by decide) dX12_laysCheap_1 ?_
  exact (t_X12_laysCheap_l3 E hr bigN x1 x2 x3 1 σ c1 c2 c3 cl_1 hσ h).weak (w_k (w_k (w_k (w_k (w_k (w_d (w_d (w_d (w_d w_n)))))))))
end
theorem m_X12_laysCheap {Z : (Nat → Nat) × (Nat → Nat)} {l : Launch} {D : va_G} {cA : Nat → ClassId} {ad : Nat → Nat} {x1 x2 x3 : Int} {σ : St} {Q : Int → St → Prop} (hA : AdOk NR ad) (c1 : C32 x1) (c2 : C32 x2) (c3 : C32 x3) (hσ : CanS shR NR σ) (h : wp_X12_laysCheap x1 x2 x3 σ Q) : KtV Z l D cA ad shR NR yX12_laysCheap cX12_laysCheap 9 none 5 [.ref (ad 0), vI x1, vI x2, vI x3] σ Q :=
  KtV.of my_X12_laysCheap hA [some (.ref (ad 0)), some (vI x1), some (vI x2), some (vI x3), none, none, none, none, none] (Nat.le_of_ble_eq_true rfl) rfl (fun p e s m args below meth c A0 E hr => t_X12_laysCheap E hr x1 x2 x3 σ c1 c2 c3 hσ h)
theorem dX12_cheap_0 : Dc cX12_cheap 0 (.aload_n 0) 1 1 := ⟨by decide +kernel, rfl⟩
theorem dX12_cheap_1 : Dc cX12_cheap 1 (.iload_n 1) 1 2 := ⟨by decide +kernel, rfl⟩
theorem dX12_cheap_2 : Dc cX12_cheap 2 (.iload_n 2) 1 3 := ⟨by decide +kernel, rfl⟩
theorem dX12_cheap_3 : Dc cX12_cheap 3 (.iload_n 3) 1 4 := ⟨by decide +kernel, rfl⟩
theorem dX12_cheap_4 : Dc cX12_cheap 4 (.invokevirtual 318) 3 7 := ⟨by decide +kernel, rfl⟩
theorem djX12_cheap_7 : Dj cX12_cheap 7 (.ifCond .eq 16) 3 10 16 23 := ⟨by decide +kernel, rfl, by decide⟩
theorem dX12_cheap_10 : Dc cX12_cheap 10 (.iload 4) 2 12 := ⟨by decide +kernel, rfl⟩
theorem dX12_cheap_12 : Dc cX12_cheap 12 (.i2l) 1 13 := ⟨by decide +kernel, rfl⟩
theorem dX12_cheap_13 : Dc cX12_cheap 13 (.lconst 0) 1 14 := ⟨by decide +kernel, rfl⟩
theorem dX12_cheap_14 : Dc cX12_cheap 14 (.ldc2_w 569) 3 17 := ⟨by decide +kernel, rfl⟩
theorem dX12_cheap_17 : Dc cX12_cheap 17 (.invokestatic 148) 3 20 := ⟨by decide +kernel, rfl⟩
theorem djX12_cheap_20 : Dj cX12_cheap 20 (.ifCond .ne 7) 3 23 7 27 := ⟨by decide +kernel, rfl, by decide⟩
theorem dX12_cheap_23 : Dc cX12_cheap 23 (.ldc2_w 362) 3 26 := ⟨by decide +kernel, rfl⟩
theorem dX12_cheap_26 : Dc cX12_cheap 26 (.lreturn) 1 27 := ⟨by decide +kernel, rfl⟩
theorem dX12_cheap_27 : Dc cX12_cheap 27 (.aload_n 0) 1 28 := ⟨by decide +kernel, rfl⟩
theorem dX12_cheap_28 : Dc cX12_cheap 28 (.invokevirtual 321) 3 31 := ⟨by decide +kernel, rfl⟩
theorem dX12_cheap_31 : Dc cX12_cheap 31 (.iconst 1) 1 32 := ⟨by decide +kernel, rfl⟩
theorem dX12_cheap_32 : Dc cX12_cheap 32 (.istore 5) 2 34 := ⟨by decide +kernel, rfl⟩
theorem dX12_cheap_34 : Dc cX12_cheap 34 (.iload 5) 2 36 := ⟨by decide +kernel, rfl⟩
theorem dX12_cheap_36 : Dc cX12_cheap 36 (.aload_n 0) 1 37 := ⟨by decide +kernel, rfl⟩
theorem dX12_cheap_37 : Dc cX12_cheap 37 (.getfield 305) 3 40 := ⟨by decide +kernel, rfl⟩
theorem djX12_cheap_40 : Dj cX12_cheap 40 (.if_icmp .gt 43) 3 43 43 83 := ⟨by decide +kernel, rfl, by decide⟩
theorem dX12_cheap_43 : Dc cX12_cheap 43 (.iconst 0) 1 44 := ⟨by decide +kernel, rfl⟩
theorem dX12_cheap_44 : Dc cX12_cheap 44 (.istore 6) 2 46 := ⟨by decide +kernel, rfl⟩
theorem dX12_cheap_46 : Dc cX12_cheap 46 (.iload 6) 2 48 := ⟨by decide +kernel, rfl⟩
theorem dX12_cheap_48 : Dc cX12_cheap 48 (.iload 5) 2 50 := ⟨by decide +kernel, rfl⟩
theorem dX12_cheap_50 : Dc cX12_cheap 50 (.iadd) 1 51 := ⟨by decide +kernel, rfl⟩
theorem dX12_cheap_51 : Dc cX12_cheap 51 (.aload_n 0) 1 52 := ⟨by decide +kernel, rfl⟩
theorem dX12_cheap_52 : Dc cX12_cheap 52 (.getfield 305) 3 55 := ⟨by decide +kernel, rfl⟩
theorem djX12_cheap_55 : Dj cX12_cheap 55 (.if_icmp .gt 22) 3 58 22 77 := ⟨by decide +kernel, rfl, by decide⟩
theorem dX12_cheap_58 : Dc cX12_cheap 58 (.aload_n 0) 1 59 := ⟨by decide +kernel, rfl⟩
theorem dX12_cheap_59 : Dc cX12_cheap 59 (.iload 6) 2 61 := ⟨by decide +kernel, rfl⟩
theorem dX12_cheap_61 : Dc cX12_cheap 61 (.iload 6) 2 63 := ⟨by decide +kernel, rfl⟩
theorem dX12_cheap_63 : Dc cX12_cheap 63 (.iload 5) 2 65 := ⟨by decide +kernel, rfl⟩
theorem dX12_cheap_65 : Dc cX12_cheap 65 (.iadd) 1 66 := ⟨by decide +kernel, rfl⟩
theorem dX12_cheap_66 : Dc cX12_cheap 66 (.iload 4) 2 68 := ⟨by decide +kernel, rfl⟩
theorem dX12_cheap_68 : Dc cX12_cheap 68 (.invokevirtual 571) 3 71 := ⟨by decide +kernel, rfl⟩
theorem dX12_cheap_71 : Dc cX12_cheap 71 (.iinc 6 1) 3 74 := ⟨by decide +kernel, rfl⟩
theorem djX12_cheap_74 : Dj cX12_cheap 74 (.goto (-28)) 3 77 (-28) 46 := ⟨by decide +kernel, rfl, by decide⟩
theorem dX12_cheap_77 : Dc cX12_cheap 77 (.iinc 5 1) 3 80 := ⟨by decide +kernel, rfl⟩
theorem djX12_cheap_80 : Dj cX12_cheap 80 (.goto (-46)) 3 83 (-46) 34 := ⟨by decide +kernel, rfl, by decide⟩
theorem dX12_cheap_83 : Dc cX12_cheap 83 (.lconst 0) 1 84 := ⟨by decide +kernel, rfl⟩
theorem dX12_cheap_84 : Dc cX12_cheap 84 (.lstore 5) 2 86 := ⟨by decide +kernel, rfl⟩
theorem dX12_cheap_86 : Dc cX12_cheap 86 (.iconst 1) 1 87 := ⟨by decide +kernel, rfl⟩
theorem dX12_cheap_87 : Dc cX12_cheap 87 (.istore 7) 2 89 := ⟨by decide +kernel, rfl⟩
theorem dX12_cheap_89 : Dc cX12_cheap 89 (.iload 7) 2 91 := ⟨by decide +kernel, rfl⟩
theorem dX12_cheap_91 : Dc cX12_cheap 91 (.iload 4) 2 93 := ⟨by decide +kernel, rfl⟩
theorem djX12_cheap_93 : Dj cX12_cheap 93 (.if_icmp .gt 25) 3 96 25 118 := ⟨by decide +kernel, rfl, by decide⟩
theorem dX12_cheap_96 : Dc cX12_cheap 96 (.lload 5) 2 98 := ⟨by decide +kernel, rfl⟩
theorem dX12_cheap_98 : Dc cX12_cheap 98 (.aload_n 0) 1 99 := ⟨by decide +kernel, rfl⟩
theorem dX12_cheap_99 : Dc cX12_cheap 99 (.iload_n 1) 1 100 := ⟨by decide +kernel, rfl⟩
theorem dX12_cheap_100 : Dc cX12_cheap 100 (.iload_n 2) 1 101 := ⟨by decide +kernel, rfl⟩
theorem dX12_cheap_101 : Dc cX12_cheap 101 (.iload_n 3) 1 102 := ⟨by decide +kernel, rfl⟩
theorem dX12_cheap_102 : Dc cX12_cheap 102 (.iload 7) 2 104 := ⟨by decide +kernel, rfl⟩
theorem dX12_cheap_104 : Dc cX12_cheap 104 (.invokevirtual 563) 3 107 := ⟨by decide +kernel, rfl⟩
theorem dX12_cheap_107 : Dc cX12_cheap 107 (.invokestatic 356) 3 110 := ⟨by decide +kernel, rfl⟩
theorem dX12_cheap_110 : Dc cX12_cheap 110 (.lstore 5) 2 112 := ⟨by decide +kernel, rfl⟩
theorem dX12_cheap_112 : Dc cX12_cheap 112 (.iinc 7 1) 3 115 := ⟨by decide +kernel, rfl⟩
theorem djX12_cheap_115 : Dj cX12_cheap 115 (.goto (-26)) 3 118 (-26) 89 := ⟨by decide +kernel, rfl, by decide⟩
theorem dX12_cheap_118 : Dc cX12_cheap 118 (.lload 5) 2 120 := ⟨by decide +kernel, rfl⟩
theorem dX12_cheap_120 : Dc cX12_cheap 120 (.ldc2_w 332) 3 123 := ⟨by decide +kernel, rfl⟩
theorem dX12_cheap_123 : Dc cX12_cheap 123 (.lcmp) 1 124 := ⟨by decide +kernel, rfl⟩
theorem djX12_cheap_124 : Dj cX12_cheap 124 (.ifCond .le 9) 3 127 9 133 := ⟨by decide +kernel, rfl, by decide⟩
theorem dX12_cheap_127 : Dc cX12_cheap 127 (.ldc2_w 369) 3 130 := ⟨by decide +kernel, rfl⟩
theorem djX12_cheap_130 : Dj cX12_cheap 130 (.goto 5) 3 133 5 135 := ⟨by decide +kernel, rfl, by decide⟩
theorem dX12_cheap_133 : Dc cX12_cheap 133 (.lload 5) 2 135 := ⟨by decide +kernel, rfl⟩
theorem dX12_cheap_135 : Dc cX12_cheap 135 (.lreturn) 1 136 := ⟨by decide +kernel, rfl⟩
section
variable {p : Program} {l : Launch} {e : Env} {s : State} {m : MethodId} {args : Array Value} {below : List Frame} {meth : Method} {c : Code} {A0 : Nat → Prop} {D : va_G} {cA : Nat → ClassId} {ad : Nat → Nat} {Z : (Nat → Nat) × (Nat → Nat)} {Q : Int → St → Prop}
set_option maxHeartbeats 4000000 in
set_option maxRecDepth 100000 in
theorem t_X12_cheap_l46 (E : Ev p s m args meth c cX12_cheap 8 RX12 A0 D cA ad NR Z) (hr : meth.sig.returnType = (some .long)) {K34 : Int → Int → Int → Int → Int → St → Prop} (hK34 : ∀ (x1 : Int) (x2 : Int) (x3 : Int) (x4 : Int) (x5 : Int) (σ : St), C32 x1 → C32 x2 → C32 x3 → C32 x4 → C32 x5 → CanS shR NR σ → K34 x1 x2 x3 x4 x5 σ → G p l e (rmL 7 0 0) s m args below meth c 8 A0 D cA ad shR NR 0 0 (MQ below (QLc D cA ad shR NR Q A0) args s 0 0 A0) σ 34 [some (.ref (ad 0)), some (vI x1), some (vI x2), some (vI x3), some (vI x4), some (vI x5), none, none] []) : ∀ (n : Nat) (x1 : Int) (x2 : Int) (x3 : Int) (x4 : Int) (x5 : Int) (x6 : Int) (σ : St), C32 x1 → C32 x2 → C32 x3 → C32 x4 → C32 x5 → C32 x6 → CanS shR NR σ → wp_X12_cheap_l46 Q K34 n x1 x2 x3 x4 x5 x6 σ → G p l e (rmL 7 0 0) s m args below meth c 8 A0 D cA ad shR NR 0 0 (MQ below (QLc D cA ad shR NR Q A0) args s 0 0 A0) σ 46 [some (.ref (ad 0)), some (vI x1), some (vI x2), some (vI x3), some (vI x4), some (vI x5), some (vI x6), none] [] := by
  intro n
  induction n with
  | zero => intro _ _ _ _ _ _ _ _ _ _ _ _ _ _ h; exact h.elim
  | succ n ih =>
    intro x1 x2 x3 x4 x5 x6 σ c1 c2 c3 c4 c5 c6 hσ h
    unfold wp_X12_cheap_l46 at h
    refine g_iload_6 E dX12_cheap_46 ?_
    refine g_iload_5 E dX12_cheap_48 ?_
    refine g_iadd E dX12_cheap_50 ?_
    refine g_aload_0 E dX12_cheap_51 ?_
    refine g_getI E fl_RX12_305 kR_0 sR_0 rfl dX12_cheap_52 ?_
    refine g_icmp_gt E (c32_w _) (fR_0_27 hσ) djX12_cheap_55 (fun hc => ?_) (fun hc => ?_)
    · replace h := h.1 hc
      refine g_iinc_5 E rfl (by decide) dX12_cheap_77 (fun v12 ev12 => ?_)
      replace h := h v12 ev12
      have cv12 : C32 v12 := by rw [ev12]; exact c32_w _
      refine g_goto E djX12_cheap_80 ?_
      exact (hK34 x1 x2 x3 x4 v12 σ c1 c2 c3 c4 cv12 hσ h).weak (w_k (w_k (w_k (w_k (w_k (w_k (w_d (w_d w_n))))))))
    · replace h := h.2 hc
      refine g_aload_0 E dX12_cheap_58 ?_
      refine g_iload_6 E dX12_cheap_59 ?_
      refine g_iload_6 E dX12_cheap_61 ?_
      refine g_iload_5 E dX12_cheap_63 ?_
      refine g_iadd E dX12_cheap_65 ?_
      refine g_iload_4 E dX12_cheap_66 ?_
      refine g_callvV E my_X12_laysCheap mi_X12_laysCheap msel_X12_laysCheap ml_RX12_571 (rm_ok (by decide) (by decide)) ⟨Nat.zero_le _, Nat.zero_le _⟩ kR_0 sR_0 rfl (m_X12_laysCheap E.2.2.1 c6 (c32_w _) c4 hσ h) rfl rfl (Nat.le_of_ble_eq_true rfl) dX12_cheap_68 (fun σ14 r13 hσ14 h => ?_)
      refine g_iinc_6 E rfl (by decide) dX12_cheap_71 (fun v15 ev15 => ?_)
      replace h := h v15 ev15
      have cv15 : C32 v15 := by rw [ev15]; exact c32_w _
      refine g_goto E djX12_cheap_74 ?_
      exact (ih x1 x2 x3 x4 x5 v15 σ14 c1 c2 c3 c4 c5 cv15 hσ14 h).weak (w_k (w_k (w_k (w_k (w_k (w_k (w_k (w_d w_n))))))))
set_option maxHeartbeats 4000000 in
set_option maxRecDepth 100000 in
theorem t_X12_cheap_l89 (E : Ev p s m args meth c cX12_cheap 8 RX12 A0 D cA ad NR Z) (hr : meth.sig.returnType = (some .long)) : ∀ (n : Nat) (x1 : Int) (x2 : Int) (x3 : Int) (x4 : Int) (x5 : Int) (x7 : Int) (σ : St), C32 x1 → C32 x2 → C32 x3 → C32 x4 → C64 x5 → C32 x7 → CanS shR NR σ → wp_X12_cheap_l89 Q n x1 x2 x3 x4 x5 x7 σ → G p l e (rmL 7 0 0) s m args below meth c 8 A0 D cA ad shR NR 0 0 (MQ below (QLc D cA ad shR NR Q A0) args s 0 0 A0) σ 89 [some (.ref (ad 0)), some (vI x1), some (vI x2), some (vI x3), some (vI x4), some (vL x5), none, some (vI x7)] [] := by
  intro n
  induction n with
  | zero => intro _ _ _ _ _ _ _ _ _ _ _ _ _ _ h; exact h.elim
  | succ n ih =>
    intro x1 x2 x3 x4 x5 x7 σ c1 c2 c3 c4 c5 c7 hσ h
    unfold wp_X12_cheap_l89 at h
    refine g_iload_7 E dX12_cheap_89 ?_
    refine g_iload_4 E dX12_cheap_91 ?_
    refine g_icmp_gt E c7 c4 djX12_cheap_93 (fun hc => ?_) (fun hc => ?_)
    · replace h := h.1 hc
      refine g_lload_5 E dX12_cheap_118 ?_
      refine g_ldc2 (n := 1000000000000000) E wc_RX12_332 dX12_cheap_120 ?_
      refine g_lcmp_le E c5 cL_1000000000000000 dX12_cheap_123 djX12_cheap_124 (fun hc => ?_) (fun hc => ?_)
      · replace h := h.1 hc
        refine g_lload_5 E dX12_cheap_133 ?_
        exact g_lret E hr c5 h hσ dX12_cheap_135
      · replace h := h.2 hc
        refine g_ldc2 (n := (-3)) E wc_RX12_369 dX12_cheap_127 ?_
        refine g_goto E djX12_cheap_130 ?_
        exact g_lret E hr cL_m3 h hσ dX12_cheap_135
    · replace h := h.2 hc
      refine g_lload_5 E dX12_cheap_96 ?_
      refine g_aload_0 E dX12_cheap_98 ?_
      refine g_iload_1 E dX12_cheap_99 ?_
      refine g_iload_2 E dX12_cheap_100 ?_
      refine g_iload_3 E dX12_cheap_101 ?_
      refine g_iload_7 E dX12_cheap_102 ?_
      refine g_callvL E my_X12_cheapPart mi_X12_cheapPart msel_X12_cheapPart ml_RX12_563 (rm_ok (by decide) (by decide)) ⟨Nat.zero_le _, Nat.zero_le _⟩ kR_0 sR_0 rfl (m_X12_cheapPart E.2.2.1 c1 c2 c3 c7 hσ h) rfl rfl (Nat.le_of_ble_eq_true rfl) dX12_cheap_104 (fun r7 σ8 cr7 hσ8 h => ?_)
      refine g_callsL E my_X12_plusGreat ms_X12_plusGreat ml_RX12_356 (rm_ok (by decide) (by decide)) ⟨Nat.zero_le _, Nat.zero_le _⟩ (m_X12_plusGreat E.2.2.1 c5 cr7 hσ8 h) rfl rfl (Nat.le_of_ble_eq_true rfl) dX12_cheap_107 (fun r9 σ10 cr9 hσ10 h => ?_)
      refine g_lstore_5 E rfl (by decide) dX12_cheap_110 ?_
      refine g_iinc_7 E rfl (by decide) dX12_cheap_112 (fun v11 ev11 => ?_)
      replace h := h v11 ev11
      have cv11 : C32 v11 := by rw [ev11]; exact c32_w _
      refine g_goto E djX12_cheap_115 ?_
      exact (ih x1 x2 x3 x4 r9 v11 σ10 c1 c2 c3 c4 cr9 cv11 hσ10 h).weak (w_k (w_k (w_k (w_k (w_k (w_k (w_d (w_k w_n))))))))
set_option maxHeartbeats 4000000 in
set_option maxRecDepth 100000 in
theorem t_X12_cheap_l34 (E : Ev p s m args meth c cX12_cheap 8 RX12 A0 D cA ad NR Z) (hr : meth.sig.returnType = (some .long)) : ∀ (n : Nat) (x1 : Int) (x2 : Int) (x3 : Int) (x4 : Int) (x5 : Int) (σ : St), C32 x1 → C32 x2 → C32 x3 → C32 x4 → C32 x5 → CanS shR NR σ → wp_X12_cheap_l34 Q n x1 x2 x3 x4 x5 σ → G p l e (rmL 7 0 0) s m args below meth c 8 A0 D cA ad shR NR 0 0 (MQ below (QLc D cA ad shR NR Q A0) args s 0 0 A0) σ 34 [some (.ref (ad 0)), some (vI x1), some (vI x2), some (vI x3), some (vI x4), some (vI x5), none, none] [] := by
  intro n
  induction n with
  | zero => intro _ _ _ _ _ _ _ _ _ _ _ _ h; exact h.elim
  | succ n ih =>
    intro x1 x2 x3 x4 x5 σ c1 c2 c3 c4 c5 hσ h
    unfold wp_X12_cheap_l34 at h
    refine g_iload_5 E dX12_cheap_34 ?_
    refine g_aload_0 E dX12_cheap_36 ?_
    refine g_getI E fl_RX12_305 kR_0 sR_0 rfl dX12_cheap_37 ?_
    refine g_icmp_gt E c5 (fR_0_27 hσ) djX12_cheap_40 (fun hc => ?_) (fun hc => ?_)
    · replace h := h.1 hc
      refine g_lconst (n := 0) E (by decide) dX12_cheap_83 ?_
      refine g_lstore_5 E rfl (by decide) dX12_cheap_84 ?_
      refine g_iconst E dX12_cheap_86 ?_
      refine g_istore_7 E rfl (by decide) dX12_cheap_87 ?_
      exact (t_X12_cheap_l89 E hr bigN x1 x2 x3 x4 0 1 σ c1 c2 c3 c4 cL_0 cl_1 hσ h).weak (w_k (w_k (w_k (w_k (w_k (w_k (w_d (w_k w_n))))))))
    · replace h := h.2 hc
      refine g_iconst E dX12_cheap_43 ?_
      refine g_istore_6 E rfl (by decide) dX12_cheap_44 ?_
      exact (t_X12_cheap_l46 E hr ih bigN x1 x2 x3 x4 x5 0 σ c1 c2 c3 c4 c5 cl_0 hσ h).weak (w_k (w_k (w_k (w_k (w_k (w_k (w_k (w_d w_n))))))))
set_option maxHeartbeats 4000000 in
set_option maxRecDepth 100000 in
theorem t_X12_cheap (E : Ev p s m args meth c cX12_cheap 8 RX12 A0 D cA ad NR Z) (hr : meth.sig.returnType = (some .long)) (x1 : Int) (x2 : Int) (x3 : Int) (x4 : Int) (σ : St) (c1 : C32 x1) (c2 : C32 x2) (c3 : C32 x3) (c4 : C32 x4) (hσ : CanS shR NR σ) (h : wp_X12_cheap x1 x2 x3 x4 σ Q) : G p l e (rmL 7 0 0) s m args below meth c 8 A0 D cA ad shR NR 0 0 (MQ below (QLc D cA ad shR NR Q A0) args s 0 0 A0) σ 0 [some (.ref (ad 0)), some (vI x1), some (vI x2), some (vI x3), some (vI x4), none, none, none] [] := by
  unfold wp_X12_cheap at h
  refine g_aload_0 E dX12_cheap_0 ?_
  refine g_iload_1 E dX12_cheap_1 ?_
  refine g_iload_2 E dX12_cheap_2 ?_
  refine g_iload_3 E dX12_cheap_3 ?_
  refine g_callvI E my_X12_isItem mi_X12_isItem msel_X12_isItem ml_RX12_318 (rm_ok (by decide) (by decide)) ⟨Nat.zero_le _, Nat.zero_le _⟩ kR_0 sR_0 rfl (m_X12_isItem E.2.2.1 c1 c2 c3 hσ h) rfl rfl (Nat.le_of_ble_eq_true rfl) dX12_cheap_4 (fun r1 σ2 cr1 hσ2 h => ?_)
  refine g_if_eq E cr1 djX12_cheap_7 (fun hc => ?_) (fun hc => ?_)
  · replace h := h.1 hc
    refine g_ldc2 (n := (-2)) E wc_RX12_362 dX12_cheap_23 ?_
    exact g_lret E hr cL_m2 h hσ2 dX12_cheap_26
  · replace h := h.2 hc
    refine g_iload_4 E dX12_cheap_10 ?_
    refine g_i2l E c4 dX12_cheap_12 ?_
    refine g_lconst (n := 0) E (by decide) dX12_cheap_13 ?_
    refine g_ldc2 (n := 300) E wc_RX12_569 dX12_cheap_14 ?_
    refine g_callsI E my_X12_in ms_X12_in ml_RX12_148 (rm_ok (by decide) (by decide)) ⟨Nat.zero_le _, Nat.zero_le _⟩ (m_X12_in E.2.2.1 (c32_of_c64 c4) cL_0 cL_300 hσ2 h) rfl rfl (Nat.le_of_ble_eq_true rfl) dX12_cheap_17 (fun r3 σ4 cr3 hσ4 h => ?_)
    refine g_if_ne E cr3 djX12_cheap_20 (fun hc => ?_) (fun hc => ?_)
    · replace h := h.1 hc
      refine g_aload_0 E dX12_cheap_27 ?_
      refine g_callvV E my_X12_looks mi_X12_looks msel_X12_looks ml_RX12_321 (rm_ok (by decide) (by decide)) ⟨Nat.zero_le _, Nat.zero_le _⟩ kR_0 sR_0 rfl (m_X12_looks E.2.2.1 hσ4 h) rfl rfl (Nat.le_of_ble_eq_true rfl) dX12_cheap_28 (fun σ6 r5 hσ6 h => ?_)
      refine g_iconst E dX12_cheap_31 ?_
      refine g_istore_5 E rfl (by decide) dX12_cheap_32 ?_
      exact (t_X12_cheap_l34 E hr bigN x1 x2 x3 x4 1 σ6 c1 c2 c3 c4 cl_1 hσ6 h).weak (w_k (w_k (w_k (w_k (w_k (w_k (w_d (w_d w_n))))))))
    · replace h := h.2 hc
      refine g_ldc2 (n := (-2)) E wc_RX12_362 dX12_cheap_23 ?_
      exact g_lret E hr cL_m2 h hσ4 dX12_cheap_26
end
theorem m_X12_cheap {Z : (Nat → Nat) × (Nat → Nat)} {l : Launch} {D : va_G} {cA : Nat → ClassId} {ad : Nat → Nat} {x1 x2 x3 x4 : Int} {σ : St} {Q : Int → St → Prop} (hA : AdOk NR ad) (c1 : C32 x1) (c2 : C32 x2) (c3 : C32 x3) (c4 : C32 x4) (hσ : CanS shR NR σ) (h : wp_X12_cheap x1 x2 x3 x4 σ Q) : KtL Z l D cA ad shR NR yX12_cheap cX12_cheap 8 (some .long) 7 [.ref (ad 0), vI x1, vI x2, vI x3, vI x4] σ Q :=
  KtL.of my_X12_cheap hA [some (.ref (ad 0)), some (vI x1), some (vI x2), some (vI x3), some (vI x4), none, none, none] (Nat.le_of_ble_eq_true rfl) rfl (fun p e s m args below meth c A0 E hr => t_X12_cheap E hr x1 x2 x3 x4 σ c1 c2 c3 c4 hσ h)
theorem dX12_leastOfAll_0 : Dc cX12_leastOfAll 0 (.aload_n 0) 1 1 := ⟨by decide +kernel, rfl⟩
theorem dX12_leastOfAll_1 : Dc cX12_leastOfAll 1 (.getfield 305) 3 4 := ⟨by decide +kernel, rfl⟩
theorem djX12_leastOfAll_4 : Dj cX12_leastOfAll 4 (.ifCond .eq 26) 3 7 26 30 := ⟨by decide +kernel, rfl, by decide⟩
theorem dX12_leastOfAll_7 : Dc cX12_leastOfAll 7 (.aload_n 0) 1 8 := ⟨by decide +kernel, rfl⟩
theorem dX12_leastOfAll_8 : Dc cX12_leastOfAll 8 (.getfield 252) 3 11 := ⟨by decide +kernel, rfl⟩
theorem djX12_leastOfAll_11 : Dj cX12_leastOfAll 11 (.ifCond .eq 19) 3 14 19 30 := ⟨by decide +kernel, rfl, by decide⟩
theorem dX12_leastOfAll_14 : Dc cX12_leastOfAll 14 (.aload_n 0) 1 15 := ⟨by decide +kernel, rfl⟩
theorem dX12_leastOfAll_15 : Dc cX12_leastOfAll 15 (.aload_n 0) 1 16 := ⟨by decide +kernel, rfl⟩
theorem dX12_leastOfAll_16 : Dc cX12_leastOfAll 16 (.invokevirtual 545) 3 19 := ⟨by decide +kernel, rfl⟩
theorem dX12_leastOfAll_19 : Dc cX12_leastOfAll 19 (.iconst 0) 1 20 := ⟨by decide +kernel, rfl⟩
theorem dX12_leastOfAll_20 : Dc cX12_leastOfAll 20 (.aload_n 0) 1 21 := ⟨by decide +kernel, rfl⟩
theorem dX12_leastOfAll_21 : Dc cX12_leastOfAll 21 (.getfield 305) 3 24 := ⟨by decide +kernel, rfl⟩
theorem dX12_leastOfAll_24 : Dc cX12_leastOfAll 24 (.invokevirtual 324) 3 27 := ⟨by decide +kernel, rfl⟩
theorem djX12_leastOfAll_27 : Dj cX12_leastOfAll 27 (.ifCond .ne 7) 3 30 7 34 := ⟨by decide +kernel, rfl, by decide⟩
theorem dX12_leastOfAll_30 : Dc cX12_leastOfAll 30 (.iconst (-1)) 1 31 := ⟨by decide +kernel, rfl⟩
theorem djX12_leastOfAll_31 : Dj cX12_leastOfAll 31 (.goto 20) 3 34 20 51 := ⟨by decide +kernel, rfl, by decide⟩
theorem dX12_leastOfAll_34 : Dc cX12_leastOfAll 34 (.aload_n 0) 1 35 := ⟨by decide +kernel, rfl⟩
theorem dX12_leastOfAll_35 : Dc cX12_leastOfAll 35 (.getfield 60) 3 38 := ⟨by decide +kernel, rfl⟩
theorem dX12_leastOfAll_38 : Dc cX12_leastOfAll 38 (.aload_n 0) 1 39 := ⟨by decide +kernel, rfl⟩
theorem dX12_leastOfAll_39 : Dc cX12_leastOfAll 39 (.invokevirtual 545) 3 42 := ⟨by decide +kernel, rfl⟩
theorem dX12_leastOfAll_42 : Dc cX12_leastOfAll 42 (.iconst 0) 1 43 := ⟨by decide +kernel, rfl⟩
theorem dX12_leastOfAll_43 : Dc cX12_leastOfAll 43 (.aload_n 0) 1 44 := ⟨by decide +kernel, rfl⟩
theorem dX12_leastOfAll_44 : Dc cX12_leastOfAll 44 (.getfield 305) 3 47 := ⟨by decide +kernel, rfl⟩
theorem dX12_leastOfAll_47 : Dc cX12_leastOfAll 47 (.invokestatic 282) 3 50 := ⟨by decide +kernel, rfl⟩
theorem dX12_leastOfAll_50 : Dc cX12_leastOfAll 50 (.iaload) 1 51 := ⟨by decide +kernel, rfl⟩
theorem dX12_leastOfAll_51 : Dc cX12_leastOfAll 51 (.ireturn) 1 52 := ⟨by decide +kernel, rfl⟩
section
variable {p : Program} {l : Launch} {e : Env} {s : State} {m : MethodId} {args : Array Value} {below : List Frame} {meth : Method} {c : Code} {A0 : Nat → Prop} {D : va_G} {cA : Nat → ClassId} {ad : Nat → Nat} {Z : (Nat → Nat) × (Nat → Nat)} {Q : Int → St → Prop}
set_option maxHeartbeats 4000000 in
set_option maxRecDepth 100000 in
theorem t_X12_leastOfAll_b30 (E : Ev p s m args meth c cX12_leastOfAll 1 RX12 A0 D cA ad NR Z) (hr : meth.sig.returnType = (some .int)) (σ : St) (hσ : CanS shR NR σ) (h : wp_X12_leastOfAll_b30 Q  σ) : G p l e (rmL 3 0 0) s m args below meth c 1 A0 D cA ad shR NR 0 0 (MQ below (QIc D cA ad shR NR Q A0) args s 0 0 A0) σ 30 [none] [] := by
  unfold wp_X12_leastOfAll_b30 at h
  refine g_iconst E dX12_leastOfAll_30 ?_
  refine g_goto E djX12_leastOfAll_31 ?_
  exact g_iret E hr cl_m1 h hσ dX12_leastOfAll_51
set_option maxHeartbeats 4000000 in
set_option maxRecDepth 100000 in
theorem t_X12_leastOfAll (E : Ev p s m args meth c cX12_leastOfAll 1 RX12 A0 D cA ad NR Z) (hr : meth.sig.returnType = (some .int)) (σ : St) (hσ : CanS shR NR σ) (h : wp_X12_leastOfAll  σ Q) : G p l e (rmL 3 0 0) s m args below meth c 1 A0 D cA ad shR NR 0 0 (MQ below (QIc D cA ad shR NR Q A0) args s 0 0 A0) σ 0 [some (.ref (ad 0))] [] := by
  unfold wp_X12_leastOfAll at h
  refine g_aload_0 E dX12_leastOfAll_0 ?_
  refine g_getI E fl_RX12_305 kR_0 sR_0 rfl dX12_leastOfAll_1 ?_
  refine g_if_eq E (fR_0_27 hσ) djX12_leastOfAll_4 (fun hc => ?_) (fun hc => ?_)
  · replace h := h.1 hc
    exact (t_X12_leastOfAll_b30 E hr σ hσ h).weak (w_d w_n)
  · replace h := h.2 hc
    refine g_aload_0 E dX12_leastOfAll_7 ?_
    refine g_getI E fl_RX12_252 kR_0 sR_0 rfl dX12_leastOfAll_8 ?_
    refine g_if_eq E (fR_0_1 hσ) djX12_leastOfAll_11 (fun hc => ?_) (fun hc => ?_)
    · replace h := h.1 hc
      exact (t_X12_leastOfAll_b30 E hr σ hσ h).weak (w_d w_n)
    · replace h := h.2 hc
      refine g_aload_0 E dX12_leastOfAll_14 ?_
      refine g_aload_0 E dX12_leastOfAll_15 ?_
      refine g_callvI E my_X12_start mi_X12_start msel_X12_start ml_RX12_545 (rm_ok (by decide) (by decide)) ⟨Nat.zero_le _, Nat.zero_le _⟩ kR_0 sR_0 rfl (m_X12_start E.2.2.1 hσ h) rfl rfl (Nat.le_of_ble_eq_true rfl) dX12_leastOfAll_16 (fun r1 σ2 cr1 hσ2 h => ?_)
      refine g_iconst E dX12_leastOfAll_19 ?_
      refine g_aload_0 E dX12_leastOfAll_20 ?_
      refine g_getI E fl_RX12_305 kR_0 sR_0 rfl dX12_leastOfAll_21 ?_
      refine g_callvI E my_X12_has mi_X12_has msel_X12_has ml_RX12_324 (rm_ok (by decide) (by decide)) ⟨Nat.zero_le _, Nat.zero_le _⟩ kR_0 sR_0 rfl (m_X12_has E.2.2.1 cr1 cl_0 (fR_0_27 hσ2) hσ2 h) rfl rfl (Nat.le_of_ble_eq_true rfl) dX12_leastOfAll_24 (fun r3 σ4 cr3 hσ4 h => ?_)
      refine g_if_ne E cr3 djX12_leastOfAll_27 (fun hc => ?_) (fun hc => ?_)
      · replace h := h.1 hc
        refine g_aload_0 E dX12_leastOfAll_34 ?_
        refine g_getR E fl_RX12_60 kR_0 sR_0 rfl dX12_leastOfAll_35 ?_
        refine g_aload_0 E dX12_leastOfAll_38 ?_
        refine g_callvI E my_X12_start mi_X12_start msel_X12_start ml_RX12_545 (rm_ok (by decide) (by decide)) ⟨Nat.zero_le _, Nat.zero_le _⟩ kR_0 sR_0 rfl (m_X12_start E.2.2.1 hσ4 h) rfl rfl (Nat.le_of_ble_eq_true rfl) dX12_leastOfAll_39 (fun r5 σ6 cr5 hσ6 h => ?_)
        refine g_iconst E dX12_leastOfAll_42 ?_
        refine g_aload_0 E dX12_leastOfAll_43 ?_
        refine g_getI E fl_RX12_305 kR_0 sR_0 rfl dX12_leastOfAll_44 ?_
        refine g_callsI E my_X12_item ms_X12_item ml_RX12_282 (rm_ok (by decide) (by decide)) ⟨Nat.zero_le _, Nat.zero_le _⟩ (m_X12_item E.2.2.1 cr5 cl_0 (fR_0_27 hσ6) hσ6 h) rfl rfl (Nat.le_of_ble_eq_true rfl) dX12_leastOfAll_47 (fun r7 σ8 cr7 hσ8 h => ?_)
        refine g_iald E kR_15 sR_15 (by decide) h.1 dX12_leastOfAll_50 ?_
        replace h := h.2
        exact g_iret E hr (aR_15 hσ8 _) h hσ8 dX12_leastOfAll_51
      · replace h := h.2 hc
        exact (t_X12_leastOfAll_b30 E hr σ4 hσ4 h).weak (w_d w_n)
end
theorem m_X12_leastOfAll {Z : (Nat → Nat) × (Nat → Nat)} {l : Launch} {D : va_G} {cA : Nat → ClassId} {ad : Nat → Nat} {σ : St} {Q : Int → St → Prop} (hA : AdOk NR ad) (hσ : CanS shR NR σ) (h : wp_X12_leastOfAll  σ Q) : KtI Z l D cA ad shR NR yX12_leastOfAll cX12_leastOfAll 1 (some .int) 3 [.ref (ad 0)] σ Q :=
  KtI.of my_X12_leastOfAll hA [some (.ref (ad 0))] (Nat.le_of_ble_eq_true rfl) rfl (fun p e s m args below meth c A0 E hr => t_X12_leastOfAll E hr σ hσ h)
theorem dX12_without_0 : Dc cX12_without 0 (.aload_n 0) 1 1 := ⟨by decide +kernel, rfl⟩
theorem dX12_without_1 : Dc cX12_without 1 (.iload_n 1) 1 2 := ⟨by decide +kernel, rfl⟩
theorem dX12_without_2 : Dc cX12_without 2 (.invokevirtual 262) 3 5 := ⟨by decide +kernel, rfl⟩
theorem djX12_without_5 : Dj cX12_without 5 (.ifCond .ne 6) 3 8 6 11 := ⟨by decide +kernel, rfl, by decide⟩
theorem dX12_without_8 : Dc cX12_without 8 (.bipush (-2)) 2 10 := ⟨by decide +kernel, rfl⟩
theorem dX12_without_10 : Dc cX12_without 10 (.ireturn) 1 11 := ⟨by decide +kernel, rfl⟩
theorem dX12_without_11 : Dc cX12_without 11 (.aload_n 0) 1 12 := ⟨by decide +kernel, rfl⟩
theorem dX12_without_12 : Dc cX12_without 12 (.invokevirtual 321) 3 15 := ⟨by decide +kernel, rfl⟩
theorem dX12_without_15 : Dc cX12_without 15 (.aload_n 0) 1 16 := ⟨by decide +kernel, rfl⟩
theorem dX12_without_16 : Dc cX12_without 16 (.aload_n 0) 1 17 := ⟨by decide +kernel, rfl⟩
theorem dX12_without_17 : Dc cX12_without 17 (.getfield 255) 3 20 := ⟨by decide +kernel, rfl⟩
theorem dX12_without_20 : Dc cX12_without 20 (.lconst 1) 1 21 := ⟨by decide +kernel, rfl⟩
theorem dX12_without_21 : Dc cX12_without 21 (.iload_n 1) 1 22 := ⟨by decide +kernel, rfl⟩
theorem dX12_without_22 : Dc cX12_without 22 (.lshl) 1 23 := ⟨by decide +kernel, rfl⟩
theorem dX12_without_23 : Dc cX12_without 23 (.lor) 1 24 := ⟨by decide +kernel, rfl⟩
theorem dX12_without_24 : Dc cX12_without 24 (.invokevirtual 312) 3 27 := ⟨by decide +kernel, rfl⟩
theorem dX12_without_27 : Dc cX12_without 27 (.aload_n 0) 1 28 := ⟨by decide +kernel, rfl⟩
theorem dX12_without_28 : Dc cX12_without 28 (.invokevirtual 574) 3 31 := ⟨by decide +kernel, rfl⟩
theorem dX12_without_31 : Dc cX12_without 31 (.ireturn) 1 32 := ⟨by decide +kernel, rfl⟩
section
variable {p : Program} {l : Launch} {e : Env} {s : State} {m : MethodId} {args : Array Value} {below : List Frame} {meth : Method} {c : Code} {A0 : Nat → Prop} {D : va_G} {cA : Nat → ClassId} {ad : Nat → Nat} {Z : (Nat → Nat) × (Nat → Nat)} {Q : Int → St → Prop}
set_option maxHeartbeats 4000000 in
set_option maxRecDepth 100000 in
theorem t_X12_without (E : Ev p s m args meth c cX12_without 2 RX12 A0 D cA ad NR Z) (hr : meth.sig.returnType = (some .int)) (x1 : Int) (σ : St) (c1 : C32 x1) (hσ : CanS shR NR σ) (h : wp_X12_without x1 σ Q) : G p l e (rmL 7 0 0) s m args below meth c 2 A0 D cA ad shR NR 0 0 (MQ below (QIc D cA ad shR NR Q A0) args s 0 0 A0) σ 0 [some (.ref (ad 0)), some (vI x1)] [] := by
  unfold wp_X12_without at h
  refine g_aload_0 E dX12_without_0 ?_
  refine g_iload_1 E dX12_without_1 ?_
  refine g_callvI E my_X12_isRule mi_X12_isRule msel_X12_isRule ml_RX12_262 (rm_ok (by decide) (by decide)) ⟨Nat.zero_le _, Nat.zero_le _⟩ kR_0 sR_0 rfl (m_X12_isRule E.2.2.1 c1 hσ h) rfl rfl (Nat.le_of_ble_eq_true rfl) dX12_without_2 (fun r1 σ2 cr1 hσ2 h => ?_)
  refine g_if_ne E cr1 djX12_without_5 (fun hc => ?_) (fun hc => ?_)
  · replace h := h.1 hc
    refine g_aload_0 E dX12_without_11 ?_
    refine g_callvV E my_X12_looks mi_X12_looks msel_X12_looks ml_RX12_321 (rm_ok (by decide) (by decide)) ⟨Nat.zero_le _, Nat.zero_le _⟩ kR_0 sR_0 rfl (m_X12_looks E.2.2.1 hσ2 h) rfl rfl (Nat.le_of_ble_eq_true rfl) dX12_without_12 (fun σ4 r3 hσ4 h => ?_)
    refine g_aload_0 E dX12_without_15 ?_
    refine g_aload_0 E dX12_without_16 ?_
    refine g_getL E fl_RX12_255 kR_0 sR_0 rfl dX12_without_17 ?_
    refine g_lconst (n := 1) E (by decide) dX12_without_20 ?_
    refine g_iload_1 E dX12_without_21 ?_
    refine g_lshl E dX12_without_22 ?_
    refine g_lor E dX12_without_23 ?_
    refine g_callvV E my_X12_laysLeast mi_X12_laysLeast msel_X12_laysLeast ml_RX12_312 (rm_ok (by decide) (by decide)) ⟨Nat.zero_le _, Nat.zero_le _⟩ kR_0 sR_0 rfl (m_X12_laysLeast E.2.2.1 (c64_t _) hσ4 h) rfl rfl (Nat.le_of_ble_eq_true rfl) dX12_without_24 (fun σ6 r5 hσ6 h => ?_)
    refine g_aload_0 E dX12_without_27 ?_
    refine g_callvI E my_X12_leastOfAll mi_X12_leastOfAll msel_X12_leastOfAll ml_RX12_574 (rm_ok (by decide) (by decide)) ⟨Nat.zero_le _, Nat.zero_le _⟩ kR_0 sR_0 rfl (m_X12_leastOfAll E.2.2.1 hσ6 h) rfl rfl (Nat.le_of_ble_eq_true rfl) dX12_without_28 (fun r7 σ8 cr7 hσ8 h => ?_)
    exact g_iret E hr cr7 h hσ8 dX12_without_31
  · replace h := h.2 hc
    refine g_bipush E (by decide) dX12_without_8 ?_
    exact g_iret E hr cl_m2 h hσ2 dX12_without_10
end
theorem m_X12_without {Z : (Nat → Nat) × (Nat → Nat)} {l : Launch} {D : va_G} {cA : Nat → ClassId} {ad : Nat → Nat} {x1 : Int} {σ : St} {Q : Int → St → Prop} (hA : AdOk NR ad) (c1 : C32 x1) (hσ : CanS shR NR σ) (h : wp_X12_without x1 σ Q) : KtI Z l D cA ad shR NR yX12_without cX12_without 2 (some .int) 7 [.ref (ad 0), vI x1] σ Q :=
  KtI.of my_X12_without hA [some (.ref (ad 0)), some (vI x1)] (Nat.le_of_ble_eq_true rfl) rfl (fun p e s m args below meth c A0 E hr => t_X12_without E hr x1 σ c1 hσ h)
theorem dX12_heads_0 : Dc cX12_heads 0 (.aload_n 0) 1 1 := ⟨by decide +kernel, rfl⟩
theorem dX12_heads_1 : Dc cX12_heads 1 (.invokevirtual 321) 3 4 := ⟨by decide +kernel, rfl⟩
theorem dX12_heads_4 : Dc cX12_heads 4 (.iconst 0) 1 5 := ⟨by decide +kernel, rfl⟩
theorem dX12_heads_5 : Dc cX12_heads 5 (.istore_n 1) 1 6 := ⟨by decide +kernel, rfl⟩
theorem dX12_heads_6 : Dc cX12_heads 6 (.iconst 1) 1 7 := ⟨by decide +kernel, rfl⟩
theorem dX12_heads_7 : Dc cX12_heads 7 (.istore_n 2) 1 8 := ⟨by decide +kernel, rfl⟩
theorem dX12_heads_8 : Dc cX12_heads 8 (.iload_n 2) 1 9 := ⟨by decide +kernel, rfl⟩
theorem dX12_heads_9 : Dc cX12_heads 9 (.aload_n 0) 1 10 := ⟨by decide +kernel, rfl⟩
theorem dX12_heads_10 : Dc cX12_heads 10 (.getfield 305) 3 13 := ⟨by decide +kernel, rfl⟩
theorem djX12_heads_13 : Dj cX12_heads 13 (.if_icmp .gt 39) 3 16 39 52 := ⟨by decide +kernel, rfl, by decide⟩
theorem dX12_heads_16 : Dc cX12_heads 16 (.aload_n 0) 1 17 := ⟨by decide +kernel, rfl⟩
theorem dX12_heads_17 : Dc cX12_heads 17 (.getfield 252) 3 20 := ⟨by decide +kernel, rfl⟩
theorem djX12_heads_20 : Dj cX12_heads 20 (.ifCond .le 32) 3 23 32 52 := ⟨by decide +kernel, rfl, by decide⟩
theorem dX12_heads_23 : Dc cX12_heads 23 (.iload_n 1) 1 24 := ⟨by decide +kernel, rfl⟩
theorem dX12_heads_24 : Dc cX12_heads 24 (.aload_n 0) 1 25 := ⟨by decide +kernel, rfl⟩
theorem dX12_heads_25 : Dc cX12_heads 25 (.aload_n 0) 1 26 := ⟨by decide +kernel, rfl⟩
theorem dX12_heads_26 : Dc cX12_heads 26 (.invokevirtual 545) 3 29 := ⟨by decide +kernel, rfl⟩
theorem dX12_heads_29 : Dc cX12_heads 29 (.iconst 0) 1 30 := ⟨by decide +kernel, rfl⟩
theorem dX12_heads_30 : Dc cX12_heads 30 (.iload_n 2) 1 31 := ⟨by decide +kernel, rfl⟩
theorem dX12_heads_31 : Dc cX12_heads 31 (.invokevirtual 324) 3 34 := ⟨by decide +kernel, rfl⟩
theorem djX12_heads_34 : Dj cX12_heads 34 (.ifCond .eq 9) 3 37 9 43 := ⟨by decide +kernel, rfl, by decide⟩
theorem dX12_heads_37 : Dc cX12_heads 37 (.iconst 1) 1 38 := ⟨by decide +kernel, rfl⟩
theorem dX12_heads_38 : Dc cX12_heads 38 (.iload_n 2) 1 39 := ⟨by decide +kernel, rfl⟩
theorem dX12_heads_39 : Dc cX12_heads 39 (.ishl) 1 40 := ⟨by decide +kernel, rfl⟩
theorem djX12_heads_40 : Dj cX12_heads 40 (.goto 4) 3 43 4 44 := ⟨by decide +kernel, rfl, by decide⟩
theorem dX12_heads_43 : Dc cX12_heads 43 (.iconst 0) 1 44 := ⟨by decide +kernel, rfl⟩
theorem dX12_heads_44 : Dc cX12_heads 44 (.ior) 1 45 := ⟨by decide +kernel, rfl⟩
theorem dX12_heads_45 : Dc cX12_heads 45 (.istore_n 1) 1 46 := ⟨by decide +kernel, rfl⟩
theorem dX12_heads_46 : Dc cX12_heads 46 (.iinc 2 1) 3 49 := ⟨by decide +kernel, rfl⟩
theorem djX12_heads_49 : Dj cX12_heads 49 (.goto (-41)) 3 52 (-41) 8 := ⟨by decide +kernel, rfl, by decide⟩
theorem dX12_heads_52 : Dc cX12_heads 52 (.iload_n 1) 1 53 := ⟨by decide +kernel, rfl⟩
theorem dX12_heads_53 : Dc cX12_heads 53 (.ireturn) 1 54 := ⟨by decide +kernel, rfl⟩
section
variable {p : Program} {l : Launch} {e : Env} {s : State} {m : MethodId} {args : Array Value} {below : List Frame} {meth : Method} {c : Code} {A0 : Nat → Prop} {D : va_G} {cA : Nat → ClassId} {ad : Nat → Nat} {Z : (Nat → Nat) × (Nat → Nat)} {Q : Int → St → Prop}
set_option maxHeartbeats 4000000 in
set_option maxRecDepth 100000 in
theorem t_X12_heads_b44 (E : Ev p s m args meth c cX12_heads 3 RX12 A0 D cA ad NR Z) (hr : meth.sig.returnType = (some .int)) {K8 : Int → Int → St → Prop} (hK8 : ∀ (x1 : Int) (x2 : Int) (σ : St), C32 x1 → C32 x2 → CanS shR NR σ → K8 x1 x2 σ → G p l e (rmL 7 0 0) s m args below meth c 3 A0 D cA ad shR NR 0 0 (MQ below (QIc D cA ad shR NR Q A0) args s 0 0 A0) σ 8 [some (.ref (ad 0)), some (vI x1), some (vI x2)] []) (x2 : Int) (s0 : Int) (s1 : Int) (σ : St) (c2 : C32 x2) (cs0 : C32 s0) (cs1 : C32 s1) (hσ : CanS shR NR σ) (h : wp_X12_heads_b44 Q K8 x2 s0 s1 σ) : G p l e (rmL 7 0 0) s m args below meth c 3 A0 D cA ad shR NR 0 0 (MQ below (QIc D cA ad shR NR Q A0) args s 0 0 A0) σ 44 [some (.ref (ad 0)), none, some (vI x2)] [vI s0, vI s1] := by
  unfold wp_X12_heads_b44 at h
  refine g_ior E dX12_heads_44 ?_
  refine g_nmI (fun v7 ev7 => ?_)
  replace h := h v7 ev7
  have cv7 : C32 v7 := by rw [ev7]; exact (c32_t _)
  refine g_istore_1 E rfl (by decide) dX12_heads_45 ?_
  refine g_iinc_2 E rfl (by decide) dX12_heads_46 (fun v8 ev8 => ?_)
  replace h := h v8 ev8
  have cv8 : C32 v8 := by rw [ev8]; exact c32_w _
  refine g_goto E djX12_heads_49 ?_
  exact (hK8 v7 v8 σ cv7 cv8 hσ h).weak (w_k (w_k (w_k w_n)))
set_option maxHeartbeats 4000000 in
set_option maxRecDepth 100000 in
theorem t_X12_heads_l8 (E : Ev p s m args meth c cX12_heads 3 RX12 A0 D cA ad NR Z) (hr : meth.sig.returnType = (some .int)) : ∀ (n : Nat) (x1 : Int) (x2 : Int) (σ : St), C32 x1 → C32 x2 → CanS shR NR σ → wp_X12_heads_l8 Q n x1 x2 σ → G p l e (rmL 7 0 0) s m args below meth c 3 A0 D cA ad shR NR 0 0 (MQ below (QIc D cA ad shR NR Q A0) args s 0 0 A0) σ 8 [some (.ref (ad 0)), some (vI x1), some (vI x2)] [] := by
  intro n
  induction n with
  | zero => intro _ _ _ _ _ _ h; exact h.elim
  | succ n ih =>
    intro x1 x2 σ c1 c2 hσ h
    unfold wp_X12_heads_l8 at h
    refine g_iload_2 E dX12_heads_8 ?_
    refine g_aload_0 E dX12_heads_9 ?_
    refine g_getI E fl_RX12_305 kR_0 sR_0 rfl dX12_heads_10 ?_
    refine g_icmp_gt E c2 (fR_0_27 hσ) djX12_heads_13 (fun hc => ?_) (fun hc => ?_)
    · replace h := h.1 hc
      refine g_iload_1 E dX12_heads_52 ?_
      exact g_iret E hr c1 h hσ dX12_heads_53
    · replace h := h.2 hc
      refine g_aload_0 E dX12_heads_16 ?_
      refine g_getI E fl_RX12_252 kR_0 sR_0 rfl dX12_heads_17 ?_
      refine g_if_le E (fR_0_1 hσ) djX12_heads_20 (fun hc => ?_) (fun hc => ?_)
      · replace h := h.1 hc
        refine g_iload_1 E dX12_heads_52 ?_
        exact g_iret E hr c1 h hσ dX12_heads_53
      · replace h := h.2 hc
        refine g_iload_1 E dX12_heads_23 ?_
        refine g_aload_0 E dX12_heads_24 ?_
        refine g_aload_0 E dX12_heads_25 ?_
        refine g_callvI E my_X12_start mi_X12_start msel_X12_start ml_RX12_545 (rm_ok (by decide) (by decide)) ⟨Nat.zero_le _, Nat.zero_le _⟩ kR_0 sR_0 rfl (m_X12_start E.2.2.1 hσ h) rfl rfl (Nat.le_of_ble_eq_true rfl) dX12_heads_26 (fun r3 σ4 cr3 hσ4 h => ?_)
        refine g_iconst E dX12_heads_29 ?_
        refine g_iload_2 E dX12_heads_30 ?_
        refine g_callvI E my_X12_has mi_X12_has msel_X12_has ml_RX12_324 (rm_ok (by decide) (by decide)) ⟨Nat.zero_le _, Nat.zero_le _⟩ kR_0 sR_0 rfl (m_X12_has E.2.2.1 cr3 cl_0 c2 hσ4 h) rfl rfl (Nat.le_of_ble_eq_true rfl) dX12_heads_31 (fun r5 σ6 cr5 hσ6 h => ?_)
        refine g_if_eq E cr5 djX12_heads_34 (fun hc => ?_) (fun hc => ?_)
        · replace h := h.1 hc
          refine g_iconst E dX12_heads_43 ?_
          exact (t_X12_heads_b44 E hr ih x2 0 x1 σ6 c2 cl_0 c1 hσ6 h).weak (w_k (w_d (w_k w_n)))
        · replace h := h.2 hc
          refine g_iconst E dX12_heads_37 ?_
          refine g_iload_2 E dX12_heads_38 ?_
          refine g_ishl E dX12_heads_39 ?_
          refine g_goto E djX12_heads_40 ?_
          exact (t_X12_heads_b44 E hr ih x2 (b_shl 1 x2) x1 σ6 c2 (c32_t _) c1 hσ6 h).weak (w_k (w_d (w_k w_n)))
set_option maxHeartbeats 4000000 in
set_option maxRecDepth 100000 in
theorem t_X12_heads (E : Ev p s m args meth c cX12_heads 3 RX12 A0 D cA ad NR Z) (hr : meth.sig.returnType = (some .int)) (σ : St) (hσ : CanS shR NR σ) (h : wp_X12_heads  σ Q) : G p l e (rmL 7 0 0) s m args below meth c 3 A0 D cA ad shR NR 0 0 (MQ below (QIc D cA ad shR NR Q A0) args s 0 0 A0) σ 0 [some (.ref (ad 0)), none, none] [] := by
  unfold wp_X12_heads at h
  refine g_aload_0 E dX12_heads_0 ?_
  refine g_callvV E my_X12_looks mi_X12_looks msel_X12_looks ml_RX12_321 (rm_ok (by decide) (by decide)) ⟨Nat.zero_le _, Nat.zero_le _⟩ kR_0 sR_0 rfl (m_X12_looks E.2.2.1 hσ h) rfl rfl (Nat.le_of_ble_eq_true rfl) dX12_heads_1 (fun σ2 r1 hσ2 h => ?_)
  refine g_iconst E dX12_heads_4 ?_
  refine g_istore_1 E rfl (by decide) dX12_heads_5 ?_
  refine g_iconst E dX12_heads_6 ?_
  refine g_istore_2 E rfl (by decide) dX12_heads_7 ?_
  exact (t_X12_heads_l8 E hr bigN 0 1 σ2 cl_0 cl_1 hσ2 h).weak (w_k (w_k (w_k w_n)))
end
theorem m_X12_heads {Z : (Nat → Nat) × (Nat → Nat)} {l : Launch} {D : va_G} {cA : Nat → ClassId} {ad : Nat → Nat} {σ : St} {Q : Int → St → Prop} (hA : AdOk NR ad) (hσ : CanS shR NR σ) (h : wp_X12_heads  σ Q) : KtI Z l D cA ad shR NR yX12_heads cX12_heads 3 (some .int) 7 [.ref (ad 0)] σ Q :=
  KtI.of my_X12_heads hA [some (.ref (ad 0)), none, none] (Nat.le_of_ble_eq_true rfl) rfl (fun p e s m args below meth c A0 E hr => t_X12_heads E hr σ hσ h)
theorem dX12_laysMends_0 : Dc cX12_laysMends 0 (.iconst 0) 1 1 := ⟨by decide +kernel, rfl⟩
theorem dX12_laysMends_1 : Dc cX12_laysMends 1 (.istore_n 1) 1 2 := ⟨by decide +kernel, rfl⟩
theorem dX12_laysMends_2 : Dc cX12_laysMends 2 (.aload_n 0) 1 3 := ⟨by decide +kernel, rfl⟩
theorem dX12_laysMends_3 : Dc cX12_laysMends 3 (.ldc_w 286) 3 6 := ⟨by decide +kernel, rfl⟩
theorem dX12_laysMends_6 : Dc cX12_laysMends 6 (.putfield 577) 3 9 := ⟨by decide +kernel, rfl⟩
theorem dX12_laysMends_9 : Dc cX12_laysMends 9 (.iconst 0) 1 10 := ⟨by decide +kernel, rfl⟩
theorem dX12_laysMends_10 : Dc cX12_laysMends 10 (.istore_n 2) 1 11 := ⟨by decide +kernel, rfl⟩
theorem dX12_laysMends_11 : Dc cX12_laysMends 11 (.iload_n 2) 1 12 := ⟨by decide +kernel, rfl⟩
theorem dX12_laysMends_12 : Dc cX12_laysMends 12 (.aload_n 0) 1 13 := ⟨by decide +kernel, rfl⟩
theorem dX12_laysMends_13 : Dc cX12_laysMends 13 (.getfield 259) 3 16 := ⟨by decide +kernel, rfl⟩
theorem djX12_laysMends_16 : Dj cX12_laysMends 16 (.if_icmp .ge 101) 3 19 101 117 := ⟨by decide +kernel, rfl, by decide⟩
theorem dX12_laysMends_19 : Dc cX12_laysMends 19 (.iconst 0) 1 20 := ⟨by decide +kernel, rfl⟩
theorem dX12_laysMends_20 : Dc cX12_laysMends 20 (.istore_n 3) 1 21 := ⟨by decide +kernel, rfl⟩
theorem dX12_laysMends_21 : Dc cX12_laysMends 21 (.iload_n 3) 1 22 := ⟨by decide +kernel, rfl⟩
theorem dX12_laysMends_22 : Dc cX12_laysMends 22 (.bipush 26) 2 24 := ⟨by decide +kernel, rfl⟩
theorem djX12_laysMends_24 : Dj cX12_laysMends 24 (.if_icmp .ge 87) 3 27 87 111 := ⟨by decide +kernel, rfl, by decide⟩
theorem dX12_laysMends_27 : Dc cX12_laysMends 27 (.aload_n 0) 1 28 := ⟨by decide +kernel, rfl⟩
theorem dX12_laysMends_28 : Dc cX12_laysMends 28 (.invokevirtual 321) 3 31 := ⟨by decide +kernel, rfl⟩
theorem dX12_laysMends_31 : Dc cX12_laysMends 31 (.iload_n 3) 1 32 := ⟨by decide +kernel, rfl⟩
theorem dX12_laysMends_32 : Dc cX12_laysMends 32 (.aload_n 0) 1 33 := ⟨by decide +kernel, rfl⟩
theorem dX12_laysMends_33 : Dc cX12_laysMends 33 (.getfield 44) 3 36 := ⟨by decide +kernel, rfl⟩
theorem dX12_laysMends_36 : Dc cX12_laysMends 36 (.iload_n 2) 1 37 := ⟨by decide +kernel, rfl⟩
theorem dX12_laysMends_37 : Dc cX12_laysMends 37 (.iaload) 1 38 := ⟨by decide +kernel, rfl⟩
theorem djX12_laysMends_38 : Dj cX12_laysMends 38 (.if_icmp .ne 6) 3 41 6 44 := ⟨by decide +kernel, rfl, by decide⟩
theorem djX12_laysMends_41 : Dj cX12_laysMends 41 (.goto 64) 3 44 64 105 := ⟨by decide +kernel, rfl, by decide⟩
theorem dX12_laysMends_44 : Dc cX12_laysMends 44 (.aload_n 0) 1 45 := ⟨by decide +kernel, rfl⟩
theorem dX12_laysMends_45 : Dc cX12_laysMends 45 (.getfield 57) 3 48 := ⟨by decide +kernel, rfl⟩
theorem dX12_laysMends_48 : Dc cX12_laysMends 48 (.iload_n 2) 1 49 := ⟨by decide +kernel, rfl⟩
theorem dX12_laysMends_49 : Dc cX12_laysMends 49 (.iload_n 3) 1 50 := ⟨by decide +kernel, rfl⟩
theorem dX12_laysMends_50 : Dc cX12_laysMends 50 (.iastore) 1 51 := ⟨by decide +kernel, rfl⟩
theorem dX12_laysMends_51 : Dc cX12_laysMends 51 (.aload_n 0) 1 52 := ⟨by decide +kernel, rfl⟩
theorem dX12_laysMends_52 : Dc cX12_laysMends 52 (.aload_n 0) 1 53 := ⟨by decide +kernel, rfl⟩
theorem dX12_laysMends_53 : Dc cX12_laysMends 53 (.getfield 255) 3 56 := ⟨by decide +kernel, rfl⟩
theorem dX12_laysMends_56 : Dc cX12_laysMends 56 (.invokevirtual 312) 3 59 := ⟨by decide +kernel, rfl⟩
theorem dX12_laysMends_59 : Dc cX12_laysMends 59 (.aload_n 0) 1 60 := ⟨by decide +kernel, rfl⟩
theorem dX12_laysMends_60 : Dc cX12_laysMends 60 (.invokevirtual 574) 3 63 := ⟨by decide +kernel, rfl⟩
theorem dX12_laysMends_63 : Dc cX12_laysMends 63 (.istore 4) 2 65 := ⟨by decide +kernel, rfl⟩
theorem dX12_laysMends_65 : Dc cX12_laysMends 65 (.iload 4) 2 67 := ⟨by decide +kernel, rfl⟩
theorem dX12_laysMends_67 : Dc cX12_laysMends 67 (.iconst (-1)) 1 68 := ⟨by decide +kernel, rfl⟩
theorem djX12_laysMends_68 : Dj cX12_laysMends 68 (.if_icmp .ne 6) 3 71 6 74 := ⟨by decide +kernel, rfl, by decide⟩
theorem djX12_laysMends_71 : Dj cX12_laysMends 71 (.goto 34) 3 74 34 105 := ⟨by decide +kernel, rfl, by decide⟩
theorem dX12_laysMends_74 : Dc cX12_laysMends 74 (.iinc 1 1) 3 77 := ⟨by decide +kernel, rfl⟩
theorem dX12_laysMends_77 : Dc cX12_laysMends 77 (.iload 4) 2 79 := ⟨by decide +kernel, rfl⟩
theorem dX12_laysMends_79 : Dc cX12_laysMends 79 (.aload_n 0) 1 80 := ⟨by decide +kernel, rfl⟩
theorem dX12_laysMends_80 : Dc cX12_laysMends 80 (.getfield 577) 3 83 := ⟨by decide +kernel, rfl⟩
theorem djX12_laysMends_83 : Dj cX12_laysMends 83 (.if_icmp .lt 6) 3 86 6 89 := ⟨by decide +kernel, rfl, by decide⟩
theorem djX12_laysMends_86 : Dj cX12_laysMends 86 (.goto 19) 3 89 19 105 := ⟨by decide +kernel, rfl, by decide⟩
theorem dX12_laysMends_89 : Dc cX12_laysMends 89 (.aload_n 0) 1 90 := ⟨by decide +kernel, rfl⟩
theorem dX12_laysMends_90 : Dc cX12_laysMends 90 (.iload 4) 2 92 := ⟨by decide +kernel, rfl⟩
theorem dX12_laysMends_92 : Dc cX12_laysMends 92 (.putfield 577) 3 95 := ⟨by decide +kernel, rfl⟩
theorem dX12_laysMends_95 : Dc cX12_laysMends 95 (.aload_n 0) 1 96 := ⟨by decide +kernel, rfl⟩
theorem dX12_laysMends_96 : Dc cX12_laysMends 96 (.iload_n 2) 1 97 := ⟨by decide +kernel, rfl⟩
theorem dX12_laysMends_97 : Dc cX12_laysMends 97 (.putfield 580) 3 100 := ⟨by decide +kernel, rfl⟩
theorem dX12_laysMends_100 : Dc cX12_laysMends 100 (.aload_n 0) 1 101 := ⟨by decide +kernel, rfl⟩
theorem dX12_laysMends_101 : Dc cX12_laysMends 101 (.iload_n 3) 1 102 := ⟨by decide +kernel, rfl⟩
theorem dX12_laysMends_102 : Dc cX12_laysMends 102 (.putfield 583) 3 105 := ⟨by decide +kernel, rfl⟩
theorem dX12_laysMends_105 : Dc cX12_laysMends 105 (.iinc 3 1) 3 108 := ⟨by decide +kernel, rfl⟩
theorem djX12_laysMends_108 : Dj cX12_laysMends 108 (.goto (-87)) 3 111 (-87) 21 := ⟨by decide +kernel, rfl, by decide⟩
theorem dX12_laysMends_111 : Dc cX12_laysMends 111 (.iinc 2 1) 3 114 := ⟨by decide +kernel, rfl⟩
theorem djX12_laysMends_114 : Dj cX12_laysMends 114 (.goto (-103)) 3 117 (-103) 11 := ⟨by decide +kernel, rfl, by decide⟩
theorem dX12_laysMends_117 : Dc cX12_laysMends 117 (.iload_n 1) 1 118 := ⟨by decide +kernel, rfl⟩
theorem dX12_laysMends_118 : Dc cX12_laysMends 118 (.ireturn) 1 119 := ⟨by decide +kernel, rfl⟩
section
variable {p : Program} {l : Launch} {e : Env} {s : State} {m : MethodId} {args : Array Value} {below : List Frame} {meth : Method} {c : Code} {A0 : Nat → Prop} {D : va_G} {cA : Nat → ClassId} {ad : Nat → Nat} {Z : (Nat → Nat) × (Nat → Nat)} {Q : Int → St → Prop}
set_option maxHeartbeats 4000000 in
set_option maxRecDepth 100000 in
theorem t_X12_laysMends_b105 (E : Ev p s m args meth c cX12_laysMends 5 RX12 A0 D cA ad NR Z) (hr : meth.sig.returnType = (some .int)) {K11 : Int → Int → St → Prop} (hK11 : ∀ (x1 : Int) (x2 : Int) (σ : St), C32 x1 → C32 x2 → CanS shR NR σ → K11 x1 x2 σ → G p l e (rmL 7 0 0) s m args below meth c 5 A0 D cA ad shR NR 0 0 (MQ below (QIc D cA ad shR NR Q A0) args s 0 0 A0) σ 11 [some (.ref (ad 0)), some (vI x1), some (vI x2), none, none] []) {K21 : Int → Int → Int → St → Prop} (hK21 : ∀ (x1 : Int) (x2 : Int) (x3 : Int) (σ : St), C32 x1 → C32 x2 → C32 x3 → CanS shR NR σ → K21 x1 x2 x3 σ → G p l e (rmL 7 0 0) s m args below meth c 5 A0 D cA ad shR NR 0 0 (MQ below (QIc D cA ad shR NR Q A0) args s 0 0 A0) σ 21 [some (.ref (ad 0)), some (vI x1), some (vI x2), some (vI x3), none] []) (x1 : Int) (x2 : Int) (x3 : Int) (σ : St) (c1 : C32 x1) (c2 : C32 x2) (c3 : C32 x3) (hσ : CanS shR NR σ) (h : wp_X12_laysMends_b105 Q K11 K21 x1 x2 x3 σ) : G p l e (rmL 7 0 0) s m args below meth c 5 A0 D cA ad shR NR 0 0 (MQ below (QIc D cA ad shR NR Q A0) args s 0 0 A0) σ 105 [some (.ref (ad 0)), some (vI x1), some (vI x2), some (vI x3), none] [] := by
  unfold wp_X12_laysMends_b105 at h
  refine g_iinc_3 E rfl (by decide) dX12_laysMends_105 (fun v14 ev14 => ?_)
  replace h := h v14 ev14
  have cv14 : C32 v14 := by rw [ev14]; exact c32_w _
  refine g_goto E djX12_laysMends_108 ?_
  exact (hK21 x1 x2 v14 σ c1 c2 cv14 hσ h).weak (w_k (w_k (w_k (w_k (w_d w_n)))))
set_option maxHeartbeats 4000000 in
set_option maxRecDepth 100000 in
theorem t_X12_laysMends_l21 (E : Ev p s m args meth c cX12_laysMends 5 RX12 A0 D cA ad NR Z) (hr : meth.sig.returnType = (some .int)) {K11 : Int → Int → St → Prop} (hK11 : ∀ (x1 : Int) (x2 : Int) (σ : St), C32 x1 → C32 x2 → CanS shR NR σ → K11 x1 x2 σ → G p l e (rmL 7 0 0) s m args below meth c 5 A0 D cA ad shR NR 0 0 (MQ below (QIc D cA ad shR NR Q A0) args s 0 0 A0) σ 11 [some (.ref (ad 0)), some (vI x1), some (vI x2), none, none] []) : ∀ (n : Nat) (x1 : Int) (x2 : Int) (x3 : Int) (σ : St), C32 x1 → C32 x2 → C32 x3 → CanS shR NR σ → wp_X12_laysMends_l21 Q K11 n x1 x2 x3 σ → G p l e (rmL 7 0 0) s m args below meth c 5 A0 D cA ad shR NR 0 0 (MQ below (QIc D cA ad shR NR Q A0) args s 0 0 A0) σ 21 [some (.ref (ad 0)), some (vI x1), some (vI x2), some (vI x3), none] [] := by
  intro n
  induction n with
  | zero => intro _ _ _ _ _ _ _ _ h; exact h.elim
  | succ n ih =>
    intro x1 x2 x3 σ c1 c2 c3 hσ h
    unfold wp_X12_laysMends_l21 at h
    refine g_iload_3 E dX12_laysMends_21 ?_
    refine g_bipush E (by decide) dX12_laysMends_22 ?_
    refine g_icmp_ge E c3 cl_26 djX12_laysMends_24 (fun hc => ?_) (fun hc => ?_)
    · replace h := h.1 hc
      refine g_iinc_2 E rfl (by decide) dX12_laysMends_111 (fun v2 ev2 => ?_)
      replace h := h v2 ev2
      have cv2 : C32 v2 := by rw [ev2]; exact c32_w _
      refine g_goto E djX12_laysMends_114 ?_
      exact (hK11 x1 v2 σ c1 cv2 hσ h).weak (w_k (w_k (w_k (w_d (w_d w_n)))))
    · replace h := h.2 hc
      refine g_aload_0 E dX12_laysMends_27 ?_
      refine g_callvV E my_X12_looks mi_X12_looks msel_X12_looks ml_RX12_321 (rm_ok (by decide) (by decide)) ⟨Nat.zero_le _, Nat.zero_le _⟩ kR_0 sR_0 rfl (m_X12_looks E.2.2.1 hσ h) rfl rfl (Nat.le_of_ble_eq_true rfl) dX12_laysMends_28 (fun σ4 r3 hσ4 h => ?_)
      refine g_iload_3 E dX12_laysMends_31 ?_
      refine g_aload_0 E dX12_laysMends_32 ?_
      refine g_getR E fl_RX12_44 kR_0 sR_0 rfl dX12_laysMends_33 ?_
      refine g_iload_2 E dX12_laysMends_36 ?_
      refine g_iald E kR_11 sR_11 (by decide) h.1 dX12_laysMends_37 ?_
      replace h := h.2
      refine g_icmp_ne E c3 (aR_11 hσ4 _) djX12_laysMends_38 (fun hc => ?_) (fun hc => ?_)
      · replace h := h.1 hc
        refine g_aload_0 E dX12_laysMends_44 ?_
        refine g_getR E fl_RX12_57 kR_0 sR_0 rfl dX12_laysMends_45 ?_
        refine g_iload_2 E dX12_laysMends_48 ?_
        refine g_iload_3 E dX12_laysMends_49 ?_
        refine g_iast E kR_14 sR_14 (by decide) h.1 dX12_laysMends_50 (g_nmS (fun σ5 eσ5 => ?_))
        replace h := h.2 σ5 eσ5
        have hσ5 : CanS shR NR σ5 := by rw [eσ5]; exact wR_14 hσ4 c3
        refine g_aload_0 E dX12_laysMends_51 ?_
        refine g_aload_0 E dX12_laysMends_52 ?_
        refine g_getL E fl_RX12_255 kR_0 sR_0 rfl dX12_laysMends_53 ?_
        refine g_callvV E my_X12_laysLeast mi_X12_laysLeast msel_X12_laysLeast ml_RX12_312 (rm_ok (by decide) (by decide)) ⟨Nat.zero_le _, Nat.zero_le _⟩ kR_0 sR_0 rfl (m_X12_laysLeast E.2.2.1 (fR_0_2 hσ5) hσ5 h) rfl rfl (Nat.le_of_ble_eq_true rfl) dX12_laysMends_56 (fun σ7 r6 hσ7 h => ?_)
        refine g_aload_0 E dX12_laysMends_59 ?_
        refine g_callvI E my_X12_leastOfAll mi_X12_leastOfAll msel_X12_leastOfAll ml_RX12_574 (rm_ok (by decide) (by decide)) ⟨Nat.zero_le _, Nat.zero_le _⟩ kR_0 sR_0 rfl (m_X12_leastOfAll E.2.2.1 hσ7 h) rfl rfl (Nat.le_of_ble_eq_true rfl) dX12_laysMends_60 (fun r8 σ9 cr8 hσ9 h => ?_)
        refine g_istore_4 E rfl (by decide) dX12_laysMends_63 ?_
        refine g_iload_4 E dX12_laysMends_65 ?_
        refine g_iconst E dX12_laysMends_67 ?_
        refine g_icmp_ne E cr8 cl_m1 djX12_laysMends_68 (fun hc => ?_) (fun hc => ?_)
        · replace h := h.1 hc
          refine g_iinc_1 E rfl (by decide) dX12_laysMends_74 (fun v10 ev10 => ?_)
          replace h := h v10 ev10
          have cv10 : C32 v10 := by rw [ev10]; exact c32_w _
          refine g_iload_4 E dX12_laysMends_77 ?_
          refine g_aload_0 E dX12_laysMends_79 ?_
          refine g_getI E fl_RX12_577 kR_0 sR_0 rfl dX12_laysMends_80 ?_
          refine g_icmp_lt E cr8 (fR_0_65 hσ9) djX12_laysMends_83 (fun hc => ?_) (fun hc => ?_)
          · replace h := h.1 hc
            refine g_aload_0 E dX12_laysMends_89 ?_
            refine g_iload_4 E dX12_laysMends_90 ?_
            refine g_putI E fl_RX12_577 rfl rfl kR_0 sR_0 rfl dX12_laysMends_92 (g_nmS (fun σ11 eσ11 => ?_))
            replace h := h σ11 eσ11
            have hσ11 : CanS shR NR σ11 := by rw [eσ11]; exact uR_0_65 hσ9 cr8
            refine g_aload_0 E dX12_laysMends_95 ?_
            refine g_iload_2 E dX12_laysMends_96 ?_
            refine g_putI E fl_RX12_580 rfl rfl kR_0 sR_0 rfl dX12_laysMends_97 (g_nmS (fun σ12 eσ12 => ?_))
            replace h := h σ12 eσ12
            have hσ12 : CanS shR NR σ12 := by rw [eσ12]; exact uR_0_63 hσ11 c2
            refine g_aload_0 E dX12_laysMends_100 ?_
            refine g_iload_3 E dX12_laysMends_101 ?_
            refine g_putI E fl_RX12_583 rfl rfl kR_0 sR_0 rfl dX12_laysMends_102 (g_nmS (fun σ13 eσ13 => ?_))
            replace h := h σ13 eσ13
            have hσ13 : CanS shR NR σ13 := by rw [eσ13]; exact uR_0_64 hσ12 c3
            exact (t_X12_laysMends_b105 E hr hK11 ih v10 x2 x3 σ13 cv10 c2 c3 hσ13 h).weak (w_k (w_k (w_k (w_k (w_d w_n)))))
          · replace h := h.2 hc
            refine g_goto E djX12_laysMends_86 ?_
            exact (t_X12_laysMends_b105 E hr hK11 ih v10 x2 x3 σ9 cv10 c2 c3 hσ9 h).weak (w_k (w_k (w_k (w_k (w_d w_n)))))
        · replace h := h.2 hc
          refine g_goto E djX12_laysMends_71 ?_
          exact (t_X12_laysMends_b105 E hr hK11 ih x1 x2 x3 σ9 c1 c2 c3 hσ9 h).weak (w_k (w_k (w_k (w_k (w_d w_n)))))
      · replace h := h.2 hc
        refine g_goto E djX12_laysMends_41 ?_
        exact (t_X12_laysMends_b105 E hr hK11 ih x1 x2 x3 σ4 c1 c2 c3 hσ4 h).weak (w_k (w_k (w_k (w_k (w_d w_n)))))
set_option maxHeartbeats 4000000 in
set_option maxRecDepth 100000 in
theorem t_X12_laysMends_l11 (E : Ev p s m args meth c cX12_laysMends 5 RX12 A0 D cA ad NR Z) (hr : meth.sig.returnType = (some .int)) : ∀ (n : Nat) (x1 : Int) (x2 : Int) (σ : St), C32 x1 → C32 x2 → CanS shR NR σ → wp_X12_laysMends_l11 Q n x1 x2 σ → G p l e (rmL 7 0 0) s m args below meth c 5 A0 D cA ad shR NR 0 0 (MQ below (QIc D cA ad shR NR Q A0) args s 0 0 A0) σ 11 [some (.ref (ad 0)), some (vI x1), some (vI x2), none, none] [] := by
  intro n
  induction n with
  | zero => intro _ _ _ _ _ _ h; exact h.elim
  | succ n ih =>
    intro x1 x2 σ c1 c2 hσ h
    unfold wp_X12_laysMends_l11 at h
    refine g_iload_2 E dX12_laysMends_11 ?_
    refine g_aload_0 E dX12_laysMends_12 ?_
    refine g_getI E fl_RX12_259 kR_0 sR_0 rfl dX12_laysMends_13 ?_
    refine g_icmp_ge E c2 (fR_0_15 hσ) djX12_laysMends_16 (fun hc => ?_) (fun hc => ?_)
    · replace h := h.1 hc
      refine g_iload_1 E dX12_laysMends_117 ?_
      exact g_iret E hr c1 h hσ dX12_laysMends_118
    · replace h := h.2 hc
      refine g_iconst E dX12_laysMends_19 ?_
      refine g_istore_3 E rfl (by decide) dX12_laysMends_20 ?_
      exact (t_X12_laysMends_l21 E hr ih bigN x1 x2 0 σ c1 c2 cl_0 hσ h).weak (w_k (w_k (w_k (w_k (w_d w_n)))))
set_option maxHeartbeats 4000000 in
set_option maxRecDepth 100000 in
theorem t_X12_laysMends (E : Ev p s m args meth c cX12_laysMends 5 RX12 A0 D cA ad NR Z) (hr : meth.sig.returnType = (some .int)) (σ : St) (hσ : CanS shR NR σ) (h : wp_X12_laysMends  σ Q) : G p l e (rmL 7 0 0) s m args below meth c 5 A0 D cA ad shR NR 0 0 (MQ below (QIc D cA ad shR NR Q A0) args s 0 0 A0) σ 0 [some (.ref (ad 0)), none, none, none, none] [] := by
  unfold wp_X12_laysMends at h
  refine g_iconst E dX12_laysMends_0 ?_
  refine g_istore_1 E rfl (by decide) dX12_laysMends_1 ?_
  refine g_aload_0 E dX12_laysMends_2 ?_
  refine g_ldcw (n := 1000000000) E wc_RX12_286 dX12_laysMends_3 ?_
  refine g_putI E fl_RX12_577 rfl rfl kR_0 sR_0 rfl dX12_laysMends_6 (g_nmS (fun σ1 eσ1 => ?_))
  replace h := h σ1 eσ1
  have hσ1 : CanS shR NR σ1 := by rw [eσ1]; exact uR_0_65 hσ cl_1000000000
  refine g_iconst E dX12_laysMends_9 ?_
  refine g_istore_2 E rfl (by decide) dX12_laysMends_10 ?_
  exact (t_X12_laysMends_l11 E hr bigN 0 0 σ1 cl_0 cl_0 hσ1 h).weak (w_k (w_k (w_k (w_d (w_d w_n)))))
end
theorem m_X12_laysMends {Z : (Nat → Nat) × (Nat → Nat)} {l : Launch} {D : va_G} {cA : Nat → ClassId} {ad : Nat → Nat} {σ : St} {Q : Int → St → Prop} (hA : AdOk NR ad) (hσ : CanS shR NR σ) (h : wp_X12_laysMends  σ Q) : KtI Z l D cA ad shR NR yX12_laysMends cX12_laysMends 5 (some .int) 7 [.ref (ad 0)] σ Q :=
  KtI.of my_X12_laysMends hA [some (.ref (ad 0)), none, none, none, none] (Nat.le_of_ble_eq_true rfl) rfl (fun p e s m args below meth c A0 E hr => t_X12_laysMends E hr σ hσ h)
theorem dX12_mends_0 : Dc cX12_mends 0 (.aload_n 0) 1 1 := ⟨by decide +kernel, rfl⟩
theorem dX12_mends_1 : Dc cX12_mends 1 (.invokevirtual 586) 3 4 := ⟨by decide +kernel, rfl⟩
theorem dX12_mends_4 : Dc cX12_mends 4 (.ireturn) 1 5 := ⟨by decide +kernel, rfl⟩
section
variable {p : Program} {l : Launch} {e : Env} {s : State} {m : MethodId} {args : Array Value} {below : List Frame} {meth : Method} {c : Code} {A0 : Nat → Prop} {D : va_G} {cA : Nat → ClassId} {ad : Nat → Nat} {Z : (Nat → Nat) × (Nat → Nat)} {Q : Int → St → Prop}
set_option maxHeartbeats 4000000 in
set_option maxRecDepth 100000 in
theorem t_X12_mends (E : Ev p s m args meth c cX12_mends 1 RX12 A0 D cA ad NR Z) (hr : meth.sig.returnType = (some .int)) (σ : St) (hσ : CanS shR NR σ) (h : wp_X12_mends  σ Q) : G p l e (rmL 8 0 0) s m args below meth c 1 A0 D cA ad shR NR 0 0 (MQ below (QIc D cA ad shR NR Q A0) args s 0 0 A0) σ 0 [some (.ref (ad 0))] [] := by
  unfold wp_X12_mends at h
  refine g_aload_0 E dX12_mends_0 ?_
  refine g_callvI E my_X12_laysMends mi_X12_laysMends msel_X12_laysMends ml_RX12_586 (rm_ok (by decide) (by decide)) ⟨Nat.zero_le _, Nat.zero_le _⟩ kR_0 sR_0 rfl (m_X12_laysMends E.2.2.1 hσ h) rfl rfl (Nat.le_of_ble_eq_true rfl) dX12_mends_1 (fun r1 σ2 cr1 hσ2 h => ?_)
  exact g_iret E hr cr1 h hσ2 dX12_mends_4
end
theorem m_X12_mends {Z : (Nat → Nat) × (Nat → Nat)} {l : Launch} {D : va_G} {cA : Nat → ClassId} {ad : Nat → Nat} {σ : St} {Q : Int → St → Prop} (hA : AdOk NR ad) (hσ : CanS shR NR σ) (h : wp_X12_mends  σ Q) : KtI Z l D cA ad shR NR yX12_mends cX12_mends 1 (some .int) 8 [.ref (ad 0)] σ Q :=
  KtI.of my_X12_mends hA [some (.ref (ad 0))] (Nat.le_of_ble_eq_true rfl) rfl (fun p e s m args below meth c A0 E hr => t_X12_mends E hr σ hσ h)
theorem dX12_mend_0 : Dc cX12_mend 0 (.iload_n 1) 1 1 := ⟨by decide +kernel, rfl⟩
theorem dX12_mend_1 : Dc cX12_mend 1 (.i2l) 1 2 := ⟨by decide +kernel, rfl⟩
theorem dX12_mend_2 : Dc cX12_mend 2 (.lconst 0) 1 3 := ⟨by decide +kernel, rfl⟩
theorem dX12_mend_3 : Dc cX12_mend 3 (.ldc2_w 454) 3 6 := ⟨by decide +kernel, rfl⟩
theorem dX12_mend_6 : Dc cX12_mend 6 (.invokestatic 148) 3 9 := ⟨by decide +kernel, rfl⟩
theorem djX12_mend_9 : Dj cX12_mend 9 (.ifCond .ne 6) 3 12 6 15 := ⟨by decide +kernel, rfl, by decide⟩
theorem dX12_mend_12 : Dc cX12_mend 12 (.bipush (-2)) 2 14 := ⟨by decide +kernel, rfl⟩
theorem dX12_mend_14 : Dc cX12_mend 14 (.ireturn) 1 15 := ⟨by decide +kernel, rfl⟩
theorem dX12_mend_15 : Dc cX12_mend 15 (.aload_n 0) 1 16 := ⟨by decide +kernel, rfl⟩
theorem dX12_mend_16 : Dc cX12_mend 16 (.invokevirtual 586) 3 19 := ⟨by decide +kernel, rfl⟩
theorem djX12_mend_19 : Dj cX12_mend 19 (.ifCond .ne 5) 3 22 5 24 := ⟨by decide +kernel, rfl, by decide⟩
theorem dX12_mend_22 : Dc cX12_mend 22 (.iconst (-1)) 1 23 := ⟨by decide +kernel, rfl⟩
theorem dX12_mend_23 : Dc cX12_mend 23 (.ireturn) 1 24 := ⟨by decide +kernel, rfl⟩
theorem dX12_mend_24 : Dc cX12_mend 24 (.iload_n 1) 1 25 := ⟨by decide +kernel, rfl⟩
theorem djX12_mend_25 : Dj cX12_mend 25 (.ifCond .ne 10) 3 28 10 35 := ⟨by decide +kernel, rfl, by decide⟩
theorem dX12_mend_28 : Dc cX12_mend 28 (.aload_n 0) 1 29 := ⟨by decide +kernel, rfl⟩
theorem dX12_mend_29 : Dc cX12_mend 29 (.getfield 580) 3 32 := ⟨by decide +kernel, rfl⟩
theorem djX12_mend_32 : Dj cX12_mend 32 (.goto 19) 3 35 19 51 := ⟨by decide +kernel, rfl, by decide⟩
theorem dX12_mend_35 : Dc cX12_mend 35 (.iload_n 1) 1 36 := ⟨by decide +kernel, rfl⟩
theorem dX12_mend_36 : Dc cX12_mend 36 (.iconst 1) 1 37 := ⟨by decide +kernel, rfl⟩
theorem djX12_mend_37 : Dj cX12_mend 37 (.if_icmp .ne 10) 3 40 10 47 := ⟨by decide +kernel, rfl, by decide⟩
theorem dX12_mend_40 : Dc cX12_mend 40 (.aload_n 0) 1 41 := ⟨by decide +kernel, rfl⟩
theorem dX12_mend_41 : Dc cX12_mend 41 (.getfield 583) 3 44 := ⟨by decide +kernel, rfl⟩
theorem djX12_mend_44 : Dj cX12_mend 44 (.goto 7) 3 47 7 51 := ⟨by decide +kernel, rfl, by decide⟩
theorem dX12_mend_47 : Dc cX12_mend 47 (.aload_n 0) 1 48 := ⟨by decide +kernel, rfl⟩
theorem dX12_mend_48 : Dc cX12_mend 48 (.getfield 577) 3 51 := ⟨by decide +kernel, rfl⟩
theorem dX12_mend_51 : Dc cX12_mend 51 (.ireturn) 1 52 := ⟨by decide +kernel, rfl⟩
section
variable {p : Program} {l : Launch} {e : Env} {s : State} {m : MethodId} {args : Array Value} {below : List Frame} {meth : Method} {c : Code} {A0 : Nat → Prop} {D : va_G} {cA : Nat → ClassId} {ad : Nat → Nat} {Z : (Nat → Nat) × (Nat → Nat)} {Q : Int → St → Prop}
set_option maxHeartbeats 4000000 in
set_option maxRecDepth 100000 in
theorem t_X12_mend (E : Ev p s m args meth c cX12_mend 2 RX12 A0 D cA ad NR Z) (hr : meth.sig.returnType = (some .int)) (x1 : Int) (σ : St) (c1 : C32 x1) (hσ : CanS shR NR σ) (h : wp_X12_mend x1 σ Q) : G p l e (rmL 8 0 0) s m args below meth c 2 A0 D cA ad shR NR 0 0 (MQ below (QIc D cA ad shR NR Q A0) args s 0 0 A0) σ 0 [some (.ref (ad 0)), some (vI x1)] [] := by
  unfold wp_X12_mend at h
  refine g_iload_1 E dX12_mend_0 ?_
  refine g_i2l E c1 dX12_mend_1 ?_
  refine g_lconst (n := 0) E (by decide) dX12_mend_2 ?_
  refine g_ldc2 (n := 2) E wc_RX12_454 dX12_mend_3 ?_
  refine g_callsI E my_X12_in ms_X12_in ml_RX12_148 (rm_ok (by decide) (by decide)) ⟨Nat.zero_le _, Nat.zero_le _⟩ (m_X12_in E.2.2.1 (c32_of_c64 c1) cL_0 cL_2 hσ h) rfl rfl (Nat.le_of_ble_eq_true rfl) dX12_mend_6 (fun r1 σ2 cr1 hσ2 h => ?_)
  refine g_if_ne E cr1 djX12_mend_9 (fun hc => ?_) (fun hc => ?_)
  · replace h := h.1 hc
    refine g_aload_0 E dX12_mend_15 ?_
    refine g_callvI E my_X12_laysMends mi_X12_laysMends msel_X12_laysMends ml_RX12_586 (rm_ok (by decide) (by decide)) ⟨Nat.zero_le _, Nat.zero_le _⟩ kR_0 sR_0 rfl (m_X12_laysMends E.2.2.1 hσ2 h) rfl rfl (Nat.le_of_ble_eq_true rfl) dX12_mend_16 (fun r3 σ4 cr3 hσ4 h => ?_)
    refine g_if_ne E cr3 djX12_mend_19 (fun hc => ?_) (fun hc => ?_)
    · replace h := h.1 hc
      refine g_iload_1 E dX12_mend_24 ?_
      refine g_if_ne E c1 djX12_mend_25 (fun hc => ?_) (fun hc => ?_)
      · replace h := h.1 hc
        refine g_iload_1 E dX12_mend_35 ?_
        refine g_iconst E dX12_mend_36 ?_
        refine g_icmp_ne E c1 cl_1 djX12_mend_37 (fun hc => ?_) (fun hc => ?_)
        · replace h := h.1 hc
          refine g_aload_0 E dX12_mend_47 ?_
          refine g_getI E fl_RX12_577 kR_0 sR_0 rfl dX12_mend_48 ?_
          exact g_iret E hr (fR_0_65 hσ4) h hσ4 dX12_mend_51
        · replace h := h.2 hc
          refine g_aload_0 E dX12_mend_40 ?_
          refine g_getI E fl_RX12_583 kR_0 sR_0 rfl dX12_mend_41 ?_
          refine g_goto E djX12_mend_44 ?_
          exact g_iret E hr (fR_0_64 hσ4) h hσ4 dX12_mend_51
      · replace h := h.2 hc
        refine g_aload_0 E dX12_mend_28 ?_
        refine g_getI E fl_RX12_580 kR_0 sR_0 rfl dX12_mend_29 ?_
        refine g_goto E djX12_mend_32 ?_
        exact g_iret E hr (fR_0_63 hσ4) h hσ4 dX12_mend_51
    · replace h := h.2 hc
      refine g_iconst E dX12_mend_22 ?_
      exact g_iret E hr cl_m1 h hσ4 dX12_mend_23
  · replace h := h.2 hc
    refine g_bipush E (by decide) dX12_mend_12 ?_
    exact g_iret E hr cl_m2 h hσ2 dX12_mend_14
end
theorem m_X12_mend {Z : (Nat → Nat) × (Nat → Nat)} {l : Launch} {D : va_G} {cA : Nat → ClassId} {ad : Nat → Nat} {x1 : Int} {σ : St} {Q : Int → St → Prop} (hA : AdOk NR ad) (c1 : C32 x1) (hσ : CanS shR NR σ) (h : wp_X12_mend x1 σ Q) : KtI Z l D cA ad shR NR yX12_mend cX12_mend 2 (some .int) 8 [.ref (ad 0), vI x1] σ Q :=
  KtI.of my_X12_mend hA [some (.ref (ad 0)), some (vI x1)] (Nat.le_of_ble_eq_true rfl) rfl (fun p e s m args below meth c A0 E hr => t_X12_mend E hr x1 σ c1 hσ h)
theorem dX12_rings_0 : Dc cX12_rings 0 (.aload_n 0) 1 1 := ⟨by decide +kernel, rfl⟩
theorem dX12_rings_1 : Dc cX12_rings 1 (.aload_n 0) 1 2 := ⟨by decide +kernel, rfl⟩
theorem dX12_rings_2 : Dc cX12_rings 2 (.getfield 255) 3 5 := ⟨by decide +kernel, rfl⟩
theorem dX12_rings_5 : Dc cX12_rings 5 (.putfield 279) 3 8 := ⟨by decide +kernel, rfl⟩
theorem dX12_rings_8 : Dc cX12_rings 8 (.aload_n 0) 1 9 := ⟨by decide +kernel, rfl⟩
theorem dX12_rings_9 : Dc cX12_rings 9 (.iconst (-1)) 1 10 := ⟨by decide +kernel, rfl⟩
theorem dX12_rings_10 : Dc cX12_rings 10 (.iconst (-1)) 1 11 := ⟨by decide +kernel, rfl⟩
theorem dX12_rings_11 : Dc cX12_rings 11 (.invokevirtual 343) 3 14 := ⟨by decide +kernel, rfl⟩
theorem dX12_rings_14 : Dc cX12_rings 14 (.ireturn) 1 15 := ⟨by decide +kernel, rfl⟩
section
variable {p : Program} {l : Launch} {e : Env} {s : State} {m : MethodId} {args : Array Value} {below : List Frame} {meth : Method} {c : Code} {A0 : Nat → Prop} {D : va_G} {cA : Nat → ClassId} {ad : Nat → Nat} {Z : (Nat → Nat) × (Nat → Nat)} {Q : Int → St → Prop}
set_option maxHeartbeats 4000000 in
set_option maxRecDepth 100000 in
theorem t_X12_rings (E : Ev p s m args meth c cX12_rings 1 RX12 A0 D cA ad NR Z) (hr : meth.sig.returnType = (some .int)) (σ : St) (hσ : CanS shR NR σ) (h : wp_X12_rings  σ Q) : G p l e (rmL 4 0 0) s m args below meth c 1 A0 D cA ad shR NR 0 0 (MQ below (QIc D cA ad shR NR Q A0) args s 0 0 A0) σ 0 [some (.ref (ad 0))] [] := by
  unfold wp_X12_rings at h
  refine g_aload_0 E dX12_rings_0 ?_
  refine g_aload_0 E dX12_rings_1 ?_
  refine g_getL E fl_RX12_255 kR_0 sR_0 rfl dX12_rings_2 ?_
  refine g_putL E fl_RX12_279 rfl rfl kR_0 sR_0 rfl dX12_rings_5 (g_nmS (fun σ1 eσ1 => ?_))
  replace h := h σ1 eσ1
  have hσ1 : CanS shR NR σ1 := by rw [eσ1]; exact uR_0_28 hσ (fR_0_2 hσ)
  refine g_aload_0 E dX12_rings_8 ?_
  refine g_iconst E dX12_rings_9 ?_
  refine g_iconst E dX12_rings_10 ?_
  refine g_callvI E my_X12_ringsAt mi_X12_ringsAt msel_X12_ringsAt ml_RX12_343 (rm_ok (by decide) (by decide)) ⟨Nat.zero_le _, Nat.zero_le _⟩ kR_0 sR_0 rfl (m_X12_ringsAt E.2.2.1 cl_m1 cl_m1 hσ1 h) rfl rfl (Nat.le_of_ble_eq_true rfl) dX12_rings_11 (fun r2 σ3 cr2 hσ3 h => ?_)
  exact g_iret E hr cr2 h hσ3 dX12_rings_14
end
theorem m_X12_rings {Z : (Nat → Nat) × (Nat → Nat)} {l : Launch} {D : va_G} {cA : Nat → ClassId} {ad : Nat → Nat} {σ : St} {Q : Int → St → Prop} (hA : AdOk NR ad) (hσ : CanS shR NR σ) (h : wp_X12_rings  σ Q) : KtI Z l D cA ad shR NR yX12_rings cX12_rings 1 (some .int) 4 [.ref (ad 0)] σ Q :=
  KtI.of my_X12_rings hA [some (.ref (ad 0))] (Nat.le_of_ble_eq_true rfl) rfl (fun p e s m args below meth c A0 E hr => t_X12_rings E hr σ hσ h)
theorem dX12_isOf_0 : Dc cX12_isOf 0 (.iload_n 0) 1 1 := ⟨by decide +kernel, rfl⟩
theorem dX12_isOf_1 : Dc cX12_isOf 1 (.iconst (-1)) 1 2 := ⟨by decide +kernel, rfl⟩
theorem djX12_isOf_2 : Dj cX12_isOf 2 (.if_icmp .eq 18) 3 5 18 20 := ⟨by decide +kernel, rfl, by decide⟩
theorem dX12_isOf_5 : Dc cX12_isOf 5 (.iload_n 0) 1 6 := ⟨by decide +kernel, rfl⟩
theorem dX12_isOf_6 : Dc cX12_isOf 6 (.bipush 100) 2 8 := ⟨by decide +kernel, rfl⟩
theorem djX12_isOf_8 : Dj cX12_isOf 8 (.if_icmp .ge 12) 3 11 12 20 := ⟨by decide +kernel, rfl, by decide⟩
theorem dX12_isOf_11 : Dc cX12_isOf 11 (.iload_n 1) 1 12 := ⟨by decide +kernel, rfl⟩
theorem dX12_isOf_12 : Dc cX12_isOf 12 (.iload_n 0) 1 13 := ⟨by decide +kernel, rfl⟩
theorem dX12_isOf_13 : Dc cX12_isOf 13 (.ishr) 1 14 := ⟨by decide +kernel, rfl⟩
theorem dX12_isOf_14 : Dc cX12_isOf 14 (.iconst 1) 1 15 := ⟨by decide +kernel, rfl⟩
theorem dX12_isOf_15 : Dc cX12_isOf 15 (.iand) 1 16 := ⟨by decide +kernel, rfl⟩
theorem dX12_isOf_16 : Dc cX12_isOf 16 (.iconst 1) 1 17 := ⟨by decide +kernel, rfl⟩
theorem djX12_isOf_17 : Dj cX12_isOf 17 (.if_icmp .ne 7) 3 20 7 24 := ⟨by decide +kernel, rfl, by decide⟩
theorem dX12_isOf_20 : Dc cX12_isOf 20 (.iconst 1) 1 21 := ⟨by decide +kernel, rfl⟩
theorem djX12_isOf_21 : Dj cX12_isOf 21 (.goto 4) 3 24 4 25 := ⟨by decide +kernel, rfl, by decide⟩
theorem dX12_isOf_24 : Dc cX12_isOf 24 (.iconst 0) 1 25 := ⟨by decide +kernel, rfl⟩
theorem dX12_isOf_25 : Dc cX12_isOf 25 (.ireturn) 1 26 := ⟨by decide +kernel, rfl⟩
section
variable {p : Program} {l : Launch} {e : Env} {s : State} {m : MethodId} {args : Array Value} {below : List Frame} {meth : Method} {c : Code} {A0 : Nat → Prop} {D : va_G} {cA : Nat → ClassId} {ad : Nat → Nat} {Z : (Nat → Nat) × (Nat → Nat)} {Q : Int → St → Prop}
set_option maxHeartbeats 4000000 in
set_option maxRecDepth 100000 in
theorem t_X12_isOf_b20 (E : Ev p s m args meth c cX12_isOf 2 RX12 A0 D cA ad NR Z) (hr : meth.sig.returnType = (some .boolean)) (σ : St) (hσ : CanS shR NR σ) (h : wp_X12_isOf_b20 Q  σ) : G p l e (rmL 1 0 0) s m args below meth c 2 A0 D cA ad shR NR 0 0 (MQ below (QIc D cA ad shR NR Q A0) args s 0 0 A0) σ 20 [none, none] [] := by
  unfold wp_X12_isOf_b20 at h
  refine g_iconst E dX12_isOf_20 ?_
  refine g_goto E djX12_isOf_21 ?_
  exact g_zret E hr (Or.inr rfl) h hσ dX12_isOf_25
set_option maxHeartbeats 4000000 in
set_option maxRecDepth 100000 in
theorem t_X12_isOf (E : Ev p s m args meth c cX12_isOf 2 RX12 A0 D cA ad NR Z) (hr : meth.sig.returnType = (some .boolean)) (x0 : Int) (x1 : Int) (σ : St) (c0 : C32 x0) (c1 : C32 x1) (hσ : CanS shR NR σ) (h : wp_X12_isOf x0 x1 σ Q) : G p l e (rmL 1 0 0) s m args below meth c 2 A0 D cA ad shR NR 0 0 (MQ below (QIc D cA ad shR NR Q A0) args s 0 0 A0) σ 0 [some (vI x0), some (vI x1)] [] := by
  unfold wp_X12_isOf at h
  refine g_iload_0 E dX12_isOf_0 ?_
  refine g_iconst E dX12_isOf_1 ?_
  refine g_icmp_eq E c0 cl_m1 djX12_isOf_2 (fun hc => ?_) (fun hc => ?_)
  · replace h := h.1 hc
    exact (t_X12_isOf_b20 E hr σ hσ h).weak (w_d (w_d w_n))
  · replace h := h.2 hc
    refine g_iload_0 E dX12_isOf_5 ?_
    refine g_bipush E (by decide) dX12_isOf_6 ?_
    refine g_icmp_ge E c0 cl_100 djX12_isOf_8 (fun hc => ?_) (fun hc => ?_)
    · replace h := h.1 hc
      exact (t_X12_isOf_b20 E hr σ hσ h).weak (w_d (w_d w_n))
    · replace h := h.2 hc
      refine g_iload_1 E dX12_isOf_11 ?_
      refine g_iload_0 E dX12_isOf_12 ?_
      refine g_ishr E dX12_isOf_13 ?_
      refine g_iconst E dX12_isOf_14 ?_
      refine g_iand E dX12_isOf_15 ?_
      refine g_iconst E dX12_isOf_16 ?_
      refine g_icmp_ne E (c32_t _) cl_1 djX12_isOf_17 (fun hc => ?_) (fun hc => ?_)
      · replace h := h.1 hc
        refine g_iconst E dX12_isOf_24 ?_
        exact g_zret E hr (Or.inl rfl) h hσ dX12_isOf_25
      · replace h := h.2 hc
        exact (t_X12_isOf_b20 E hr σ hσ h).weak (w_d (w_d w_n))
end
theorem m_X12_isOf {Z : (Nat → Nat) × (Nat → Nat)} {l : Launch} {D : va_G} {cA : Nat → ClassId} {ad : Nat → Nat} {x0 x1 : Int} {σ : St} {Q : Int → St → Prop} (hA : AdOk NR ad) (c0 : C32 x0) (c1 : C32 x1) (hσ : CanS shR NR σ) (h : wp_X12_isOf x0 x1 σ Q) : KtI Z l D cA ad shR NR yX12_isOf cX12_isOf 2 (some .boolean) 1 [vI x0, vI x1] σ Q :=
  KtI.of my_X12_isOf hA [some (vI x0), some (vI x1)] (Nat.le_of_ble_eq_true rfl) rfl (fun p e s m args below meth c A0 E hr => t_X12_isOf E hr x0 x1 σ c0 c1 hσ h)
theorem dX12_alive_0 : Dc cX12_alive 0 (.aload_n 0) 1 1 := ⟨by decide +kernel, rfl⟩
theorem dX12_alive_1 : Dc cX12_alive 1 (.getfield 252) 3 4 := ⟨by decide +kernel, rfl⟩
theorem djX12_alive_4 : Dj cX12_alive 4 (.ifCond .ne 5) 3 7 5 9 := ⟨by decide +kernel, rfl, by decide⟩
theorem dX12_alive_7 : Dc cX12_alive 7 (.lconst 0) 1 8 := ⟨by decide +kernel, rfl⟩
theorem dX12_alive_8 : Dc cX12_alive 8 (.lreturn) 1 9 := ⟨by decide +kernel, rfl⟩
theorem dX12_alive_9 : Dc cX12_alive 9 (.aload_n 0) 1 10 := ⟨by decide +kernel, rfl⟩
theorem dX12_alive_10 : Dc cX12_alive 10 (.aload_n 0) 1 11 := ⟨by decide +kernel, rfl⟩
theorem dX12_alive_11 : Dc cX12_alive 11 (.getfield 255) 3 14 := ⟨by decide +kernel, rfl⟩
theorem dX12_alive_14 : Dc cX12_alive 14 (.putfield 279) 3 17 := ⟨by decide +kernel, rfl⟩
theorem dX12_alive_17 : Dc cX12_alive 17 (.iconst 0) 1 18 := ⟨by decide +kernel, rfl⟩
theorem dX12_alive_18 : Dc cX12_alive 18 (.istore_n 1) 1 19 := ⟨by decide +kernel, rfl⟩
theorem dX12_alive_19 : Dc cX12_alive 19 (.iconst 0) 1 20 := ⟨by decide +kernel, rfl⟩
theorem dX12_alive_20 : Dc cX12_alive 20 (.istore_n 2) 1 21 := ⟨by decide +kernel, rfl⟩
theorem dX12_alive_21 : Dc cX12_alive 21 (.iload_n 2) 1 22 := ⟨by decide +kernel, rfl⟩
theorem dX12_alive_22 : Dc cX12_alive 22 (.bipush 12) 2 24 := ⟨by decide +kernel, rfl⟩
theorem djX12_alive_24 : Dj cX12_alive 24 (.if_icmp .gt 70) 3 27 70 94 := ⟨by decide +kernel, rfl, by decide⟩
theorem dX12_alive_27 : Dc cX12_alive 27 (.iconst 0) 1 28 := ⟨by decide +kernel, rfl⟩
theorem dX12_alive_28 : Dc cX12_alive 28 (.istore_n 3) 1 29 := ⟨by decide +kernel, rfl⟩
theorem dX12_alive_29 : Dc cX12_alive 29 (.iload_n 3) 1 30 := ⟨by decide +kernel, rfl⟩
theorem dX12_alive_30 : Dc cX12_alive 30 (.aload_n 0) 1 31 := ⟨by decide +kernel, rfl⟩
theorem dX12_alive_31 : Dc cX12_alive 31 (.getfield 252) 3 34 := ⟨by decide +kernel, rfl⟩
theorem djX12_alive_34 : Dj cX12_alive 34 (.if_icmp .ge 54) 3 37 54 88 := ⟨by decide +kernel, rfl, by decide⟩
theorem dX12_alive_37 : Dc cX12_alive 37 (.aload_n 0) 1 38 := ⟨by decide +kernel, rfl⟩
theorem dX12_alive_38 : Dc cX12_alive 38 (.iload_n 3) 1 39 := ⟨by decide +kernel, rfl⟩
theorem dX12_alive_39 : Dc cX12_alive 39 (.invokevirtual 298) 3 42 := ⟨by decide +kernel, rfl⟩
theorem djX12_alive_42 : Dj cX12_alive 42 (.ifCond .eq 40) 3 45 40 82 := ⟨by decide +kernel, rfl, by decide⟩
theorem dX12_alive_45 : Dc cX12_alive 45 (.aload_n 0) 1 46 := ⟨by decide +kernel, rfl⟩
theorem dX12_alive_46 : Dc cX12_alive 46 (.getfield 17) 3 49 := ⟨by decide +kernel, rfl⟩
theorem dX12_alive_49 : Dc cX12_alive 49 (.iload_n 3) 1 50 := ⟨by decide +kernel, rfl⟩
theorem dX12_alive_50 : Dc cX12_alive 50 (.iaload) 1 51 := ⟨by decide +kernel, rfl⟩
theorem dX12_alive_51 : Dc cX12_alive 51 (.iload_n 1) 1 52 := ⟨by decide +kernel, rfl⟩
theorem dX12_alive_52 : Dc cX12_alive 52 (.invokestatic 589) 3 55 := ⟨by decide +kernel, rfl⟩
theorem djX12_alive_55 : Dj cX12_alive 55 (.ifCond .eq 27) 3 58 27 82 := ⟨by decide +kernel, rfl, by decide⟩
theorem dX12_alive_58 : Dc cX12_alive 58 (.aload_n 0) 1 59 := ⟨by decide +kernel, rfl⟩
theorem dX12_alive_59 : Dc cX12_alive 59 (.getfield 20) 3 62 := ⟨by decide +kernel, rfl⟩
theorem dX12_alive_62 : Dc cX12_alive 62 (.iload_n 3) 1 63 := ⟨by decide +kernel, rfl⟩
theorem dX12_alive_63 : Dc cX12_alive 63 (.iaload) 1 64 := ⟨by decide +kernel, rfl⟩
theorem dX12_alive_64 : Dc cX12_alive 64 (.iload_n 1) 1 65 := ⟨by decide +kernel, rfl⟩
theorem dX12_alive_65 : Dc cX12_alive 65 (.invokestatic 589) 3 68 := ⟨by decide +kernel, rfl⟩
theorem djX12_alive_68 : Dj cX12_alive 68 (.ifCond .eq 14) 3 71 14 82 := ⟨by decide +kernel, rfl, by decide⟩
theorem dX12_alive_71 : Dc cX12_alive 71 (.iload_n 1) 1 72 := ⟨by decide +kernel, rfl⟩
theorem dX12_alive_72 : Dc cX12_alive 72 (.iconst 1) 1 73 := ⟨by decide +kernel, rfl⟩
theorem dX12_alive_73 : Dc cX12_alive 73 (.aload_n 0) 1 74 := ⟨by decide +kernel, rfl⟩
theorem dX12_alive_74 : Dc cX12_alive 74 (.getfield 13) 3 77 := ⟨by decide +kernel, rfl⟩
theorem dX12_alive_77 : Dc cX12_alive 77 (.iload_n 3) 1 78 := ⟨by decide +kernel, rfl⟩
theorem dX12_alive_78 : Dc cX12_alive 78 (.iaload) 1 79 := ⟨by decide +kernel, rfl⟩
theorem dX12_alive_79 : Dc cX12_alive 79 (.ishl) 1 80 := ⟨by decide +kernel, rfl⟩
theorem dX12_alive_80 : Dc cX12_alive 80 (.ior) 1 81 := ⟨by decide +kernel, rfl⟩
theorem dX12_alive_81 : Dc cX12_alive 81 (.istore_n 1) 1 82 := ⟨by decide +kernel, rfl⟩
theorem dX12_alive_82 : Dc cX12_alive 82 (.iinc 3 1) 3 85 := ⟨by decide +kernel, rfl⟩
theorem djX12_alive_85 : Dj cX12_alive 85 (.goto (-56)) 3 88 (-56) 29 := ⟨by decide +kernel, rfl, by decide⟩
theorem dX12_alive_88 : Dc cX12_alive 88 (.iinc 2 1) 3 91 := ⟨by decide +kernel, rfl⟩
theorem djX12_alive_91 : Dj cX12_alive 91 (.goto (-70)) 3 94 (-70) 21 := ⟨by decide +kernel, rfl, by decide⟩
theorem dX12_alive_94 : Dc cX12_alive 94 (.iload_n 1) 1 95 := ⟨by decide +kernel, rfl⟩
theorem dX12_alive_95 : Dc cX12_alive 95 (.iconst 1) 1 96 := ⟨by decide +kernel, rfl⟩
theorem dX12_alive_96 : Dc cX12_alive 96 (.aload_n 0) 1 97 := ⟨by decide +kernel, rfl⟩
theorem dX12_alive_97 : Dc cX12_alive 97 (.invokevirtual 545) 3 100 := ⟨by decide +kernel, rfl⟩
theorem dX12_alive_100 : Dc cX12_alive 100 (.ishl) 1 101 := ⟨by decide +kernel, rfl⟩
theorem dX12_alive_101 : Dc cX12_alive 101 (.iand) 1 102 := ⟨by decide +kernel, rfl⟩
theorem dX12_alive_102 : Dc cX12_alive 102 (.istore_n 2) 1 103 := ⟨by decide +kernel, rfl⟩
theorem dX12_alive_103 : Dc cX12_alive 103 (.lconst 0) 1 104 := ⟨by decide +kernel, rfl⟩
theorem dX12_alive_104 : Dc cX12_alive 104 (.lstore_n 3) 1 105 := ⟨by decide +kernel, rfl⟩
theorem dX12_alive_105 : Dc cX12_alive 105 (.iconst 0) 1 106 := ⟨by decide +kernel, rfl⟩
theorem dX12_alive_106 : Dc cX12_alive 106 (.istore 5) 2 108 := ⟨by decide +kernel, rfl⟩
theorem dX12_alive_108 : Dc cX12_alive 108 (.iload 5) 2 110 := ⟨by decide +kernel, rfl⟩
theorem dX12_alive_110 : Dc cX12_alive 110 (.bipush 12) 2 112 := ⟨by decide +kernel, rfl⟩
theorem djX12_alive_112 : Dj cX12_alive 112 (.if_icmp .gt 155) 3 115 155 267 := ⟨by decide +kernel, rfl, by decide⟩
theorem dX12_alive_115 : Dc cX12_alive 115 (.iconst 0) 1 116 := ⟨by decide +kernel, rfl⟩
theorem dX12_alive_116 : Dc cX12_alive 116 (.istore 6) 2 118 := ⟨by decide +kernel, rfl⟩
theorem dX12_alive_118 : Dc cX12_alive 118 (.iload 6) 2 120 := ⟨by decide +kernel, rfl⟩
theorem dX12_alive_120 : Dc cX12_alive 120 (.aload_n 0) 1 121 := ⟨by decide +kernel, rfl⟩
theorem dX12_alive_121 : Dc cX12_alive 121 (.getfield 252) 3 124 := ⟨by decide +kernel, rfl⟩
theorem djX12_alive_124 : Dj cX12_alive 124 (.if_icmp .ge 137) 3 127 137 261 := ⟨by decide +kernel, rfl, by decide⟩
theorem dX12_alive_127 : Dc cX12_alive 127 (.aload_n 0) 1 128 := ⟨by decide +kernel, rfl⟩
theorem dX12_alive_128 : Dc cX12_alive 128 (.iload 6) 2 130 := ⟨by decide +kernel, rfl⟩
theorem dX12_alive_130 : Dc cX12_alive 130 (.invokevirtual 298) 3 133 := ⟨by decide +kernel, rfl⟩
theorem djX12_alive_133 : Dj cX12_alive 133 (.ifCond .eq 122) 3 136 122 255 := ⟨by decide +kernel, rfl, by decide⟩
theorem dX12_alive_136 : Dc cX12_alive 136 (.aload_n 0) 1 137 := ⟨by decide +kernel, rfl⟩
theorem dX12_alive_137 : Dc cX12_alive 137 (.getfield 13) 3 140 := ⟨by decide +kernel, rfl⟩
theorem dX12_alive_140 : Dc cX12_alive 140 (.iload 6) 2 142 := ⟨by decide +kernel, rfl⟩
theorem dX12_alive_142 : Dc cX12_alive 142 (.iaload) 1 143 := ⟨by decide +kernel, rfl⟩
theorem dX12_alive_143 : Dc cX12_alive 143 (.iload_n 2) 1 144 := ⟨by decide +kernel, rfl⟩
theorem dX12_alive_144 : Dc cX12_alive 144 (.invokestatic 589) 3 147 := ⟨by decide +kernel, rfl⟩
theorem djX12_alive_147 : Dj cX12_alive 147 (.ifCond .eq 108) 3 150 108 255 := ⟨by decide +kernel, rfl, by decide⟩
theorem dX12_alive_150 : Dc cX12_alive 150 (.aload_n 0) 1 151 := ⟨by decide +kernel, rfl⟩
theorem dX12_alive_151 : Dc cX12_alive 151 (.getfield 17) 3 154 := ⟨by decide +kernel, rfl⟩
theorem dX12_alive_154 : Dc cX12_alive 154 (.iload 6) 2 156 := ⟨by decide +kernel, rfl⟩
theorem dX12_alive_156 : Dc cX12_alive 156 (.iaload) 1 157 := ⟨by decide +kernel, rfl⟩
theorem dX12_alive_157 : Dc cX12_alive 157 (.iload_n 1) 1 158 := ⟨by decide +kernel, rfl⟩
theorem dX12_alive_158 : Dc cX12_alive 158 (.invokestatic 589) 3 161 := ⟨by decide +kernel, rfl⟩
theorem djX12_alive_161 : Dj cX12_alive 161 (.ifCond .eq 94) 3 164 94 255 := ⟨by decide +kernel, rfl, by decide⟩
theorem dX12_alive_164 : Dc cX12_alive 164 (.aload_n 0) 1 165 := ⟨by decide +kernel, rfl⟩
theorem dX12_alive_165 : Dc cX12_alive 165 (.getfield 20) 3 168 := ⟨by decide +kernel, rfl⟩
theorem dX12_alive_168 : Dc cX12_alive 168 (.iload 6) 2 170 := ⟨by decide +kernel, rfl⟩
theorem dX12_alive_170 : Dc cX12_alive 170 (.iaload) 1 171 := ⟨by decide +kernel, rfl⟩
theorem dX12_alive_171 : Dc cX12_alive 171 (.iload_n 1) 1 172 := ⟨by decide +kernel, rfl⟩
theorem dX12_alive_172 : Dc cX12_alive 172 (.invokestatic 589) 3 175 := ⟨by decide +kernel, rfl⟩
theorem djX12_alive_175 : Dj cX12_alive 175 (.ifCond .ne 6) 3 178 6 181 := ⟨by decide +kernel, rfl, by decide⟩
theorem djX12_alive_178 : Dj cX12_alive 178 (.goto 77) 3 181 77 255 := ⟨by decide +kernel, rfl, by decide⟩
theorem dX12_alive_181 : Dc cX12_alive 181 (.lload_n 3) 1 182 := ⟨by decide +kernel, rfl⟩
theorem dX12_alive_182 : Dc cX12_alive 182 (.lconst 1) 1 183 := ⟨by decide +kernel, rfl⟩
theorem dX12_alive_183 : Dc cX12_alive 183 (.iload 6) 2 185 := ⟨by decide +kernel, rfl⟩
theorem dX12_alive_185 : Dc cX12_alive 185 (.lshl) 1 186 := ⟨by decide +kernel, rfl⟩
theorem dX12_alive_186 : Dc cX12_alive 186 (.lor) 1 187 := ⟨by decide +kernel, rfl⟩
theorem dX12_alive_187 : Dc cX12_alive 187 (.lstore_n 3) 1 188 := ⟨by decide +kernel, rfl⟩
theorem dX12_alive_188 : Dc cX12_alive 188 (.iload_n 2) 1 189 := ⟨by decide +kernel, rfl⟩
theorem dX12_alive_189 : Dc cX12_alive 189 (.aload_n 0) 1 190 := ⟨by decide +kernel, rfl⟩
theorem dX12_alive_190 : Dc cX12_alive 190 (.getfield 17) 3 193 := ⟨by decide +kernel, rfl⟩
theorem dX12_alive_193 : Dc cX12_alive 193 (.iload 6) 2 195 := ⟨by decide +kernel, rfl⟩
theorem dX12_alive_195 : Dc cX12_alive 195 (.iaload) 1 196 := ⟨by decide +kernel, rfl⟩
theorem dX12_alive_196 : Dc cX12_alive 196 (.bipush 100) 2 198 := ⟨by decide +kernel, rfl⟩
theorem djX12_alive_198 : Dj cX12_alive 198 (.if_icmp .ge 15) 3 201 15 213 := ⟨by decide +kernel, rfl, by decide⟩
theorem dX12_alive_201 : Dc cX12_alive 201 (.iconst 1) 1 202 := ⟨by decide +kernel, rfl⟩
theorem dX12_alive_202 : Dc cX12_alive 202 (.aload_n 0) 1 203 := ⟨by decide +kernel, rfl⟩
theorem dX12_alive_203 : Dc cX12_alive 203 (.getfield 17) 3 206 := ⟨by decide +kernel, rfl⟩
theorem dX12_alive_206 : Dc cX12_alive 206 (.iload 6) 2 208 := ⟨by decide +kernel, rfl⟩
theorem dX12_alive_208 : Dc cX12_alive 208 (.iaload) 1 209 := ⟨by decide +kernel, rfl⟩
theorem dX12_alive_209 : Dc cX12_alive 209 (.ishl) 1 210 := ⟨by decide +kernel, rfl⟩
theorem djX12_alive_210 : Dj cX12_alive 210 (.goto 4) 3 213 4 214 := ⟨by decide +kernel, rfl, by decide⟩
theorem dX12_alive_213 : Dc cX12_alive 213 (.iconst 0) 1 214 := ⟨by decide +kernel, rfl⟩
theorem dX12_alive_214 : Dc cX12_alive 214 (.ior) 1 215 := ⟨by decide +kernel, rfl⟩
theorem dX12_alive_215 : Dc cX12_alive 215 (.istore_n 2) 1 216 := ⟨by decide +kernel, rfl⟩
theorem dX12_alive_216 : Dc cX12_alive 216 (.iload_n 2) 1 217 := ⟨by decide +kernel, rfl⟩
theorem dX12_alive_217 : Dc cX12_alive 217 (.aload_n 0) 1 218 := ⟨by decide +kernel, rfl⟩
theorem dX12_alive_218 : Dc cX12_alive 218 (.getfield 20) 3 221 := ⟨by decide +kernel, rfl⟩
theorem dX12_alive_221 : Dc cX12_alive 221 (.iload 6) 2 223 := ⟨by decide +kernel, rfl⟩
theorem dX12_alive_223 : Dc cX12_alive 223 (.iaload) 1 224 := ⟨by decide +kernel, rfl⟩
theorem dX12_alive_224 : Dc cX12_alive 224 (.iconst (-1)) 1 225 := ⟨by decide +kernel, rfl⟩
theorem djX12_alive_225 : Dj cX12_alive 225 (.if_icmp .eq 27) 3 228 27 252 := ⟨by decide +kernel, rfl, by decide⟩
theorem dX12_alive_228 : Dc cX12_alive 228 (.aload_n 0) 1 229 := ⟨by decide +kernel, rfl⟩
theorem dX12_alive_229 : Dc cX12_alive 229 (.getfield 20) 3 232 := ⟨by decide +kernel, rfl⟩
theorem dX12_alive_232 : Dc cX12_alive 232 (.iload 6) 2 234 := ⟨by decide +kernel, rfl⟩
theorem dX12_alive_234 : Dc cX12_alive 234 (.iaload) 1 235 := ⟨by decide +kernel, rfl⟩
theorem dX12_alive_235 : Dc cX12_alive 235 (.bipush 100) 2 237 := ⟨by decide +kernel, rfl⟩
theorem djX12_alive_237 : Dj cX12_alive 237 (.if_icmp .ge 15) 3 240 15 252 := ⟨by decide +kernel, rfl, by decide⟩
theorem dX12_alive_240 : Dc cX12_alive 240 (.iconst 1) 1 241 := ⟨by decide +kernel, rfl⟩
theorem dX12_alive_241 : Dc cX12_alive 241 (.aload_n 0) 1 242 := ⟨by decide +kernel, rfl⟩
theorem dX12_alive_242 : Dc cX12_alive 242 (.getfield 20) 3 245 := ⟨by decide +kernel, rfl⟩
theorem dX12_alive_245 : Dc cX12_alive 245 (.iload 6) 2 247 := ⟨by decide +kernel, rfl⟩
theorem dX12_alive_247 : Dc cX12_alive 247 (.iaload) 1 248 := ⟨by decide +kernel, rfl⟩
theorem dX12_alive_248 : Dc cX12_alive 248 (.ishl) 1 249 := ⟨by decide +kernel, rfl⟩
theorem djX12_alive_249 : Dj cX12_alive 249 (.goto 4) 3 252 4 253 := ⟨by decide +kernel, rfl, by decide⟩
theorem dX12_alive_252 : Dc cX12_alive 252 (.iconst 0) 1 253 := ⟨by decide +kernel, rfl⟩
theorem dX12_alive_253 : Dc cX12_alive 253 (.ior) 1 254 := ⟨by decide +kernel, rfl⟩
theorem dX12_alive_254 : Dc cX12_alive 254 (.istore_n 2) 1 255 := ⟨by decide +kernel, rfl⟩
theorem dX12_alive_255 : Dc cX12_alive 255 (.iinc 6 1) 3 258 := ⟨by decide +kernel, rfl⟩
theorem djX12_alive_258 : Dj cX12_alive 258 (.goto (-140)) 3 261 (-140) 118 := ⟨by decide +kernel, rfl, by decide⟩
theorem dX12_alive_261 : Dc cX12_alive 261 (.iinc 5 1) 3 264 := ⟨by decide +kernel, rfl⟩
theorem djX12_alive_264 : Dj cX12_alive 264 (.goto (-156)) 3 267 (-156) 108 := ⟨by decide +kernel, rfl, by decide⟩
theorem dX12_alive_267 : Dc cX12_alive 267 (.lload_n 3) 1 268 := ⟨by decide +kernel, rfl⟩
theorem dX12_alive_268 : Dc cX12_alive 268 (.lreturn) 1 269 := ⟨by decide +kernel, rfl⟩
section
variable {p : Program} {l : Launch} {e : Env} {s : State} {m : MethodId} {args : Array Value} {below : List Frame} {meth : Method} {c : Code} {A0 : Nat → Prop} {D : va_G} {cA : Nat → ClassId} {ad : Nat → Nat} {Z : (Nat → Nat) × (Nat → Nat)} {Q : Int → St → Prop}
set_option maxHeartbeats 4000000 in
set_option maxRecDepth 100000 in
theorem t_X12_alive_b82 (E : Ev p s m args meth c cX12_alive 7 RX12 A0 D cA ad NR Z) (hr : meth.sig.returnType = (some .long)) {K21 : Int → Int → St → Prop} (hK21 : ∀ (x1 : Int) (x2 : Int) (σ : St), C32 x1 → C32 x2 → CanS shR NR σ → K21 x1 x2 σ → G p l e (rmL 2 0 0) s m args below meth c 7 A0 D cA ad shR NR 0 0 (MQ below (QLc D cA ad shR NR Q A0) args s 0 0 A0) σ 21 [some (.ref (ad 0)), some (vI x1), some (vI x2), none, none, none, none] []) {K29 : Int → Int → Int → St → Prop} (hK29 : ∀ (x1 : Int) (x2 : Int) (x3 : Int) (σ : St), C32 x1 → C32 x2 → C32 x3 → CanS shR NR σ → K29 x1 x2 x3 σ → G p l e (rmL 2 0 0) s m args below meth c 7 A0 D cA ad shR NR 0 0 (MQ below (QLc D cA ad shR NR Q A0) args s 0 0 A0) σ 29 [some (.ref (ad 0)), some (vI x1), some (vI x2), some (vI x3), none, none, none] []) (x1 : Int) (x2 : Int) (x3 : Int) (σ : St) (c1 : C32 x1) (c2 : C32 x2) (c3 : C32 x3) (hσ : CanS shR NR σ) (h : wp_X12_alive_b82 Q K21 K29 x1 x2 x3 σ) : G p l e (rmL 2 0 0) s m args below meth c 7 A0 D cA ad shR NR 0 0 (MQ below (QLc D cA ad shR NR Q A0) args s 0 0 A0) σ 82 [some (.ref (ad 0)), some (vI x1), some (vI x2), some (vI x3), none, none, none] [] := by
  unfold wp_X12_alive_b82 at h
  refine g_iinc_3 E rfl (by decide) dX12_alive_82 (fun v23 ev23 => ?_)
  replace h := h v23 ev23
  have cv23 : C32 v23 := by rw [ev23]; exact c32_w _
  refine g_goto E djX12_alive_85 ?_
  exact (hK29 x1 x2 v23 σ c1 c2 cv23 hσ h).weak (w_k (w_k (w_k (w_k (w_d (w_d (w_d w_n)))))))
set_option maxHeartbeats 4000000 in
set_option maxRecDepth 100000 in
theorem t_X12_alive_l29 (E : Ev p s m args meth c cX12_alive 7 RX12 A0 D cA ad NR Z) (hr : meth.sig.returnType = (some .long)) {K21 : Int → Int → St → Prop} (hK21 : ∀ (x1 : Int) (x2 : Int) (σ : St), C32 x1 → C32 x2 → CanS shR NR σ → K21 x1 x2 σ → G p l e (rmL 2 0 0) s m args below meth c 7 A0 D cA ad shR NR 0 0 (MQ below (QLc D cA ad shR NR Q A0) args s 0 0 A0) σ 21 [some (.ref (ad 0)), some (vI x1), some (vI x2), none, none, none, none] []) : ∀ (n : Nat) (x1 : Int) (x2 : Int) (x3 : Int) (σ : St), C32 x1 → C32 x2 → C32 x3 → CanS shR NR σ → wp_X12_alive_l29 Q K21 n x1 x2 x3 σ → G p l e (rmL 2 0 0) s m args below meth c 7 A0 D cA ad shR NR 0 0 (MQ below (QLc D cA ad shR NR Q A0) args s 0 0 A0) σ 29 [some (.ref (ad 0)), some (vI x1), some (vI x2), some (vI x3), none, none, none] [] := by
  intro n
  induction n with
  | zero => intro _ _ _ _ _ _ _ _ h; exact h.elim
  | succ n ih =>
    intro x1 x2 x3 σ c1 c2 c3 hσ h
    unfold wp_X12_alive_l29 at h
    refine g_iload_3 E dX12_alive_29 ?_
    refine g_aload_0 E dX12_alive_30 ?_
    refine g_getI E fl_RX12_252 kR_0 sR_0 rfl dX12_alive_31 ?_
    refine g_icmp_ge E c3 (fR_0_1 hσ) djX12_alive_34 (fun hc => ?_) (fun hc => ?_)
    · replace h := h.1 hc
      refine g_iinc_2 E rfl (by decide) dX12_alive_88 (fun v5 ev5 => ?_)
      replace h := h v5 ev5
      have cv5 : C32 v5 := by rw [ev5]; exact c32_w _
      refine g_goto E djX12_alive_91 ?_
      exact (hK21 x1 v5 σ c1 cv5 hσ h).weak (w_k (w_k (w_k (w_d (w_d (w_d (w_d w_n)))))))
    · replace h := h.2 hc
      refine g_aload_0 E dX12_alive_37 ?_
      refine g_iload_3 E dX12_alive_38 ?_
      refine g_callvI E my_X12_isIn mi_X12_isIn msel_X12_isIn ml_RX12_298 (rm_ok (by decide) (by decide)) ⟨Nat.zero_le _, Nat.zero_le _⟩ kR_0 sR_0 rfl (m_X12_isIn E.2.2.1 c3 hσ h) rfl rfl (Nat.le_of_ble_eq_true rfl) dX12_alive_39 (fun r6 σ7 cr6 hσ7 h => ?_)
      refine g_if_eq E cr6 djX12_alive_42 (fun hc => ?_) (fun hc => ?_)
      · replace h := h.1 hc
        exact (t_X12_alive_b82 E hr hK21 ih x1 x2 x3 σ7 c1 c2 c3 hσ7 h).weak (w_k (w_k (w_k (w_k (w_d (w_d (w_d w_n)))))))
      · replace h := h.2 hc
        refine g_aload_0 E dX12_alive_45 ?_
        refine g_getR E fl_RX12_17 kR_0 sR_0 rfl dX12_alive_46 ?_
        refine g_iload_3 E dX12_alive_49 ?_
        refine g_iald E kR_2 sR_2 (by decide) h.1 dX12_alive_50 ?_
        replace h := h.2
        refine g_iload_1 E dX12_alive_51 ?_
        refine g_callsI E my_X12_isOf ms_X12_isOf ml_RX12_589 (rm_ok (by decide) (by decide)) ⟨Nat.zero_le _, Nat.zero_le _⟩ (m_X12_isOf E.2.2.1 (aR_2 hσ7 _) c1 hσ7 h) rfl rfl (Nat.le_of_ble_eq_true rfl) dX12_alive_52 (fun r8 σ9 cr8 hσ9 h => ?_)
        refine g_if_eq E cr8 djX12_alive_55 (fun hc => ?_) (fun hc => ?_)
        · replace h := h.1 hc
          exact (t_X12_alive_b82 E hr hK21 ih x1 x2 x3 σ9 c1 c2 c3 hσ9 h).weak (w_k (w_k (w_k (w_k (w_d (w_d (w_d w_n)))))))
        · replace h := h.2 hc
          refine g_aload_0 E dX12_alive_58 ?_
          refine g_getR E fl_RX12_20 kR_0 sR_0 rfl dX12_alive_59 ?_
          refine g_iload_3 E dX12_alive_62 ?_
          refine g_iald E kR_3 sR_3 (by decide) h.1 dX12_alive_63 ?_
          replace h := h.2
          refine g_iload_1 E dX12_alive_64 ?_
          refine g_callsI E my_X12_isOf ms_X12_isOf ml_RX12_589 (rm_ok (by decide) (by decide)) ⟨Nat.zero_le _, Nat.zero_le _⟩ (m_X12_isOf E.2.2.1 (aR_3 hσ9 _) c1 hσ9 h) rfl rfl (Nat.le_of_ble_eq_true rfl) dX12_alive_65 (fun r10 σ11 cr10 hσ11 h => ?_)
          refine g_if_eq E cr10 djX12_alive_68 (fun hc => ?_) (fun hc => ?_)
          · replace h := h.1 hc
            exact (t_X12_alive_b82 E hr hK21 ih x1 x2 x3 σ11 c1 c2 c3 hσ11 h).weak (w_k (w_k (w_k (w_k (w_d (w_d (w_d w_n)))))))
          · replace h := h.2 hc
            refine g_iload_1 E dX12_alive_71 ?_
            refine g_iconst E dX12_alive_72 ?_
            refine g_aload_0 E dX12_alive_73 ?_
            refine g_getR E fl_RX12_13 kR_0 sR_0 rfl dX12_alive_74 ?_
            refine g_iload_3 E dX12_alive_77 ?_
            refine g_iald E kR_1 sR_1 (by decide) h.1 dX12_alive_78 ?_
            replace h := h.2
            refine g_ishl E dX12_alive_79 ?_
            refine g_ior E dX12_alive_80 ?_
            refine g_nmI (fun v12 ev12 => ?_)
            replace h := h v12 ev12
            have cv12 : C32 v12 := by rw [ev12]; exact (c32_t _)
            refine g_istore_1 E rfl (by decide) dX12_alive_81 ?_
            exact (t_X12_alive_b82 E hr hK21 ih v12 x2 x3 σ11 cv12 c2 c3 hσ11 h).weak (w_k (w_k (w_k (w_k (w_d (w_d (w_d w_n)))))))
set_option maxHeartbeats 4000000 in
set_option maxRecDepth 100000 in
theorem t_X12_alive_b255 (E : Ev p s m args meth c cX12_alive 7 RX12 A0 D cA ad NR Z) (hr : meth.sig.returnType = (some .long)) {K108 : Int → Int → Int → Int → St → Prop} (hK108 : ∀ (x1 : Int) (x2 : Int) (x3 : Int) (x5 : Int) (σ : St), C32 x1 → C32 x2 → C64 x3 → C32 x5 → CanS shR NR σ → K108 x1 x2 x3 x5 σ → G p l e (rmL 2 0 0) s m args below meth c 7 A0 D cA ad shR NR 0 0 (MQ below (QLc D cA ad shR NR Q A0) args s 0 0 A0) σ 108 [some (.ref (ad 0)), some (vI x1), some (vI x2), some (vL x3), none, some (vI x5), none] []) {K118 : Int → Int → Int → Int → Int → St → Prop} (hK118 : ∀ (x1 : Int) (x2 : Int) (x3 : Int) (x5 : Int) (x6 : Int) (σ : St), C32 x1 → C32 x2 → C64 x3 → C32 x5 → C32 x6 → CanS shR NR σ → K118 x1 x2 x3 x5 x6 σ → G p l e (rmL 2 0 0) s m args below meth c 7 A0 D cA ad shR NR 0 0 (MQ below (QLc D cA ad shR NR Q A0) args s 0 0 A0) σ 118 [some (.ref (ad 0)), some (vI x1), some (vI x2), some (vL x3), none, some (vI x5), some (vI x6)] []) (x1 : Int) (x2 : Int) (x3 : Int) (x5 : Int) (x6 : Int) (σ : St) (c1 : C32 x1) (c2 : C32 x2) (c3 : C64 x3) (c5 : C32 x5) (c6 : C32 x6) (hσ : CanS shR NR σ) (h : wp_X12_alive_b255 Q K108 K118 x1 x2 x3 x5 x6 σ) : G p l e (rmL 2 0 0) s m args below meth c 7 A0 D cA ad shR NR 0 0 (MQ below (QLc D cA ad shR NR Q A0) args s 0 0 A0) σ 255 [some (.ref (ad 0)), some (vI x1), some (vI x2), some (vL x3), none, some (vI x5), some (vI x6)] [] := by
  unfold wp_X12_alive_b255 at h
  refine g_iinc_6 E rfl (by decide) dX12_alive_255 (fun v24 ev24 => ?_)
  replace h := h v24 ev24
  have cv24 : C32 v24 := by rw [ev24]; exact c32_w _
  refine g_goto E djX12_alive_258 ?_
  exact (hK118 x1 x2 x3 x5 v24 σ c1 c2 c3 c5 cv24 hσ h).weak (w_k (w_k (w_k (w_k (w_d (w_k (w_k w_n)))))))
set_option maxHeartbeats 4000000 in
set_option maxRecDepth 100000 in
theorem t_X12_alive_b253 (E : Ev p s m args meth c cX12_alive 7 RX12 A0 D cA ad NR Z) (hr : meth.sig.returnType = (some .long)) {K108 : Int → Int → Int → Int → St → Prop} (hK108 : ∀ (x1 : Int) (x2 : Int) (x3 : Int) (x5 : Int) (σ : St), C32 x1 → C32 x2 → C64 x3 → C32 x5 → CanS shR NR σ → K108 x1 x2 x3 x5 σ → G p l e (rmL 2 0 0) s m args below meth c 7 A0 D cA ad shR NR 0 0 (MQ below (QLc D cA ad shR NR Q A0) args s 0 0 A0) σ 108 [some (.ref (ad 0)), some (vI x1), some (vI x2), some (vL x3), none, some (vI x5), none] []) {K118 : Int → Int → Int → Int → Int → St → Prop} (hK118 : ∀ (x1 : Int) (x2 : Int) (x3 : Int) (x5 : Int) (x6 : Int) (σ : St), C32 x1 → C32 x2 → C64 x3 → C32 x5 → C32 x6 → CanS shR NR σ → K118 x1 x2 x3 x5 x6 σ → G p l e (rmL 2 0 0) s m args below meth c 7 A0 D cA ad shR NR 0 0 (MQ below (QLc D cA ad shR NR Q A0) args s 0 0 A0) σ 118 [some (.ref (ad 0)), some (vI x1), some (vI x2), some (vL x3), none, some (vI x5), some (vI x6)] []) (x1 : Int) (x3 : Int) (x5 : Int) (x6 : Int) (s0 : Int) (s1 : Int) (σ : St) (c1 : C32 x1) (c3 : C64 x3) (c5 : C32 x5) (c6 : C32 x6) (cs0 : C32 s0) (cs1 : C32 s1) (hσ : CanS shR NR σ) (h : wp_X12_alive_b253 Q K108 K118 x1 x3 x5 x6 s0 s1 σ) : G p l e (rmL 2 0 0) s m args below meth c 7 A0 D cA ad shR NR 0 0 (MQ below (QLc D cA ad shR NR Q A0) args s 0 0 A0) σ 253 [some (.ref (ad 0)), some (vI x1), none, some (vL x3), none, some (vI x5), some (vI x6)] [vI s0, vI s1] := by
  unfold wp_X12_alive_b253 at h
  refine g_ior E dX12_alive_253 ?_
  refine g_nmI (fun v26 ev26 => ?_)
  replace h := h v26 ev26
  have cv26 : C32 v26 := by rw [ev26]; exact (c32_t _)
  refine g_istore_2 E rfl (by decide) dX12_alive_254 ?_
  exact (t_X12_alive_b255 E hr hK108 hK118 x1 v26 x3 x5 x6 σ c1 cv26 c3 c5 c6 hσ h).weak (w_k (w_k (w_k (w_k (w_d (w_k (w_k w_n)))))))
set_option maxHeartbeats 4000000 in
set_option maxRecDepth 100000 in
theorem t_X12_alive_b252 (E : Ev p s m args meth c cX12_alive 7 RX12 A0 D cA ad NR Z) (hr : meth.sig.returnType = (some .long)) {K108 : Int → Int → Int → Int → St → Prop} (hK108 : ∀ (x1 : Int) (x2 : Int) (x3 : Int) (x5 : Int) (σ : St), C32 x1 → C32 x2 → C64 x3 → C32 x5 → CanS shR NR σ → K108 x1 x2 x3 x5 σ → G p l e (rmL 2 0 0) s m args below meth c 7 A0 D cA ad shR NR 0 0 (MQ below (QLc D cA ad shR NR Q A0) args s 0 0 A0) σ 108 [some (.ref (ad 0)), some (vI x1), some (vI x2), some (vL x3), none, some (vI x5), none] []) {K118 : Int → Int → Int → Int → Int → St → Prop} (hK118 : ∀ (x1 : Int) (x2 : Int) (x3 : Int) (x5 : Int) (x6 : Int) (σ : St), C32 x1 → C32 x2 → C64 x3 → C32 x5 → C32 x6 → CanS shR NR σ → K118 x1 x2 x3 x5 x6 σ → G p l e (rmL 2 0 0) s m args below meth c 7 A0 D cA ad shR NR 0 0 (MQ below (QLc D cA ad shR NR Q A0) args s 0 0 A0) σ 118 [some (.ref (ad 0)), some (vI x1), some (vI x2), some (vL x3), none, some (vI x5), some (vI x6)] []) (x1 : Int) (x3 : Int) (x5 : Int) (x6 : Int) (s0 : Int) (σ : St) (c1 : C32 x1) (c3 : C64 x3) (c5 : C32 x5) (c6 : C32 x6) (cs0 : C32 s0) (hσ : CanS shR NR σ) (h : wp_X12_alive_b252 Q K108 K118 x1 x3 x5 x6 s0 σ) : G p l e (rmL 2 0 0) s m args below meth c 7 A0 D cA ad shR NR 0 0 (MQ below (QLc D cA ad shR NR Q A0) args s 0 0 A0) σ 252 [some (.ref (ad 0)), some (vI x1), none, some (vL x3), none, some (vI x5), some (vI x6)] [vI s0] := by
  unfold wp_X12_alive_b252 at h
  refine g_iconst E dX12_alive_252 ?_
  exact (t_X12_alive_b253 E hr hK108 hK118 x1 x3 x5 x6 0 s0 σ c1 c3 c5 c6 cl_0 cs0 hσ h).weak (w_k (w_k (w_d (w_k (w_d (w_k (w_k w_n)))))))
set_option maxHeartbeats 4000000 in
set_option maxRecDepth 100000 in
theorem t_X12_alive_b214 (E : Ev p s m args meth c cX12_alive 7 RX12 A0 D cA ad NR Z) (hr : meth.sig.returnType = (some .long)) {K108 : Int → Int → Int → Int → St → Prop} (hK108 : ∀ (x1 : Int) (x2 : Int) (x3 : Int) (x5 : Int) (σ : St), C32 x1 → C32 x2 → C64 x3 → C32 x5 → CanS shR NR σ → K108 x1 x2 x3 x5 σ → G p l e (rmL 2 0 0) s m args below meth c 7 A0 D cA ad shR NR 0 0 (MQ below (QLc D cA ad shR NR Q A0) args s 0 0 A0) σ 108 [some (.ref (ad 0)), some (vI x1), some (vI x2), some (vL x3), none, some (vI x5), none] []) {K118 : Int → Int → Int → Int → Int → St → Prop} (hK118 : ∀ (x1 : Int) (x2 : Int) (x3 : Int) (x5 : Int) (x6 : Int) (σ : St), C32 x1 → C32 x2 → C64 x3 → C32 x5 → C32 x6 → CanS shR NR σ → K118 x1 x2 x3 x5 x6 σ → G p l e (rmL 2 0 0) s m args below meth c 7 A0 D cA ad shR NR 0 0 (MQ below (QLc D cA ad shR NR Q A0) args s 0 0 A0) σ 118 [some (.ref (ad 0)), some (vI x1), some (vI x2), some (vL x3), none, some (vI x5), some (vI x6)] []) (x1 : Int) (x3 : Int) (x5 : Int) (x6 : Int) (s0 : Int) (s1 : Int) (σ : St) (c1 : C32 x1) (c3 : C64 x3) (c5 : C32 x5) (c6 : C32 x6) (cs0 : C32 s0) (cs1 : C32 s1) (hσ : CanS shR NR σ) (h : wp_X12_alive_b214 Q K108 K118 x1 x3 x5 x6 s0 s1 σ) : G p l e (rmL 2 0 0) s m args below meth c 7 A0 D cA ad shR NR 0 0 (MQ below (QLc D cA ad shR NR Q A0) args s 0 0 A0) σ 214 [some (.ref (ad 0)), some (vI x1), none, some (vL x3), none, some (vI x5), some (vI x6)] [vI s0, vI s1] := by
  unfold wp_X12_alive_b214 at h
  refine g_ior E dX12_alive_214 ?_
  refine g_nmI (fun v25 ev25 => ?_)
  replace h := h v25 ev25
  have cv25 : C32 v25 := by rw [ev25]; exact (c32_t _)
  refine g_istore_2 E rfl (by decide) dX12_alive_215 ?_
  refine g_iload_2 E dX12_alive_216 ?_
  refine g_aload_0 E dX12_alive_217 ?_
  refine g_getR E fl_RX12_20 kR_0 sR_0 rfl dX12_alive_218 ?_
  refine g_iload_6 E dX12_alive_221 ?_
  refine g_iald E kR_3 sR_3 (by decide) h.1 dX12_alive_223 ?_
  replace h := h.2
  refine g_iconst E dX12_alive_224 ?_
  refine g_icmp_eq E (aR_3 hσ _) cl_m1 djX12_alive_225 (fun hc => ?_) (fun hc => ?_)
  · replace h := h.1 hc
    exact (t_X12_alive_b252 E hr hK108 hK118 x1 x3 x5 x6 v25 σ c1 c3 c5 c6 cv25 hσ h).weak (w_k (w_k (w_d (w_k (w_d (w_k (w_k w_n)))))))
  · replace h := h.2 hc
    refine g_aload_0 E dX12_alive_228 ?_
    refine g_getR E fl_RX12_20 kR_0 sR_0 rfl dX12_alive_229 ?_
    refine g_iload_6 E dX12_alive_232 ?_
    refine g_iald E kR_3 sR_3 (by decide) h.1 dX12_alive_234 ?_
    replace h := h.2
    refine g_bipush E (by decide) dX12_alive_235 ?_
    refine g_icmp_ge E (aR_3 hσ _) cl_100 djX12_alive_237 (fun hc => ?_) (fun hc => ?_)
    · replace h := h.1 hc
      exact (t_X12_alive_b252 E hr hK108 hK118 x1 x3 x5 x6 v25 σ c1 c3 c5 c6 cv25 hσ h).weak (w_k (w_k (w_d (w_k (w_d (w_k (w_k w_n)))))))
    · replace h := h.2 hc
      refine g_iconst E dX12_alive_240 ?_
      refine g_aload_0 E dX12_alive_241 ?_
      refine g_getR E fl_RX12_20 kR_0 sR_0 rfl dX12_alive_242 ?_
      refine g_iload_6 E dX12_alive_245 ?_
      refine g_iald E kR_3 sR_3 (by decide) h.1 dX12_alive_247 ?_
      replace h := h.2
      refine g_ishl E dX12_alive_248 ?_
      refine g_goto E djX12_alive_249 ?_
      exact (t_X12_alive_b253 E hr hK108 hK118 x1 x3 x5 x6 (b_shl 1 (σ 3 (x6.toNat))) v25 σ c1 c3 c5 c6 (c32_t _) cv25 hσ h).weak (w_k (w_k (w_d (w_k (w_d (w_k (w_k w_n)))))))
set_option maxHeartbeats 4000000 in
set_option maxRecDepth 100000 in
theorem t_X12_alive_l118 (E : Ev p s m args meth c cX12_alive 7 RX12 A0 D cA ad NR Z) (hr : meth.sig.returnType = (some .long)) {K108 : Int → Int → Int → Int → St → Prop} (hK108 : ∀ (x1 : Int) (x2 : Int) (x3 : Int) (x5 : Int) (σ : St), C32 x1 → C32 x2 → C64 x3 → C32 x5 → CanS shR NR σ → K108 x1 x2 x3 x5 σ → G p l e (rmL 2 0 0) s m args below meth c 7 A0 D cA ad shR NR 0 0 (MQ below (QLc D cA ad shR NR Q A0) args s 0 0 A0) σ 108 [some (.ref (ad 0)), some (vI x1), some (vI x2), some (vL x3), none, some (vI x5), none] []) : ∀ (n : Nat) (x1 : Int) (x2 : Int) (x3 : Int) (x5 : Int) (x6 : Int) (σ : St), C32 x1 → C32 x2 → C64 x3 → C32 x5 → C32 x6 → CanS shR NR σ → wp_X12_alive_l118 Q K108 n x1 x2 x3 x5 x6 σ → G p l e (rmL 2 0 0) s m args below meth c 7 A0 D cA ad shR NR 0 0 (MQ below (QLc D cA ad shR NR Q A0) args s 0 0 A0) σ 118 [some (.ref (ad 0)), some (vI x1), some (vI x2), some (vL x3), none, some (vI x5), some (vI x6)] [] := by
  intro n
  induction n with
  | zero => intro _ _ _ _ _ _ _ _ _ _ _ _ h; exact h.elim
  | succ n ih =>
    intro x1 x2 x3 x5 x6 σ c1 c2 c3 c5 c6 hσ h
    unfold wp_X12_alive_l118 at h
    refine g_iload_6 E dX12_alive_118 ?_
    refine g_aload_0 E dX12_alive_120 ?_
    refine g_getI E fl_RX12_252 kR_0 sR_0 rfl dX12_alive_121 ?_
    refine g_icmp_ge E c6 (fR_0_1 hσ) djX12_alive_124 (fun hc => ?_) (fun hc => ?_)
    · replace h := h.1 hc
      refine g_iinc_5 E rfl (by decide) dX12_alive_261 (fun v13 ev13 => ?_)
      replace h := h v13 ev13
      have cv13 : C32 v13 := by rw [ev13]; exact c32_w _
      refine g_goto E djX12_alive_264 ?_
      exact (hK108 x1 x2 x3 v13 σ c1 c2 c3 cv13 hσ h).weak (w_k (w_k (w_k (w_k (w_d (w_k (w_d w_n)))))))
    · replace h := h.2 hc
      refine g_aload_0 E dX12_alive_127 ?_
      refine g_iload_6 E dX12_alive_128 ?_
      refine g_callvI E my_X12_isIn mi_X12_isIn msel_X12_isIn ml_RX12_298 (rm_ok (by decide) (by decide)) ⟨Nat.zero_le _, Nat.zero_le _⟩ kR_0 sR_0 rfl (m_X12_isIn E.2.2.1 c6 hσ h) rfl rfl (Nat.le_of_ble_eq_true rfl) dX12_alive_130 (fun r14 σ15 cr14 hσ15 h => ?_)
      refine g_if_eq E cr14 djX12_alive_133 (fun hc => ?_) (fun hc => ?_)
      · replace h := h.1 hc
        exact (t_X12_alive_b255 E hr hK108 ih x1 x2 x3 x5 x6 σ15 c1 c2 c3 c5 c6 hσ15 h).weak (w_k (w_k (w_k (w_k (w_d (w_k (w_k w_n)))))))
      · replace h := h.2 hc
        refine g_aload_0 E dX12_alive_136 ?_
        refine g_getR E fl_RX12_13 kR_0 sR_0 rfl dX12_alive_137 ?_
        refine g_iload_6 E dX12_alive_140 ?_
        refine g_iald E kR_1 sR_1 (by decide) h.1 dX12_alive_142 ?_
        replace h := h.2
        refine g_iload_2 E dX12_alive_143 ?_
        refine g_callsI E my_X12_isOf ms_X12_isOf ml_RX12_589 (rm_ok (by decide) (by decide)) ⟨Nat.zero_le _, Nat.zero_le _⟩ (m_X12_isOf E.2.2.1 (aR_1 hσ15 _) c2 hσ15 h) rfl rfl (Nat.le_of_ble_eq_true rfl) dX12_alive_144 (fun r16 σ17 cr16 hσ17 h => ?_)
        refine g_if_eq E cr16 djX12_alive_147 (fun hc => ?_) (fun hc => ?_)
        · replace h := h.1 hc
          exact (t_X12_alive_b255 E hr hK108 ih x1 x2 x3 x5 x6 σ17 c1 c2 c3 c5 c6 hσ17 h).weak (w_k (w_k (w_k (w_k (w_d (w_k (w_k w_n)))))))
        · replace h := h.2 hc
          refine g_aload_0 E dX12_alive_150 ?_
          refine g_getR E fl_RX12_17 kR_0 sR_0 rfl dX12_alive_151 ?_
          refine g_iload_6 E dX12_alive_154 ?_
          refine g_iald E kR_2 sR_2 (by decide) h.1 dX12_alive_156 ?_
          replace h := h.2
          refine g_iload_1 E dX12_alive_157 ?_
          refine g_callsI E my_X12_isOf ms_X12_isOf ml_RX12_589 (rm_ok (by decide) (by decide)) ⟨Nat.zero_le _, Nat.zero_le _⟩ (m_X12_isOf E.2.2.1 (aR_2 hσ17 _) c1 hσ17 h) rfl rfl (Nat.le_of_ble_eq_true rfl) dX12_alive_158 (fun r18 σ19 cr18 hσ19 h => ?_)
          refine g_if_eq E cr18 djX12_alive_161 (fun hc => ?_) (fun hc => ?_)
          · replace h := h.1 hc
            exact (t_X12_alive_b255 E hr hK108 ih x1 x2 x3 x5 x6 σ19 c1 c2 c3 c5 c6 hσ19 h).weak (w_k (w_k (w_k (w_k (w_d (w_k (w_k w_n)))))))
          · replace h := h.2 hc
            refine g_aload_0 E dX12_alive_164 ?_
            refine g_getR E fl_RX12_20 kR_0 sR_0 rfl dX12_alive_165 ?_
            refine g_iload_6 E dX12_alive_168 ?_
            refine g_iald E kR_3 sR_3 (by decide) h.1 dX12_alive_170 ?_
            replace h := h.2
            refine g_iload_1 E dX12_alive_171 ?_
            refine g_callsI E my_X12_isOf ms_X12_isOf ml_RX12_589 (rm_ok (by decide) (by decide)) ⟨Nat.zero_le _, Nat.zero_le _⟩ (m_X12_isOf E.2.2.1 (aR_3 hσ19 _) c1 hσ19 h) rfl rfl (Nat.le_of_ble_eq_true rfl) dX12_alive_172 (fun r20 σ21 cr20 hσ21 h => ?_)
            refine g_if_ne E cr20 djX12_alive_175 (fun hc => ?_) (fun hc => ?_)
            · replace h := h.1 hc
              refine g_lload_3 E dX12_alive_181 ?_
              refine g_lconst (n := 1) E (by decide) dX12_alive_182 ?_
              refine g_iload_6 E dX12_alive_183 ?_
              refine g_lshl E dX12_alive_185 ?_
              refine g_lor E dX12_alive_186 ?_
              refine g_nmL (fun v22 ev22 => ?_)
              replace h := h v22 ev22
              have cv22 : C64 v22 := by rw [ev22]; exact (c64_t _)
              refine g_lstore_3 E rfl (by decide) dX12_alive_187 ?_
              refine g_iload_2 E dX12_alive_188 ?_
              refine g_aload_0 E dX12_alive_189 ?_
              refine g_getR E fl_RX12_17 kR_0 sR_0 rfl dX12_alive_190 ?_
              refine g_iload_6 E dX12_alive_193 ?_
              refine g_iald E kR_2 sR_2 (by decide) h.1 dX12_alive_195 ?_
              replace h := h.2
              refine g_bipush E (by decide) dX12_alive_196 ?_
              refine g_icmp_ge E (aR_2 hσ21 _) cl_100 djX12_alive_198 (fun hc => ?_) (fun hc => ?_)
              · replace h := h.1 hc
                refine g_iconst E dX12_alive_213 ?_
                exact (t_X12_alive_b214 E hr hK108 ih x1 v22 x5 x6 0 x2 σ21 c1 cv22 c5 c6 cl_0 c2 hσ21 h).weak (w_k (w_k (w_d (w_k (w_d (w_k (w_k w_n)))))))
              · replace h := h.2 hc
                refine g_iconst E dX12_alive_201 ?_
                refine g_aload_0 E dX12_alive_202 ?_
                refine g_getR E fl_RX12_17 kR_0 sR_0 rfl dX12_alive_203 ?_
                refine g_iload_6 E dX12_alive_206 ?_
                refine g_iald E kR_2 sR_2 (by decide) h.1 dX12_alive_208 ?_
                replace h := h.2
                refine g_ishl E dX12_alive_209 ?_
                refine g_goto E djX12_alive_210 ?_
                exact (t_X12_alive_b214 E hr hK108 ih x1 v22 x5 x6 (b_shl 1 (σ21 2 (x6.toNat))) x2 σ21 c1 cv22 c5 c6 (c32_t _) c2 hσ21 h).weak (w_k (w_k (w_d (w_k (w_d (w_k (w_k w_n)))))))
            · replace h := h.2 hc
              refine g_goto E djX12_alive_178 ?_
              exact (t_X12_alive_b255 E hr hK108 ih x1 x2 x3 x5 x6 σ21 c1 c2 c3 c5 c6 hσ21 h).weak (w_k (w_k (w_k (w_k (w_d (w_k (w_k w_n)))))))
set_option maxHeartbeats 4000000 in
set_option maxRecDepth 100000 in
theorem t_X12_alive_l108 (E : Ev p s m args meth c cX12_alive 7 RX12 A0 D cA ad NR Z) (hr : meth.sig.returnType = (some .long)) : ∀ (n : Nat) (x1 : Int) (x2 : Int) (x3 : Int) (x5 : Int) (σ : St), C32 x1 → C32 x2 → C64 x3 → C32 x5 → CanS shR NR σ → wp_X12_alive_l108 Q n x1 x2 x3 x5 σ → G p l e (rmL 2 0 0) s m args below meth c 7 A0 D cA ad shR NR 0 0 (MQ below (QLc D cA ad shR NR Q A0) args s 0 0 A0) σ 108 [some (.ref (ad 0)), some (vI x1), some (vI x2), some (vL x3), none, some (vI x5), none] [] := by
  intro n
  induction n with
  | zero => intro _ _ _ _ _ _ _ _ _ _ h; exact h.elim
  | succ n ih =>
    intro x1 x2 x3 x5 σ c1 c2 c3 c5 hσ h
    unfold wp_X12_alive_l108 at h
    refine g_iload_5 E dX12_alive_108 ?_
    refine g_bipush E (by decide) dX12_alive_110 ?_
    refine g_icmp_gt E c5 cl_12 djX12_alive_112 (fun hc => ?_) (fun hc => ?_)
    · replace h := h.1 hc
      refine g_lload_3 E dX12_alive_267 ?_
      exact g_lret E hr c3 h hσ dX12_alive_268
    · replace h := h.2 hc
      refine g_iconst E dX12_alive_115 ?_
      refine g_istore_6 E rfl (by decide) dX12_alive_116 ?_
      exact (t_X12_alive_l118 E hr ih bigN x1 x2 x3 x5 0 σ c1 c2 c3 c5 cl_0 hσ h).weak (w_k (w_k (w_k (w_k (w_d (w_k (w_k w_n)))))))
set_option maxHeartbeats 4000000 in
set_option maxRecDepth 100000 in
theorem t_X12_alive_l21 (E : Ev p s m args meth c cX12_alive 7 RX12 A0 D cA ad NR Z) (hr : meth.sig.returnType = (some .long)) : ∀ (n : Nat) (x1 : Int) (x2 : Int) (σ : St), C32 x1 → C32 x2 → CanS shR NR σ → wp_X12_alive_l21 Q n x1 x2 σ → G p l e (rmL 2 0 0) s m args below meth c 7 A0 D cA ad shR NR 0 0 (MQ below (QLc D cA ad shR NR Q A0) args s 0 0 A0) σ 21 [some (.ref (ad 0)), some (vI x1), some (vI x2), none, none, none, none] [] := by
  intro n
  induction n with
  | zero => intro _ _ _ _ _ _ h; exact h.elim
  | succ n ih =>
    intro x1 x2 σ c1 c2 hσ h
    unfold wp_X12_alive_l21 at h
    refine g_iload_2 E dX12_alive_21 ?_
    refine g_bipush E (by decide) dX12_alive_22 ?_
    refine g_icmp_gt E c2 cl_12 djX12_alive_24 (fun hc => ?_) (fun hc => ?_)
    · replace h := h.1 hc
      refine g_iload_1 E dX12_alive_94 ?_
      refine g_iconst E dX12_alive_95 ?_
      refine g_aload_0 E dX12_alive_96 ?_
      refine g_callvI E my_X12_start mi_X12_start msel_X12_start ml_RX12_545 (rm_ok (by decide) (by decide)) ⟨Nat.zero_le _, Nat.zero_le _⟩ kR_0 sR_0 rfl (m_X12_start E.2.2.1 hσ h) rfl rfl (Nat.le_of_ble_eq_true rfl) dX12_alive_97 (fun r2 σ3 cr2 hσ3 h => ?_)
      refine g_ishl E dX12_alive_100 ?_
      refine g_iand E dX12_alive_101 ?_
      refine g_nmI (fun v4 ev4 => ?_)
      replace h := h v4 ev4
      have cv4 : C32 v4 := by rw [ev4]; exact (c32_t _)
      refine g_istore_2 E rfl (by decide) dX12_alive_102 ?_
      refine g_lconst (n := 0) E (by decide) dX12_alive_103 ?_
      refine g_lstore_3 E rfl (by decide) dX12_alive_104 ?_
      refine g_iconst E dX12_alive_105 ?_
      refine g_istore_5 E rfl (by decide) dX12_alive_106 ?_
      exact (t_X12_alive_l108 E hr bigN x1 v4 0 0 σ3 c1 cv4 cL_0 cl_0 hσ3 h).weak (w_k (w_k (w_k (w_k (w_d (w_k (w_d w_n)))))))
    · replace h := h.2 hc
      refine g_iconst E dX12_alive_27 ?_
      refine g_istore_3 E rfl (by decide) dX12_alive_28 ?_
      exact (t_X12_alive_l29 E hr ih bigN x1 x2 0 σ c1 c2 cl_0 hσ h).weak (w_k (w_k (w_k (w_k (w_d (w_d (w_d w_n)))))))
set_option maxHeartbeats 4000000 in
set_option maxRecDepth 100000 in
theorem t_X12_alive (E : Ev p s m args meth c cX12_alive 7 RX12 A0 D cA ad NR Z) (hr : meth.sig.returnType = (some .long)) (σ : St) (hσ : CanS shR NR σ) (h : wp_X12_alive  σ Q) : G p l e (rmL 2 0 0) s m args below meth c 7 A0 D cA ad shR NR 0 0 (MQ below (QLc D cA ad shR NR Q A0) args s 0 0 A0) σ 0 [some (.ref (ad 0)), none, none, none, none, none, none] [] := by
  unfold wp_X12_alive at h
  refine g_aload_0 E dX12_alive_0 ?_
  refine g_getI E fl_RX12_252 kR_0 sR_0 rfl dX12_alive_1 ?_
  refine g_if_ne E (fR_0_1 hσ) djX12_alive_4 (fun hc => ?_) (fun hc => ?_)
  · replace h := h.1 hc
    refine g_aload_0 E dX12_alive_9 ?_
    refine g_aload_0 E dX12_alive_10 ?_
    refine g_getL E fl_RX12_255 kR_0 sR_0 rfl dX12_alive_11 ?_
    refine g_putL E fl_RX12_279 rfl rfl kR_0 sR_0 rfl dX12_alive_14 (g_nmS (fun σ1 eσ1 => ?_))
    replace h := h σ1 eσ1
    have hσ1 : CanS shR NR σ1 := by rw [eσ1]; exact uR_0_28 hσ (fR_0_2 hσ)
    refine g_iconst E dX12_alive_17 ?_
    refine g_istore_1 E rfl (by decide) dX12_alive_18 ?_
    refine g_iconst E dX12_alive_19 ?_
    refine g_istore_2 E rfl (by decide) dX12_alive_20 ?_
    exact (t_X12_alive_l21 E hr bigN 0 0 σ1 cl_0 cl_0 hσ1 h).weak (w_k (w_k (w_k (w_d (w_d (w_d (w_d w_n)))))))
  · replace h := h.2 hc
    refine g_lconst (n := 0) E (by decide) dX12_alive_7 ?_
    exact g_lret E hr cL_0 h hσ dX12_alive_8
end
theorem m_X12_alive {Z : (Nat → Nat) × (Nat → Nat)} {l : Launch} {D : va_G} {cA : Nat → ClassId} {ad : Nat → Nat} {σ : St} {Q : Int → St → Prop} (hA : AdOk NR ad) (hσ : CanS shR NR σ) (h : wp_X12_alive  σ Q) : KtL Z l D cA ad shR NR yX12_alive cX12_alive 7 (some .long) 2 [.ref (ad 0)] σ Q :=
  KtL.of my_X12_alive hA [some (.ref (ad 0)), none, none, none, none, none, none] (Nat.le_of_ble_eq_true rfl) rfl (fun p e s m args below meth c A0 E hr => t_X12_alive E hr σ hσ h)
