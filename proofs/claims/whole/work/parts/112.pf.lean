section
variable {p : Program} {l : Launch} {e : Env} {s : State} {m : MethodId} {args : Array Value} {below : List Frame} {meth : Method} {c : Code} {A0 : Nat → Prop} {D : va_G} {cA : Nat → ClassId} {ad : Nat → Nat} {Z : (Nat → Nat) × (Nat → Nat)} {Q : Int → St → Prop}
set_option maxHeartbeats 4000000 in
set_option maxRecDepth 100000 in
theorem t_X12_takesWord_s12_b13 (E : Ev p s m args meth c cX12_takesWord 2 RX12 A0 D cA ad NR Z) (hr : meth.sig.returnType = none) (σ : St) (hσ : CanS shR NR σ) (h : wp_X12_takesWord_s12_b13 Q  σ) : G p l e (rmL 7 0 0) s m args below meth c 2 A0 D cA ad shR NR 0 0 (MQ below (QVc D cA ad shR NR Q A0) args s 0 0 A0) σ 13 [some (.ref (ad 0)), none] [] := by
  unfold wp_X12_takesWord_s12_b13 at h
  refine g_aload_0 E dX12_takesWord_13 ?_
  refine g_callvI E my_X12_good mi_X12_good msel_X12_good ml_RX12_192 (rm_ok (by decide) (by decide)) ⟨Nat.zero_le _, Nat.zero_le _⟩ kR_0 sR_0 rfl (m_X12_good E.2.2.1 hσ h) rfl rfl (Nat.le_of_ble_eq_true rfl) dX12_takesWord_14 (fun r5 σ6 cr5 hσ6 h => ?_)
  refine g_if_eq E cr5 djX12_takesWord_17 (fun hc => ?_) (fun hc => ?_)
  · replace h := h.1 hc
    exact g_vret E hr h hσ6 dX12_takesWord_24
  · replace h := h.2 hc
    refine g_aload_0 E dX12_takesWord_20 ?_
    refine g_callvV E my_X12_advance mi_X12_advance msel_X12_advance ml_RX12_213 (rm_ok (by decide) (by decide)) ⟨Nat.zero_le _, Nat.zero_le _⟩ kR_0 sR_0 rfl (m_X12_advance E.2.2.1 hσ6 h) rfl rfl (Nat.le_of_ble_eq_true rfl) dX12_takesWord_21 (fun σ8 r7 hσ8 h => ?_)
    exact g_vret E hr h hσ8 dX12_takesWord_24
set_option maxHeartbeats 4000000 in
set_option maxRecDepth 100000 in
theorem t_X12_takesWord_s12 (E : Ev p s m args meth c cX12_takesWord 2 RX12 A0 D cA ad NR Z) (hr : meth.sig.returnType = none) (σ : St) (hσ : CanS shR NR σ) (h : wp_X12_takesWord_s12  σ Q) : G p l e (rmL 7 0 0) s m args below meth c 2 A0 D cA ad shR NR 0 0 (MQ below (QVc D cA ad shR NR Q A0) args s 0 0 A0) σ 0 [some (.ref (ad 0)), some (.ref (Z.1 12))] [] := by
  unfold wp_X12_takesWord_s12 at h
  refine g_aload_0 E dX12_takesWord_0 ?_
  refine g_aload_1 E dX12_takesWord_1 ?_
  refine g_callvI E my_X12_is mi_X12_is msel_X12_is ml_RX12_205 (rm_ok (by decide) (by decide)) ⟨Nat.zero_le _, Nat.zero_le _⟩ kR_0 sR_0 rfl (m_X12_is_s12 E.2.2.1 hσ h) rfl rfl (Nat.le_of_ble_eq_true rfl) dX12_takesWord_2 (fun r1 σ2 cr1 hσ2 h => ?_)
  refine g_if_ne E cr1 djX12_takesWord_5 (fun hc => ?_) (fun hc => ?_)
  · replace h := h.1 hc
    exact (t_X12_takesWord_s12_b13 E hr σ2 hσ2 h).weak (w_k (w_d w_n))
  · replace h := h.2 hc
    refine g_aload_0 E dX12_takesWord_8 ?_
    refine g_iconst E dX12_takesWord_9 ?_
    refine g_callvV E my_X12_errs mi_X12_errs msel_X12_errs ml_RX12_209 (rm_ok (by decide) (by decide)) ⟨Nat.zero_le _, Nat.zero_le _⟩ kR_0 sR_0 rfl (m_X12_errs E.2.2.1 cl_1 hσ2 h) rfl rfl (Nat.le_of_ble_eq_true rfl) dX12_takesWord_10 (fun σ4 r3 hσ4 h => ?_)
    exact (t_X12_takesWord_s12_b13 E hr σ4 hσ4 h).weak (w_k (w_d w_n))
end
theorem m_X12_takesWord_s12 {Z : (Nat → Nat) × (Nat → Nat)} {l : Launch} {D : va_G} {cA : Nat → ClassId} {ad : Nat → Nat} {σ : St} {Q : Int → St → Prop} (hA : AdOk NR ad) (hσ : CanS shR NR σ) (h : wp_X12_takesWord_s12  σ Q) : KtV Z l D cA ad shR NR yX12_takesWord cX12_takesWord 2 none 7 [.ref (ad 0), .ref (Z.1 12)] σ Q :=
  KtV.of my_X12_takesWord hA [some (.ref (ad 0)), some (.ref (Z.1 12))] (Nat.le_of_ble_eq_true rfl) rfl (fun p e s m args below meth c A0 E hr => t_X12_takesWord_s12 E hr σ hσ h)
theorem dX12_readTable_0 : Dc cX12_readTable 0 (.aload_n 0) 1 1 := ⟨by decide +kernel, rfl⟩
theorem dX12_readTable_1 : Dc cX12_readTable 1 (.invokevirtual 213) 3 4 := ⟨by decide +kernel, rfl⟩
theorem dX12_readTable_4 : Dc cX12_readTable 4 (.aload_n 0) 1 5 := ⟨by decide +kernel, rfl⟩
theorem dX12_readTable_5 : Dc cX12_readTable 5 (.getfield 29) 3 8 := ⟨by decide +kernel, rfl⟩
theorem dX12_readTable_8 : Dc cX12_readTable 8 (.iconst 1) 1 9 := ⟨by decide +kernel, rfl⟩
theorem dX12_readTable_9 : Dc cX12_readTable 9 (.aload_n 0) 1 10 := ⟨by decide +kernel, rfl⟩
theorem dX12_readTable_10 : Dc cX12_readTable 10 (.iconst 2) 1 11 := ⟨by decide +kernel, rfl⟩
theorem dX12_readTable_11 : Dc cX12_readTable 11 (.iconst 5) 1 12 := ⟨by decide +kernel, rfl⟩
theorem dX12_readTable_12 : Dc cX12_readTable 12 (.invokevirtual 216) 3 15 := ⟨by decide +kernel, rfl⟩
theorem dX12_readTable_15 : Dc cX12_readTable 15 (.iastore) 1 16 := ⟨by decide +kernel, rfl⟩
theorem dX12_readTable_16 : Dc cX12_readTable 16 (.aload_n 0) 1 17 := ⟨by decide +kernel, rfl⟩
theorem dX12_readTable_17 : Dc cX12_readTable 17 (.ldc 219) 2 19 := ⟨by decide +kernel, rfl⟩
theorem dX12_readTable_19 : Dc cX12_readTable 19 (.invokevirtual 220) 3 22 := ⟨by decide +kernel, rfl⟩
theorem dX12_readTable_22 : Dc cX12_readTable 22 (.aload_n 0) 1 23 := ⟨by decide +kernel, rfl⟩
theorem dX12_readTable_23 : Dc cX12_readTable 23 (.getfield 32) 3 26 := ⟨by decide +kernel, rfl⟩
theorem dX12_readTable_26 : Dc cX12_readTable 26 (.iconst 1) 1 27 := ⟨by decide +kernel, rfl⟩
theorem dX12_readTable_27 : Dc cX12_readTable 27 (.aload_n 0) 1 28 := ⟨by decide +kernel, rfl⟩
theorem dX12_readTable_28 : Dc cX12_readTable 28 (.iconst 0) 1 29 := ⟨by decide +kernel, rfl⟩
theorem dX12_readTable_29 : Dc cX12_readTable 29 (.aload_n 0) 1 30 := ⟨by decide +kernel, rfl⟩
theorem dX12_readTable_30 : Dc cX12_readTable 30 (.getfield 29) 3 33 := ⟨by decide +kernel, rfl⟩
theorem dX12_readTable_33 : Dc cX12_readTable 33 (.iconst 1) 1 34 := ⟨by decide +kernel, rfl⟩
theorem dX12_readTable_34 : Dc cX12_readTable 34 (.iaload) 1 35 := ⟨by decide +kernel, rfl⟩
theorem dX12_readTable_35 : Dc cX12_readTable 35 (.iconst 1) 1 36 := ⟨by decide +kernel, rfl⟩
theorem dX12_readTable_36 : Dc cX12_readTable 36 (.isub) 1 37 := ⟨by decide +kernel, rfl⟩
theorem dX12_readTable_37 : Dc cX12_readTable 37 (.invokevirtual 216) 3 40 := ⟨by decide +kernel, rfl⟩
theorem dX12_readTable_40 : Dc cX12_readTable 40 (.iastore) 1 41 := ⟨by decide +kernel, rfl⟩
theorem dX12_readTable_41 : Dc cX12_readTable 41 (.aload_n 0) 1 42 := ⟨by decide +kernel, rfl⟩
theorem dX12_readTable_42 : Dc cX12_readTable 42 (.ldc 224) 2 44 := ⟨by decide +kernel, rfl⟩
theorem dX12_readTable_44 : Dc cX12_readTable 44 (.invokevirtual 220) 3 47 := ⟨by decide +kernel, rfl⟩
theorem dX12_readTable_47 : Dc cX12_readTable 47 (.aload_n 0) 1 48 := ⟨by decide +kernel, rfl⟩
theorem dX12_readTable_48 : Dc cX12_readTable 48 (.getfield 35) 3 51 := ⟨by decide +kernel, rfl⟩
theorem dX12_readTable_51 : Dc cX12_readTable 51 (.iconst 1) 1 52 := ⟨by decide +kernel, rfl⟩
theorem dX12_readTable_52 : Dc cX12_readTable 52 (.aload_n 0) 1 53 := ⟨by decide +kernel, rfl⟩
theorem dX12_readTable_53 : Dc cX12_readTable 53 (.iconst 0) 1 54 := ⟨by decide +kernel, rfl⟩
theorem dX12_readTable_54 : Dc cX12_readTable 54 (.aload_n 0) 1 55 := ⟨by decide +kernel, rfl⟩
theorem dX12_readTable_55 : Dc cX12_readTable 55 (.getfield 29) 3 58 := ⟨by decide +kernel, rfl⟩
theorem dX12_readTable_58 : Dc cX12_readTable 58 (.iconst 1) 1 59 := ⟨by decide +kernel, rfl⟩
theorem dX12_readTable_59 : Dc cX12_readTable 59 (.iaload) 1 60 := ⟨by decide +kernel, rfl⟩
theorem dX12_readTable_60 : Dc cX12_readTable 60 (.iconst 1) 1 61 := ⟨by decide +kernel, rfl⟩
theorem dX12_readTable_61 : Dc cX12_readTable 61 (.isub) 1 62 := ⟨by decide +kernel, rfl⟩
theorem dX12_readTable_62 : Dc cX12_readTable 62 (.invokevirtual 216) 3 65 := ⟨by decide +kernel, rfl⟩
theorem dX12_readTable_65 : Dc cX12_readTable 65 (.iastore) 1 66 := ⟨by decide +kernel, rfl⟩
theorem dX12_readTable_66 : Dc cX12_readTable 66 (.aload_n 0) 1 67 := ⟨by decide +kernel, rfl⟩
theorem dX12_readTable_67 : Dc cX12_readTable 67 (.ldc 225) 2 69 := ⟨by decide +kernel, rfl⟩
theorem dX12_readTable_69 : Dc cX12_readTable 69 (.invokevirtual 220) 3 72 := ⟨by decide +kernel, rfl⟩
theorem dX12_readTable_72 : Dc cX12_readTable 72 (.iconst 0) 1 73 := ⟨by decide +kernel, rfl⟩
theorem dX12_readTable_73 : Dc cX12_readTable 73 (.istore_n 1) 1 74 := ⟨by decide +kernel, rfl⟩
theorem dX12_readTable_74 : Dc cX12_readTable 74 (.iload_n 1) 1 75 := ⟨by decide +kernel, rfl⟩
theorem dX12_readTable_75 : Dc cX12_readTable 75 (.aload_n 0) 1 76 := ⟨by decide +kernel, rfl⟩
theorem dX12_readTable_76 : Dc cX12_readTable 76 (.getfield 29) 3 79 := ⟨by decide +kernel, rfl⟩
theorem dX12_readTable_79 : Dc cX12_readTable 79 (.iconst 1) 1 80 := ⟨by decide +kernel, rfl⟩
theorem dX12_readTable_80 : Dc cX12_readTable 80 (.iaload) 1 81 := ⟨by decide +kernel, rfl⟩
theorem dX12_readTable_81 : Dc cX12_readTable 81 (.aload_n 0) 1 82 := ⟨by decide +kernel, rfl⟩
theorem dX12_readTable_82 : Dc cX12_readTable 82 (.getfield 29) 3 85 := ⟨by decide +kernel, rfl⟩
theorem dX12_readTable_85 : Dc cX12_readTable 85 (.iconst 1) 1 86 := ⟨by decide +kernel, rfl⟩
theorem dX12_readTable_86 : Dc cX12_readTable 86 (.iaload) 1 87 := ⟨by decide +kernel, rfl⟩
theorem dX12_readTable_87 : Dc cX12_readTable 87 (.imul) 1 88 := ⟨by decide +kernel, rfl⟩
theorem djX12_readTable_88 : Dj cX12_readTable 88 (.if_icmp .ge 31) 3 91 31 119 := ⟨by decide +kernel, rfl, by decide⟩
theorem dX12_readTable_91 : Dc cX12_readTable 91 (.aload_n 0) 1 92 := ⟨by decide +kernel, rfl⟩
theorem dX12_readTable_92 : Dc cX12_readTable 92 (.getfield 38) 3 95 := ⟨by decide +kernel, rfl⟩
theorem dX12_readTable_95 : Dc cX12_readTable 95 (.bipush 25) 2 97 := ⟨by decide +kernel, rfl⟩
theorem dX12_readTable_97 : Dc cX12_readTable 97 (.iload_n 1) 1 98 := ⟨by decide +kernel, rfl⟩
theorem dX12_readTable_98 : Dc cX12_readTable 98 (.iadd) 1 99 := ⟨by decide +kernel, rfl⟩
theorem dX12_readTable_99 : Dc cX12_readTable 99 (.aload_n 0) 1 100 := ⟨by decide +kernel, rfl⟩
theorem dX12_readTable_100 : Dc cX12_readTable 100 (.iconst 0) 1 101 := ⟨by decide +kernel, rfl⟩
theorem dX12_readTable_101 : Dc cX12_readTable 101 (.aload_n 0) 1 102 := ⟨by decide +kernel, rfl⟩
theorem dX12_readTable_102 : Dc cX12_readTable 102 (.getfield 29) 3 105 := ⟨by decide +kernel, rfl⟩
theorem dX12_readTable_105 : Dc cX12_readTable 105 (.iconst 1) 1 106 := ⟨by decide +kernel, rfl⟩
theorem dX12_readTable_106 : Dc cX12_readTable 106 (.iaload) 1 107 := ⟨by decide +kernel, rfl⟩
theorem dX12_readTable_107 : Dc cX12_readTable 107 (.iconst 1) 1 108 := ⟨by decide +kernel, rfl⟩
theorem dX12_readTable_108 : Dc cX12_readTable 108 (.isub) 1 109 := ⟨by decide +kernel, rfl⟩
theorem dX12_readTable_109 : Dc cX12_readTable 109 (.invokevirtual 216) 3 112 := ⟨by decide +kernel, rfl⟩
theorem dX12_readTable_112 : Dc cX12_readTable 112 (.iastore) 1 113 := ⟨by decide +kernel, rfl⟩
theorem dX12_readTable_113 : Dc cX12_readTable 113 (.iinc 1 1) 3 116 := ⟨by decide +kernel, rfl⟩
theorem djX12_readTable_116 : Dj cX12_readTable 116 (.goto (-42)) 3 119 (-42) 74 := ⟨by decide +kernel, rfl, by decide⟩
theorem dX12_readTable_119 : Dc cX12_readTable 119 (.aload_n 0) 1 120 := ⟨by decide +kernel, rfl⟩
theorem dX12_readTable_120 : Dc cX12_readTable 120 (.ldc 226) 2 122 := ⟨by decide +kernel, rfl⟩
theorem dX12_readTable_122 : Dc cX12_readTable 122 (.invokevirtual 220) 3 125 := ⟨by decide +kernel, rfl⟩
theorem dX12_readTable_125 : Dc cX12_readTable 125 (.iconst 0) 1 126 := ⟨by decide +kernel, rfl⟩
theorem dX12_readTable_126 : Dc cX12_readTable 126 (.istore_n 1) 1 127 := ⟨by decide +kernel, rfl⟩
theorem dX12_readTable_127 : Dc cX12_readTable 127 (.iload_n 1) 1 128 := ⟨by decide +kernel, rfl⟩
theorem dX12_readTable_128 : Dc cX12_readTable 128 (.aload_n 0) 1 129 := ⟨by decide +kernel, rfl⟩
theorem dX12_readTable_129 : Dc cX12_readTable 129 (.getfield 29) 3 132 := ⟨by decide +kernel, rfl⟩
theorem dX12_readTable_132 : Dc cX12_readTable 132 (.iconst 1) 1 133 := ⟨by decide +kernel, rfl⟩
theorem dX12_readTable_133 : Dc cX12_readTable 133 (.iaload) 1 134 := ⟨by decide +kernel, rfl⟩
theorem dX12_readTable_134 : Dc cX12_readTable 134 (.aload_n 0) 1 135 := ⟨by decide +kernel, rfl⟩
theorem dX12_readTable_135 : Dc cX12_readTable 135 (.getfield 29) 3 138 := ⟨by decide +kernel, rfl⟩
theorem dX12_readTable_138 : Dc cX12_readTable 138 (.iconst 1) 1 139 := ⟨by decide +kernel, rfl⟩
theorem dX12_readTable_139 : Dc cX12_readTable 139 (.iaload) 1 140 := ⟨by decide +kernel, rfl⟩
theorem dX12_readTable_140 : Dc cX12_readTable 140 (.imul) 1 141 := ⟨by decide +kernel, rfl⟩
theorem djX12_readTable_141 : Dj cX12_readTable 141 (.if_icmp .ge 31) 3 144 31 172 := ⟨by decide +kernel, rfl, by decide⟩
theorem dX12_readTable_144 : Dc cX12_readTable 144 (.aload_n 0) 1 145 := ⟨by decide +kernel, rfl⟩
theorem dX12_readTable_145 : Dc cX12_readTable 145 (.getfield 41) 3 148 := ⟨by decide +kernel, rfl⟩
theorem dX12_readTable_148 : Dc cX12_readTable 148 (.bipush 25) 2 150 := ⟨by decide +kernel, rfl⟩
theorem dX12_readTable_150 : Dc cX12_readTable 150 (.iload_n 1) 1 151 := ⟨by decide +kernel, rfl⟩
theorem dX12_readTable_151 : Dc cX12_readTable 151 (.iadd) 1 152 := ⟨by decide +kernel, rfl⟩
theorem dX12_readTable_152 : Dc cX12_readTable 152 (.aload_n 0) 1 153 := ⟨by decide +kernel, rfl⟩
theorem dX12_readTable_153 : Dc cX12_readTable 153 (.iconst 0) 1 154 := ⟨by decide +kernel, rfl⟩
theorem dX12_readTable_154 : Dc cX12_readTable 154 (.aload_n 0) 1 155 := ⟨by decide +kernel, rfl⟩
theorem dX12_readTable_155 : Dc cX12_readTable 155 (.getfield 29) 3 158 := ⟨by decide +kernel, rfl⟩
theorem dX12_readTable_158 : Dc cX12_readTable 158 (.iconst 1) 1 159 := ⟨by decide +kernel, rfl⟩
theorem dX12_readTable_159 : Dc cX12_readTable 159 (.iaload) 1 160 := ⟨by decide +kernel, rfl⟩
theorem dX12_readTable_160 : Dc cX12_readTable 160 (.iconst 1) 1 161 := ⟨by decide +kernel, rfl⟩
theorem dX12_readTable_161 : Dc cX12_readTable 161 (.isub) 1 162 := ⟨by decide +kernel, rfl⟩
theorem dX12_readTable_162 : Dc cX12_readTable 162 (.invokevirtual 216) 3 165 := ⟨by decide +kernel, rfl⟩
theorem dX12_readTable_165 : Dc cX12_readTable 165 (.iastore) 1 166 := ⟨by decide +kernel, rfl⟩
theorem dX12_readTable_166 : Dc cX12_readTable 166 (.iinc 1 1) 3 169 := ⟨by decide +kernel, rfl⟩
theorem djX12_readTable_169 : Dj cX12_readTable 169 (.goto (-42)) 3 172 (-42) 127 := ⟨by decide +kernel, rfl, by decide⟩
theorem dX12_readTable_172 : Dc cX12_readTable 172 (.return_) 1 173 := ⟨by decide +kernel, rfl⟩
section
variable {p : Program} {l : Launch} {e : Env} {s : State} {m : MethodId} {args : Array Value} {below : List Frame} {meth : Method} {c : Code} {A0 : Nat → Prop} {D : va_G} {cA : Nat → ClassId} {ad : Nat → Nat} {Z : (Nat → Nat) × (Nat → Nat)} {Q : Int → St → Prop}
set_option maxHeartbeats 4000000 in
set_option maxRecDepth 100000 in
theorem t_X12_readTable_l127 (E : Ev p s m args meth c cX12_readTable 2 RX12 A0 D cA ad NR Z) (hr : meth.sig.returnType = none) : ∀ (n : Nat) (x1 : Int) (σ : St), C32 x1 → CanS shR NR σ → wp_X12_readTable_l127 Q n x1 σ → G p l e (rmL 8 0 0) s m args below meth c 2 A0 D cA ad shR NR 0 0 (MQ below (QVc D cA ad shR NR Q A0) args s 0 0 A0) σ 127 [some (.ref (ad 0)), some (vI x1)] [] := by
  intro n
  induction n with
  | zero => intro _ _ _ _ h; exact h.elim
  | succ n ih =>
    intro x1 σ c1 hσ h
    unfold wp_X12_readTable_l127 at h
    refine g_iload_1 E dX12_readTable_127 ?_
    refine g_aload_0 E dX12_readTable_128 ?_
    refine g_getR E fl_RX12_29 kR_0 sR_0 rfl dX12_readTable_129 ?_
    refine g_iconst E dX12_readTable_132 ?_
    refine g_iald E kR_6 sR_6 (by decide) (by decide) dX12_readTable_133 ?_
    refine g_aload_0 E dX12_readTable_134 ?_
    refine g_getR E fl_RX12_29 kR_0 sR_0 rfl dX12_readTable_135 ?_
    refine g_iconst E dX12_readTable_138 ?_
    refine g_iald E kR_6 sR_6 (by decide) (by decide) dX12_readTable_139 ?_
    refine g_imul E dX12_readTable_140 ?_
    refine g_icmp_ge E c1 (c32_w _) djX12_readTable_141 (fun hc => ?_) (fun hc => ?_)
    · replace h := h.1 hc
      exact g_vret E hr h hσ dX12_readTable_172
    · replace h := h.2 hc
      refine g_aload_0 E dX12_readTable_144 ?_
      refine g_getR E fl_RX12_41 kR_0 sR_0 rfl dX12_readTable_145 ?_
      refine g_bipush E (by decide) dX12_readTable_148 ?_
      refine g_iload_1 E dX12_readTable_150 ?_
      refine g_iadd E dX12_readTable_151 ?_
      refine g_aload_0 E dX12_readTable_152 ?_
      refine g_iconst E dX12_readTable_153 ?_
      refine g_aload_0 E dX12_readTable_154 ?_
      refine g_getR E fl_RX12_29 kR_0 sR_0 rfl dX12_readTable_155 ?_
      refine g_iconst E dX12_readTable_158 ?_
      refine g_iald E kR_6 sR_6 (by decide) (by decide) dX12_readTable_159 ?_
      refine g_iconst E dX12_readTable_160 ?_
      refine g_isub E dX12_readTable_161 ?_
      refine g_callvI E my_X12_takes mi_X12_takes msel_X12_takes ml_RX12_216 (rm_ok (by decide) (by decide)) ⟨Nat.zero_le _, Nat.zero_le _⟩ kR_0 sR_0 rfl (m_X12_takes E.2.2.1 cl_0 (c32_w _) hσ h) rfl rfl (Nat.le_of_ble_eq_true rfl) dX12_readTable_162 (fun r24 σ25 cr24 hσ25 h => ?_)
      refine g_iast E kR_10 sR_10 (by decide) h.1 dX12_readTable_165 (g_nmS (fun σ26 eσ26 => ?_))
      replace h := h.2 σ26 eσ26
      have hσ26 : CanS shR NR σ26 := by rw [eσ26]; exact wR_10 hσ25 cr24
      refine g_iinc_1 E rfl (by decide) dX12_readTable_166 (fun v27 ev27 => ?_)
      replace h := h v27 ev27
      have cv27 : C32 v27 := by rw [ev27]; exact c32_w _
      refine g_goto E djX12_readTable_169 ?_
      exact (ih v27 σ26 cv27 hσ26 h).weak (w_k (w_k w_n))
set_option maxHeartbeats 4000000 in
set_option maxRecDepth 100000 in
theorem t_X12_readTable_l74 (E : Ev p s m args meth c cX12_readTable 2 RX12 A0 D cA ad NR Z) (hr : meth.sig.returnType = none) : ∀ (n : Nat) (x1 : Int) (σ : St), C32 x1 → CanS shR NR σ → wp_X12_readTable_l74 Q n x1 σ → G p l e (rmL 8 0 0) s m args below meth c 2 A0 D cA ad shR NR 0 0 (MQ below (QVc D cA ad shR NR Q A0) args s 0 0 A0) σ 74 [some (.ref (ad 0)), some (vI x1)] [] := by
  intro n
  induction n with
  | zero => intro _ _ _ _ h; exact h.elim
  | succ n ih =>
    intro x1 σ c1 hσ h
    unfold wp_X12_readTable_l74 at h
    refine g_iload_1 E dX12_readTable_74 ?_
    refine g_aload_0 E dX12_readTable_75 ?_
    refine g_getR E fl_RX12_29 kR_0 sR_0 rfl dX12_readTable_76 ?_
    refine g_iconst E dX12_readTable_79 ?_
    refine g_iald E kR_6 sR_6 (by decide) (by decide) dX12_readTable_80 ?_
    refine g_aload_0 E dX12_readTable_81 ?_
    refine g_getR E fl_RX12_29 kR_0 sR_0 rfl dX12_readTable_82 ?_
    refine g_iconst E dX12_readTable_85 ?_
    refine g_iald E kR_6 sR_6 (by decide) (by decide) dX12_readTable_86 ?_
    refine g_imul E dX12_readTable_87 ?_
    refine g_icmp_ge E c1 (c32_w _) djX12_readTable_88 (fun hc => ?_) (fun hc => ?_)
    · replace h := h.1 hc
      refine g_aload_0 E dX12_readTable_119 ?_
      refine g_ldcS E (i := 12) (by decide) ⟨rfl, rfl⟩ dX12_readTable_120 ?_
      refine g_callvV E my_X12_takesWord mi_X12_takesWord msel_X12_takesWord ml_RX12_220 (rm_ok (by decide) (by decide)) ⟨Nat.zero_le _, Nat.zero_le _⟩ kR_0 sR_0 rfl (m_X12_takesWord_s12 E.2.2.1 hσ h) rfl rfl (Nat.le_of_ble_eq_true rfl) dX12_readTable_122 (fun σ19 r18 hσ19 h => ?_)
      refine g_iconst E dX12_readTable_125 ?_
      refine g_istore_1 E rfl (by decide) dX12_readTable_126 ?_
      exact (t_X12_readTable_l127 E hr bigN 0 σ19 cl_0 hσ19 h).weak (w_k (w_k w_n))
    · replace h := h.2 hc
      refine g_aload_0 E dX12_readTable_91 ?_
      refine g_getR E fl_RX12_38 kR_0 sR_0 rfl dX12_readTable_92 ?_
      refine g_bipush E (by decide) dX12_readTable_95 ?_
      refine g_iload_1 E dX12_readTable_97 ?_
      refine g_iadd E dX12_readTable_98 ?_
      refine g_aload_0 E dX12_readTable_99 ?_
      refine g_iconst E dX12_readTable_100 ?_
      refine g_aload_0 E dX12_readTable_101 ?_
      refine g_getR E fl_RX12_29 kR_0 sR_0 rfl dX12_readTable_102 ?_
      refine g_iconst E dX12_readTable_105 ?_
      refine g_iald E kR_6 sR_6 (by decide) (by decide) dX12_readTable_106 ?_
      refine g_iconst E dX12_readTable_107 ?_
      refine g_isub E dX12_readTable_108 ?_
      refine g_callvI E my_X12_takes mi_X12_takes msel_X12_takes ml_RX12_216 (rm_ok (by decide) (by decide)) ⟨Nat.zero_le _, Nat.zero_le _⟩ kR_0 sR_0 rfl (m_X12_takes E.2.2.1 cl_0 (c32_w _) hσ h) rfl rfl (Nat.le_of_ble_eq_true rfl) dX12_readTable_109 (fun r20 σ21 cr20 hσ21 h => ?_)
      refine g_iast E kR_9 sR_9 (by decide) h.1 dX12_readTable_112 (g_nmS (fun σ22 eσ22 => ?_))
      replace h := h.2 σ22 eσ22
      have hσ22 : CanS shR NR σ22 := by rw [eσ22]; exact wR_9 hσ21 cr20
      refine g_iinc_1 E rfl (by decide) dX12_readTable_113 (fun v23 ev23 => ?_)
      replace h := h v23 ev23
      have cv23 : C32 v23 := by rw [ev23]; exact c32_w _
      refine g_goto E djX12_readTable_116 ?_
      exact (ih v23 σ22 cv23 hσ22 h).weak (w_k (w_k w_n))
set_option maxHeartbeats 4000000 in
set_option maxRecDepth 100000 in
theorem t_X12_readTable (E : Ev p s m args meth c cX12_readTable 2 RX12 A0 D cA ad NR Z) (hr : meth.sig.returnType = none) (σ : St) (hσ : CanS shR NR σ) (h : wp_X12_readTable  σ Q) : G p l e (rmL 8 0 0) s m args below meth c 2 A0 D cA ad shR NR 0 0 (MQ below (QVc D cA ad shR NR Q A0) args s 0 0 A0) σ 0 [some (.ref (ad 0)), none] [] := by
  unfold wp_X12_readTable at h
  refine g_aload_0 E dX12_readTable_0 ?_
  refine g_callvV E my_X12_advance mi_X12_advance msel_X12_advance ml_RX12_213 (rm_ok (by decide) (by decide)) ⟨Nat.zero_le _, Nat.zero_le _⟩ kR_0 sR_0 rfl (m_X12_advance E.2.2.1 hσ h) rfl rfl (Nat.le_of_ble_eq_true rfl) dX12_readTable_1 (fun σ2 r1 hσ2 h => ?_)
  refine g_aload_0 E dX12_readTable_4 ?_
  refine g_getR E fl_RX12_29 kR_0 sR_0 rfl dX12_readTable_5 ?_
  refine g_iconst E dX12_readTable_8 ?_
  refine g_aload_0 E dX12_readTable_9 ?_
  refine g_iconst E dX12_readTable_10 ?_
  refine g_iconst E dX12_readTable_11 ?_
  refine g_callvI E my_X12_takes mi_X12_takes msel_X12_takes ml_RX12_216 (rm_ok (by decide) (by decide)) ⟨Nat.zero_le _, Nat.zero_le _⟩ kR_0 sR_0 rfl (m_X12_takes E.2.2.1 cl_2 cl_5 hσ2 h) rfl rfl (Nat.le_of_ble_eq_true rfl) dX12_readTable_12 (fun r3 σ4 cr3 hσ4 h => ?_)
  refine g_iast E kR_6 sR_6 (by decide) (by decide) dX12_readTable_15 (g_nmS (fun σ5 eσ5 => ?_))
  replace h := h σ5 eσ5
  have hσ5 : CanS shR NR σ5 := by rw [eσ5]; exact wR_6 hσ4 cr3
  refine g_aload_0 E dX12_readTable_16 ?_
  refine g_ldcS E (i := 9) (by decide) ⟨rfl, rfl⟩ dX12_readTable_17 ?_
  refine g_callvV E my_X12_takesWord mi_X12_takesWord msel_X12_takesWord ml_RX12_220 (rm_ok (by decide) (by decide)) ⟨Nat.zero_le _, Nat.zero_le _⟩ kR_0 sR_0 rfl (m_X12_takesWord_s9 E.2.2.1 hσ5 h) rfl rfl (Nat.le_of_ble_eq_true rfl) dX12_readTable_19 (fun σ7 r6 hσ7 h => ?_)
  refine g_aload_0 E dX12_readTable_22 ?_
  refine g_getR E fl_RX12_32 kR_0 sR_0 rfl dX12_readTable_23 ?_
  refine g_iconst E dX12_readTable_26 ?_
  refine g_aload_0 E dX12_readTable_27 ?_
  refine g_iconst E dX12_readTable_28 ?_
  refine g_aload_0 E dX12_readTable_29 ?_
  refine g_getR E fl_RX12_29 kR_0 sR_0 rfl dX12_readTable_30 ?_
  refine g_iconst E dX12_readTable_33 ?_
  refine g_iald E kR_6 sR_6 (by decide) (by decide) dX12_readTable_34 ?_
  refine g_iconst E dX12_readTable_35 ?_
  refine g_isub E dX12_readTable_36 ?_
  refine g_callvI E my_X12_takes mi_X12_takes msel_X12_takes ml_RX12_216 (rm_ok (by decide) (by decide)) ⟨Nat.zero_le _, Nat.zero_le _⟩ kR_0 sR_0 rfl (m_X12_takes E.2.2.1 cl_0 (c32_w _) hσ7 h) rfl rfl (Nat.le_of_ble_eq_true rfl) dX12_readTable_37 (fun r8 σ9 cr8 hσ9 h => ?_)
  refine g_iast E kR_7 sR_7 (by decide) (by decide) dX12_readTable_40 (g_nmS (fun σ10 eσ10 => ?_))
  replace h := h σ10 eσ10
  have hσ10 : CanS shR NR σ10 := by rw [eσ10]; exact wR_7 hσ9 cr8
  refine g_aload_0 E dX12_readTable_41 ?_
  refine g_ldcS E (i := 10) (by decide) ⟨rfl, rfl⟩ dX12_readTable_42 ?_
  refine g_callvV E my_X12_takesWord mi_X12_takesWord msel_X12_takesWord ml_RX12_220 (rm_ok (by decide) (by decide)) ⟨Nat.zero_le _, Nat.zero_le _⟩ kR_0 sR_0 rfl (m_X12_takesWord_s10 E.2.2.1 hσ10 h) rfl rfl (Nat.le_of_ble_eq_true rfl) dX12_readTable_44 (fun σ12 r11 hσ12 h => ?_)
  refine g_aload_0 E dX12_readTable_47 ?_
  refine g_getR E fl_RX12_35 kR_0 sR_0 rfl dX12_readTable_48 ?_
  refine g_iconst E dX12_readTable_51 ?_
  refine g_aload_0 E dX12_readTable_52 ?_
  refine g_iconst E dX12_readTable_53 ?_
  refine g_aload_0 E dX12_readTable_54 ?_
  refine g_getR E fl_RX12_29 kR_0 sR_0 rfl dX12_readTable_55 ?_
  refine g_iconst E dX12_readTable_58 ?_
  refine g_iald E kR_6 sR_6 (by decide) (by decide) dX12_readTable_59 ?_
  refine g_iconst E dX12_readTable_60 ?_
  refine g_isub E dX12_readTable_61 ?_
  refine g_callvI E my_X12_takes mi_X12_takes msel_X12_takes ml_RX12_216 (rm_ok (by decide) (by decide)) ⟨Nat.zero_le _, Nat.zero_le _⟩ kR_0 sR_0 rfl (m_X12_takes E.2.2.1 cl_0 (c32_w _) hσ12 h) rfl rfl (Nat.le_of_ble_eq_true rfl) dX12_readTable_62 (fun r13 σ14 cr13 hσ14 h => ?_)
  refine g_iast E kR_8 sR_8 (by decide) (by decide) dX12_readTable_65 (g_nmS (fun σ15 eσ15 => ?_))
  replace h := h σ15 eσ15
  have hσ15 : CanS shR NR σ15 := by rw [eσ15]; exact wR_8 hσ14 cr13
  refine g_aload_0 E dX12_readTable_66 ?_
  refine g_ldcS E (i := 11) (by decide) ⟨rfl, rfl⟩ dX12_readTable_67 ?_
  refine g_callvV E my_X12_takesWord mi_X12_takesWord msel_X12_takesWord ml_RX12_220 (rm_ok (by decide) (by decide)) ⟨Nat.zero_le _, Nat.zero_le _⟩ kR_0 sR_0 rfl (m_X12_takesWord_s11 E.2.2.1 hσ15 h) rfl rfl (Nat.le_of_ble_eq_true rfl) dX12_readTable_69 (fun σ17 r16 hσ17 h => ?_)
  refine g_iconst E dX12_readTable_72 ?_
  refine g_istore_1 E rfl (by decide) dX12_readTable_73 ?_
  exact (t_X12_readTable_l74 E hr bigN 0 σ17 cl_0 hσ17 h).weak (w_k (w_k w_n))
end
theorem m_X12_readTable {Z : (Nat → Nat) × (Nat → Nat)} {l : Launch} {D : va_G} {cA : Nat → ClassId} {ad : Nat → Nat} {σ : St} {Q : Int → St → Prop} (hA : AdOk NR ad) (hσ : CanS shR NR σ) (h : wp_X12_readTable  σ Q) : KtV Z l D cA ad shR NR yX12_readTable cX12_readTable 2 none 8 [.ref (ad 0)] σ Q :=
  KtV.of my_X12_readTable hA [some (.ref (ad 0)), none] (Nat.le_of_ble_eq_true rfl) rfl (fun p e s m args below meth c A0 E hr => t_X12_readTable E hr σ hσ h)
section
variable {p : Program} {l : Launch} {e : Env} {s : State} {m : MethodId} {args : Array Value} {below : List Frame} {meth : Method} {c : Code} {A0 : Nat → Prop} {D : va_G} {cA : Nat → ClassId} {ad : Nat → Nat} {Z : (Nat → Nat) × (Nat → Nat)} {Q : Int → St → Prop}
set_option maxHeartbeats 4000000 in
set_option maxRecDepth 100000 in
theorem t_X12_is_s13_b75 (E : Ev p s m args meth c cX12_is 4 RX12 A0 D cA ad NR Z) (hr : meth.sig.returnType = (some .boolean)) {K39 : Int → Int → St → Prop} (hK39 : ∀ (x2 : Int) (x3 : Int) (σ : St), C32 x2 → C32 x3 → CanS shR NR σ → K39 x2 x3 σ → G p l e (rmL 6 0 0) s m args below meth c 4 A0 D cA ad shR NR 0 0 (MQ below (QIc D cA ad shR NR Q A0) args s 0 0 A0) σ 39 [some (.ref (ad 0)), some (.ref (Z.1 13)), some (vI x2), some (vI x3)] []) (x3 : Int) (s0 : Int) (σ : St) (c3 : C32 x3) (cs0 : C32 s0) (hσ : CanS shR NR σ) (h : wp_X12_is_s13_b75 Q K39 x3 s0 σ) : G p l e (rmL 6 0 0) s m args below meth c 4 A0 D cA ad shR NR 0 0 (MQ below (QIc D cA ad shR NR Q A0) args s 0 0 A0) σ 75 [some (.ref (ad 0)), some (.ref (Z.1 13)), none, some (vI x3)] [vI s0] := by
  unfold wp_X12_is_s13_b75 at h
  refine g_istore_2 E rfl (by decide) dX12_is_75 ?_
  refine g_iinc_3 E rfl (by decide) dX12_is_76 (fun v3 ev3 => ?_)
  replace h := h v3 ev3
  have cv3 : C32 v3 := by rw [ev3]; exact c32_w _
  refine g_goto E djX12_is_79 ?_
  exact (hK39 s0 v3 σ cs0 cv3 hσ h).weak (w_k (w_k (w_k (w_k w_n))))
set_option maxHeartbeats 4000000 in
set_option maxRecDepth 100000 in
theorem t_X12_is_s13_l39 (E : Ev p s m args meth c cX12_is 4 RX12 A0 D cA ad NR Z) (hr : meth.sig.returnType = (some .boolean)) : ∀ (n : Nat) (x2 : Int) (x3 : Int) (σ : St), C32 x2 → C32 x3 → CanS shR NR σ → wp_X12_is_s13_l39 Q n x2 x3 σ → G p l e (rmL 6 0 0) s m args below meth c 4 A0 D cA ad shR NR 0 0 (MQ below (QIc D cA ad shR NR Q A0) args s 0 0 A0) σ 39 [some (.ref (ad 0)), some (.ref (Z.1 13)), some (vI x2), some (vI x3)] [] := by
  intro n
  induction n with
  | zero => intro _ _ _ _ _ _ h; exact h.elim
  | succ n ih =>
    intro x2 x3 σ c2 c3 hσ h
    unfold wp_X12_is_s13_l39 at h
    refine g_iload_3 E dX12_is_39 ?_
    refine g_aload_1 E dX12_is_40 ?_
    refine g_slen E ml_RX12_196 (i := 13) (by decide) hσ (n := 4) rfl (Nat.le_of_ble_eq_true rfl) (rm_s 6 (by decide)) ⟨Nat.zero_le _, Nat.zero_le _⟩ dX12_is_41 ?_
    refine g_icmp_ge E c3 cl_4 djX12_is_44 (fun hc => ?_) (fun hc => ?_)
    · replace h := h.1 hc
      refine g_iload_2 E dX12_is_82 ?_
      exact g_zret E hr h.1 h.2 hσ dX12_is_83
    · replace h := h.2 hc
      refine g_iload_2 E dX12_is_47 ?_
      refine g_if_eq E c2 djX12_is_48 (fun hc => ?_) (fun hc => ?_)
      · replace h := h.1 hc
        refine g_iload_2 E dX12_is_82 ?_
        exact g_zret E hr h.1 h.2 hσ dX12_is_83
      · replace h := h.2 hc
        refine g_aload_0 E dX12_is_51 ?_
        refine g_getR E fl_RX12_47 kR_0 sR_0 rfl dX12_is_52 ?_
        refine g_aload_0 E dX12_is_55 ?_
        refine g_getI E fl_RX12_162 kR_0 sR_0 rfl dX12_is_56 ?_
        refine g_iload_3 E dX12_is_59 ?_
        refine g_iadd E dX12_is_60 ?_
        refine g_bald E kR_12 sR_12 (by decide) h.1 dX12_is_61 ?_
        replace h := h.2
        refine g_aload_1 E dX12_is_62 ?_
        refine g_iload_3 E dX12_is_63 ?_
        refine g_schar E ml_RX12_201 (i := 13) (by decide) hσ (n := 4) rfl h.1 (Nat.le_of_ble_eq_true rfl) (rm_s 6 (by decide)) ⟨Nat.zero_le _, Nat.zero_le _⟩ dX12_is_64 ?_
        replace h := h.2
        refine g_icmp_ne E (aR_12 hσ _) (c32_str 13 (by decide) _) djX12_is_67 (fun hc => ?_) (fun hc => ?_)
        · replace h := h.1 hc
          refine g_iconst E dX12_is_74 ?_
          exact (t_X12_is_s13_b75 E hr ih x3 0 σ c3 cl_0 hσ h).weak (w_k (w_k (w_d (w_k w_n))))
        · replace h := h.2 hc
          refine g_iconst E dX12_is_70 ?_
          refine g_goto E djX12_is_71 ?_
          exact (t_X12_is_s13_b75 E hr ih x3 1 σ c3 cl_1 hσ h).weak (w_k (w_k (w_d (w_k w_n))))
set_option maxHeartbeats 4000000 in
set_option maxRecDepth 100000 in
theorem t_X12_is_s13_b36 (E : Ev p s m args meth c cX12_is 4 RX12 A0 D cA ad NR Z) (hr : meth.sig.returnType = (some .boolean)) (s0 : Int) (σ : St) (cs0 : C32 s0) (hσ : CanS shR NR σ) (h : wp_X12_is_s13_b36 Q s0 σ) : G p l e (rmL 6 0 0) s m args below meth c 4 A0 D cA ad shR NR 0 0 (MQ below (QIc D cA ad shR NR Q A0) args s 0 0 A0) σ 36 [some (.ref (ad 0)), some (.ref (Z.1 13)), none, none] [vI s0] := by
  unfold wp_X12_is_s13_b36 at h
  refine g_istore_2 E rfl (by decide) dX12_is_36 ?_
  refine g_iconst E dX12_is_37 ?_
  refine g_istore_3 E rfl (by decide) dX12_is_38 ?_
  exact (t_X12_is_s13_l39 E hr bigN s0 0 σ cs0 cl_0 hσ h).weak (w_k (w_k (w_k (w_k w_n))))
set_option maxHeartbeats 4000000 in
set_option maxRecDepth 100000 in
theorem t_X12_is_s13_b35 (E : Ev p s m args meth c cX12_is 4 RX12 A0 D cA ad NR Z) (hr : meth.sig.returnType = (some .boolean)) (σ : St) (hσ : CanS shR NR σ) (h : wp_X12_is_s13_b35 Q  σ) : G p l e (rmL 6 0 0) s m args below meth c 4 A0 D cA ad shR NR 0 0 (MQ below (QIc D cA ad shR NR Q A0) args s 0 0 A0) σ 35 [some (.ref (ad 0)), some (.ref (Z.1 13)), none, none] [] := by
  unfold wp_X12_is_s13_b35 at h
  refine g_iconst E dX12_is_35 ?_
  exact (t_X12_is_s13_b36 E hr 0 σ cl_0 hσ h).weak (w_k (w_k (w_d (w_d w_n))))
set_option maxHeartbeats 4000000 in
set_option maxRecDepth 100000 in
theorem t_X12_is_s13 (E : Ev p s m args meth c cX12_is 4 RX12 A0 D cA ad NR Z) (hr : meth.sig.returnType = (some .boolean)) (σ : St) (hσ : CanS shR NR σ) (h : wp_X12_is_s13  σ Q) : G p l e (rmL 6 0 0) s m args below meth c 4 A0 D cA ad shR NR 0 0 (MQ below (QIc D cA ad shR NR Q A0) args s 0 0 A0) σ 0 [some (.ref (ad 0)), some (.ref (Z.1 13)), none, none] [] := by
  unfold wp_X12_is_s13 at h
  refine g_aload_0 E dX12_is_0 ?_
  refine g_callvI E my_X12_good mi_X12_good msel_X12_good ml_RX12_192 (rm_ok (by decide) (by decide)) ⟨Nat.zero_le _, Nat.zero_le _⟩ kR_0 sR_0 rfl (m_X12_good E.2.2.1 hσ h) rfl rfl (Nat.le_of_ble_eq_true rfl) dX12_is_1 (fun r1 σ2 cr1 hσ2 h => ?_)
  refine g_if_eq E cr1 djX12_is_4 (fun hc => ?_) (fun hc => ?_)
  · replace h := h.1 hc
    exact (t_X12_is_s13_b35 E hr σ2 hσ2 h).weak (w_k (w_k (w_d (w_d w_n))))
  · replace h := h.2 hc
    refine g_aload_0 E dX12_is_7 ?_
    refine g_getI E fl_RX12_165 kR_0 sR_0 rfl dX12_is_8 ?_
    refine g_iconst E dX12_is_11 ?_
    refine g_icmp_ne E (fR_0_22 hσ2) cl_1 djX12_is_12 (fun hc => ?_) (fun hc => ?_)
    · replace h := h.1 hc
      exact (t_X12_is_s13_b35 E hr σ2 hσ2 h).weak (w_k (w_k (w_d (w_d w_n))))
    · replace h := h.2 hc
      refine g_aload_0 E dX12_is_15 ?_
      refine g_getI E fl_RX12_155 kR_0 sR_0 rfl dX12_is_16 ?_
      refine g_aload_0 E dX12_is_19 ?_
      refine g_getI E fl_RX12_162 kR_0 sR_0 rfl dX12_is_20 ?_
      refine g_isub E dX12_is_23 ?_
      refine g_aload_1 E dX12_is_24 ?_
      refine g_slen E ml_RX12_196 (i := 13) (by decide) hσ2 (n := 4) rfl (Nat.le_of_ble_eq_true rfl) (rm_s 6 (by decide)) ⟨Nat.zero_le _, Nat.zero_le _⟩ dX12_is_25 ?_
      refine g_icmp_ne E (c32_w _) cl_4 djX12_is_28 (fun hc => ?_) (fun hc => ?_)
      · replace h := h.1 hc
        exact (t_X12_is_s13_b35 E hr σ2 hσ2 h).weak (w_k (w_k (w_d (w_d w_n))))
      · replace h := h.2 hc
        refine g_iconst E dX12_is_31 ?_
        refine g_goto E djX12_is_32 ?_
        exact (t_X12_is_s13_b36 E hr 1 σ2 cl_1 hσ2 h).weak (w_k (w_k (w_d (w_d w_n))))
end
theorem m_X12_is_s13 {Z : (Nat → Nat) × (Nat → Nat)} {l : Launch} {D : va_G} {cA : Nat → ClassId} {ad : Nat → Nat} {σ : St} {Q : Int → St → Prop} (hA : AdOk NR ad) (hσ : CanS shR NR σ) (h : wp_X12_is_s13  σ Q) : KtI Z l D cA ad shR NR yX12_is cX12_is 4 (some .boolean) 6 [.ref (ad 0), .ref (Z.1 13)] σ Q :=
  KtI.of my_X12_is hA [some (.ref (ad 0)), some (.ref (Z.1 13)), none, none] (Nat.le_of_ble_eq_true rfl) rfl (fun p e s m args below meth c A0 E hr => t_X12_is_s13 E hr σ hσ h)
theorem dX12_takesSign_0 : Dc cX12_takesSign 0 (.aload_n 0) 1 1 := ⟨by decide +kernel, rfl⟩
theorem dX12_takesSign_1 : Dc cX12_takesSign 1 (.getfield 165) 3 4 := ⟨by decide +kernel, rfl⟩
theorem dX12_takesSign_4 : Dc cX12_takesSign 4 (.iconst 4) 1 5 := ⟨by decide +kernel, rfl⟩
theorem djX12_takesSign_5 : Dj cX12_takesSign 5 (.if_icmp .ne 11) 3 8 11 16 := ⟨by decide +kernel, rfl, by decide⟩
theorem dX12_takesSign_8 : Dc cX12_takesSign 8 (.aload_n 0) 1 9 := ⟨by decide +kernel, rfl⟩
theorem dX12_takesSign_9 : Dc cX12_takesSign 9 (.getfield 176) 3 12 := ⟨by decide +kernel, rfl⟩
theorem dX12_takesSign_12 : Dc cX12_takesSign 12 (.iload_n 1) 1 13 := ⟨by decide +kernel, rfl⟩
theorem djX12_takesSign_13 : Dj cX12_takesSign 13 (.if_icmp .eq 8) 3 16 8 21 := ⟨by decide +kernel, rfl, by decide⟩
theorem dX12_takesSign_16 : Dc cX12_takesSign 16 (.aload_n 0) 1 17 := ⟨by decide +kernel, rfl⟩
theorem dX12_takesSign_17 : Dc cX12_takesSign 17 (.iconst 1) 1 18 := ⟨by decide +kernel, rfl⟩
theorem dX12_takesSign_18 : Dc cX12_takesSign 18 (.invokevirtual 209) 3 21 := ⟨by decide +kernel, rfl⟩
theorem dX12_takesSign_21 : Dc cX12_takesSign 21 (.aload_n 0) 1 22 := ⟨by decide +kernel, rfl⟩
theorem dX12_takesSign_22 : Dc cX12_takesSign 22 (.invokevirtual 192) 3 25 := ⟨by decide +kernel, rfl⟩
theorem djX12_takesSign_25 : Dj cX12_takesSign 25 (.ifCond .eq 7) 3 28 7 32 := ⟨by decide +kernel, rfl, by decide⟩
theorem dX12_takesSign_28 : Dc cX12_takesSign 28 (.aload_n 0) 1 29 := ⟨by decide +kernel, rfl⟩
theorem dX12_takesSign_29 : Dc cX12_takesSign 29 (.invokevirtual 213) 3 32 := ⟨by decide +kernel, rfl⟩
theorem dX12_takesSign_32 : Dc cX12_takesSign 32 (.return_) 1 33 := ⟨by decide +kernel, rfl⟩
section
variable {p : Program} {l : Launch} {e : Env} {s : State} {m : MethodId} {args : Array Value} {below : List Frame} {meth : Method} {c : Code} {A0 : Nat → Prop} {D : va_G} {cA : Nat → ClassId} {ad : Nat → Nat} {Z : (Nat → Nat) × (Nat → Nat)} {Q : Int → St → Prop}
set_option maxHeartbeats 4000000 in
set_option maxRecDepth 100000 in
theorem t_X12_takesSign_b21 (E : Ev p s m args meth c cX12_takesSign 2 RX12 A0 D cA ad NR Z) (hr : meth.sig.returnType = none) (σ : St) (hσ : CanS shR NR σ) (h : wp_X12_takesSign_b21 Q  σ) : G p l e (rmL 3 0 0) s m args below meth c 2 A0 D cA ad shR NR 0 0 (MQ below (QVc D cA ad shR NR Q A0) args s 0 0 A0) σ 21 [some (.ref (ad 0)), none] [] := by
  unfold wp_X12_takesSign_b21 at h
  refine g_aload_0 E dX12_takesSign_21 ?_
  refine g_callvI E my_X12_good mi_X12_good msel_X12_good ml_RX12_192 (rm_ok (by decide) (by decide)) ⟨Nat.zero_le _, Nat.zero_le _⟩ kR_0 sR_0 rfl (m_X12_good E.2.2.1 hσ h) rfl rfl (Nat.le_of_ble_eq_true rfl) dX12_takesSign_22 (fun r3 σ4 cr3 hσ4 h => ?_)
  refine g_if_eq E cr3 djX12_takesSign_25 (fun hc => ?_) (fun hc => ?_)
  · replace h := h.1 hc
    exact g_vret E hr h hσ4 dX12_takesSign_32
  · replace h := h.2 hc
    refine g_aload_0 E dX12_takesSign_28 ?_
    refine g_callvV E my_X12_advance mi_X12_advance msel_X12_advance ml_RX12_213 (rm_ok (by decide) (by decide)) ⟨Nat.zero_le _, Nat.zero_le _⟩ kR_0 sR_0 rfl (m_X12_advance E.2.2.1 hσ4 h) rfl rfl (Nat.le_of_ble_eq_true rfl) dX12_takesSign_29 (fun σ6 r5 hσ6 h => ?_)
    exact g_vret E hr h hσ6 dX12_takesSign_32
set_option maxHeartbeats 4000000 in
set_option maxRecDepth 100000 in
theorem t_X12_takesSign_b16 (E : Ev p s m args meth c cX12_takesSign 2 RX12 A0 D cA ad NR Z) (hr : meth.sig.returnType = none) (σ : St) (hσ : CanS shR NR σ) (h : wp_X12_takesSign_b16 Q  σ) : G p l e (rmL 3 0 0) s m args below meth c 2 A0 D cA ad shR NR 0 0 (MQ below (QVc D cA ad shR NR Q A0) args s 0 0 A0) σ 16 [some (.ref (ad 0)), none] [] := by
  unfold wp_X12_takesSign_b16 at h
  refine g_aload_0 E dX12_takesSign_16 ?_
  refine g_iconst E dX12_takesSign_17 ?_
  refine g_callvV E my_X12_errs mi_X12_errs msel_X12_errs ml_RX12_209 (rm_ok (by decide) (by decide)) ⟨Nat.zero_le _, Nat.zero_le _⟩ kR_0 sR_0 rfl (m_X12_errs E.2.2.1 cl_1 hσ h) rfl rfl (Nat.le_of_ble_eq_true rfl) dX12_takesSign_18 (fun σ2 r1 hσ2 h => ?_)
  exact (t_X12_takesSign_b21 E hr σ2 hσ2 h).weak (w_k (w_d w_n))
set_option maxHeartbeats 4000000 in
set_option maxRecDepth 100000 in
theorem t_X12_takesSign (E : Ev p s m args meth c cX12_takesSign 2 RX12 A0 D cA ad NR Z) (hr : meth.sig.returnType = none) (x1 : Int) (σ : St) (c1 : C32 x1) (hσ : CanS shR NR σ) (h : wp_X12_takesSign x1 σ Q) : G p l e (rmL 3 0 0) s m args below meth c 2 A0 D cA ad shR NR 0 0 (MQ below (QVc D cA ad shR NR Q A0) args s 0 0 A0) σ 0 [some (.ref (ad 0)), some (vI x1)] [] := by
  unfold wp_X12_takesSign at h
  refine g_aload_0 E dX12_takesSign_0 ?_
  refine g_getI E fl_RX12_165 kR_0 sR_0 rfl dX12_takesSign_1 ?_
  refine g_iconst E dX12_takesSign_4 ?_
  refine g_icmp_ne E (fR_0_22 hσ) cl_4 djX12_takesSign_5 (fun hc => ?_) (fun hc => ?_)
  · replace h := h.1 hc
    exact (t_X12_takesSign_b16 E hr σ hσ h).weak (w_k (w_d w_n))
  · replace h := h.2 hc
    refine g_aload_0 E dX12_takesSign_8 ?_
    refine g_getI E fl_RX12_176 kR_0 sR_0 rfl dX12_takesSign_9 ?_
    refine g_iload_1 E dX12_takesSign_12 ?_
    refine g_icmp_eq E (fR_0_23 hσ) c1 djX12_takesSign_13 (fun hc => ?_) (fun hc => ?_)
    · replace h := h.1 hc
      exact (t_X12_takesSign_b21 E hr σ hσ h).weak (w_k (w_d w_n))
    · replace h := h.2 hc
      exact (t_X12_takesSign_b16 E hr σ hσ h).weak (w_k (w_d w_n))
end
theorem m_X12_takesSign {Z : (Nat → Nat) × (Nat → Nat)} {l : Launch} {D : va_G} {cA : Nat → ClassId} {ad : Nat → Nat} {x1 : Int} {σ : St} {Q : Int → St → Prop} (hA : AdOk NR ad) (c1 : C32 x1) (hσ : CanS shR NR σ) (h : wp_X12_takesSign x1 σ Q) : KtV Z l D cA ad shR NR yX12_takesSign cX12_takesSign 2 none 3 [.ref (ad 0), vI x1] σ Q :=
  KtV.of my_X12_takesSign hA [some (.ref (ad 0)), some (vI x1)] (Nat.le_of_ble_eq_true rfl) rfl (fun p e s m args below meth c A0 E hr => t_X12_takesSign E hr x1 σ c1 hσ h)
theorem dX12_isPart_0 : Dc cX12_isPart 0 (.aload_n 0) 1 1 := ⟨by decide +kernel, rfl⟩
theorem dX12_isPart_1 : Dc cX12_isPart 1 (.invokevirtual 192) 3 4 := ⟨by decide +kernel, rfl⟩
theorem djX12_isPart_4 : Dj cX12_isPart 4 (.ifCond .eq 36) 3 7 36 40 := ⟨by decide +kernel, rfl, by decide⟩
theorem dX12_isPart_7 : Dc cX12_isPart 7 (.aload_n 0) 1 8 := ⟨by decide +kernel, rfl⟩
theorem dX12_isPart_8 : Dc cX12_isPart 8 (.getfield 165) 3 11 := ⟨by decide +kernel, rfl⟩
theorem dX12_isPart_11 : Dc cX12_isPart 11 (.iconst 3) 1 12 := ⟨by decide +kernel, rfl⟩
theorem djX12_isPart_12 : Dj cX12_isPart 12 (.if_icmp .eq 24) 3 15 24 36 := ⟨by decide +kernel, rfl, by decide⟩
theorem dX12_isPart_15 : Dc cX12_isPart 15 (.aload_n 0) 1 16 := ⟨by decide +kernel, rfl⟩
theorem dX12_isPart_16 : Dc cX12_isPart 16 (.getfield 165) 3 19 := ⟨by decide +kernel, rfl⟩
theorem dX12_isPart_19 : Dc cX12_isPart 19 (.iconst 1) 1 20 := ⟨by decide +kernel, rfl⟩
theorem djX12_isPart_20 : Dj cX12_isPart 20 (.if_icmp .ne 20) 3 23 20 40 := ⟨by decide +kernel, rfl, by decide⟩
theorem dX12_isPart_23 : Dc cX12_isPart 23 (.aload_n 0) 1 24 := ⟨by decide +kernel, rfl⟩
theorem dX12_isPart_24 : Dc cX12_isPart 24 (.getfield 155) 3 27 := ⟨by decide +kernel, rfl⟩
theorem dX12_isPart_27 : Dc cX12_isPart 27 (.aload_n 0) 1 28 := ⟨by decide +kernel, rfl⟩
theorem dX12_isPart_28 : Dc cX12_isPart 28 (.getfield 162) 3 31 := ⟨by decide +kernel, rfl⟩
theorem dX12_isPart_31 : Dc cX12_isPart 31 (.isub) 1 32 := ⟨by decide +kernel, rfl⟩
theorem dX12_isPart_32 : Dc cX12_isPart 32 (.iconst 1) 1 33 := ⟨by decide +kernel, rfl⟩
theorem djX12_isPart_33 : Dj cX12_isPart 33 (.if_icmp .ne 7) 3 36 7 40 := ⟨by decide +kernel, rfl, by decide⟩
theorem dX12_isPart_36 : Dc cX12_isPart 36 (.iconst 1) 1 37 := ⟨by decide +kernel, rfl⟩
theorem djX12_isPart_37 : Dj cX12_isPart 37 (.goto 4) 3 40 4 41 := ⟨by decide +kernel, rfl, by decide⟩
theorem dX12_isPart_40 : Dc cX12_isPart 40 (.iconst 0) 1 41 := ⟨by decide +kernel, rfl⟩
theorem dX12_isPart_41 : Dc cX12_isPart 41 (.ireturn) 1 42 := ⟨by decide +kernel, rfl⟩
section
variable {p : Program} {l : Launch} {e : Env} {s : State} {m : MethodId} {args : Array Value} {below : List Frame} {meth : Method} {c : Code} {A0 : Nat → Prop} {D : va_G} {cA : Nat → ClassId} {ad : Nat → Nat} {Z : (Nat → Nat) × (Nat → Nat)} {Q : Int → St → Prop}
set_option maxHeartbeats 4000000 in
set_option maxRecDepth 100000 in
theorem t_X12_isPart_b36 (E : Ev p s m args meth c cX12_isPart 1 RX12 A0 D cA ad NR Z) (hr : meth.sig.returnType = (some .boolean)) (σ : St) (hσ : CanS shR NR σ) (h : wp_X12_isPart_b36 Q  σ) : G p l e (rmL 2 0 0) s m args below meth c 1 A0 D cA ad shR NR 0 0 (MQ below (QIc D cA ad shR NR Q A0) args s 0 0 A0) σ 36 [none] [] := by
  unfold wp_X12_isPart_b36 at h
  refine g_iconst E dX12_isPart_36 ?_
  refine g_goto E djX12_isPart_37 ?_
  exact g_zret E hr (Or.inr rfl) h hσ dX12_isPart_41
set_option maxHeartbeats 4000000 in
set_option maxRecDepth 100000 in
theorem t_X12_isPart_b40 (E : Ev p s m args meth c cX12_isPart 1 RX12 A0 D cA ad NR Z) (hr : meth.sig.returnType = (some .boolean)) (σ : St) (hσ : CanS shR NR σ) (h : wp_X12_isPart_b40 Q  σ) : G p l e (rmL 2 0 0) s m args below meth c 1 A0 D cA ad shR NR 0 0 (MQ below (QIc D cA ad shR NR Q A0) args s 0 0 A0) σ 40 [none] [] := by
  unfold wp_X12_isPart_b40 at h
  refine g_iconst E dX12_isPart_40 ?_
  exact g_zret E hr (Or.inl rfl) h hσ dX12_isPart_41
set_option maxHeartbeats 4000000 in
set_option maxRecDepth 100000 in
theorem t_X12_isPart (E : Ev p s m args meth c cX12_isPart 1 RX12 A0 D cA ad NR Z) (hr : meth.sig.returnType = (some .boolean)) (σ : St) (hσ : CanS shR NR σ) (h : wp_X12_isPart  σ Q) : G p l e (rmL 2 0 0) s m args below meth c 1 A0 D cA ad shR NR 0 0 (MQ below (QIc D cA ad shR NR Q A0) args s 0 0 A0) σ 0 [some (.ref (ad 0))] [] := by
  unfold wp_X12_isPart at h
  refine g_aload_0 E dX12_isPart_0 ?_
  refine g_callvI E my_X12_good mi_X12_good msel_X12_good ml_RX12_192 (rm_ok (by decide) (by decide)) ⟨Nat.zero_le _, Nat.zero_le _⟩ kR_0 sR_0 rfl (m_X12_good E.2.2.1 hσ h) rfl rfl (Nat.le_of_ble_eq_true rfl) dX12_isPart_1 (fun r1 σ2 cr1 hσ2 h => ?_)
  refine g_if_eq E cr1 djX12_isPart_4 (fun hc => ?_) (fun hc => ?_)
  · replace h := h.1 hc
    exact (t_X12_isPart_b40 E hr σ2 hσ2 h).weak (w_d w_n)
  · replace h := h.2 hc
    refine g_aload_0 E dX12_isPart_7 ?_
    refine g_getI E fl_RX12_165 kR_0 sR_0 rfl dX12_isPart_8 ?_
    refine g_iconst E dX12_isPart_11 ?_
    refine g_icmp_eq E (fR_0_22 hσ2) cl_3 djX12_isPart_12 (fun hc => ?_) (fun hc => ?_)
    · replace h := h.1 hc
      exact (t_X12_isPart_b36 E hr σ2 hσ2 h).weak (w_d w_n)
    · replace h := h.2 hc
      refine g_aload_0 E dX12_isPart_15 ?_
      refine g_getI E fl_RX12_165 kR_0 sR_0 rfl dX12_isPart_16 ?_
      refine g_iconst E dX12_isPart_19 ?_
      refine g_icmp_ne E (fR_0_22 hσ2) cl_1 djX12_isPart_20 (fun hc => ?_) (fun hc => ?_)
      · replace h := h.1 hc
        exact (t_X12_isPart_b40 E hr σ2 hσ2 h).weak (w_d w_n)
      · replace h := h.2 hc
        refine g_aload_0 E dX12_isPart_23 ?_
        refine g_getI E fl_RX12_155 kR_0 sR_0 rfl dX12_isPart_24 ?_
        refine g_aload_0 E dX12_isPart_27 ?_
        refine g_getI E fl_RX12_162 kR_0 sR_0 rfl dX12_isPart_28 ?_
        refine g_isub E dX12_isPart_31 ?_
        refine g_iconst E dX12_isPart_32 ?_
        refine g_icmp_ne E (c32_w _) cl_1 djX12_isPart_33 (fun hc => ?_) (fun hc => ?_)
        · replace h := h.1 hc
          exact (t_X12_isPart_b40 E hr σ2 hσ2 h).weak (w_d w_n)
        · replace h := h.2 hc
          exact (t_X12_isPart_b36 E hr σ2 hσ2 h).weak (w_d w_n)
end
theorem m_X12_isPart {Z : (Nat → Nat) × (Nat → Nat)} {l : Launch} {D : va_G} {cA : Nat → ClassId} {ad : Nat → Nat} {σ : St} {Q : Int → St → Prop} (hA : AdOk NR ad) (hσ : CanS shR NR σ) (h : wp_X12_isPart  σ Q) : KtI Z l D cA ad shR NR yX12_isPart cX12_isPart 1 (some .boolean) 2 [.ref (ad 0)] σ Q :=
  KtI.of my_X12_isPart hA [some (.ref (ad 0))] (Nat.le_of_ble_eq_true rfl) rfl (fun p e s m args below meth c A0 E hr => t_X12_isPart E hr σ hσ h)
theorem dX12_readPart_0 : Dc cX12_readPart 0 (.aload_n 0) 1 1 := ⟨by decide +kernel, rfl⟩
theorem dX12_readPart_1 : Dc cX12_readPart 1 (.invokevirtual 227) 3 4 := ⟨by decide +kernel, rfl⟩
theorem djX12_readPart_4 : Dj cX12_readPart 4 (.ifCond .ne 8) 3 7 8 12 := ⟨by decide +kernel, rfl, by decide⟩
theorem dX12_readPart_7 : Dc cX12_readPart 7 (.aload_n 0) 1 8 := ⟨by decide +kernel, rfl⟩
theorem dX12_readPart_8 : Dc cX12_readPart 8 (.iconst 1) 1 9 := ⟨by decide +kernel, rfl⟩
theorem dX12_readPart_9 : Dc cX12_readPart 9 (.invokevirtual 209) 3 12 := ⟨by decide +kernel, rfl⟩
theorem dX12_readPart_12 : Dc cX12_readPart 12 (.aload_n 0) 1 13 := ⟨by decide +kernel, rfl⟩
theorem dX12_readPart_13 : Dc cX12_readPart 13 (.invokevirtual 192) 3 16 := ⟨by decide +kernel, rfl⟩
theorem djX12_readPart_16 : Dj cX12_readPart 16 (.ifCond .ne 5) 3 19 5 21 := ⟨by decide +kernel, rfl, by decide⟩
theorem dX12_readPart_19 : Dc cX12_readPart 19 (.iconst (-1)) 1 20 := ⟨by decide +kernel, rfl⟩
theorem dX12_readPart_20 : Dc cX12_readPart 20 (.ireturn) 1 21 := ⟨by decide +kernel, rfl⟩
theorem dX12_readPart_21 : Dc cX12_readPart 21 (.aload_n 0) 1 22 := ⟨by decide +kernel, rfl⟩
theorem dX12_readPart_22 : Dc cX12_readPart 22 (.getfield 165) 3 25 := ⟨by decide +kernel, rfl⟩
theorem dX12_readPart_25 : Dc cX12_readPart 25 (.iconst 3) 1 26 := ⟨by decide +kernel, rfl⟩
theorem djX12_readPart_26 : Dj cX12_readPart 26 (.if_icmp .ne 10) 3 29 10 36 := ⟨by decide +kernel, rfl, by decide⟩
theorem dX12_readPart_29 : Dc cX12_readPart 29 (.aload_n 0) 1 30 := ⟨by decide +kernel, rfl⟩
theorem dX12_readPart_30 : Dc cX12_readPart 30 (.getfield 176) 3 33 := ⟨by decide +kernel, rfl⟩
theorem djX12_readPart_33 : Dj cX12_readPart 33 (.goto 18) 3 36 18 51 := ⟨by decide +kernel, rfl, by decide⟩
theorem dX12_readPart_36 : Dc cX12_readPart 36 (.bipush 100) 2 38 := ⟨by decide +kernel, rfl⟩
theorem dX12_readPart_38 : Dc cX12_readPart 38 (.aload_n 0) 1 39 := ⟨by decide +kernel, rfl⟩
theorem dX12_readPart_39 : Dc cX12_readPart 39 (.getfield 47) 3 42 := ⟨by decide +kernel, rfl⟩
theorem dX12_readPart_42 : Dc cX12_readPart 42 (.aload_n 0) 1 43 := ⟨by decide +kernel, rfl⟩
theorem dX12_readPart_43 : Dc cX12_readPart 43 (.getfield 162) 3 46 := ⟨by decide +kernel, rfl⟩
theorem dX12_readPart_46 : Dc cX12_readPart 46 (.baload) 1 47 := ⟨by decide +kernel, rfl⟩
theorem dX12_readPart_47 : Dc cX12_readPart 47 (.iadd) 1 48 := ⟨by decide +kernel, rfl⟩
theorem dX12_readPart_48 : Dc cX12_readPart 48 (.bipush 97) 2 50 := ⟨by decide +kernel, rfl⟩
theorem dX12_readPart_50 : Dc cX12_readPart 50 (.isub) 1 51 := ⟨by decide +kernel, rfl⟩
theorem dX12_readPart_51 : Dc cX12_readPart 51 (.istore_n 1) 1 52 := ⟨by decide +kernel, rfl⟩
theorem dX12_readPart_52 : Dc cX12_readPart 52 (.aload_n 0) 1 53 := ⟨by decide +kernel, rfl⟩
theorem dX12_readPart_53 : Dc cX12_readPart 53 (.invokevirtual 213) 3 56 := ⟨by decide +kernel, rfl⟩
theorem dX12_readPart_56 : Dc cX12_readPart 56 (.iload_n 1) 1 57 := ⟨by decide +kernel, rfl⟩
theorem dX12_readPart_57 : Dc cX12_readPart 57 (.ireturn) 1 58 := ⟨by decide +kernel, rfl⟩
section
variable {p : Program} {l : Launch} {e : Env} {s : State} {m : MethodId} {args : Array Value} {below : List Frame} {meth : Method} {c : Code} {A0 : Nat → Prop} {D : va_G} {cA : Nat → ClassId} {ad : Nat → Nat} {Z : (Nat → Nat) × (Nat → Nat)} {Q : Int → St → Prop}
set_option maxHeartbeats 4000000 in
set_option maxRecDepth 100000 in
theorem t_X12_readPart_b51 (E : Ev p s m args meth c cX12_readPart 2 RX12 A0 D cA ad NR Z) (hr : meth.sig.returnType = (some .int)) (s0 : Int) (σ : St) (cs0 : C32 s0) (hσ : CanS shR NR σ) (h : wp_X12_readPart_b51 Q s0 σ) : G p l e (rmL 3 0 0) s m args below meth c 2 A0 D cA ad shR NR 0 0 (MQ below (QIc D cA ad shR NR Q A0) args s 0 0 A0) σ 51 [some (.ref (ad 0)), none] [vI s0] := by
  unfold wp_X12_readPart_b51 at h
  refine g_istore_1 E rfl (by decide) dX12_readPart_51 ?_
  refine g_aload_0 E dX12_readPart_52 ?_
  refine g_callvV E my_X12_advance mi_X12_advance msel_X12_advance ml_RX12_213 (rm_ok (by decide) (by decide)) ⟨Nat.zero_le _, Nat.zero_le _⟩ kR_0 sR_0 rfl (m_X12_advance E.2.2.1 hσ h) rfl rfl (Nat.le_of_ble_eq_true rfl) dX12_readPart_53 (fun σ8 r7 hσ8 h => ?_)
  refine g_iload_1 E dX12_readPart_56 ?_
  exact g_iret E hr cs0 h hσ8 dX12_readPart_57
set_option maxHeartbeats 4000000 in
set_option maxRecDepth 100000 in
theorem t_X12_readPart_b12 (E : Ev p s m args meth c cX12_readPart 2 RX12 A0 D cA ad NR Z) (hr : meth.sig.returnType = (some .int)) (σ : St) (hσ : CanS shR NR σ) (h : wp_X12_readPart_b12 Q  σ) : G p l e (rmL 3 0 0) s m args below meth c 2 A0 D cA ad shR NR 0 0 (MQ below (QIc D cA ad shR NR Q A0) args s 0 0 A0) σ 12 [some (.ref (ad 0)), none] [] := by
  unfold wp_X12_readPart_b12 at h
  refine g_aload_0 E dX12_readPart_12 ?_
  refine g_callvI E my_X12_good mi_X12_good msel_X12_good ml_RX12_192 (rm_ok (by decide) (by decide)) ⟨Nat.zero_le _, Nat.zero_le _⟩ kR_0 sR_0 rfl (m_X12_good E.2.2.1 hσ h) rfl rfl (Nat.le_of_ble_eq_true rfl) dX12_readPart_13 (fun r5 σ6 cr5 hσ6 h => ?_)
  refine g_if_ne E cr5 djX12_readPart_16 (fun hc => ?_) (fun hc => ?_)
  · replace h := h.1 hc
    refine g_aload_0 E dX12_readPart_21 ?_
    refine g_getI E fl_RX12_165 kR_0 sR_0 rfl dX12_readPart_22 ?_
    refine g_iconst E dX12_readPart_25 ?_
    refine g_icmp_ne E (fR_0_22 hσ6) cl_3 djX12_readPart_26 (fun hc => ?_) (fun hc => ?_)
    · replace h := h.1 hc
      refine g_bipush E (by decide) dX12_readPart_36 ?_
      refine g_aload_0 E dX12_readPart_38 ?_
      refine g_getR E fl_RX12_47 kR_0 sR_0 rfl dX12_readPart_39 ?_
      refine g_aload_0 E dX12_readPart_42 ?_
      refine g_getI E fl_RX12_162 kR_0 sR_0 rfl dX12_readPart_43 ?_
      refine g_bald E kR_12 sR_12 (by decide) h.1 dX12_readPart_46 ?_
      replace h := h.2
      refine g_iadd E dX12_readPart_47 ?_
      refine g_bipush E (by decide) dX12_readPart_48 ?_
      refine g_isub E dX12_readPart_50 ?_
      exact (t_X12_readPart_b51 E hr (w32 ((w32 (100 + (σ6 12 ((σ6 0 21).toNat)))) - 97)) σ6 (c32_w _) hσ6 h).weak (w_k (w_d w_n))
    · replace h := h.2 hc
      refine g_aload_0 E dX12_readPart_29 ?_
      refine g_getI E fl_RX12_176 kR_0 sR_0 rfl dX12_readPart_30 ?_
      refine g_goto E djX12_readPart_33 ?_
      exact (t_X12_readPart_b51 E hr (σ6 0 23) σ6 (fR_0_23 hσ6) hσ6 h).weak (w_k (w_d w_n))
  · replace h := h.2 hc
    refine g_iconst E dX12_readPart_19 ?_
    exact g_iret E hr cl_m1 h hσ6 dX12_readPart_20
set_option maxHeartbeats 4000000 in
set_option maxRecDepth 100000 in
theorem t_X12_readPart (E : Ev p s m args meth c cX12_readPart 2 RX12 A0 D cA ad NR Z) (hr : meth.sig.returnType = (some .int)) (σ : St) (hσ : CanS shR NR σ) (h : wp_X12_readPart  σ Q) : G p l e (rmL 3 0 0) s m args below meth c 2 A0 D cA ad shR NR 0 0 (MQ below (QIc D cA ad shR NR Q A0) args s 0 0 A0) σ 0 [some (.ref (ad 0)), none] [] := by
  unfold wp_X12_readPart at h
  refine g_aload_0 E dX12_readPart_0 ?_
  refine g_callvI E my_X12_isPart mi_X12_isPart msel_X12_isPart ml_RX12_227 (rm_ok (by decide) (by decide)) ⟨Nat.zero_le _, Nat.zero_le _⟩ kR_0 sR_0 rfl (m_X12_isPart E.2.2.1 hσ h) rfl rfl (Nat.le_of_ble_eq_true rfl) dX12_readPart_1 (fun r1 σ2 cr1 hσ2 h => ?_)
  refine g_if_ne E cr1 djX12_readPart_4 (fun hc => ?_) (fun hc => ?_)
  · replace h := h.1 hc
    exact (t_X12_readPart_b12 E hr σ2 hσ2 h).weak (w_k (w_d w_n))
  · replace h := h.2 hc
    refine g_aload_0 E dX12_readPart_7 ?_
    refine g_iconst E dX12_readPart_8 ?_
    refine g_callvV E my_X12_errs mi_X12_errs msel_X12_errs ml_RX12_209 (rm_ok (by decide) (by decide)) ⟨Nat.zero_le _, Nat.zero_le _⟩ kR_0 sR_0 rfl (m_X12_errs E.2.2.1 cl_1 hσ2 h) rfl rfl (Nat.le_of_ble_eq_true rfl) dX12_readPart_9 (fun σ4 r3 hσ4 h => ?_)
    exact (t_X12_readPart_b12 E hr σ4 hσ4 h).weak (w_k (w_d w_n))
end
theorem m_X12_readPart {Z : (Nat → Nat) × (Nat → Nat)} {l : Launch} {D : va_G} {cA : Nat → ClassId} {ad : Nat → Nat} {σ : St} {Q : Int → St → Prop} (hA : AdOk NR ad) (hσ : CanS shR NR σ) (h : wp_X12_readPart  σ Q) : KtI Z l D cA ad shR NR yX12_readPart cX12_readPart 2 (some .int) 3 [.ref (ad 0)] σ Q :=
  KtI.of my_X12_readPart hA [some (.ref (ad 0)), none] (Nat.le_of_ble_eq_true rfl) rfl (fun p e s m args below meth c A0 E hr => t_X12_readPart E hr σ hσ h)
section
variable {p : Program} {l : Launch} {e : Env} {s : State} {m : MethodId} {args : Array Value} {below : List Frame} {meth : Method} {c : Code} {A0 : Nat → Prop} {D : va_G} {cA : Nat → ClassId} {ad : Nat → Nat} {Z : (Nat → Nat) × (Nat → Nat)} {Q : Int → St → Prop}
set_option maxHeartbeats 4000000 in
set_option maxRecDepth 100000 in
theorem t_X12_is_s14_b75 (E : Ev p s m args meth c cX12_is 4 RX12 A0 D cA ad NR Z) (hr : meth.sig.returnType = (some .boolean)) {K39 : Int → Int → St → Prop} (hK39 : ∀ (x2 : Int) (x3 : Int) (σ : St), C32 x2 → C32 x3 → CanS shR NR σ → K39 x2 x3 σ → G p l e (rmL 6 0 0) s m args below meth c 4 A0 D cA ad shR NR 0 0 (MQ below (QIc D cA ad shR NR Q A0) args s 0 0 A0) σ 39 [some (.ref (ad 0)), some (.ref (Z.1 14)), some (vI x2), some (vI x3)] []) (x3 : Int) (s0 : Int) (σ : St) (c3 : C32 x3) (cs0 : C32 s0) (hσ : CanS shR NR σ) (h : wp_X12_is_s14_b75 Q K39 x3 s0 σ) : G p l e (rmL 6 0 0) s m args below meth c 4 A0 D cA ad shR NR 0 0 (MQ below (QIc D cA ad shR NR Q A0) args s 0 0 A0) σ 75 [some (.ref (ad 0)), some (.ref (Z.1 14)), none, some (vI x3)] [vI s0] := by
  unfold wp_X12_is_s14_b75 at h
  refine g_istore_2 E rfl (by decide) dX12_is_75 ?_
  refine g_iinc_3 E rfl (by decide) dX12_is_76 (fun v3 ev3 => ?_)
  replace h := h v3 ev3
  have cv3 : C32 v3 := by rw [ev3]; exact c32_w _
  refine g_goto E djX12_is_79 ?_
  exact (hK39 s0 v3 σ cs0 cv3 hσ h).weak (w_k (w_k (w_k (w_k w_n))))
set_option maxHeartbeats 4000000 in
set_option maxRecDepth 100000 in
theorem t_X12_is_s14_l39 (E : Ev p s m args meth c cX12_is 4 RX12 A0 D cA ad NR Z) (hr : meth.sig.returnType = (some .boolean)) : ∀ (n : Nat) (x2 : Int) (x3 : Int) (σ : St), C32 x2 → C32 x3 → CanS shR NR σ → wp_X12_is_s14_l39 Q n x2 x3 σ → G p l e (rmL 6 0 0) s m args below meth c 4 A0 D cA ad shR NR 0 0 (MQ below (QIc D cA ad shR NR Q A0) args s 0 0 A0) σ 39 [some (.ref (ad 0)), some (.ref (Z.1 14)), some (vI x2), some (vI x3)] [] := by
  intro n
  induction n with
  | zero => intro _ _ _ _ _ _ h; exact h.elim
  | succ n ih =>
    intro x2 x3 σ c2 c3 hσ h
    unfold wp_X12_is_s14_l39 at h
    refine g_iload_3 E dX12_is_39 ?_
    refine g_aload_1 E dX12_is_40 ?_
    refine g_slen E ml_RX12_196 (i := 14) (by decide) hσ (n := 4) rfl (Nat.le_of_ble_eq_true rfl) (rm_s 6 (by decide)) ⟨Nat.zero_le _, Nat.zero_le _⟩ dX12_is_41 ?_
    refine g_icmp_ge E c3 cl_4 djX12_is_44 (fun hc => ?_) (fun hc => ?_)
    · replace h := h.1 hc
      refine g_iload_2 E dX12_is_82 ?_
      exact g_zret E hr h.1 h.2 hσ dX12_is_83
    · replace h := h.2 hc
      refine g_iload_2 E dX12_is_47 ?_
      refine g_if_eq E c2 djX12_is_48 (fun hc => ?_) (fun hc => ?_)
      · replace h := h.1 hc
        refine g_iload_2 E dX12_is_82 ?_
        exact g_zret E hr h.1 h.2 hσ dX12_is_83
      · replace h := h.2 hc
        refine g_aload_0 E dX12_is_51 ?_
        refine g_getR E fl_RX12_47 kR_0 sR_0 rfl dX12_is_52 ?_
        refine g_aload_0 E dX12_is_55 ?_
        refine g_getI E fl_RX12_162 kR_0 sR_0 rfl dX12_is_56 ?_
        refine g_iload_3 E dX12_is_59 ?_
        refine g_iadd E dX12_is_60 ?_
        refine g_bald E kR_12 sR_12 (by decide) h.1 dX12_is_61 ?_
        replace h := h.2
        refine g_aload_1 E dX12_is_62 ?_
        refine g_iload_3 E dX12_is_63 ?_
        refine g_schar E ml_RX12_201 (i := 14) (by decide) hσ (n := 4) rfl h.1 (Nat.le_of_ble_eq_true rfl) (rm_s 6 (by decide)) ⟨Nat.zero_le _, Nat.zero_le _⟩ dX12_is_64 ?_
        replace h := h.2
        refine g_icmp_ne E (aR_12 hσ _) (c32_str 14 (by decide) _) djX12_is_67 (fun hc => ?_) (fun hc => ?_)
        · replace h := h.1 hc
          refine g_iconst E dX12_is_74 ?_
          exact (t_X12_is_s14_b75 E hr ih x3 0 σ c3 cl_0 hσ h).weak (w_k (w_k (w_d (w_k w_n))))
        · replace h := h.2 hc
          refine g_iconst E dX12_is_70 ?_
          refine g_goto E djX12_is_71 ?_
          exact (t_X12_is_s14_b75 E hr ih x3 1 σ c3 cl_1 hσ h).weak (w_k (w_k (w_d (w_k w_n))))
set_option maxHeartbeats 4000000 in
set_option maxRecDepth 100000 in
theorem t_X12_is_s14_b36 (E : Ev p s m args meth c cX12_is 4 RX12 A0 D cA ad NR Z) (hr : meth.sig.returnType = (some .boolean)) (s0 : Int) (σ : St) (cs0 : C32 s0) (hσ : CanS shR NR σ) (h : wp_X12_is_s14_b36 Q s0 σ) : G p l e (rmL 6 0 0) s m args below meth c 4 A0 D cA ad shR NR 0 0 (MQ below (QIc D cA ad shR NR Q A0) args s 0 0 A0) σ 36 [some (.ref (ad 0)), some (.ref (Z.1 14)), none, none] [vI s0] := by
  unfold wp_X12_is_s14_b36 at h
  refine g_istore_2 E rfl (by decide) dX12_is_36 ?_
  refine g_iconst E dX12_is_37 ?_
  refine g_istore_3 E rfl (by decide) dX12_is_38 ?_
  exact (t_X12_is_s14_l39 E hr bigN s0 0 σ cs0 cl_0 hσ h).weak (w_k (w_k (w_k (w_k w_n))))
set_option maxHeartbeats 4000000 in
set_option maxRecDepth 100000 in
theorem t_X12_is_s14_b35 (E : Ev p s m args meth c cX12_is 4 RX12 A0 D cA ad NR Z) (hr : meth.sig.returnType = (some .boolean)) (σ : St) (hσ : CanS shR NR σ) (h : wp_X12_is_s14_b35 Q  σ) : G p l e (rmL 6 0 0) s m args below meth c 4 A0 D cA ad shR NR 0 0 (MQ below (QIc D cA ad shR NR Q A0) args s 0 0 A0) σ 35 [some (.ref (ad 0)), some (.ref (Z.1 14)), none, none] [] := by
  unfold wp_X12_is_s14_b35 at h
  refine g_iconst E dX12_is_35 ?_
  exact (t_X12_is_s14_b36 E hr 0 σ cl_0 hσ h).weak (w_k (w_k (w_d (w_d w_n))))
set_option maxHeartbeats 4000000 in
set_option maxRecDepth 100000 in
theorem t_X12_is_s14 (E : Ev p s m args meth c cX12_is 4 RX12 A0 D cA ad NR Z) (hr : meth.sig.returnType = (some .boolean)) (σ : St) (hσ : CanS shR NR σ) (h : wp_X12_is_s14  σ Q) : G p l e (rmL 6 0 0) s m args below meth c 4 A0 D cA ad shR NR 0 0 (MQ below (QIc D cA ad shR NR Q A0) args s 0 0 A0) σ 0 [some (.ref (ad 0)), some (.ref (Z.1 14)), none, none] [] := by
  unfold wp_X12_is_s14 at h
  refine g_aload_0 E dX12_is_0 ?_
  refine g_callvI E my_X12_good mi_X12_good msel_X12_good ml_RX12_192 (rm_ok (by decide) (by decide)) ⟨Nat.zero_le _, Nat.zero_le _⟩ kR_0 sR_0 rfl (m_X12_good E.2.2.1 hσ h) rfl rfl (Nat.le_of_ble_eq_true rfl) dX12_is_1 (fun r1 σ2 cr1 hσ2 h => ?_)
  refine g_if_eq E cr1 djX12_is_4 (fun hc => ?_) (fun hc => ?_)
  · replace h := h.1 hc
    exact (t_X12_is_s14_b35 E hr σ2 hσ2 h).weak (w_k (w_k (w_d (w_d w_n))))
  · replace h := h.2 hc
    refine g_aload_0 E dX12_is_7 ?_
    refine g_getI E fl_RX12_165 kR_0 sR_0 rfl dX12_is_8 ?_
    refine g_iconst E dX12_is_11 ?_
    refine g_icmp_ne E (fR_0_22 hσ2) cl_1 djX12_is_12 (fun hc => ?_) (fun hc => ?_)
    · replace h := h.1 hc
      exact (t_X12_is_s14_b35 E hr σ2 hσ2 h).weak (w_k (w_k (w_d (w_d w_n))))
    · replace h := h.2 hc
      refine g_aload_0 E dX12_is_15 ?_
      refine g_getI E fl_RX12_155 kR_0 sR_0 rfl dX12_is_16 ?_
      refine g_aload_0 E dX12_is_19 ?_
      refine g_getI E fl_RX12_162 kR_0 sR_0 rfl dX12_is_20 ?_
      refine g_isub E dX12_is_23 ?_
      refine g_aload_1 E dX12_is_24 ?_
      refine g_slen E ml_RX12_196 (i := 14) (by decide) hσ2 (n := 4) rfl (Nat.le_of_ble_eq_true rfl) (rm_s 6 (by decide)) ⟨Nat.zero_le _, Nat.zero_le _⟩ dX12_is_25 ?_
      refine g_icmp_ne E (c32_w _) cl_4 djX12_is_28 (fun hc => ?_) (fun hc => ?_)
      · replace h := h.1 hc
        exact (t_X12_is_s14_b35 E hr σ2 hσ2 h).weak (w_k (w_k (w_d (w_d w_n))))
      · replace h := h.2 hc
        refine g_iconst E dX12_is_31 ?_
        refine g_goto E djX12_is_32 ?_
        exact (t_X12_is_s14_b36 E hr 1 σ2 cl_1 hσ2 h).weak (w_k (w_k (w_d (w_d w_n))))
end
theorem m_X12_is_s14 {Z : (Nat → Nat) × (Nat → Nat)} {l : Launch} {D : va_G} {cA : Nat → ClassId} {ad : Nat → Nat} {σ : St} {Q : Int → St → Prop} (hA : AdOk NR ad) (hσ : CanS shR NR σ) (h : wp_X12_is_s14  σ Q) : KtI Z l D cA ad shR NR yX12_is cX12_is 4 (some .boolean) 6 [.ref (ad 0), .ref (Z.1 14)] σ Q :=
  KtI.of my_X12_is hA [some (.ref (ad 0)), some (.ref (Z.1 14)), none, none] (Nat.le_of_ble_eq_true rfl) rfl (fun p e s m args below meth c A0 E hr => t_X12_is_s14 E hr σ hσ h)
section
variable {p : Program} {l : Launch} {e : Env} {s : State} {m : MethodId} {args : Array Value} {below : List Frame} {meth : Method} {c : Code} {A0 : Nat → Prop} {D : va_G} {cA : Nat → ClassId} {ad : Nat → Nat} {Z : (Nat → Nat) × (Nat → Nat)} {Q : Int → St → Prop}
set_option maxHeartbeats 4000000 in
set_option maxRecDepth 100000 in
theorem t_X12_is_s15_b75 (E : Ev p s m args meth c cX12_is 4 RX12 A0 D cA ad NR Z) (hr : meth.sig.returnType = (some .boolean)) {K39 : Int → Int → St → Prop} (hK39 : ∀ (x2 : Int) (x3 : Int) (σ : St), C32 x2 → C32 x3 → CanS shR NR σ → K39 x2 x3 σ → G p l e (rmL 6 0 0) s m args below meth c 4 A0 D cA ad shR NR 0 0 (MQ below (QIc D cA ad shR NR Q A0) args s 0 0 A0) σ 39 [some (.ref (ad 0)), some (.ref (Z.1 15)), some (vI x2), some (vI x3)] []) (x3 : Int) (s0 : Int) (σ : St) (c3 : C32 x3) (cs0 : C32 s0) (hσ : CanS shR NR σ) (h : wp_X12_is_s15_b75 Q K39 x3 s0 σ) : G p l e (rmL 6 0 0) s m args below meth c 4 A0 D cA ad shR NR 0 0 (MQ below (QIc D cA ad shR NR Q A0) args s 0 0 A0) σ 75 [some (.ref (ad 0)), some (.ref (Z.1 15)), none, some (vI x3)] [vI s0] := by
  unfold wp_X12_is_s15_b75 at h
  refine g_istore_2 E rfl (by decide) dX12_is_75 ?_
  refine g_iinc_3 E rfl (by decide) dX12_is_76 (fun v3 ev3 => ?_)
  replace h := h v3 ev3
  have cv3 : C32 v3 := by rw [ev3]; exact c32_w _
  refine g_goto E djX12_is_79 ?_
  exact (hK39 s0 v3 σ cs0 cv3 hσ h).weak (w_k (w_k (w_k (w_k w_n))))
set_option maxHeartbeats 4000000 in
set_option maxRecDepth 100000 in
theorem t_X12_is_s15_l39 (E : Ev p s m args meth c cX12_is 4 RX12 A0 D cA ad NR Z) (hr : meth.sig.returnType = (some .boolean)) : ∀ (n : Nat) (x2 : Int) (x3 : Int) (σ : St), C32 x2 → C32 x3 → CanS shR NR σ → wp_X12_is_s15_l39 Q n x2 x3 σ → G p l e (rmL 6 0 0) s m args below meth c 4 A0 D cA ad shR NR 0 0 (MQ below (QIc D cA ad shR NR Q A0) args s 0 0 A0) σ 39 [some (.ref (ad 0)), some (.ref (Z.1 15)), some (vI x2), some (vI x3)] [] := by
  intro n
  induction n with
  | zero => intro _ _ _ _ _ _ h; exact h.elim
  | succ n ih =>
    intro x2 x3 σ c2 c3 hσ h
    unfold wp_X12_is_s15_l39 at h
    refine g_iload_3 E dX12_is_39 ?_
    refine g_aload_1 E dX12_is_40 ?_
    refine g_slen E ml_RX12_196 (i := 15) (by decide) hσ (n := 2) rfl (Nat.le_of_ble_eq_true rfl) (rm_s 6 (by decide)) ⟨Nat.zero_le _, Nat.zero_le _⟩ dX12_is_41 ?_
    refine g_icmp_ge E c3 cl_2 djX12_is_44 (fun hc => ?_) (fun hc => ?_)
    · replace h := h.1 hc
      refine g_iload_2 E dX12_is_82 ?_
      exact g_zret E hr h.1 h.2 hσ dX12_is_83
    · replace h := h.2 hc
      refine g_iload_2 E dX12_is_47 ?_
      refine g_if_eq E c2 djX12_is_48 (fun hc => ?_) (fun hc => ?_)
      · replace h := h.1 hc
        refine g_iload_2 E dX12_is_82 ?_
        exact g_zret E hr h.1 h.2 hσ dX12_is_83
      · replace h := h.2 hc
        refine g_aload_0 E dX12_is_51 ?_
        refine g_getR E fl_RX12_47 kR_0 sR_0 rfl dX12_is_52 ?_
        refine g_aload_0 E dX12_is_55 ?_
        refine g_getI E fl_RX12_162 kR_0 sR_0 rfl dX12_is_56 ?_
        refine g_iload_3 E dX12_is_59 ?_
        refine g_iadd E dX12_is_60 ?_
        refine g_bald E kR_12 sR_12 (by decide) h.1 dX12_is_61 ?_
        replace h := h.2
        refine g_aload_1 E dX12_is_62 ?_
        refine g_iload_3 E dX12_is_63 ?_
        refine g_schar E ml_RX12_201 (i := 15) (by decide) hσ (n := 2) rfl h.1 (Nat.le_of_ble_eq_true rfl) (rm_s 6 (by decide)) ⟨Nat.zero_le _, Nat.zero_le _⟩ dX12_is_64 ?_
        replace h := h.2
        refine g_icmp_ne E (aR_12 hσ _) (c32_str 15 (by decide) _) djX12_is_67 (fun hc => ?_) (fun hc => ?_)
        · replace h := h.1 hc
          refine g_iconst E dX12_is_74 ?_
          exact (t_X12_is_s15_b75 E hr ih x3 0 σ c3 cl_0 hσ h).weak (w_k (w_k (w_d (w_k w_n))))
        · replace h := h.2 hc
          refine g_iconst E dX12_is_70 ?_
          refine g_goto E djX12_is_71 ?_
          exact (t_X12_is_s15_b75 E hr ih x3 1 σ c3 cl_1 hσ h).weak (w_k (w_k (w_d (w_k w_n))))
set_option maxHeartbeats 4000000 in
set_option maxRecDepth 100000 in
theorem t_X12_is_s15_b36 (E : Ev p s m args meth c cX12_is 4 RX12 A0 D cA ad NR Z) (hr : meth.sig.returnType = (some .boolean)) (s0 : Int) (σ : St) (cs0 : C32 s0) (hσ : CanS shR NR σ) (h : wp_X12_is_s15_b36 Q s0 σ) : G p l e (rmL 6 0 0) s m args below meth c 4 A0 D cA ad shR NR 0 0 (MQ below (QIc D cA ad shR NR Q A0) args s 0 0 A0) σ 36 [some (.ref (ad 0)), some (.ref (Z.1 15)), none, none] [vI s0] := by
  unfold wp_X12_is_s15_b36 at h
  refine g_istore_2 E rfl (by decide) dX12_is_36 ?_
  refine g_iconst E dX12_is_37 ?_
  refine g_istore_3 E rfl (by decide) dX12_is_38 ?_
  exact (t_X12_is_s15_l39 E hr bigN s0 0 σ cs0 cl_0 hσ h).weak (w_k (w_k (w_k (w_k w_n))))
set_option maxHeartbeats 4000000 in
set_option maxRecDepth 100000 in
theorem t_X12_is_s15_b35 (E : Ev p s m args meth c cX12_is 4 RX12 A0 D cA ad NR Z) (hr : meth.sig.returnType = (some .boolean)) (σ : St) (hσ : CanS shR NR σ) (h : wp_X12_is_s15_b35 Q  σ) : G p l e (rmL 6 0 0) s m args below meth c 4 A0 D cA ad shR NR 0 0 (MQ below (QIc D cA ad shR NR Q A0) args s 0 0 A0) σ 35 [some (.ref (ad 0)), some (.ref (Z.1 15)), none, none] [] := by
  unfold wp_X12_is_s15_b35 at h
  refine g_iconst E dX12_is_35 ?_
  exact (t_X12_is_s15_b36 E hr 0 σ cl_0 hσ h).weak (w_k (w_k (w_d (w_d w_n))))
set_option maxHeartbeats 4000000 in
set_option maxRecDepth 100000 in
theorem t_X12_is_s15 (E : Ev p s m args meth c cX12_is 4 RX12 A0 D cA ad NR Z) (hr : meth.sig.returnType = (some .boolean)) (σ : St) (hσ : CanS shR NR σ) (h : wp_X12_is_s15  σ Q) : G p l e (rmL 6 0 0) s m args below meth c 4 A0 D cA ad shR NR 0 0 (MQ below (QIc D cA ad shR NR Q A0) args s 0 0 A0) σ 0 [some (.ref (ad 0)), some (.ref (Z.1 15)), none, none] [] := by
  unfold wp_X12_is_s15 at h
  refine g_aload_0 E dX12_is_0 ?_
  refine g_callvI E my_X12_good mi_X12_good msel_X12_good ml_RX12_192 (rm_ok (by decide) (by decide)) ⟨Nat.zero_le _, Nat.zero_le _⟩ kR_0 sR_0 rfl (m_X12_good E.2.2.1 hσ h) rfl rfl (Nat.le_of_ble_eq_true rfl) dX12_is_1 (fun r1 σ2 cr1 hσ2 h => ?_)
  refine g_if_eq E cr1 djX12_is_4 (fun hc => ?_) (fun hc => ?_)
  · replace h := h.1 hc
    exact (t_X12_is_s15_b35 E hr σ2 hσ2 h).weak (w_k (w_k (w_d (w_d w_n))))
  · replace h := h.2 hc
    refine g_aload_0 E dX12_is_7 ?_
    refine g_getI E fl_RX12_165 kR_0 sR_0 rfl dX12_is_8 ?_
    refine g_iconst E dX12_is_11 ?_
    refine g_icmp_ne E (fR_0_22 hσ2) cl_1 djX12_is_12 (fun hc => ?_) (fun hc => ?_)
    · replace h := h.1 hc
      exact (t_X12_is_s15_b35 E hr σ2 hσ2 h).weak (w_k (w_k (w_d (w_d w_n))))
    · replace h := h.2 hc
      refine g_aload_0 E dX12_is_15 ?_
      refine g_getI E fl_RX12_155 kR_0 sR_0 rfl dX12_is_16 ?_
      refine g_aload_0 E dX12_is_19 ?_
      refine g_getI E fl_RX12_162 kR_0 sR_0 rfl dX12_is_20 ?_
      refine g_isub E dX12_is_23 ?_
      refine g_aload_1 E dX12_is_24 ?_
      refine g_slen E ml_RX12_196 (i := 15) (by decide) hσ2 (n := 2) rfl (Nat.le_of_ble_eq_true rfl) (rm_s 6 (by decide)) ⟨Nat.zero_le _, Nat.zero_le _⟩ dX12_is_25 ?_
      refine g_icmp_ne E (c32_w _) cl_2 djX12_is_28 (fun hc => ?_) (fun hc => ?_)
      · replace h := h.1 hc
        exact (t_X12_is_s15_b35 E hr σ2 hσ2 h).weak (w_k (w_k (w_d (w_d w_n))))
      · replace h := h.2 hc
        refine g_iconst E dX12_is_31 ?_
        refine g_goto E djX12_is_32 ?_
        exact (t_X12_is_s15_b36 E hr 1 σ2 cl_1 hσ2 h).weak (w_k (w_k (w_d (w_d w_n))))
end
theorem m_X12_is_s15 {Z : (Nat → Nat) × (Nat → Nat)} {l : Launch} {D : va_G} {cA : Nat → ClassId} {ad : Nat → Nat} {σ : St} {Q : Int → St → Prop} (hA : AdOk NR ad) (hσ : CanS shR NR σ) (h : wp_X12_is_s15  σ Q) : KtI Z l D cA ad shR NR yX12_is cX12_is 4 (some .boolean) 6 [.ref (ad 0), .ref (Z.1 15)] σ Q :=
  KtI.of my_X12_is hA [some (.ref (ad 0)), some (.ref (Z.1 15)), none, none] (Nat.le_of_ble_eq_true rfl) rfl (fun p e s m args below meth c A0 E hr => t_X12_is_s15 E hr σ hσ h)
theorem dX12_readRule_0 : Dc cX12_readRule 0 (.aload_n 0) 1 1 := ⟨by decide +kernel, rfl⟩
theorem dX12_readRule_1 : Dc cX12_readRule 1 (.getfield 230) 3 4 := ⟨by decide +kernel, rfl⟩
theorem dX12_readRule_4 : Dc cX12_readRule 4 (.bipush 40) 2 6 := ⟨by decide +kernel, rfl⟩
theorem djX12_readRule_6 : Dj cX12_readRule 6 (.if_icmp .ne 8) 3 9 8 14 := ⟨by decide +kernel, rfl, by decide⟩
theorem dX12_readRule_9 : Dc cX12_readRule 9 (.aload_n 0) 1 10 := ⟨by decide +kernel, rfl⟩
theorem dX12_readRule_10 : Dc cX12_readRule 10 (.iconst 3) 1 11 := ⟨by decide +kernel, rfl⟩
theorem dX12_readRule_11 : Dc cX12_readRule 11 (.invokevirtual 209) 3 14 := ⟨by decide +kernel, rfl⟩
theorem dX12_readRule_14 : Dc cX12_readRule 14 (.aload_n 0) 1 15 := ⟨by decide +kernel, rfl⟩
theorem dX12_readRule_15 : Dc cX12_readRule 15 (.invokevirtual 192) 3 18 := ⟨by decide +kernel, rfl⟩
theorem djX12_readRule_18 : Dj cX12_readRule 18 (.ifCond .ne 4) 3 21 4 22 := ⟨by decide +kernel, rfl, by decide⟩
theorem dX12_readRule_21 : Dc cX12_readRule 21 (.return_) 1 22 := ⟨by decide +kernel, rfl⟩
theorem dX12_readRule_22 : Dc cX12_readRule 22 (.aload_n 0) 1 23 := ⟨by decide +kernel, rfl⟩
theorem dX12_readRule_23 : Dc cX12_readRule 23 (.invokevirtual 213) 3 26 := ⟨by decide +kernel, rfl⟩
theorem dX12_readRule_26 : Dc cX12_readRule 26 (.bipush 40) 2 28 := ⟨by decide +kernel, rfl⟩
theorem dX12_readRule_28 : Dc cX12_readRule 28 (.aload_n 0) 1 29 := ⟨by decide +kernel, rfl⟩
theorem dX12_readRule_29 : Dc cX12_readRule 29 (.getfield 230) 3 32 := ⟨by decide +kernel, rfl⟩
theorem dX12_readRule_32 : Dc cX12_readRule 32 (.iadd) 1 33 := ⟨by decide +kernel, rfl⟩
theorem dX12_readRule_33 : Dc cX12_readRule 33 (.istore_n 1) 1 34 := ⟨by decide +kernel, rfl⟩
theorem dX12_readRule_34 : Dc cX12_readRule 34 (.aload_n 0) 1 35 := ⟨by decide +kernel, rfl⟩
theorem dX12_readRule_35 : Dc cX12_readRule 35 (.getfield 165) 3 38 := ⟨by decide +kernel, rfl⟩
theorem dX12_readRule_38 : Dc cX12_readRule 38 (.iconst 3) 1 39 := ⟨by decide +kernel, rfl⟩
theorem djX12_readRule_39 : Dj cX12_readRule 39 (.if_icmp .eq 8) 3 42 8 47 := ⟨by decide +kernel, rfl, by decide⟩
theorem dX12_readRule_42 : Dc cX12_readRule 42 (.aload_n 0) 1 43 := ⟨by decide +kernel, rfl⟩
theorem dX12_readRule_43 : Dc cX12_readRule 43 (.iconst 1) 1 44 := ⟨by decide +kernel, rfl⟩
theorem dX12_readRule_44 : Dc cX12_readRule 44 (.invokevirtual 209) 3 47 := ⟨by decide +kernel, rfl⟩
theorem dX12_readRule_47 : Dc cX12_readRule 47 (.aload_n 0) 1 48 := ⟨by decide +kernel, rfl⟩
theorem dX12_readRule_48 : Dc cX12_readRule 48 (.getfield 13) 3 51 := ⟨by decide +kernel, rfl⟩
theorem dX12_readRule_51 : Dc cX12_readRule 51 (.iload_n 1) 1 52 := ⟨by decide +kernel, rfl⟩
theorem dX12_readRule_52 : Dc cX12_readRule 52 (.aload_n 0) 1 53 := ⟨by decide +kernel, rfl⟩
theorem dX12_readRule_53 : Dc cX12_readRule 53 (.getfield 176) 3 56 := ⟨by decide +kernel, rfl⟩
theorem dX12_readRule_56 : Dc cX12_readRule 56 (.iastore) 1 57 := ⟨by decide +kernel, rfl⟩
theorem dX12_readRule_57 : Dc cX12_readRule 57 (.aload_n 0) 1 58 := ⟨by decide +kernel, rfl⟩
theorem dX12_readRule_58 : Dc cX12_readRule 58 (.invokevirtual 192) 3 61 := ⟨by decide +kernel, rfl⟩
theorem djX12_readRule_61 : Dj cX12_readRule 61 (.ifCond .eq 7) 3 64 7 68 := ⟨by decide +kernel, rfl, by decide⟩
theorem dX12_readRule_64 : Dc cX12_readRule 64 (.aload_n 0) 1 65 := ⟨by decide +kernel, rfl⟩
theorem dX12_readRule_65 : Dc cX12_readRule 65 (.invokevirtual 213) 3 68 := ⟨by decide +kernel, rfl⟩
theorem dX12_readRule_68 : Dc cX12_readRule 68 (.aload_n 0) 1 69 := ⟨by decide +kernel, rfl⟩
theorem dX12_readRule_69 : Dc cX12_readRule 69 (.bipush 61) 2 71 := ⟨by decide +kernel, rfl⟩
theorem dX12_readRule_71 : Dc cX12_readRule 71 (.invokevirtual 233) 3 74 := ⟨by decide +kernel, rfl⟩
theorem dX12_readRule_74 : Dc cX12_readRule 74 (.aload_n 0) 1 75 := ⟨by decide +kernel, rfl⟩
theorem dX12_readRule_75 : Dc cX12_readRule 75 (.getfield 17) 3 78 := ⟨by decide +kernel, rfl⟩
theorem dX12_readRule_78 : Dc cX12_readRule 78 (.iload_n 1) 1 79 := ⟨by decide +kernel, rfl⟩
theorem dX12_readRule_79 : Dc cX12_readRule 79 (.aload_n 0) 1 80 := ⟨by decide +kernel, rfl⟩
theorem dX12_readRule_80 : Dc cX12_readRule 80 (.invokevirtual 236) 3 83 := ⟨by decide +kernel, rfl⟩
theorem dX12_readRule_83 : Dc cX12_readRule 83 (.iastore) 1 84 := ⟨by decide +kernel, rfl⟩
theorem dX12_readRule_84 : Dc cX12_readRule 84 (.aload_n 0) 1 85 := ⟨by decide +kernel, rfl⟩
theorem dX12_readRule_85 : Dc cX12_readRule 85 (.getfield 20) 3 88 := ⟨by decide +kernel, rfl⟩
theorem dX12_readRule_88 : Dc cX12_readRule 88 (.iload_n 1) 1 89 := ⟨by decide +kernel, rfl⟩
theorem dX12_readRule_89 : Dc cX12_readRule 89 (.aload_n 0) 1 90 := ⟨by decide +kernel, rfl⟩
theorem dX12_readRule_90 : Dc cX12_readRule 90 (.invokevirtual 227) 3 93 := ⟨by decide +kernel, rfl⟩
theorem djX12_readRule_93 : Dj cX12_readRule 93 (.ifCond .eq 10) 3 96 10 103 := ⟨by decide +kernel, rfl, by decide⟩
theorem dX12_readRule_96 : Dc cX12_readRule 96 (.aload_n 0) 1 97 := ⟨by decide +kernel, rfl⟩
theorem dX12_readRule_97 : Dc cX12_readRule 97 (.invokevirtual 236) 3 100 := ⟨by decide +kernel, rfl⟩
theorem djX12_readRule_100 : Dj cX12_readRule 100 (.goto 4) 3 103 4 104 := ⟨by decide +kernel, rfl, by decide⟩
theorem dX12_readRule_103 : Dc cX12_readRule 103 (.iconst (-1)) 1 104 := ⟨by decide +kernel, rfl⟩
theorem dX12_readRule_104 : Dc cX12_readRule 104 (.iastore) 1 105 := ⟨by decide +kernel, rfl⟩
theorem dX12_readRule_105 : Dc cX12_readRule 105 (.aload_n 0) 1 106 := ⟨by decide +kernel, rfl⟩
theorem dX12_readRule_106 : Dc cX12_readRule 106 (.getfield 23) 3 109 := ⟨by decide +kernel, rfl⟩
theorem dX12_readRule_109 : Dc cX12_readRule 109 (.iload_n 1) 1 110 := ⟨by decide +kernel, rfl⟩
theorem dX12_readRule_110 : Dc cX12_readRule 110 (.iconst 1) 1 111 := ⟨by decide +kernel, rfl⟩
theorem dX12_readRule_111 : Dc cX12_readRule 111 (.iastore) 1 112 := ⟨by decide +kernel, rfl⟩
theorem dX12_readRule_112 : Dc cX12_readRule 112 (.aload_n 0) 1 113 := ⟨by decide +kernel, rfl⟩
theorem dX12_readRule_113 : Dc cX12_readRule 113 (.ldc 239) 2 115 := ⟨by decide +kernel, rfl⟩
theorem dX12_readRule_115 : Dc cX12_readRule 115 (.invokevirtual 205) 3 118 := ⟨by decide +kernel, rfl⟩
theorem djX12_readRule_118 : Dj cX12_readRule 118 (.ifCond .eq 20) 3 121 20 138 := ⟨by decide +kernel, rfl, by decide⟩
theorem dX12_readRule_121 : Dc cX12_readRule 121 (.aload_n 0) 1 122 := ⟨by decide +kernel, rfl⟩
theorem dX12_readRule_122 : Dc cX12_readRule 122 (.invokevirtual 213) 3 125 := ⟨by decide +kernel, rfl⟩
theorem dX12_readRule_125 : Dc cX12_readRule 125 (.aload_n 0) 1 126 := ⟨by decide +kernel, rfl⟩
theorem dX12_readRule_126 : Dc cX12_readRule 126 (.getfield 23) 3 129 := ⟨by decide +kernel, rfl⟩
theorem dX12_readRule_129 : Dc cX12_readRule 129 (.iload_n 1) 1 130 := ⟨by decide +kernel, rfl⟩
theorem dX12_readRule_130 : Dc cX12_readRule 130 (.aload_n 0) 1 131 := ⟨by decide +kernel, rfl⟩
theorem dX12_readRule_131 : Dc cX12_readRule 131 (.iconst 1) 1 132 := ⟨by decide +kernel, rfl⟩
theorem dX12_readRule_132 : Dc cX12_readRule 132 (.bipush 99) 2 134 := ⟨by decide +kernel, rfl⟩
theorem dX12_readRule_134 : Dc cX12_readRule 134 (.invokevirtual 216) 3 137 := ⟨by decide +kernel, rfl⟩
theorem dX12_readRule_137 : Dc cX12_readRule 137 (.iastore) 1 138 := ⟨by decide +kernel, rfl⟩
theorem dX12_readRule_138 : Dc cX12_readRule 138 (.aload_n 0) 1 139 := ⟨by decide +kernel, rfl⟩
theorem dX12_readRule_139 : Dc cX12_readRule 139 (.getfield 26) 3 142 := ⟨by decide +kernel, rfl⟩
theorem dX12_readRule_142 : Dc cX12_readRule 142 (.iload_n 1) 1 143 := ⟨by decide +kernel, rfl⟩
theorem dX12_readRule_143 : Dc cX12_readRule 143 (.aload_n 0) 1 144 := ⟨by decide +kernel, rfl⟩
theorem dX12_readRule_144 : Dc cX12_readRule 144 (.getfield 35) 3 147 := ⟨by decide +kernel, rfl⟩
theorem dX12_readRule_147 : Dc cX12_readRule 147 (.iconst 1) 1 148 := ⟨by decide +kernel, rfl⟩
theorem dX12_readRule_148 : Dc cX12_readRule 148 (.iaload) 1 149 := ⟨by decide +kernel, rfl⟩
theorem dX12_readRule_149 : Dc cX12_readRule 149 (.iastore) 1 150 := ⟨by decide +kernel, rfl⟩
theorem dX12_readRule_150 : Dc cX12_readRule 150 (.aload_n 0) 1 151 := ⟨by decide +kernel, rfl⟩
theorem dX12_readRule_151 : Dc cX12_readRule 151 (.ldc 240) 2 153 := ⟨by decide +kernel, rfl⟩
theorem dX12_readRule_153 : Dc cX12_readRule 153 (.invokevirtual 205) 3 156 := ⟨by decide +kernel, rfl⟩
theorem djX12_readRule_156 : Dj cX12_readRule 156 (.ifCond .eq 26) 3 159 26 182 := ⟨by decide +kernel, rfl, by decide⟩
theorem dX12_readRule_159 : Dc cX12_readRule 159 (.aload_n 0) 1 160 := ⟨by decide +kernel, rfl⟩
theorem dX12_readRule_160 : Dc cX12_readRule 160 (.invokevirtual 213) 3 163 := ⟨by decide +kernel, rfl⟩
theorem dX12_readRule_163 : Dc cX12_readRule 163 (.aload_n 0) 1 164 := ⟨by decide +kernel, rfl⟩
theorem dX12_readRule_164 : Dc cX12_readRule 164 (.getfield 26) 3 167 := ⟨by decide +kernel, rfl⟩
theorem dX12_readRule_167 : Dc cX12_readRule 167 (.iload_n 1) 1 168 := ⟨by decide +kernel, rfl⟩
theorem dX12_readRule_168 : Dc cX12_readRule 168 (.aload_n 0) 1 169 := ⟨by decide +kernel, rfl⟩
theorem dX12_readRule_169 : Dc cX12_readRule 169 (.iconst 0) 1 170 := ⟨by decide +kernel, rfl⟩
theorem dX12_readRule_170 : Dc cX12_readRule 170 (.aload_n 0) 1 171 := ⟨by decide +kernel, rfl⟩
theorem dX12_readRule_171 : Dc cX12_readRule 171 (.getfield 29) 3 174 := ⟨by decide +kernel, rfl⟩
theorem dX12_readRule_174 : Dc cX12_readRule 174 (.iconst 1) 1 175 := ⟨by decide +kernel, rfl⟩
theorem dX12_readRule_175 : Dc cX12_readRule 175 (.iaload) 1 176 := ⟨by decide +kernel, rfl⟩
theorem dX12_readRule_176 : Dc cX12_readRule 176 (.iconst 1) 1 177 := ⟨by decide +kernel, rfl⟩
theorem dX12_readRule_177 : Dc cX12_readRule 177 (.isub) 1 178 := ⟨by decide +kernel, rfl⟩
theorem dX12_readRule_178 : Dc cX12_readRule 178 (.invokevirtual 216) 3 181 := ⟨by decide +kernel, rfl⟩
theorem dX12_readRule_181 : Dc cX12_readRule 181 (.iastore) 1 182 := ⟨by decide +kernel, rfl⟩
theorem dX12_readRule_182 : Dc cX12_readRule 182 (.aload_n 0) 1 183 := ⟨by decide +kernel, rfl⟩
theorem dX12_readRule_183 : Dc cX12_readRule 183 (.dup) 1 184 := ⟨by decide +kernel, rfl⟩
theorem dX12_readRule_184 : Dc cX12_readRule 184 (.getfield 230) 3 187 := ⟨by decide +kernel, rfl⟩
theorem dX12_readRule_187 : Dc cX12_readRule 187 (.iconst 1) 1 188 := ⟨by decide +kernel, rfl⟩
theorem dX12_readRule_188 : Dc cX12_readRule 188 (.iadd) 1 189 := ⟨by decide +kernel, rfl⟩
theorem dX12_readRule_189 : Dc cX12_readRule 189 (.putfield 230) 3 192 := ⟨by decide +kernel, rfl⟩
theorem dX12_readRule_192 : Dc cX12_readRule 192 (.return_) 1 193 := ⟨by decide +kernel, rfl⟩
section
variable {p : Program} {l : Launch} {e : Env} {s : State} {m : MethodId} {args : Array Value} {below : List Frame} {meth : Method} {c : Code} {A0 : Nat → Prop} {D : va_G} {cA : Nat → ClassId} {ad : Nat → Nat} {Z : (Nat → Nat) × (Nat → Nat)} {Q : Int → St → Prop}
set_option maxHeartbeats 4000000 in
set_option maxRecDepth 100000 in
theorem t_X12_readRule_b182 (E : Ev p s m args meth c cX12_readRule 2 RX12 A0 D cA ad NR Z) (hr : meth.sig.returnType = none) (σ : St) (hσ : CanS shR NR σ) (h : wp_X12_readRule_b182 Q  σ) : G p l e (rmL 7 0 0) s m args below meth c 2 A0 D cA ad shR NR 0 0 (MQ below (QVc D cA ad shR NR Q A0) args s 0 0 A0) σ 182 [some (.ref (ad 0)), none] [] := by
  unfold wp_X12_readRule_b182 at h
  refine g_aload_0 E dX12_readRule_182 ?_
  refine g_dup E rfl dX12_readRule_183 ?_
  refine g_getI E fl_RX12_230 kR_0 sR_0 rfl dX12_readRule_184 ?_
  refine g_iconst E dX12_readRule_187 ?_
  refine g_iadd E dX12_readRule_188 ?_
  refine g_putI E fl_RX12_230 rfl rfl kR_0 sR_0 rfl dX12_readRule_189 (g_nmS (fun σ41 eσ41 => ?_))
  replace h := h σ41 eσ41
  have hσ41 : CanS shR NR σ41 := by rw [eσ41]; exact uR_0_13 hσ (c32_w _)
  exact g_vret E hr h hσ41 dX12_readRule_192
set_option maxHeartbeats 4000000 in
set_option maxRecDepth 100000 in
theorem t_X12_readRule_b138 (E : Ev p s m args meth c cX12_readRule 2 RX12 A0 D cA ad NR Z) (hr : meth.sig.returnType = none) (x1 : Int) (σ : St) (c1 : C32 x1) (hσ : CanS shR NR σ) (h : wp_X12_readRule_b138 Q x1 σ) : G p l e (rmL 7 0 0) s m args below meth c 2 A0 D cA ad shR NR 0 0 (MQ below (QVc D cA ad shR NR Q A0) args s 0 0 A0) σ 138 [some (.ref (ad 0)), some (vI x1)] [] := by
  unfold wp_X12_readRule_b138 at h
  refine g_aload_0 E dX12_readRule_138 ?_
  refine g_getR E fl_RX12_26 kR_0 sR_0 rfl dX12_readRule_139 ?_
  refine g_iload_1 E dX12_readRule_142 ?_
  refine g_aload_0 E dX12_readRule_143 ?_
  refine g_getR E fl_RX12_35 kR_0 sR_0 rfl dX12_readRule_144 ?_
  refine g_iconst E dX12_readRule_147 ?_
  refine g_iald E kR_8 sR_8 (by decide) (by decide) dX12_readRule_148 ?_
  refine g_iast E kR_5 sR_5 (by decide) h.1 dX12_readRule_149 (g_nmS (fun σ33 eσ33 => ?_))
  replace h := h.2 σ33 eσ33
  have hσ33 : CanS shR NR σ33 := by rw [eσ33]; exact wR_5 hσ (aR_8 hσ _)
  refine g_aload_0 E dX12_readRule_150 ?_
  refine g_ldcS E (i := 15) (by decide) ⟨rfl, rfl⟩ dX12_readRule_151 ?_
  refine g_callvI E my_X12_is mi_X12_is msel_X12_is ml_RX12_205 (rm_ok (by decide) (by decide)) ⟨Nat.zero_le _, Nat.zero_le _⟩ kR_0 sR_0 rfl (m_X12_is_s15 E.2.2.1 hσ33 h) rfl rfl (Nat.le_of_ble_eq_true rfl) dX12_readRule_153 (fun r34 σ35 cr34 hσ35 h => ?_)
  refine g_if_eq E cr34 djX12_readRule_156 (fun hc => ?_) (fun hc => ?_)
  · replace h := h.1 hc
    exact (t_X12_readRule_b182 E hr σ35 hσ35 h).weak (w_k (w_d w_n))
  · replace h := h.2 hc
    refine g_aload_0 E dX12_readRule_159 ?_
    refine g_callvV E my_X12_advance mi_X12_advance msel_X12_advance ml_RX12_213 (rm_ok (by decide) (by decide)) ⟨Nat.zero_le _, Nat.zero_le _⟩ kR_0 sR_0 rfl (m_X12_advance E.2.2.1 hσ35 h) rfl rfl (Nat.le_of_ble_eq_true rfl) dX12_readRule_160 (fun σ37 r36 hσ37 h => ?_)
    refine g_aload_0 E dX12_readRule_163 ?_
    refine g_getR E fl_RX12_26 kR_0 sR_0 rfl dX12_readRule_164 ?_
    refine g_iload_1 E dX12_readRule_167 ?_
    refine g_aload_0 E dX12_readRule_168 ?_
    refine g_iconst E dX12_readRule_169 ?_
    refine g_aload_0 E dX12_readRule_170 ?_
    refine g_getR E fl_RX12_29 kR_0 sR_0 rfl dX12_readRule_171 ?_
    refine g_iconst E dX12_readRule_174 ?_
    refine g_iald E kR_6 sR_6 (by decide) (by decide) dX12_readRule_175 ?_
    refine g_iconst E dX12_readRule_176 ?_
    refine g_isub E dX12_readRule_177 ?_
    refine g_callvI E my_X12_takes mi_X12_takes msel_X12_takes ml_RX12_216 (rm_ok (by decide) (by decide)) ⟨Nat.zero_le _, Nat.zero_le _⟩ kR_0 sR_0 rfl (m_X12_takes E.2.2.1 cl_0 (c32_w _) hσ37 h) rfl rfl (Nat.le_of_ble_eq_true rfl) dX12_readRule_178 (fun r38 σ39 cr38 hσ39 h => ?_)
    refine g_iast E kR_5 sR_5 (by decide) h.1 dX12_readRule_181 (g_nmS (fun σ40 eσ40 => ?_))
    replace h := h.2 σ40 eσ40
    have hσ40 : CanS shR NR σ40 := by rw [eσ40]; exact wR_5 hσ39 cr38
    exact (t_X12_readRule_b182 E hr σ40 hσ40 h).weak (w_k (w_d w_n))
set_option maxHeartbeats 4000000 in
set_option maxRecDepth 100000 in
theorem t_X12_readRule_b104 (E : Ev p s m args meth c cX12_readRule 2 RX12 A0 D cA ad NR Z) (hr : meth.sig.returnType = none) (x1 : Int) (s0 : Int) (s1 : Int) (σ : St) (c1 : C32 x1) (cs0 : C32 s0) (cs1 : C32 s1) (hσ : CanS shR NR σ) (h : wp_X12_readRule_b104 Q x1 s0 s1 σ) : G p l e (rmL 7 0 0) s m args below meth c 2 A0 D cA ad shR NR 0 0 (MQ below (QVc D cA ad shR NR Q A0) args s 0 0 A0) σ 104 [some (.ref (ad 0)), some (vI x1)] [vI s0, vI s1, .ref (ad 3)] := by
  unfold wp_X12_readRule_b104 at h
  refine g_iast E kR_3 sR_3 (by decide) h.1 dX12_readRule_104 (g_nmS (fun σ24 eσ24 => ?_))
  replace h := h.2 σ24 eσ24
  have hσ24 : CanS shR NR σ24 := by rw [eσ24]; exact wR_3 hσ cs0
  refine g_aload_0 E dX12_readRule_105 ?_
  refine g_getR E fl_RX12_23 kR_0 sR_0 rfl dX12_readRule_106 ?_
  refine g_iload_1 E dX12_readRule_109 ?_
  refine g_iconst E dX12_readRule_110 ?_
  refine g_iast E kR_4 sR_4 (by decide) h.1 dX12_readRule_111 (g_nmS (fun σ25 eσ25 => ?_))
  replace h := h.2 σ25 eσ25
  have hσ25 : CanS shR NR σ25 := by rw [eσ25]; exact wR_4 hσ24 cl_1
  refine g_aload_0 E dX12_readRule_112 ?_
  refine g_ldcS E (i := 14) (by decide) ⟨rfl, rfl⟩ dX12_readRule_113 ?_
  refine g_callvI E my_X12_is mi_X12_is msel_X12_is ml_RX12_205 (rm_ok (by decide) (by decide)) ⟨Nat.zero_le _, Nat.zero_le _⟩ kR_0 sR_0 rfl (m_X12_is_s14 E.2.2.1 hσ25 h) rfl rfl (Nat.le_of_ble_eq_true rfl) dX12_readRule_115 (fun r26 σ27 cr26 hσ27 h => ?_)
  refine g_if_eq E cr26 djX12_readRule_118 (fun hc => ?_) (fun hc => ?_)
  · replace h := h.1 hc
    exact (t_X12_readRule_b138 E hr x1 σ27 c1 hσ27 h).weak (w_k (w_k w_n))
  · replace h := h.2 hc
    refine g_aload_0 E dX12_readRule_121 ?_
    refine g_callvV E my_X12_advance mi_X12_advance msel_X12_advance ml_RX12_213 (rm_ok (by decide) (by decide)) ⟨Nat.zero_le _, Nat.zero_le _⟩ kR_0 sR_0 rfl (m_X12_advance E.2.2.1 hσ27 h) rfl rfl (Nat.le_of_ble_eq_true rfl) dX12_readRule_122 (fun σ29 r28 hσ29 h => ?_)
    refine g_aload_0 E dX12_readRule_125 ?_
    refine g_getR E fl_RX12_23 kR_0 sR_0 rfl dX12_readRule_126 ?_
    refine g_iload_1 E dX12_readRule_129 ?_
    refine g_aload_0 E dX12_readRule_130 ?_
    refine g_iconst E dX12_readRule_131 ?_
    refine g_bipush E (by decide) dX12_readRule_132 ?_
    refine g_callvI E my_X12_takes mi_X12_takes msel_X12_takes ml_RX12_216 (rm_ok (by decide) (by decide)) ⟨Nat.zero_le _, Nat.zero_le _⟩ kR_0 sR_0 rfl (m_X12_takes E.2.2.1 cl_1 cl_99 hσ29 h) rfl rfl (Nat.le_of_ble_eq_true rfl) dX12_readRule_134 (fun r30 σ31 cr30 hσ31 h => ?_)
    refine g_iast E kR_4 sR_4 (by decide) h.1 dX12_readRule_137 (g_nmS (fun σ32 eσ32 => ?_))
    replace h := h.2 σ32 eσ32
    have hσ32 : CanS shR NR σ32 := by rw [eσ32]; exact wR_4 hσ31 cr30
    exact (t_X12_readRule_b138 E hr x1 σ32 c1 hσ32 h).weak (w_k (w_k w_n))
set_option maxHeartbeats 4000000 in
set_option maxRecDepth 100000 in
theorem t_X12_readRule_b68 (E : Ev p s m args meth c cX12_readRule 2 RX12 A0 D cA ad NR Z) (hr : meth.sig.returnType = none) (x1 : Int) (σ : St) (c1 : C32 x1) (hσ : CanS shR NR σ) (h : wp_X12_readRule_b68 Q x1 σ) : G p l e (rmL 7 0 0) s m args below meth c 2 A0 D cA ad shR NR 0 0 (MQ below (QVc D cA ad shR NR Q A0) args s 0 0 A0) σ 68 [some (.ref (ad 0)), some (vI x1)] [] := by
  unfold wp_X12_readRule_b68 at h
  refine g_aload_0 E dX12_readRule_68 ?_
  refine g_bipush E (by decide) dX12_readRule_69 ?_
  refine g_callvV E my_X12_takesSign mi_X12_takesSign msel_X12_takesSign ml_RX12_233 (rm_ok (by decide) (by decide)) ⟨Nat.zero_le _, Nat.zero_le _⟩ kR_0 sR_0 rfl (m_X12_takesSign E.2.2.1 cl_61 hσ h) rfl rfl (Nat.le_of_ble_eq_true rfl) dX12_readRule_71 (fun σ16 r15 hσ16 h => ?_)
  refine g_aload_0 E dX12_readRule_74 ?_
  refine g_getR E fl_RX12_17 kR_0 sR_0 rfl dX12_readRule_75 ?_
  refine g_iload_1 E dX12_readRule_78 ?_
  refine g_aload_0 E dX12_readRule_79 ?_
  refine g_callvI E my_X12_readPart mi_X12_readPart msel_X12_readPart ml_RX12_236 (rm_ok (by decide) (by decide)) ⟨Nat.zero_le _, Nat.zero_le _⟩ kR_0 sR_0 rfl (m_X12_readPart E.2.2.1 hσ16 h) rfl rfl (Nat.le_of_ble_eq_true rfl) dX12_readRule_80 (fun r17 σ18 cr17 hσ18 h => ?_)
  refine g_iast E kR_2 sR_2 (by decide) h.1 dX12_readRule_83 (g_nmS (fun σ19 eσ19 => ?_))
  replace h := h.2 σ19 eσ19
  have hσ19 : CanS shR NR σ19 := by rw [eσ19]; exact wR_2 hσ18 cr17
  refine g_aload_0 E dX12_readRule_84 ?_
  refine g_getR E fl_RX12_20 kR_0 sR_0 rfl dX12_readRule_85 ?_
  refine g_iload_1 E dX12_readRule_88 ?_
  refine g_aload_0 E dX12_readRule_89 ?_
  refine g_callvI E my_X12_isPart mi_X12_isPart msel_X12_isPart ml_RX12_227 (rm_ok (by decide) (by decide)) ⟨Nat.zero_le _, Nat.zero_le _⟩ kR_0 sR_0 rfl (m_X12_isPart E.2.2.1 hσ19 h) rfl rfl (Nat.le_of_ble_eq_true rfl) dX12_readRule_90 (fun r20 σ21 cr20 hσ21 h => ?_)
  refine g_if_eq E cr20 djX12_readRule_93 (fun hc => ?_) (fun hc => ?_)
  · replace h := h.1 hc
    refine g_iconst E dX12_readRule_103 ?_
    exact (t_X12_readRule_b104 E hr x1 ((-1)) x1 σ21 c1 cl_m1 c1 hσ21 h).weak (w_k (w_k w_n))
  · replace h := h.2 hc
    refine g_aload_0 E dX12_readRule_96 ?_
    refine g_callvI E my_X12_readPart mi_X12_readPart msel_X12_readPart ml_RX12_236 (rm_ok (by decide) (by decide)) ⟨Nat.zero_le _, Nat.zero_le _⟩ kR_0 sR_0 rfl (m_X12_readPart E.2.2.1 hσ21 h) rfl rfl (Nat.le_of_ble_eq_true rfl) dX12_readRule_97 (fun r22 σ23 cr22 hσ23 h => ?_)
    refine g_goto E djX12_readRule_100 ?_
    exact (t_X12_readRule_b104 E hr x1 r22 x1 σ23 c1 cr22 c1 hσ23 h).weak (w_k (w_k w_n))
set_option maxHeartbeats 4000000 in
set_option maxRecDepth 100000 in
theorem t_X12_readRule_b47 (E : Ev p s m args meth c cX12_readRule 2 RX12 A0 D cA ad NR Z) (hr : meth.sig.returnType = none) (x1 : Int) (σ : St) (c1 : C32 x1) (hσ : CanS shR NR σ) (h : wp_X12_readRule_b47 Q x1 σ) : G p l e (rmL 7 0 0) s m args below meth c 2 A0 D cA ad shR NR 0 0 (MQ below (QVc D cA ad shR NR Q A0) args s 0 0 A0) σ 47 [some (.ref (ad 0)), some (vI x1)] [] := by
  unfold wp_X12_readRule_b47 at h
  refine g_aload_0 E dX12_readRule_47 ?_
  refine g_getR E fl_RX12_13 kR_0 sR_0 rfl dX12_readRule_48 ?_
  refine g_iload_1 E dX12_readRule_51 ?_
  refine g_aload_0 E dX12_readRule_52 ?_
  refine g_getI E fl_RX12_176 kR_0 sR_0 rfl dX12_readRule_53 ?_
  refine g_iast E kR_1 sR_1 (by decide) h.1 dX12_readRule_56 (g_nmS (fun σ10 eσ10 => ?_))
  replace h := h.2 σ10 eσ10
  have hσ10 : CanS shR NR σ10 := by rw [eσ10]; exact wR_1 hσ (fR_0_23 hσ)
  refine g_aload_0 E dX12_readRule_57 ?_
  refine g_callvI E my_X12_good mi_X12_good msel_X12_good ml_RX12_192 (rm_ok (by decide) (by decide)) ⟨Nat.zero_le _, Nat.zero_le _⟩ kR_0 sR_0 rfl (m_X12_good E.2.2.1 hσ10 h) rfl rfl (Nat.le_of_ble_eq_true rfl) dX12_readRule_58 (fun r11 σ12 cr11 hσ12 h => ?_)
  refine g_if_eq E cr11 djX12_readRule_61 (fun hc => ?_) (fun hc => ?_)
  · replace h := h.1 hc
    exact (t_X12_readRule_b68 E hr x1 σ12 c1 hσ12 h).weak (w_k (w_k w_n))
  · replace h := h.2 hc
    refine g_aload_0 E dX12_readRule_64 ?_
    refine g_callvV E my_X12_advance mi_X12_advance msel_X12_advance ml_RX12_213 (rm_ok (by decide) (by decide)) ⟨Nat.zero_le _, Nat.zero_le _⟩ kR_0 sR_0 rfl (m_X12_advance E.2.2.1 hσ12 h) rfl rfl (Nat.le_of_ble_eq_true rfl) dX12_readRule_65 (fun σ14 r13 hσ14 h => ?_)
    exact (t_X12_readRule_b68 E hr x1 σ14 c1 hσ14 h).weak (w_k (w_k w_n))
set_option maxHeartbeats 4000000 in
set_option maxRecDepth 100000 in
theorem t_X12_readRule_b14 (E : Ev p s m args meth c cX12_readRule 2 RX12 A0 D cA ad NR Z) (hr : meth.sig.returnType = none) (σ : St) (hσ : CanS shR NR σ) (h : wp_X12_readRule_b14 Q  σ) : G p l e (rmL 7 0 0) s m args below meth c 2 A0 D cA ad shR NR 0 0 (MQ below (QVc D cA ad shR NR Q A0) args s 0 0 A0) σ 14 [some (.ref (ad 0)), none] [] := by
  unfold wp_X12_readRule_b14 at h
  refine g_aload_0 E dX12_readRule_14 ?_
  refine g_callvI E my_X12_good mi_X12_good msel_X12_good ml_RX12_192 (rm_ok (by decide) (by decide)) ⟨Nat.zero_le _, Nat.zero_le _⟩ kR_0 sR_0 rfl (m_X12_good E.2.2.1 hσ h) rfl rfl (Nat.le_of_ble_eq_true rfl) dX12_readRule_15 (fun r3 σ4 cr3 hσ4 h => ?_)
  refine g_if_ne E cr3 djX12_readRule_18 (fun hc => ?_) (fun hc => ?_)
  · replace h := h.1 hc
    refine g_aload_0 E dX12_readRule_22 ?_
    refine g_callvV E my_X12_advance mi_X12_advance msel_X12_advance ml_RX12_213 (rm_ok (by decide) (by decide)) ⟨Nat.zero_le _, Nat.zero_le _⟩ kR_0 sR_0 rfl (m_X12_advance E.2.2.1 hσ4 h) rfl rfl (Nat.le_of_ble_eq_true rfl) dX12_readRule_23 (fun σ6 r5 hσ6 h => ?_)
    refine g_bipush E (by decide) dX12_readRule_26 ?_
    refine g_aload_0 E dX12_readRule_28 ?_
    refine g_getI E fl_RX12_230 kR_0 sR_0 rfl dX12_readRule_29 ?_
    refine g_iadd E dX12_readRule_32 ?_
    refine g_nmI (fun v7 ev7 => ?_)
    replace h := h v7 ev7
    have cv7 : C32 v7 := by rw [ev7]; exact (c32_w _)
    refine g_istore_1 E rfl (by decide) dX12_readRule_33 ?_
    refine g_aload_0 E dX12_readRule_34 ?_
    refine g_getI E fl_RX12_165 kR_0 sR_0 rfl dX12_readRule_35 ?_
    refine g_iconst E dX12_readRule_38 ?_
    refine g_icmp_eq E (fR_0_22 hσ6) cl_3 djX12_readRule_39 (fun hc => ?_) (fun hc => ?_)
    · replace h := h.1 hc
      exact (t_X12_readRule_b47 E hr v7 σ6 cv7 hσ6 h).weak (w_k (w_k w_n))
    · replace h := h.2 hc
      refine g_aload_0 E dX12_readRule_42 ?_
      refine g_iconst E dX12_readRule_43 ?_
      refine g_callvV E my_X12_errs mi_X12_errs msel_X12_errs ml_RX12_209 (rm_ok (by decide) (by decide)) ⟨Nat.zero_le _, Nat.zero_le _⟩ kR_0 sR_0 rfl (m_X12_errs E.2.2.1 cl_1 hσ6 h) rfl rfl (Nat.le_of_ble_eq_true rfl) dX12_readRule_44 (fun σ9 r8 hσ9 h => ?_)
      exact (t_X12_readRule_b47 E hr v7 σ9 cv7 hσ9 h).weak (w_k (w_k w_n))
  · replace h := h.2 hc
    exact g_vret E hr h hσ4 dX12_readRule_21
set_option maxHeartbeats 4000000 in
set_option maxRecDepth 100000 in
theorem t_X12_readRule (E : Ev p s m args meth c cX12_readRule 2 RX12 A0 D cA ad NR Z) (hr : meth.sig.returnType = none) (σ : St) (hσ : CanS shR NR σ) (h : wp_X12_readRule  σ Q) : G p l e (rmL 7 0 0) s m args below meth c 2 A0 D cA ad shR NR 0 0 (MQ below (QVc D cA ad shR NR Q A0) args s 0 0 A0) σ 0 [some (.ref (ad 0)), none] [] := by
  unfold wp_X12_readRule at h
  refine g_aload_0 E dX12_readRule_0 ?_
  refine g_getI E fl_RX12_230 kR_0 sR_0 rfl dX12_readRule_1 ?_
  refine g_bipush E (by decide) dX12_readRule_4 ?_
  refine g_icmp_ne E (fR_0_13 hσ) cl_40 djX12_readRule_6 (fun hc => ?_) (fun hc => ?_)
  · replace h := h.1 hc
    exact (t_X12_readRule_b14 E hr σ hσ h).weak (w_k (w_d w_n))
  · replace h := h.2 hc
    refine g_aload_0 E dX12_readRule_9 ?_
    refine g_iconst E dX12_readRule_10 ?_
    refine g_callvV E my_X12_errs mi_X12_errs msel_X12_errs ml_RX12_209 (rm_ok (by decide) (by decide)) ⟨Nat.zero_le _, Nat.zero_le _⟩ kR_0 sR_0 rfl (m_X12_errs E.2.2.1 cl_3 hσ h) rfl rfl (Nat.le_of_ble_eq_true rfl) dX12_readRule_11 (fun σ2 r1 hσ2 h => ?_)
    exact (t_X12_readRule_b14 E hr σ2 hσ2 h).weak (w_k (w_d w_n))
end
theorem m_X12_readRule {Z : (Nat → Nat) × (Nat → Nat)} {l : Launch} {D : va_G} {cA : Nat → ClassId} {ad : Nat → Nat} {σ : St} {Q : Int → St → Prop} (hA : AdOk NR ad) (hσ : CanS shR NR σ) (h : wp_X12_readRule  σ Q) : KtV Z l D cA ad shR NR yX12_readRule cX12_readRule 2 none 7 [.ref (ad 0)] σ Q :=
  KtV.of my_X12_readRule hA [some (.ref (ad 0)), none] (Nat.le_of_ble_eq_true rfl) rfl (fun p e s m args below meth c A0 E hr => t_X12_readRule E hr σ hσ h)
theorem dX12_grammar_0 : Dc cX12_grammar 0 (.aload_n 0) 1 1 := ⟨by decide +kernel, rfl⟩
theorem dX12_grammar_1 : Dc cX12_grammar 1 (.aload_n 0) 1 2 := ⟨by decide +kernel, rfl⟩
theorem dX12_grammar_2 : Dc cX12_grammar 2 (.getfield 145) 3 5 := ⟨by decide +kernel, rfl⟩
theorem dX12_grammar_5 : Dc cX12_grammar 5 (.putfield 152) 3 8 := ⟨by decide +kernel, rfl⟩
theorem dX12_grammar_8 : Dc cX12_grammar 8 (.aload_n 0) 1 9 := ⟨by decide +kernel, rfl⟩
theorem dX12_grammar_9 : Dc cX12_grammar 9 (.iconst 0) 1 10 := ⟨by decide +kernel, rfl⟩
theorem dX12_grammar_10 : Dc cX12_grammar 10 (.putfield 145) 3 13 := ⟨by decide +kernel, rfl⟩
theorem dX12_grammar_13 : Dc cX12_grammar 13 (.aload_n 0) 1 14 := ⟨by decide +kernel, rfl⟩
theorem dX12_grammar_14 : Dc cX12_grammar 14 (.iconst 0) 1 15 := ⟨by decide +kernel, rfl⟩
theorem dX12_grammar_15 : Dc cX12_grammar 15 (.putfield 155) 3 18 := ⟨by decide +kernel, rfl⟩
theorem dX12_grammar_18 : Dc cX12_grammar 18 (.aload_n 0) 1 19 := ⟨by decide +kernel, rfl⟩
theorem dX12_grammar_19 : Dc cX12_grammar 19 (.iconst 0) 1 20 := ⟨by decide +kernel, rfl⟩
theorem dX12_grammar_20 : Dc cX12_grammar 20 (.putfield 189) 3 23 := ⟨by decide +kernel, rfl⟩
theorem dX12_grammar_23 : Dc cX12_grammar 23 (.aload_n 0) 1 24 := ⟨by decide +kernel, rfl⟩
theorem dX12_grammar_24 : Dc cX12_grammar 24 (.iconst (-1)) 1 25 := ⟨by decide +kernel, rfl⟩
theorem dX12_grammar_25 : Dc cX12_grammar 25 (.putfield 54) 3 28 := ⟨by decide +kernel, rfl⟩
theorem dX12_grammar_28 : Dc cX12_grammar 28 (.aload_n 0) 1 29 := ⟨by decide +kernel, rfl⟩
theorem dX12_grammar_29 : Dc cX12_grammar 29 (.iconst 0) 1 30 := ⟨by decide +kernel, rfl⟩
theorem dX12_grammar_30 : Dc cX12_grammar 30 (.putfield 230) 3 33 := ⟨by decide +kernel, rfl⟩
theorem dX12_grammar_33 : Dc cX12_grammar 33 (.aload_n 0) 1 34 := ⟨by decide +kernel, rfl⟩
theorem dX12_grammar_34 : Dc cX12_grammar 34 (.getfield 29) 3 37 := ⟨by decide +kernel, rfl⟩
theorem dX12_grammar_37 : Dc cX12_grammar 37 (.iconst 1) 1 38 := ⟨by decide +kernel, rfl⟩
theorem dX12_grammar_38 : Dc cX12_grammar 38 (.iconst 2) 1 39 := ⟨by decide +kernel, rfl⟩
theorem dX12_grammar_39 : Dc cX12_grammar 39 (.iastore) 1 40 := ⟨by decide +kernel, rfl⟩
theorem dX12_grammar_40 : Dc cX12_grammar 40 (.aload_n 0) 1 41 := ⟨by decide +kernel, rfl⟩
theorem dX12_grammar_41 : Dc cX12_grammar 41 (.getfield 32) 3 44 := ⟨by decide +kernel, rfl⟩
theorem dX12_grammar_44 : Dc cX12_grammar 44 (.iconst 1) 1 45 := ⟨by decide +kernel, rfl⟩
theorem dX12_grammar_45 : Dc cX12_grammar 45 (.iconst 0) 1 46 := ⟨by decide +kernel, rfl⟩
theorem dX12_grammar_46 : Dc cX12_grammar 46 (.iastore) 1 47 := ⟨by decide +kernel, rfl⟩
theorem dX12_grammar_47 : Dc cX12_grammar 47 (.aload_n 0) 1 48 := ⟨by decide +kernel, rfl⟩
theorem dX12_grammar_48 : Dc cX12_grammar 48 (.getfield 35) 3 51 := ⟨by decide +kernel, rfl⟩
theorem dX12_grammar_51 : Dc cX12_grammar 51 (.iconst 1) 1 52 := ⟨by decide +kernel, rfl⟩
theorem dX12_grammar_52 : Dc cX12_grammar 52 (.iconst 1) 1 53 := ⟨by decide +kernel, rfl⟩
theorem dX12_grammar_53 : Dc cX12_grammar 53 (.iastore) 1 54 := ⟨by decide +kernel, rfl⟩
theorem dX12_grammar_54 : Dc cX12_grammar 54 (.iconst 0) 1 55 := ⟨by decide +kernel, rfl⟩
theorem dX12_grammar_55 : Dc cX12_grammar 55 (.istore_n 1) 1 56 := ⟨by decide +kernel, rfl⟩
theorem dX12_grammar_56 : Dc cX12_grammar 56 (.iload_n 1) 1 57 := ⟨by decide +kernel, rfl⟩
theorem dX12_grammar_57 : Dc cX12_grammar 57 (.iconst 4) 1 58 := ⟨by decide +kernel, rfl⟩
theorem djX12_grammar_58 : Dj cX12_grammar 58 (.if_icmp .ge 46) 3 61 46 104 := ⟨by decide +kernel, rfl, by decide⟩
theorem dX12_grammar_61 : Dc cX12_grammar 61 (.aload_n 0) 1 62 := ⟨by decide +kernel, rfl⟩
theorem dX12_grammar_62 : Dc cX12_grammar 62 (.getfield 38) 3 65 := ⟨by decide +kernel, rfl⟩
theorem dX12_grammar_65 : Dc cX12_grammar 65 (.bipush 25) 2 67 := ⟨by decide +kernel, rfl⟩
theorem dX12_grammar_67 : Dc cX12_grammar 67 (.iload_n 1) 1 68 := ⟨by decide +kernel, rfl⟩
theorem dX12_grammar_68 : Dc cX12_grammar 68 (.iadd) 1 69 := ⟨by decide +kernel, rfl⟩
theorem dX12_grammar_69 : Dc cX12_grammar 69 (.iload_n 1) 1 70 := ⟨by decide +kernel, rfl⟩
theorem djX12_grammar_70 : Dj cX12_grammar 70 (.ifCond .le 7) 3 73 7 77 := ⟨by decide +kernel, rfl, by decide⟩
theorem dX12_grammar_73 : Dc cX12_grammar 73 (.iconst 1) 1 74 := ⟨by decide +kernel, rfl⟩
theorem djX12_grammar_74 : Dj cX12_grammar 74 (.goto 4) 3 77 4 78 := ⟨by decide +kernel, rfl, by decide⟩
theorem dX12_grammar_77 : Dc cX12_grammar 77 (.iconst 0) 1 78 := ⟨by decide +kernel, rfl⟩
theorem dX12_grammar_78 : Dc cX12_grammar 78 (.iastore) 1 79 := ⟨by decide +kernel, rfl⟩
theorem dX12_grammar_79 : Dc cX12_grammar 79 (.aload_n 0) 1 80 := ⟨by decide +kernel, rfl⟩
theorem dX12_grammar_80 : Dc cX12_grammar 80 (.getfield 41) 3 83 := ⟨by decide +kernel, rfl⟩
theorem dX12_grammar_83 : Dc cX12_grammar 83 (.bipush 25) 2 85 := ⟨by decide +kernel, rfl⟩
theorem dX12_grammar_85 : Dc cX12_grammar 85 (.iload_n 1) 1 86 := ⟨by decide +kernel, rfl⟩
theorem dX12_grammar_86 : Dc cX12_grammar 86 (.iadd) 1 87 := ⟨by decide +kernel, rfl⟩
theorem dX12_grammar_87 : Dc cX12_grammar 87 (.iload_n 1) 1 88 := ⟨by decide +kernel, rfl⟩
theorem dX12_grammar_88 : Dc cX12_grammar 88 (.iconst 3) 1 89 := ⟨by decide +kernel, rfl⟩
theorem djX12_grammar_89 : Dj cX12_grammar 89 (.if_icmp .ne 7) 3 92 7 96 := ⟨by decide +kernel, rfl, by decide⟩
theorem dX12_grammar_92 : Dc cX12_grammar 92 (.iconst 1) 1 93 := ⟨by decide +kernel, rfl⟩
theorem djX12_grammar_93 : Dj cX12_grammar 93 (.goto 4) 3 96 4 97 := ⟨by decide +kernel, rfl, by decide⟩
theorem dX12_grammar_96 : Dc cX12_grammar 96 (.iconst 0) 1 97 := ⟨by decide +kernel, rfl⟩
theorem dX12_grammar_97 : Dc cX12_grammar 97 (.iastore) 1 98 := ⟨by decide +kernel, rfl⟩
theorem dX12_grammar_98 : Dc cX12_grammar 98 (.iinc 1 1) 3 101 := ⟨by decide +kernel, rfl⟩
theorem djX12_grammar_101 : Dj cX12_grammar 101 (.goto (-45)) 3 104 (-45) 56 := ⟨by decide +kernel, rfl, by decide⟩
theorem dX12_grammar_104 : Dc cX12_grammar 104 (.aload_n 0) 1 105 := ⟨by decide +kernel, rfl⟩
theorem dX12_grammar_105 : Dc cX12_grammar 105 (.invokevirtual 213) 3 108 := ⟨by decide +kernel, rfl⟩
theorem dX12_grammar_108 : Dc cX12_grammar 108 (.iconst 1) 1 109 := ⟨by decide +kernel, rfl⟩
theorem dX12_grammar_109 : Dc cX12_grammar 109 (.istore_n 1) 1 110 := ⟨by decide +kernel, rfl⟩
theorem dX12_grammar_110 : Dc cX12_grammar 110 (.aload_n 0) 1 111 := ⟨by decide +kernel, rfl⟩
theorem dX12_grammar_111 : Dc cX12_grammar 111 (.invokevirtual 192) 3 114 := ⟨by decide +kernel, rfl⟩
theorem djX12_grammar_114 : Dj cX12_grammar 114 (.ifCond .eq 62) 3 117 62 176 := ⟨by decide +kernel, rfl, by decide⟩
theorem dX12_grammar_117 : Dc cX12_grammar 117 (.aload_n 0) 1 118 := ⟨by decide +kernel, rfl⟩
theorem dX12_grammar_118 : Dc cX12_grammar 118 (.getfield 165) 3 121 := ⟨by decide +kernel, rfl⟩
theorem djX12_grammar_121 : Dj cX12_grammar 121 (.ifCond .eq 55) 3 124 55 176 := ⟨by decide +kernel, rfl, by decide⟩
theorem dX12_grammar_124 : Dc cX12_grammar 124 (.iload_n 1) 1 125 := ⟨by decide +kernel, rfl⟩
theorem djX12_grammar_125 : Dj cX12_grammar 125 (.ifCond .eq 19) 3 128 19 144 := ⟨by decide +kernel, rfl, by decide⟩
theorem dX12_grammar_128 : Dc cX12_grammar 128 (.aload_n 0) 1 129 := ⟨by decide +kernel, rfl⟩
theorem dX12_grammar_129 : Dc cX12_grammar 129 (.ldc 242) 2 131 := ⟨by decide +kernel, rfl⟩
theorem dX12_grammar_131 : Dc cX12_grammar 131 (.invokevirtual 205) 3 134 := ⟨by decide +kernel, rfl⟩
theorem djX12_grammar_134 : Dj cX12_grammar 134 (.ifCond .eq 10) 3 137 10 144 := ⟨by decide +kernel, rfl, by decide⟩
theorem dX12_grammar_137 : Dc cX12_grammar 137 (.aload_n 0) 1 138 := ⟨by decide +kernel, rfl⟩
theorem dX12_grammar_138 : Dc cX12_grammar 138 (.invokevirtual 244) 3 141 := ⟨by decide +kernel, rfl⟩
theorem djX12_grammar_141 : Dj cX12_grammar 141 (.goto 24) 3 144 24 165 := ⟨by decide +kernel, rfl, by decide⟩
theorem dX12_grammar_144 : Dc cX12_grammar 144 (.aload_n 0) 1 145 := ⟨by decide +kernel, rfl⟩
theorem dX12_grammar_145 : Dc cX12_grammar 145 (.ldc 247) 2 147 := ⟨by decide +kernel, rfl⟩
theorem dX12_grammar_147 : Dc cX12_grammar 147 (.invokevirtual 205) 3 150 := ⟨by decide +kernel, rfl⟩
theorem djX12_grammar_150 : Dj cX12_grammar 150 (.ifCond .eq 10) 3 153 10 160 := ⟨by decide +kernel, rfl, by decide⟩
theorem dX12_grammar_153 : Dc cX12_grammar 153 (.aload_n 0) 1 154 := ⟨by decide +kernel, rfl⟩
theorem dX12_grammar_154 : Dc cX12_grammar 154 (.invokevirtual 249) 3 157 := ⟨by decide +kernel, rfl⟩
theorem djX12_grammar_157 : Dj cX12_grammar 157 (.goto 8) 3 160 8 165 := ⟨by decide +kernel, rfl, by decide⟩
theorem dX12_grammar_160 : Dc cX12_grammar 160 (.aload_n 0) 1 161 := ⟨by decide +kernel, rfl⟩
theorem dX12_grammar_161 : Dc cX12_grammar 161 (.iconst 1) 1 162 := ⟨by decide +kernel, rfl⟩
theorem dX12_grammar_162 : Dc cX12_grammar 162 (.invokevirtual 209) 3 165 := ⟨by decide +kernel, rfl⟩
theorem dX12_grammar_165 : Dc cX12_grammar 165 (.iconst 0) 1 166 := ⟨by decide +kernel, rfl⟩
theorem dX12_grammar_166 : Dc cX12_grammar 166 (.istore_n 1) 1 167 := ⟨by decide +kernel, rfl⟩
theorem dX12_grammar_167 : Dc cX12_grammar 167 (.aload_n 0) 1 168 := ⟨by decide +kernel, rfl⟩
theorem dX12_grammar_168 : Dc cX12_grammar 168 (.bipush 59) 2 170 := ⟨by decide +kernel, rfl⟩
theorem dX12_grammar_170 : Dc cX12_grammar 170 (.invokevirtual 233) 3 173 := ⟨by decide +kernel, rfl⟩
theorem djX12_grammar_173 : Dj cX12_grammar 173 (.goto (-63)) 3 176 (-63) 110 := ⟨by decide +kernel, rfl, by decide⟩
theorem dX12_grammar_176 : Dc cX12_grammar 176 (.aload_n 0) 1 177 := ⟨by decide +kernel, rfl⟩
theorem dX12_grammar_177 : Dc cX12_grammar 177 (.invokevirtual 192) 3 180 := ⟨by decide +kernel, rfl⟩
theorem djX12_grammar_180 : Dj cX12_grammar 180 (.ifCond .ne 6) 3 183 6 186 := ⟨by decide +kernel, rfl, by decide⟩
theorem dX12_grammar_183 : Dc cX12_grammar 183 (.bipush (-4)) 2 185 := ⟨by decide +kernel, rfl⟩
theorem dX12_grammar_185 : Dc cX12_grammar 185 (.ireturn) 1 186 := ⟨by decide +kernel, rfl⟩
theorem dX12_grammar_186 : Dc cX12_grammar 186 (.aload_n 0) 1 187 := ⟨by decide +kernel, rfl⟩
theorem dX12_grammar_187 : Dc cX12_grammar 187 (.aload_n 0) 1 188 := ⟨by decide +kernel, rfl⟩
theorem dX12_grammar_188 : Dc cX12_grammar 188 (.getfield 230) 3 191 := ⟨by decide +kernel, rfl⟩
theorem dX12_grammar_191 : Dc cX12_grammar 191 (.putfield 252) 3 194 := ⟨by decide +kernel, rfl⟩
theorem dX12_grammar_194 : Dc cX12_grammar 194 (.aload_n 0) 1 195 := ⟨by decide +kernel, rfl⟩
theorem dX12_grammar_195 : Dc cX12_grammar 195 (.lconst 0) 1 196 := ⟨by decide +kernel, rfl⟩
theorem dX12_grammar_196 : Dc cX12_grammar 196 (.putfield 255) 3 199 := ⟨by decide +kernel, rfl⟩
theorem dX12_grammar_199 : Dc cX12_grammar 199 (.iconst 0) 1 200 := ⟨by decide +kernel, rfl⟩
theorem dX12_grammar_200 : Dc cX12_grammar 200 (.istore_n 2) 1 201 := ⟨by decide +kernel, rfl⟩
theorem dX12_grammar_201 : Dc cX12_grammar 201 (.iload_n 2) 1 202 := ⟨by decide +kernel, rfl⟩
theorem dX12_grammar_202 : Dc cX12_grammar 202 (.aload_n 0) 1 203 := ⟨by decide +kernel, rfl⟩
theorem dX12_grammar_203 : Dc cX12_grammar 203 (.getfield 252) 3 206 := ⟨by decide +kernel, rfl⟩
theorem djX12_grammar_206 : Dj cX12_grammar 206 (.if_icmp .ge 84) 3 209 84 290 := ⟨by decide +kernel, rfl, by decide⟩
theorem dX12_grammar_209 : Dc cX12_grammar 209 (.aload_n 0) 1 210 := ⟨by decide +kernel, rfl⟩
theorem dX12_grammar_210 : Dc cX12_grammar 210 (.getfield 13) 3 213 := ⟨by decide +kernel, rfl⟩
theorem dX12_grammar_213 : Dc cX12_grammar 213 (.iload_n 2) 1 214 := ⟨by decide +kernel, rfl⟩
theorem dX12_grammar_214 : Dc cX12_grammar 214 (.aload_n 0) 1 215 := ⟨by decide +kernel, rfl⟩
theorem dX12_grammar_215 : Dc cX12_grammar 215 (.getfield 13) 3 218 := ⟨by decide +kernel, rfl⟩
theorem dX12_grammar_218 : Dc cX12_grammar 218 (.bipush 40) 2 220 := ⟨by decide +kernel, rfl⟩
theorem dX12_grammar_220 : Dc cX12_grammar 220 (.iload_n 2) 1 221 := ⟨by decide +kernel, rfl⟩
theorem dX12_grammar_221 : Dc cX12_grammar 221 (.iadd) 1 222 := ⟨by decide +kernel, rfl⟩
theorem dX12_grammar_222 : Dc cX12_grammar 222 (.iaload) 1 223 := ⟨by decide +kernel, rfl⟩
theorem dX12_grammar_223 : Dc cX12_grammar 223 (.iastore) 1 224 := ⟨by decide +kernel, rfl⟩
theorem dX12_grammar_224 : Dc cX12_grammar 224 (.aload_n 0) 1 225 := ⟨by decide +kernel, rfl⟩
theorem dX12_grammar_225 : Dc cX12_grammar 225 (.getfield 17) 3 228 := ⟨by decide +kernel, rfl⟩
theorem dX12_grammar_228 : Dc cX12_grammar 228 (.iload_n 2) 1 229 := ⟨by decide +kernel, rfl⟩
theorem dX12_grammar_229 : Dc cX12_grammar 229 (.aload_n 0) 1 230 := ⟨by decide +kernel, rfl⟩
theorem dX12_grammar_230 : Dc cX12_grammar 230 (.getfield 17) 3 233 := ⟨by decide +kernel, rfl⟩
theorem dX12_grammar_233 : Dc cX12_grammar 233 (.bipush 40) 2 235 := ⟨by decide +kernel, rfl⟩
theorem dX12_grammar_235 : Dc cX12_grammar 235 (.iload_n 2) 1 236 := ⟨by decide +kernel, rfl⟩
theorem dX12_grammar_236 : Dc cX12_grammar 236 (.iadd) 1 237 := ⟨by decide +kernel, rfl⟩
theorem dX12_grammar_237 : Dc cX12_grammar 237 (.iaload) 1 238 := ⟨by decide +kernel, rfl⟩
theorem dX12_grammar_238 : Dc cX12_grammar 238 (.iastore) 1 239 := ⟨by decide +kernel, rfl⟩
theorem dX12_grammar_239 : Dc cX12_grammar 239 (.aload_n 0) 1 240 := ⟨by decide +kernel, rfl⟩
theorem dX12_grammar_240 : Dc cX12_grammar 240 (.getfield 20) 3 243 := ⟨by decide +kernel, rfl⟩
theorem dX12_grammar_243 : Dc cX12_grammar 243 (.iload_n 2) 1 244 := ⟨by decide +kernel, rfl⟩
theorem dX12_grammar_244 : Dc cX12_grammar 244 (.aload_n 0) 1 245 := ⟨by decide +kernel, rfl⟩
theorem dX12_grammar_245 : Dc cX12_grammar 245 (.getfield 20) 3 248 := ⟨by decide +kernel, rfl⟩
theorem dX12_grammar_248 : Dc cX12_grammar 248 (.bipush 40) 2 250 := ⟨by decide +kernel, rfl⟩
theorem dX12_grammar_250 : Dc cX12_grammar 250 (.iload_n 2) 1 251 := ⟨by decide +kernel, rfl⟩
theorem dX12_grammar_251 : Dc cX12_grammar 251 (.iadd) 1 252 := ⟨by decide +kernel, rfl⟩
theorem dX12_grammar_252 : Dc cX12_grammar 252 (.iaload) 1 253 := ⟨by decide +kernel, rfl⟩
theorem dX12_grammar_253 : Dc cX12_grammar 253 (.iastore) 1 254 := ⟨by decide +kernel, rfl⟩
theorem dX12_grammar_254 : Dc cX12_grammar 254 (.aload_n 0) 1 255 := ⟨by decide +kernel, rfl⟩
theorem dX12_grammar_255 : Dc cX12_grammar 255 (.getfield 23) 3 258 := ⟨by decide +kernel, rfl⟩
theorem dX12_grammar_258 : Dc cX12_grammar 258 (.iload_n 2) 1 259 := ⟨by decide +kernel, rfl⟩
theorem dX12_grammar_259 : Dc cX12_grammar 259 (.aload_n 0) 1 260 := ⟨by decide +kernel, rfl⟩
theorem dX12_grammar_260 : Dc cX12_grammar 260 (.getfield 23) 3 263 := ⟨by decide +kernel, rfl⟩
theorem dX12_grammar_263 : Dc cX12_grammar 263 (.bipush 40) 2 265 := ⟨by decide +kernel, rfl⟩
theorem dX12_grammar_265 : Dc cX12_grammar 265 (.iload_n 2) 1 266 := ⟨by decide +kernel, rfl⟩
theorem dX12_grammar_266 : Dc cX12_grammar 266 (.iadd) 1 267 := ⟨by decide +kernel, rfl⟩
theorem dX12_grammar_267 : Dc cX12_grammar 267 (.iaload) 1 268 := ⟨by decide +kernel, rfl⟩
theorem dX12_grammar_268 : Dc cX12_grammar 268 (.iastore) 1 269 := ⟨by decide +kernel, rfl⟩
theorem dX12_grammar_269 : Dc cX12_grammar 269 (.aload_n 0) 1 270 := ⟨by decide +kernel, rfl⟩
theorem dX12_grammar_270 : Dc cX12_grammar 270 (.getfield 26) 3 273 := ⟨by decide +kernel, rfl⟩
theorem dX12_grammar_273 : Dc cX12_grammar 273 (.iload_n 2) 1 274 := ⟨by decide +kernel, rfl⟩
theorem dX12_grammar_274 : Dc cX12_grammar 274 (.aload_n 0) 1 275 := ⟨by decide +kernel, rfl⟩
theorem dX12_grammar_275 : Dc cX12_grammar 275 (.getfield 26) 3 278 := ⟨by decide +kernel, rfl⟩
theorem dX12_grammar_278 : Dc cX12_grammar 278 (.bipush 40) 2 280 := ⟨by decide +kernel, rfl⟩
theorem dX12_grammar_280 : Dc cX12_grammar 280 (.iload_n 2) 1 281 := ⟨by decide +kernel, rfl⟩
theorem dX12_grammar_281 : Dc cX12_grammar 281 (.iadd) 1 282 := ⟨by decide +kernel, rfl⟩
theorem dX12_grammar_282 : Dc cX12_grammar 282 (.iaload) 1 283 := ⟨by decide +kernel, rfl⟩
theorem dX12_grammar_283 : Dc cX12_grammar 283 (.iastore) 1 284 := ⟨by decide +kernel, rfl⟩
theorem dX12_grammar_284 : Dc cX12_grammar 284 (.iinc 2 1) 3 287 := ⟨by decide +kernel, rfl⟩
theorem djX12_grammar_287 : Dj cX12_grammar 287 (.goto (-86)) 3 290 (-86) 201 := ⟨by decide +kernel, rfl, by decide⟩
theorem dX12_grammar_290 : Dc cX12_grammar 290 (.aload_n 0) 1 291 := ⟨by decide +kernel, rfl⟩
theorem dX12_grammar_291 : Dc cX12_grammar 291 (.getfield 29) 3 294 := ⟨by decide +kernel, rfl⟩
theorem dX12_grammar_294 : Dc cX12_grammar 294 (.iconst 0) 1 295 := ⟨by decide +kernel, rfl⟩
theorem dX12_grammar_295 : Dc cX12_grammar 295 (.aload_n 0) 1 296 := ⟨by decide +kernel, rfl⟩
theorem dX12_grammar_296 : Dc cX12_grammar 296 (.getfield 29) 3 299 := ⟨by decide +kernel, rfl⟩
theorem dX12_grammar_299 : Dc cX12_grammar 299 (.iconst 1) 1 300 := ⟨by decide +kernel, rfl⟩
theorem dX12_grammar_300 : Dc cX12_grammar 300 (.iaload) 1 301 := ⟨by decide +kernel, rfl⟩
theorem dX12_grammar_301 : Dc cX12_grammar 301 (.iastore) 1 302 := ⟨by decide +kernel, rfl⟩
theorem dX12_grammar_302 : Dc cX12_grammar 302 (.aload_n 0) 1 303 := ⟨by decide +kernel, rfl⟩
theorem dX12_grammar_303 : Dc cX12_grammar 303 (.getfield 32) 3 306 := ⟨by decide +kernel, rfl⟩
theorem dX12_grammar_306 : Dc cX12_grammar 306 (.iconst 0) 1 307 := ⟨by decide +kernel, rfl⟩
theorem dX12_grammar_307 : Dc cX12_grammar 307 (.aload_n 0) 1 308 := ⟨by decide +kernel, rfl⟩
theorem dX12_grammar_308 : Dc cX12_grammar 308 (.getfield 32) 3 311 := ⟨by decide +kernel, rfl⟩
theorem dX12_grammar_311 : Dc cX12_grammar 311 (.iconst 1) 1 312 := ⟨by decide +kernel, rfl⟩
theorem dX12_grammar_312 : Dc cX12_grammar 312 (.iaload) 1 313 := ⟨by decide +kernel, rfl⟩
theorem dX12_grammar_313 : Dc cX12_grammar 313 (.iastore) 1 314 := ⟨by decide +kernel, rfl⟩
theorem dX12_grammar_314 : Dc cX12_grammar 314 (.aload_n 0) 1 315 := ⟨by decide +kernel, rfl⟩
theorem dX12_grammar_315 : Dc cX12_grammar 315 (.getfield 35) 3 318 := ⟨by decide +kernel, rfl⟩
theorem dX12_grammar_318 : Dc cX12_grammar 318 (.iconst 0) 1 319 := ⟨by decide +kernel, rfl⟩
theorem dX12_grammar_319 : Dc cX12_grammar 319 (.aload_n 0) 1 320 := ⟨by decide +kernel, rfl⟩
theorem dX12_grammar_320 : Dc cX12_grammar 320 (.getfield 35) 3 323 := ⟨by decide +kernel, rfl⟩
theorem dX12_grammar_323 : Dc cX12_grammar 323 (.iconst 1) 1 324 := ⟨by decide +kernel, rfl⟩
theorem dX12_grammar_324 : Dc cX12_grammar 324 (.iaload) 1 325 := ⟨by decide +kernel, rfl⟩
theorem dX12_grammar_325 : Dc cX12_grammar 325 (.iastore) 1 326 := ⟨by decide +kernel, rfl⟩
theorem dX12_grammar_326 : Dc cX12_grammar 326 (.iconst 0) 1 327 := ⟨by decide +kernel, rfl⟩
theorem dX12_grammar_327 : Dc cX12_grammar 327 (.istore_n 2) 1 328 := ⟨by decide +kernel, rfl⟩
theorem dX12_grammar_328 : Dc cX12_grammar 328 (.iload_n 2) 1 329 := ⟨by decide +kernel, rfl⟩
theorem dX12_grammar_329 : Dc cX12_grammar 329 (.bipush 25) 2 331 := ⟨by decide +kernel, rfl⟩
theorem djX12_grammar_331 : Dj cX12_grammar 331 (.if_icmp .ge 39) 3 334 39 370 := ⟨by decide +kernel, rfl, by decide⟩
theorem dX12_grammar_334 : Dc cX12_grammar 334 (.aload_n 0) 1 335 := ⟨by decide +kernel, rfl⟩
theorem dX12_grammar_335 : Dc cX12_grammar 335 (.getfield 38) 3 338 := ⟨by decide +kernel, rfl⟩
theorem dX12_grammar_338 : Dc cX12_grammar 338 (.iload_n 2) 1 339 := ⟨by decide +kernel, rfl⟩
theorem dX12_grammar_339 : Dc cX12_grammar 339 (.aload_n 0) 1 340 := ⟨by decide +kernel, rfl⟩
theorem dX12_grammar_340 : Dc cX12_grammar 340 (.getfield 38) 3 343 := ⟨by decide +kernel, rfl⟩
theorem dX12_grammar_343 : Dc cX12_grammar 343 (.bipush 25) 2 345 := ⟨by decide +kernel, rfl⟩
theorem dX12_grammar_345 : Dc cX12_grammar 345 (.iload_n 2) 1 346 := ⟨by decide +kernel, rfl⟩
theorem dX12_grammar_346 : Dc cX12_grammar 346 (.iadd) 1 347 := ⟨by decide +kernel, rfl⟩
theorem dX12_grammar_347 : Dc cX12_grammar 347 (.iaload) 1 348 := ⟨by decide +kernel, rfl⟩
theorem dX12_grammar_348 : Dc cX12_grammar 348 (.iastore) 1 349 := ⟨by decide +kernel, rfl⟩
theorem dX12_grammar_349 : Dc cX12_grammar 349 (.aload_n 0) 1 350 := ⟨by decide +kernel, rfl⟩
theorem dX12_grammar_350 : Dc cX12_grammar 350 (.getfield 41) 3 353 := ⟨by decide +kernel, rfl⟩
theorem dX12_grammar_353 : Dc cX12_grammar 353 (.iload_n 2) 1 354 := ⟨by decide +kernel, rfl⟩
theorem dX12_grammar_354 : Dc cX12_grammar 354 (.aload_n 0) 1 355 := ⟨by decide +kernel, rfl⟩
theorem dX12_grammar_355 : Dc cX12_grammar 355 (.getfield 41) 3 358 := ⟨by decide +kernel, rfl⟩
theorem dX12_grammar_358 : Dc cX12_grammar 358 (.bipush 25) 2 360 := ⟨by decide +kernel, rfl⟩
theorem dX12_grammar_360 : Dc cX12_grammar 360 (.iload_n 2) 1 361 := ⟨by decide +kernel, rfl⟩
theorem dX12_grammar_361 : Dc cX12_grammar 361 (.iadd) 1 362 := ⟨by decide +kernel, rfl⟩
theorem dX12_grammar_362 : Dc cX12_grammar 362 (.iaload) 1 363 := ⟨by decide +kernel, rfl⟩
theorem dX12_grammar_363 : Dc cX12_grammar 363 (.iastore) 1 364 := ⟨by decide +kernel, rfl⟩
theorem dX12_grammar_364 : Dc cX12_grammar 364 (.iinc 2 1) 3 367 := ⟨by decide +kernel, rfl⟩
theorem djX12_grammar_367 : Dj cX12_grammar 367 (.goto (-39)) 3 370 (-39) 328 := ⟨by decide +kernel, rfl, by decide⟩
theorem dX12_grammar_370 : Dc cX12_grammar 370 (.aload_n 0) 1 371 := ⟨by decide +kernel, rfl⟩
theorem dX12_grammar_371 : Dc cX12_grammar 371 (.getfield 252) 3 374 := ⟨by decide +kernel, rfl⟩
theorem dX12_grammar_374 : Dc cX12_grammar 374 (.ireturn) 1 375 := ⟨by decide +kernel, rfl⟩
section
variable {p : Program} {l : Launch} {e : Env} {s : State} {m : MethodId} {args : Array Value} {below : List Frame} {meth : Method} {c : Code} {A0 : Nat → Prop} {D : va_G} {cA : Nat → ClassId} {ad : Nat → Nat} {Z : (Nat → Nat) × (Nat → Nat)} {Q : Int → St → Prop}
set_option maxHeartbeats 4000000 in
set_option maxRecDepth 100000 in
theorem t_X12_grammar_b97 (E : Ev p s m args meth c cX12_grammar 3 RX12 A0 D cA ad NR Z) (hr : meth.sig.returnType = (some .int)) {K56 : Int → St → Prop} (hK56 : ∀ (x1 : Int) (σ : St), C32 x1 → CanS shR NR σ → K56 x1 σ → G p l e (rmL 9 0 0) s m args below meth c 3 A0 D cA ad shR NR 0 0 (MQ below (QIc D cA ad shR NR Q A0) args s 0 0 A0) σ 56 [some (.ref (ad 0)), some (vI x1), none] []) (x1 : Int) (s0 : Int) (s1 : Int) (σ : St) (c1 : C32 x1) (cs0 : C32 s0) (cs1 : C32 s1) (hσ : CanS shR NR σ) (h : wp_X12_grammar_b97 Q K56 x1 s0 s1 σ) : G p l e (rmL 9 0 0) s m args below meth c 3 A0 D cA ad shR NR 0 0 (MQ below (QIc D cA ad shR NR Q A0) args s 0 0 A0) σ 97 [some (.ref (ad 0)), some (vI x1), none] [vI s0, vI s1, .ref (ad 10)] := by
  unfold wp_X12_grammar_b97 at h
  refine g_iast E kR_10 sR_10 (by decide) h.1 dX12_grammar_97 (g_nmS (fun σ31 eσ31 => ?_))
  replace h := h.2 σ31 eσ31
  have hσ31 : CanS shR NR σ31 := by rw [eσ31]; exact wR_10 hσ cs0
  refine g_iinc_1 E rfl (by decide) dX12_grammar_98 (fun v32 ev32 => ?_)
  replace h := h v32 ev32
  have cv32 : C32 v32 := by rw [ev32]; exact c32_w _
  refine g_goto E djX12_grammar_101 ?_
  exact (hK56 v32 σ31 cv32 hσ31 h).weak (w_k (w_k (w_d w_n)))
set_option maxHeartbeats 4000000 in
set_option maxRecDepth 100000 in
theorem t_X12_grammar_b78 (E : Ev p s m args meth c cX12_grammar 3 RX12 A0 D cA ad NR Z) (hr : meth.sig.returnType = (some .int)) {K56 : Int → St → Prop} (hK56 : ∀ (x1 : Int) (σ : St), C32 x1 → CanS shR NR σ → K56 x1 σ → G p l e (rmL 9 0 0) s m args below meth c 3 A0 D cA ad shR NR 0 0 (MQ below (QIc D cA ad shR NR Q A0) args s 0 0 A0) σ 56 [some (.ref (ad 0)), some (vI x1), none] []) (x1 : Int) (s0 : Int) (s1 : Int) (σ : St) (c1 : C32 x1) (cs0 : C32 s0) (cs1 : C32 s1) (hσ : CanS shR NR σ) (h : wp_X12_grammar_b78 Q K56 x1 s0 s1 σ) : G p l e (rmL 9 0 0) s m args below meth c 3 A0 D cA ad shR NR 0 0 (MQ below (QIc D cA ad shR NR Q A0) args s 0 0 A0) σ 78 [some (.ref (ad 0)), some (vI x1), none] [vI s0, vI s1, .ref (ad 9)] := by
  unfold wp_X12_grammar_b78 at h
  refine g_iast E kR_9 sR_9 (by decide) h.1 dX12_grammar_78 (g_nmS (fun σ18 eσ18 => ?_))
  replace h := h.2 σ18 eσ18
  have hσ18 : CanS shR NR σ18 := by rw [eσ18]; exact wR_9 hσ cs0
  refine g_aload_0 E dX12_grammar_79 ?_
  refine g_getR E fl_RX12_41 kR_0 sR_0 rfl dX12_grammar_80 ?_
  refine g_bipush E (by decide) dX12_grammar_83 ?_
  refine g_iload_1 E dX12_grammar_85 ?_
  refine g_iadd E dX12_grammar_86 ?_
  refine g_iload_1 E dX12_grammar_87 ?_
  refine g_iconst E dX12_grammar_88 ?_
  refine g_icmp_ne E c1 cl_3 djX12_grammar_89 (fun hc => ?_) (fun hc => ?_)
  · replace h := h.1 hc
    refine g_iconst E dX12_grammar_96 ?_
    exact (t_X12_grammar_b97 E hr hK56 x1 0 (w32 (25 + x1)) σ18 c1 cl_0 (c32_w _) hσ18 h).weak (w_k (w_k (w_d w_n)))
  · replace h := h.2 hc
    refine g_iconst E dX12_grammar_92 ?_
    refine g_goto E djX12_grammar_93 ?_
    exact (t_X12_grammar_b97 E hr hK56 x1 1 (w32 (25 + x1)) σ18 c1 cl_1 (c32_w _) hσ18 h).weak (w_k (w_k (w_d w_n)))
set_option maxHeartbeats 4000000 in
set_option maxRecDepth 100000 in
theorem t_X12_grammar_b165 (E : Ev p s m args meth c cX12_grammar 3 RX12 A0 D cA ad NR Z) (hr : meth.sig.returnType = (some .int)) {K110 : Int → St → Prop} (hK110 : ∀ (x1 : Int) (σ : St), C32 x1 → CanS shR NR σ → K110 x1 σ → G p l e (rmL 9 0 0) s m args below meth c 3 A0 D cA ad shR NR 0 0 (MQ below (QIc D cA ad shR NR Q A0) args s 0 0 A0) σ 110 [some (.ref (ad 0)), some (vI x1), none] []) (σ : St) (hσ : CanS shR NR σ) (h : wp_X12_grammar_b165 Q K110  σ) : G p l e (rmL 9 0 0) s m args below meth c 3 A0 D cA ad shR NR 0 0 (MQ below (QIc D cA ad shR NR Q A0) args s 0 0 A0) σ 165 [some (.ref (ad 0)), none, none] [] := by
  unfold wp_X12_grammar_b165 at h
  refine g_iconst E dX12_grammar_165 ?_
  refine g_istore_1 E rfl (by decide) dX12_grammar_166 ?_
  refine g_aload_0 E dX12_grammar_167 ?_
  refine g_bipush E (by decide) dX12_grammar_168 ?_
  refine g_callvV E my_X12_takesSign mi_X12_takesSign msel_X12_takesSign ml_RX12_233 (rm_ok (by decide) (by decide)) ⟨Nat.zero_le _, Nat.zero_le _⟩ kR_0 sR_0 rfl (m_X12_takesSign E.2.2.1 cl_59 hσ h) rfl rfl (Nat.le_of_ble_eq_true rfl) dX12_grammar_170 (fun σ30 r29 hσ30 h => ?_)
  refine g_goto E djX12_grammar_173 ?_
  exact (hK110 0 σ30 cl_0 hσ30 h).weak (w_k (w_k (w_d w_n)))
set_option maxHeartbeats 4000000 in
set_option maxRecDepth 100000 in
theorem t_X12_grammar_b144 (E : Ev p s m args meth c cX12_grammar 3 RX12 A0 D cA ad NR Z) (hr : meth.sig.returnType = (some .int)) {K110 : Int → St → Prop} (hK110 : ∀ (x1 : Int) (σ : St), C32 x1 → CanS shR NR σ → K110 x1 σ → G p l e (rmL 9 0 0) s m args below meth c 3 A0 D cA ad shR NR 0 0 (MQ below (QIc D cA ad shR NR Q A0) args s 0 0 A0) σ 110 [some (.ref (ad 0)), some (vI x1), none] []) (σ : St) (hσ : CanS shR NR σ) (h : wp_X12_grammar_b144 Q K110  σ) : G p l e (rmL 9 0 0) s m args below meth c 3 A0 D cA ad shR NR 0 0 (MQ below (QIc D cA ad shR NR Q A0) args s 0 0 A0) σ 144 [some (.ref (ad 0)), none, none] [] := by
  unfold wp_X12_grammar_b144 at h
  refine g_aload_0 E dX12_grammar_144 ?_
  refine g_ldcS E (i := 13) (by decide) ⟨rfl, rfl⟩ dX12_grammar_145 ?_
  refine g_callvI E my_X12_is mi_X12_is msel_X12_is ml_RX12_205 (rm_ok (by decide) (by decide)) ⟨Nat.zero_le _, Nat.zero_le _⟩ kR_0 sR_0 rfl (m_X12_is_s13 E.2.2.1 hσ h) rfl rfl (Nat.le_of_ble_eq_true rfl) dX12_grammar_147 (fun r23 σ24 cr23 hσ24 h => ?_)
  refine g_if_eq E cr23 djX12_grammar_150 (fun hc => ?_) (fun hc => ?_)
  · replace h := h.1 hc
    refine g_aload_0 E dX12_grammar_160 ?_
    refine g_iconst E dX12_grammar_161 ?_
    refine g_callvV E my_X12_errs mi_X12_errs msel_X12_errs ml_RX12_209 (rm_ok (by decide) (by decide)) ⟨Nat.zero_le _, Nat.zero_le _⟩ kR_0 sR_0 rfl (m_X12_errs E.2.2.1 cl_1 hσ24 h) rfl rfl (Nat.le_of_ble_eq_true rfl) dX12_grammar_162 (fun σ26 r25 hσ26 h => ?_)
    exact (t_X12_grammar_b165 E hr hK110 σ26 hσ26 h).weak (w_k (w_d (w_d w_n)))
  · replace h := h.2 hc
    refine g_aload_0 E dX12_grammar_153 ?_
    refine g_callvV E my_X12_readRule mi_X12_readRule msel_X12_readRule ml_RX12_249 (rm_ok (by decide) (by decide)) ⟨Nat.zero_le _, Nat.zero_le _⟩ kR_0 sR_0 rfl (m_X12_readRule E.2.2.1 hσ24 h) rfl rfl (Nat.le_of_ble_eq_true rfl) dX12_grammar_154 (fun σ28 r27 hσ28 h => ?_)
    refine g_goto E djX12_grammar_157 ?_
    exact (t_X12_grammar_b165 E hr hK110 σ28 hσ28 h).weak (w_k (w_d (w_d w_n)))
set_option maxHeartbeats 4000000 in
set_option maxRecDepth 100000 in
theorem t_X12_grammar_l328 (E : Ev p s m args meth c cX12_grammar 3 RX12 A0 D cA ad NR Z) (hr : meth.sig.returnType = (some .int)) : ∀ (n : Nat) (x2 : Int) (σ : St), C32 x2 → CanS shR NR σ → wp_X12_grammar_l328 Q n x2 σ → G p l e (rmL 9 0 0) s m args below meth c 3 A0 D cA ad shR NR 0 0 (MQ below (QIc D cA ad shR NR Q A0) args s 0 0 A0) σ 328 [some (.ref (ad 0)), none, some (vI x2)] [] := by
  intro n
  induction n with
  | zero => intro _ _ _ _ h; exact h.elim
  | succ n ih =>
    intro x2 σ c2 hσ h
    unfold wp_X12_grammar_l328 at h
    refine g_iload_2 E dX12_grammar_328 ?_
    refine g_bipush E (by decide) dX12_grammar_329 ?_
    refine g_icmp_ge E c2 cl_25 djX12_grammar_331 (fun hc => ?_) (fun hc => ?_)
    · replace h := h.1 hc
      refine g_aload_0 E dX12_grammar_370 ?_
      refine g_getI E fl_RX12_252 kR_0 sR_0 rfl dX12_grammar_371 ?_
      exact g_iret E hr (fR_0_1 hσ) h hσ dX12_grammar_374
    · replace h := h.2 hc
      refine g_aload_0 E dX12_grammar_334 ?_
      refine g_getR E fl_RX12_38 kR_0 sR_0 rfl dX12_grammar_335 ?_
      refine g_iload_2 E dX12_grammar_338 ?_
      refine g_aload_0 E dX12_grammar_339 ?_
      refine g_getR E fl_RX12_38 kR_0 sR_0 rfl dX12_grammar_340 ?_
      refine g_bipush E (by decide) dX12_grammar_343 ?_
      refine g_iload_2 E dX12_grammar_345 ?_
      refine g_iadd E dX12_grammar_346 ?_
      refine g_iald E kR_9 sR_9 (by decide) h.1 dX12_grammar_347 ?_
      replace h := h.2
      refine g_iast E kR_9 sR_9 (by decide) h.1 dX12_grammar_348 (g_nmS (fun σ42 eσ42 => ?_))
      replace h := h.2 σ42 eσ42
      have hσ42 : CanS shR NR σ42 := by rw [eσ42]; exact wR_9 hσ (aR_9 hσ _)
      refine g_aload_0 E dX12_grammar_349 ?_
      refine g_getR E fl_RX12_41 kR_0 sR_0 rfl dX12_grammar_350 ?_
      refine g_iload_2 E dX12_grammar_353 ?_
      refine g_aload_0 E dX12_grammar_354 ?_
      refine g_getR E fl_RX12_41 kR_0 sR_0 rfl dX12_grammar_355 ?_
      refine g_bipush E (by decide) dX12_grammar_358 ?_
      refine g_iload_2 E dX12_grammar_360 ?_
      refine g_iadd E dX12_grammar_361 ?_
      refine g_iald E kR_10 sR_10 (by decide) h.1 dX12_grammar_362 ?_
      replace h := h.2
      refine g_iast E kR_10 sR_10 (by decide) h.1 dX12_grammar_363 (g_nmS (fun σ43 eσ43 => ?_))
      replace h := h.2 σ43 eσ43
      have hσ43 : CanS shR NR σ43 := by rw [eσ43]; exact wR_10 hσ42 (aR_10 hσ42 _)
      refine g_iinc_2 E rfl (by decide) dX12_grammar_364 (fun v44 ev44 => ?_)
      replace h := h v44 ev44
      have cv44 : C32 v44 := by rw [ev44]; exact c32_w _
      refine g_goto E djX12_grammar_367 ?_
      exact (ih v44 σ43 cv44 hσ43 h).weak (w_k (w_d (w_k w_n)))
set_option maxHeartbeats 4000000 in
set_option maxRecDepth 100000 in
theorem t_X12_grammar_l201 (E : Ev p s m args meth c cX12_grammar 3 RX12 A0 D cA ad NR Z) (hr : meth.sig.returnType = (some .int)) : ∀ (n : Nat) (x2 : Int) (σ : St), C32 x2 → CanS shR NR σ → wp_X12_grammar_l201 Q n x2 σ → G p l e (rmL 9 0 0) s m args below meth c 3 A0 D cA ad shR NR 0 0 (MQ below (QIc D cA ad shR NR Q A0) args s 0 0 A0) σ 201 [some (.ref (ad 0)), none, some (vI x2)] [] := by
  intro n
  induction n with
  | zero => intro _ _ _ _ h; exact h.elim
  | succ n ih =>
    intro x2 σ c2 hσ h
    unfold wp_X12_grammar_l201 at h
    refine g_iload_2 E dX12_grammar_201 ?_
    refine g_aload_0 E dX12_grammar_202 ?_
    refine g_getI E fl_RX12_252 kR_0 sR_0 rfl dX12_grammar_203 ?_
    refine g_icmp_ge E c2 (fR_0_1 hσ) djX12_grammar_206 (fun hc => ?_) (fun hc => ?_)
    · replace h := h.1 hc
      refine g_aload_0 E dX12_grammar_290 ?_
      refine g_getR E fl_RX12_29 kR_0 sR_0 rfl dX12_grammar_291 ?_
      refine g_iconst E dX12_grammar_294 ?_
      refine g_aload_0 E dX12_grammar_295 ?_
      refine g_getR E fl_RX12_29 kR_0 sR_0 rfl dX12_grammar_296 ?_
      refine g_iconst E dX12_grammar_299 ?_
      refine g_iald E kR_6 sR_6 (by decide) (by decide) dX12_grammar_300 ?_
      refine g_iast E kR_6 sR_6 (by decide) (by decide) dX12_grammar_301 (g_nmS (fun σ33 eσ33 => ?_))
      replace h := h σ33 eσ33
      have hσ33 : CanS shR NR σ33 := by rw [eσ33]; exact wR_6 hσ (aR_6 hσ _)
      refine g_aload_0 E dX12_grammar_302 ?_
      refine g_getR E fl_RX12_32 kR_0 sR_0 rfl dX12_grammar_303 ?_
      refine g_iconst E dX12_grammar_306 ?_
      refine g_aload_0 E dX12_grammar_307 ?_
      refine g_getR E fl_RX12_32 kR_0 sR_0 rfl dX12_grammar_308 ?_
      refine g_iconst E dX12_grammar_311 ?_
      refine g_iald E kR_7 sR_7 (by decide) (by decide) dX12_grammar_312 ?_
      refine g_iast E kR_7 sR_7 (by decide) (by decide) dX12_grammar_313 (g_nmS (fun σ34 eσ34 => ?_))
      replace h := h σ34 eσ34
      have hσ34 : CanS shR NR σ34 := by rw [eσ34]; exact wR_7 hσ33 (aR_7 hσ33 _)
      refine g_aload_0 E dX12_grammar_314 ?_
      refine g_getR E fl_RX12_35 kR_0 sR_0 rfl dX12_grammar_315 ?_
      refine g_iconst E dX12_grammar_318 ?_
      refine g_aload_0 E dX12_grammar_319 ?_
      refine g_getR E fl_RX12_35 kR_0 sR_0 rfl dX12_grammar_320 ?_
      refine g_iconst E dX12_grammar_323 ?_
      refine g_iald E kR_8 sR_8 (by decide) (by decide) dX12_grammar_324 ?_
      refine g_iast E kR_8 sR_8 (by decide) (by decide) dX12_grammar_325 (g_nmS (fun σ35 eσ35 => ?_))
      replace h := h σ35 eσ35
      have hσ35 : CanS shR NR σ35 := by rw [eσ35]; exact wR_8 hσ34 (aR_8 hσ34 _)
      refine g_iconst E dX12_grammar_326 ?_
      refine g_istore_2 E rfl (by decide) dX12_grammar_327 ?_
      exact (t_X12_grammar_l328 E hr bigN 0 σ35 cl_0 hσ35 h).weak (w_k (w_d (w_k w_n)))
    · replace h := h.2 hc
      refine g_aload_0 E dX12_grammar_209 ?_
      refine g_getR E fl_RX12_13 kR_0 sR_0 rfl dX12_grammar_210 ?_
      refine g_iload_2 E dX12_grammar_213 ?_
      refine g_aload_0 E dX12_grammar_214 ?_
      refine g_getR E fl_RX12_13 kR_0 sR_0 rfl dX12_grammar_215 ?_
      refine g_bipush E (by decide) dX12_grammar_218 ?_
      refine g_iload_2 E dX12_grammar_220 ?_
      refine g_iadd E dX12_grammar_221 ?_
      refine g_iald E kR_1 sR_1 (by decide) h.1 dX12_grammar_222 ?_
      replace h := h.2
      refine g_iast E kR_1 sR_1 (by decide) h.1 dX12_grammar_223 (g_nmS (fun σ36 eσ36 => ?_))
      replace h := h.2 σ36 eσ36
      have hσ36 : CanS shR NR σ36 := by rw [eσ36]; exact wR_1 hσ (aR_1 hσ _)
      refine g_aload_0 E dX12_grammar_224 ?_
      refine g_getR E fl_RX12_17 kR_0 sR_0 rfl dX12_grammar_225 ?_
      refine g_iload_2 E dX12_grammar_228 ?_
      refine g_aload_0 E dX12_grammar_229 ?_
      refine g_getR E fl_RX12_17 kR_0 sR_0 rfl dX12_grammar_230 ?_
      refine g_bipush E (by decide) dX12_grammar_233 ?_
      refine g_iload_2 E dX12_grammar_235 ?_
      refine g_iadd E dX12_grammar_236 ?_
      refine g_iald E kR_2 sR_2 (by decide) h.1 dX12_grammar_237 ?_
      replace h := h.2
      refine g_iast E kR_2 sR_2 (by decide) h.1 dX12_grammar_238 (g_nmS (fun σ37 eσ37 => ?_))
      replace h := h.2 σ37 eσ37
      have hσ37 : CanS shR NR σ37 := by rw [eσ37]; exact wR_2 hσ36 (aR_2 hσ36 _)
      refine g_aload_0 E dX12_grammar_239 ?_
      refine g_getR E fl_RX12_20 kR_0 sR_0 rfl dX12_grammar_240 ?_
      refine g_iload_2 E dX12_grammar_243 ?_
      refine g_aload_0 E dX12_grammar_244 ?_
      refine g_getR E fl_RX12_20 kR_0 sR_0 rfl dX12_grammar_245 ?_
      refine g_bipush E (by decide) dX12_grammar_248 ?_
      refine g_iload_2 E dX12_grammar_250 ?_
      refine g_iadd E dX12_grammar_251 ?_
      refine g_iald E kR_3 sR_3 (by decide) h.1 dX12_grammar_252 ?_
      replace h := h.2
      refine g_iast E kR_3 sR_3 (by decide) h.1 dX12_grammar_253 (g_nmS (fun σ38 eσ38 => ?_))
      replace h := h.2 σ38 eσ38
      have hσ38 : CanS shR NR σ38 := by rw [eσ38]; exact wR_3 hσ37 (aR_3 hσ37 _)
      refine g_aload_0 E dX12_grammar_254 ?_
      refine g_getR E fl_RX12_23 kR_0 sR_0 rfl dX12_grammar_255 ?_
      refine g_iload_2 E dX12_grammar_258 ?_
      refine g_aload_0 E dX12_grammar_259 ?_
      refine g_getR E fl_RX12_23 kR_0 sR_0 rfl dX12_grammar_260 ?_
      refine g_bipush E (by decide) dX12_grammar_263 ?_
      refine g_iload_2 E dX12_grammar_265 ?_
      refine g_iadd E dX12_grammar_266 ?_
      refine g_iald E kR_4 sR_4 (by decide) h.1 dX12_grammar_267 ?_
      replace h := h.2
      refine g_iast E kR_4 sR_4 (by decide) h.1 dX12_grammar_268 (g_nmS (fun σ39 eσ39 => ?_))
      replace h := h.2 σ39 eσ39
      have hσ39 : CanS shR NR σ39 := by rw [eσ39]; exact wR_4 hσ38 (aR_4 hσ38 _)
      refine g_aload_0 E dX12_grammar_269 ?_
      refine g_getR E fl_RX12_26 kR_0 sR_0 rfl dX12_grammar_270 ?_
      refine g_iload_2 E dX12_grammar_273 ?_
      refine g_aload_0 E dX12_grammar_274 ?_
      refine g_getR E fl_RX12_26 kR_0 sR_0 rfl dX12_grammar_275 ?_
      refine g_bipush E (by decide) dX12_grammar_278 ?_
      refine g_iload_2 E dX12_grammar_280 ?_
      refine g_iadd E dX12_grammar_281 ?_
      refine g_iald E kR_5 sR_5 (by decide) h.1 dX12_grammar_282 ?_
      replace h := h.2
      refine g_iast E kR_5 sR_5 (by decide) h.1 dX12_grammar_283 (g_nmS (fun σ40 eσ40 => ?_))
      replace h := h.2 σ40 eσ40
      have hσ40 : CanS shR NR σ40 := by rw [eσ40]; exact wR_5 hσ39 (aR_5 hσ39 _)
      refine g_iinc_2 E rfl (by decide) dX12_grammar_284 (fun v41 ev41 => ?_)
      replace h := h v41 ev41
      have cv41 : C32 v41 := by rw [ev41]; exact c32_w _
      refine g_goto E djX12_grammar_287 ?_
      exact (ih v41 σ40 cv41 hσ40 h).weak (w_k (w_d (w_k w_n)))
set_option maxHeartbeats 4000000 in
set_option maxRecDepth 100000 in
theorem t_X12_grammar_b176 (E : Ev p s m args meth c cX12_grammar 3 RX12 A0 D cA ad NR Z) (hr : meth.sig.returnType = (some .int)) (σ : St) (hσ : CanS shR NR σ) (h : wp_X12_grammar_b176 Q  σ) : G p l e (rmL 9 0 0) s m args below meth c 3 A0 D cA ad shR NR 0 0 (MQ below (QIc D cA ad shR NR Q A0) args s 0 0 A0) σ 176 [some (.ref (ad 0)), none, none] [] := by
  unfold wp_X12_grammar_b176 at h
  refine g_aload_0 E dX12_grammar_176 ?_
  refine g_callvI E my_X12_good mi_X12_good msel_X12_good ml_RX12_192 (rm_ok (by decide) (by decide)) ⟨Nat.zero_le _, Nat.zero_le _⟩ kR_0 sR_0 rfl (m_X12_good E.2.2.1 hσ h) rfl rfl (Nat.le_of_ble_eq_true rfl) dX12_grammar_177 (fun r19 σ20 cr19 hσ20 h => ?_)
  refine g_if_ne E cr19 djX12_grammar_180 (fun hc => ?_) (fun hc => ?_)
  · replace h := h.1 hc
    refine g_aload_0 E dX12_grammar_186 ?_
    refine g_aload_0 E dX12_grammar_187 ?_
    refine g_getI E fl_RX12_230 kR_0 sR_0 rfl dX12_grammar_188 ?_
    refine g_putI E fl_RX12_252 rfl rfl kR_0 sR_0 rfl dX12_grammar_191 (g_nmS (fun σ21 eσ21 => ?_))
    replace h := h σ21 eσ21
    have hσ21 : CanS shR NR σ21 := by rw [eσ21]; exact uR_0_1 hσ20 (fR_0_13 hσ20)
    refine g_aload_0 E dX12_grammar_194 ?_
    refine g_lconst (n := 0) E (by decide) dX12_grammar_195 ?_
    refine g_putL E fl_RX12_255 rfl rfl kR_0 sR_0 rfl dX12_grammar_196 (g_nmS (fun σ22 eσ22 => ?_))
    replace h := h σ22 eσ22
    have hσ22 : CanS shR NR σ22 := by rw [eσ22]; exact uR_0_2 hσ21 cL_0
    refine g_iconst E dX12_grammar_199 ?_
    refine g_istore_2 E rfl (by decide) dX12_grammar_200 ?_
    exact (t_X12_grammar_l201 E hr bigN 0 σ22 cl_0 hσ22 h).weak (w_k (w_d (w_k w_n)))
  · replace h := h.2 hc
    refine g_bipush E (by decide) dX12_grammar_183 ?_
    exact g_iret E hr cl_m4 h hσ20 dX12_grammar_185
set_option maxHeartbeats 4000000 in
set_option maxRecDepth 100000 in
theorem t_X12_grammar_l110 (E : Ev p s m args meth c cX12_grammar 3 RX12 A0 D cA ad NR Z) (hr : meth.sig.returnType = (some .int)) : ∀ (n : Nat) (x1 : Int) (σ : St), C32 x1 → CanS shR NR σ → wp_X12_grammar_l110 Q n x1 σ → G p l e (rmL 9 0 0) s m args below meth c 3 A0 D cA ad shR NR 0 0 (MQ below (QIc D cA ad shR NR Q A0) args s 0 0 A0) σ 110 [some (.ref (ad 0)), some (vI x1), none] [] := by
  intro n
  induction n with
  | zero => intro _ _ _ _ h; exact h.elim
  | succ n ih =>
    intro x1 σ c1 hσ h
    unfold wp_X12_grammar_l110 at h
    refine g_aload_0 E dX12_grammar_110 ?_
    refine g_callvI E my_X12_good mi_X12_good msel_X12_good ml_RX12_192 (rm_ok (by decide) (by decide)) ⟨Nat.zero_le _, Nat.zero_le _⟩ kR_0 sR_0 rfl (m_X12_good E.2.2.1 hσ h) rfl rfl (Nat.le_of_ble_eq_true rfl) dX12_grammar_111 (fun r12 σ13 cr12 hσ13 h => ?_)
    refine g_if_eq E cr12 djX12_grammar_114 (fun hc => ?_) (fun hc => ?_)
    · replace h := h.1 hc
      exact (t_X12_grammar_b176 E hr σ13 hσ13 h).weak (w_k (w_d (w_d w_n)))
    · replace h := h.2 hc
      refine g_aload_0 E dX12_grammar_117 ?_
      refine g_getI E fl_RX12_165 kR_0 sR_0 rfl dX12_grammar_118 ?_
      refine g_if_eq E (fR_0_22 hσ13) djX12_grammar_121 (fun hc => ?_) (fun hc => ?_)
      · replace h := h.1 hc
        exact (t_X12_grammar_b176 E hr σ13 hσ13 h).weak (w_k (w_d (w_d w_n)))
      · replace h := h.2 hc
        refine g_iload_1 E dX12_grammar_124 ?_
        refine g_if_eq E c1 djX12_grammar_125 (fun hc => ?_) (fun hc => ?_)
        · replace h := h.1 hc
          exact (t_X12_grammar_b144 E hr ih σ13 hσ13 h).weak (w_k (w_d (w_d w_n)))
        · replace h := h.2 hc
          refine g_aload_0 E dX12_grammar_128 ?_
          refine g_ldcS E (i := 8) (by decide) ⟨rfl, rfl⟩ dX12_grammar_129 ?_
          refine g_callvI E my_X12_is mi_X12_is msel_X12_is ml_RX12_205 (rm_ok (by decide) (by decide)) ⟨Nat.zero_le _, Nat.zero_le _⟩ kR_0 sR_0 rfl (m_X12_is_s8 E.2.2.1 hσ13 h) rfl rfl (Nat.le_of_ble_eq_true rfl) dX12_grammar_131 (fun r14 σ15 cr14 hσ15 h => ?_)
          refine g_if_eq E cr14 djX12_grammar_134 (fun hc => ?_) (fun hc => ?_)
          · replace h := h.1 hc
            exact (t_X12_grammar_b144 E hr ih σ15 hσ15 h).weak (w_k (w_d (w_d w_n)))
          · replace h := h.2 hc
            refine g_aload_0 E dX12_grammar_137 ?_
            refine g_callvV E my_X12_readTable mi_X12_readTable msel_X12_readTable ml_RX12_244 (rm_ok (by decide) (by decide)) ⟨Nat.zero_le _, Nat.zero_le _⟩ kR_0 sR_0 rfl (m_X12_readTable E.2.2.1 hσ15 h) rfl rfl (Nat.le_of_ble_eq_true rfl) dX12_grammar_138 (fun σ17 r16 hσ17 h => ?_)
            refine g_goto E djX12_grammar_141 ?_
            exact (t_X12_grammar_b165 E hr ih σ17 hσ17 h).weak (w_k (w_d (w_d w_n)))
set_option maxHeartbeats 4000000 in
set_option maxRecDepth 100000 in
theorem t_X12_grammar_l56 (E : Ev p s m args meth c cX12_grammar 3 RX12 A0 D cA ad NR Z) (hr : meth.sig.returnType = (some .int)) : ∀ (n : Nat) (x1 : Int) (σ : St), C32 x1 → CanS shR NR σ → wp_X12_grammar_l56 Q n x1 σ → G p l e (rmL 9 0 0) s m args below meth c 3 A0 D cA ad shR NR 0 0 (MQ below (QIc D cA ad shR NR Q A0) args s 0 0 A0) σ 56 [some (.ref (ad 0)), some (vI x1), none] [] := by
  intro n
  induction n with
  | zero => intro _ _ _ _ h; exact h.elim
  | succ n ih =>
    intro x1 σ c1 hσ h
    unfold wp_X12_grammar_l56 at h
    refine g_iload_1 E dX12_grammar_56 ?_
    refine g_iconst E dX12_grammar_57 ?_
    refine g_icmp_ge E c1 cl_4 djX12_grammar_58 (fun hc => ?_) (fun hc => ?_)
    · replace h := h.1 hc
      refine g_aload_0 E dX12_grammar_104 ?_
      refine g_callvV E my_X12_advance mi_X12_advance msel_X12_advance ml_RX12_213 (rm_ok (by decide) (by decide)) ⟨Nat.zero_le _, Nat.zero_le _⟩ kR_0 sR_0 rfl (m_X12_advance E.2.2.1 hσ h) rfl rfl (Nat.le_of_ble_eq_true rfl) dX12_grammar_105 (fun σ11 r10 hσ11 h => ?_)
      refine g_iconst E dX12_grammar_108 ?_
      refine g_istore_1 E rfl (by decide) dX12_grammar_109 ?_
      exact (t_X12_grammar_l110 E hr bigN 1 σ11 cl_1 hσ11 h).weak (w_k (w_k (w_d w_n)))
    · replace h := h.2 hc
      refine g_aload_0 E dX12_grammar_61 ?_
      refine g_getR E fl_RX12_38 kR_0 sR_0 rfl dX12_grammar_62 ?_
      refine g_bipush E (by decide) dX12_grammar_65 ?_
      refine g_iload_1 E dX12_grammar_67 ?_
      refine g_iadd E dX12_grammar_68 ?_
      refine g_iload_1 E dX12_grammar_69 ?_
      refine g_if_le E c1 djX12_grammar_70 (fun hc => ?_) (fun hc => ?_)
      · replace h := h.1 hc
        refine g_iconst E dX12_grammar_77 ?_
        exact (t_X12_grammar_b78 E hr ih x1 0 (w32 (25 + x1)) σ c1 cl_0 (c32_w _) hσ h).weak (w_k (w_k (w_d w_n)))
      · replace h := h.2 hc
        refine g_iconst E dX12_grammar_73 ?_
        refine g_goto E djX12_grammar_74 ?_
        exact (t_X12_grammar_b78 E hr ih x1 1 (w32 (25 + x1)) σ c1 cl_1 (c32_w _) hσ h).weak (w_k (w_k (w_d w_n)))
set_option maxHeartbeats 4000000 in
set_option maxRecDepth 100000 in
theorem t_X12_grammar (E : Ev p s m args meth c cX12_grammar 3 RX12 A0 D cA ad NR Z) (hr : meth.sig.returnType = (some .int)) (σ : St) (hσ : CanS shR NR σ) (h : wp_X12_grammar  σ Q) : G p l e (rmL 9 0 0) s m args below meth c 3 A0 D cA ad shR NR 0 0 (MQ below (QIc D cA ad shR NR Q A0) args s 0 0 A0) σ 0 [some (.ref (ad 0)), none, none] [] := by
  unfold wp_X12_grammar at h
  refine g_aload_0 E dX12_grammar_0 ?_
  refine g_aload_0 E dX12_grammar_1 ?_
  refine g_getI E fl_RX12_145 kR_0 sR_0 rfl dX12_grammar_2 ?_
  refine g_putI E fl_RX12_152 rfl rfl kR_0 sR_0 rfl dX12_grammar_5 (g_nmS (fun σ1 eσ1 => ?_))
  replace h := h σ1 eσ1
  have hσ1 : CanS shR NR σ1 := by rw [eσ1]; exact uR_0_19 hσ (fR_0_17 hσ)
  refine g_aload_0 E dX12_grammar_8 ?_
  refine g_iconst E dX12_grammar_9 ?_
  refine g_putI E fl_RX12_145 rfl rfl kR_0 sR_0 rfl dX12_grammar_10 (g_nmS (fun σ2 eσ2 => ?_))
  replace h := h σ2 eσ2
  have hσ2 : CanS shR NR σ2 := by rw [eσ2]; exact uR_0_17 hσ1 cl_0
  refine g_aload_0 E dX12_grammar_13 ?_
  refine g_iconst E dX12_grammar_14 ?_
  refine g_putI E fl_RX12_155 rfl rfl kR_0 sR_0 rfl dX12_grammar_15 (g_nmS (fun σ3 eσ3 => ?_))
  replace h := h σ3 eσ3
  have hσ3 : CanS shR NR σ3 := by rw [eσ3]; exact uR_0_20 hσ2 cl_0
  refine g_aload_0 E dX12_grammar_18 ?_
  refine g_iconst E dX12_grammar_19 ?_
  refine g_putI E fl_RX12_189 rfl rfl kR_0 sR_0 rfl dX12_grammar_20 (g_nmS (fun σ4 eσ4 => ?_))
  replace h := h σ4 eσ4
  have hσ4 : CanS shR NR σ4 := by rw [eσ4]; exact uR_0_24 hσ3 cl_0
  refine g_aload_0 E dX12_grammar_23 ?_
  refine g_iconst E dX12_grammar_24 ?_
  refine g_putI E fl_RX12_54 rfl rfl kR_0 sR_0 rfl dX12_grammar_25 (g_nmS (fun σ5 eσ5 => ?_))
  replace h := h σ5 eσ5
  have hσ5 : CanS shR NR σ5 := by rw [eσ5]; exact uR_0_25 hσ4 cl_m1
  refine g_aload_0 E dX12_grammar_28 ?_
  refine g_iconst E dX12_grammar_29 ?_
  refine g_putI E fl_RX12_230 rfl rfl kR_0 sR_0 rfl dX12_grammar_30 (g_nmS (fun σ6 eσ6 => ?_))
  replace h := h σ6 eσ6
  have hσ6 : CanS shR NR σ6 := by rw [eσ6]; exact uR_0_13 hσ5 cl_0
  refine g_aload_0 E dX12_grammar_33 ?_
  refine g_getR E fl_RX12_29 kR_0 sR_0 rfl dX12_grammar_34 ?_
  refine g_iconst E dX12_grammar_37 ?_
  refine g_iconst E dX12_grammar_38 ?_
  refine g_iast E kR_6 sR_6 (by decide) (by decide) dX12_grammar_39 (g_nmS (fun σ7 eσ7 => ?_))
  replace h := h σ7 eσ7
  have hσ7 : CanS shR NR σ7 := by rw [eσ7]; exact wR_6 hσ6 cl_2
  refine g_aload_0 E dX12_grammar_40 ?_
  refine g_getR E fl_RX12_32 kR_0 sR_0 rfl dX12_grammar_41 ?_
  refine g_iconst E dX12_grammar_44 ?_
  refine g_iconst E dX12_grammar_45 ?_
  refine g_iast E kR_7 sR_7 (by decide) (by decide) dX12_grammar_46 (g_nmS (fun σ8 eσ8 => ?_))
  replace h := h σ8 eσ8
  have hσ8 : CanS shR NR σ8 := by rw [eσ8]; exact wR_7 hσ7 cl_0
  refine g_aload_0 E dX12_grammar_47 ?_
  refine g_getR E fl_RX12_35 kR_0 sR_0 rfl dX12_grammar_48 ?_
  refine g_iconst E dX12_grammar_51 ?_
  refine g_iconst E dX12_grammar_52 ?_
  refine g_iast E kR_8 sR_8 (by decide) (by decide) dX12_grammar_53 (g_nmS (fun σ9 eσ9 => ?_))
  replace h := h σ9 eσ9
  have hσ9 : CanS shR NR σ9 := by rw [eσ9]; exact wR_8 hσ8 cl_1
  refine g_iconst E dX12_grammar_54 ?_
  refine g_istore_1 E rfl (by decide) dX12_grammar_55 ?_
  exact (t_X12_grammar_l56 E hr bigN 0 σ9 cl_0 hσ9 h).weak (w_k (w_k (w_d w_n)))
end
theorem m_X12_grammar {Z : (Nat → Nat) × (Nat → Nat)} {l : Launch} {D : va_G} {cA : Nat → ClassId} {ad : Nat → Nat} {σ : St} {Q : Int → St → Prop} (hA : AdOk NR ad) (hσ : CanS shR NR σ) (h : wp_X12_grammar  σ Q) : KtI Z l D cA ad shR NR yX12_grammar cX12_grammar 3 (some .int) 9 [.ref (ad 0)] σ Q :=
  KtI.of my_X12_grammar hA [some (.ref (ad 0)), none, none] (Nat.le_of_ble_eq_true rfl) rfl (fun p e s m args below meth c A0 E hr => t_X12_grammar E hr σ hσ h)
theorem dX12_fault_0 : Dc cX12_fault 0 (.iload_n 1) 1 1 := ⟨by decide +kernel, rfl⟩
theorem djX12_fault_1 : Dj cX12_fault 1 (.ifCond .ne 10) 3 4 10 11 := ⟨by decide +kernel, rfl, by decide⟩
theorem dX12_fault_4 : Dc cX12_fault 4 (.aload_n 0) 1 5 := ⟨by decide +kernel, rfl⟩
theorem dX12_fault_5 : Dc cX12_fault 5 (.getfield 189) 3 8 := ⟨by decide +kernel, rfl⟩
theorem djX12_fault_8 : Dj cX12_fault 8 (.goto 16) 3 11 16 24 := ⟨by decide +kernel, rfl, by decide⟩
theorem dX12_fault_11 : Dc cX12_fault 11 (.iload_n 1) 1 12 := ⟨by decide +kernel, rfl⟩
theorem dX12_fault_12 : Dc cX12_fault 12 (.iconst 1) 1 13 := ⟨by decide +kernel, rfl⟩
theorem djX12_fault_13 : Dj cX12_fault 13 (.if_icmp .ne 10) 3 16 10 23 := ⟨by decide +kernel, rfl, by decide⟩
theorem dX12_fault_16 : Dc cX12_fault 16 (.aload_n 0) 1 17 := ⟨by decide +kernel, rfl⟩
theorem dX12_fault_17 : Dc cX12_fault 17 (.getfield 54) 3 20 := ⟨by decide +kernel, rfl⟩
theorem djX12_fault_20 : Dj cX12_fault 20 (.goto 4) 3 23 4 24 := ⟨by decide +kernel, rfl, by decide⟩
theorem dX12_fault_23 : Dc cX12_fault 23 (.iconst (-1)) 1 24 := ⟨by decide +kernel, rfl⟩
theorem dX12_fault_24 : Dc cX12_fault 24 (.ireturn) 1 25 := ⟨by decide +kernel, rfl⟩
section
variable {p : Program} {l : Launch} {e : Env} {s : State} {m : MethodId} {args : Array Value} {below : List Frame} {meth : Method} {c : Code} {A0 : Nat → Prop} {D : va_G} {cA : Nat → ClassId} {ad : Nat → Nat} {Z : (Nat → Nat) × (Nat → Nat)} {Q : Int → St → Prop}
set_option maxHeartbeats 4000000 in
set_option maxRecDepth 100000 in
theorem t_X12_fault (E : Ev p s m args meth c cX12_fault 2 RX12 A0 D cA ad NR Z) (hr : meth.sig.returnType = (some .int)) (x1 : Int) (σ : St) (c1 : C32 x1) (hσ : CanS shR NR σ) (h : wp_X12_fault x1 σ Q) : G p l e (rmL 1 0 0) s m args below meth c 2 A0 D cA ad shR NR 0 0 (MQ below (QIc D cA ad shR NR Q A0) args s 0 0 A0) σ 0 [some (.ref (ad 0)), some (vI x1)] [] := by
  unfold wp_X12_fault at h
  refine g_iload_1 E dX12_fault_0 ?_
  refine g_if_ne E c1 djX12_fault_1 (fun hc => ?_) (fun hc => ?_)
  · replace h := h.1 hc
    refine g_iload_1 E dX12_fault_11 ?_
    refine g_iconst E dX12_fault_12 ?_
    refine g_icmp_ne E c1 cl_1 djX12_fault_13 (fun hc => ?_) (fun hc => ?_)
    · replace h := h.1 hc
      refine g_iconst E dX12_fault_23 ?_
      exact g_iret E hr cl_m1 h hσ dX12_fault_24
    · replace h := h.2 hc
      refine g_aload_0 E dX12_fault_16 ?_
      refine g_getI E fl_RX12_54 kR_0 sR_0 rfl dX12_fault_17 ?_
      refine g_goto E djX12_fault_20 ?_
      exact g_iret E hr (fR_0_25 hσ) h hσ dX12_fault_24
  · replace h := h.2 hc
    refine g_aload_0 E dX12_fault_4 ?_
    refine g_getI E fl_RX12_189 kR_0 sR_0 rfl dX12_fault_5 ?_
    refine g_goto E djX12_fault_8 ?_
    exact g_iret E hr (fR_0_24 hσ) h hσ dX12_fault_24
end
theorem m_X12_fault {Z : (Nat → Nat) × (Nat → Nat)} {l : Launch} {D : va_G} {cA : Nat → ClassId} {ad : Nat → Nat} {x1 : Int} {σ : St} {Q : Int → St → Prop} (hA : AdOk NR ad) (c1 : C32 x1) (hσ : CanS shR NR σ) (h : wp_X12_fault x1 σ Q) : KtI Z l D cA ad shR NR yX12_fault cX12_fault 2 (some .int) 1 [.ref (ad 0), vI x1] σ Q :=
  KtI.of my_X12_fault hA [some (.ref (ad 0)), some (vI x1)] (Nat.le_of_ble_eq_true rfl) rfl (fun p e s m args below meth c A0 E hr => t_X12_fault E hr x1 σ c1 hσ h)
theorem dX12_say_0 : Dc cX12_say 0 (.aload_n 0) 1 1 := ⟨by decide +kernel, rfl⟩
theorem dX12_say_1 : Dc cX12_say 1 (.getfield 145) 3 4 := ⟨by decide +kernel, rfl⟩
theorem dX12_say_4 : Dc cX12_say 4 (.istore_n 1) 1 5 := ⟨by decide +kernel, rfl⟩
theorem dX12_say_5 : Dc cX12_say 5 (.aload_n 0) 1 6 := ⟨by decide +kernel, rfl⟩
theorem dX12_say_6 : Dc cX12_say 6 (.iconst 0) 1 7 := ⟨by decide +kernel, rfl⟩
theorem dX12_say_7 : Dc cX12_say 7 (.putfield 145) 3 10 := ⟨by decide +kernel, rfl⟩
theorem dX12_say_10 : Dc cX12_say 10 (.iload_n 1) 1 11 := ⟨by decide +kernel, rfl⟩
theorem dX12_say_11 : Dc cX12_say 11 (.bipush 8) 2 13 := ⟨by decide +kernel, rfl⟩
theorem djX12_say_13 : Dj cX12_say 13 (.if_icmp .le 6) 3 16 6 19 := ⟨by decide +kernel, rfl, by decide⟩
theorem dX12_say_16 : Dc cX12_say 16 (.bipush (-4)) 2 18 := ⟨by decide +kernel, rfl⟩
theorem dX12_say_18 : Dc cX12_say 18 (.ireturn) 1 19 := ⟨by decide +kernel, rfl⟩
theorem dX12_say_19 : Dc cX12_say 19 (.iconst 0) 1 20 := ⟨by decide +kernel, rfl⟩
theorem dX12_say_20 : Dc cX12_say 20 (.istore_n 2) 1 21 := ⟨by decide +kernel, rfl⟩
theorem dX12_say_21 : Dc cX12_say 21 (.iload_n 2) 1 22 := ⟨by decide +kernel, rfl⟩
theorem dX12_say_22 : Dc cX12_say 22 (.iload_n 1) 1 23 := ⟨by decide +kernel, rfl⟩
theorem djX12_say_23 : Dj cX12_say 23 (.if_icmp .ge 31) 3 26 31 54 := ⟨by decide +kernel, rfl, by decide⟩
theorem dX12_say_26 : Dc cX12_say 26 (.aload_n 0) 1 27 := ⟨by decide +kernel, rfl⟩
theorem dX12_say_27 : Dc cX12_say 27 (.getfield 47) 3 30 := ⟨by decide +kernel, rfl⟩
theorem dX12_say_30 : Dc cX12_say 30 (.iload_n 2) 1 31 := ⟨by decide +kernel, rfl⟩
theorem dX12_say_31 : Dc cX12_say 31 (.baload) 1 32 := ⟨by decide +kernel, rfl⟩
theorem dX12_say_32 : Dc cX12_say 32 (.i2l) 1 33 := ⟨by decide +kernel, rfl⟩
theorem dX12_say_33 : Dc cX12_say 33 (.ldc2_w 168) 3 36 := ⟨by decide +kernel, rfl⟩
theorem dX12_say_36 : Dc cX12_say 36 (.ldc2_w 170) 3 39 := ⟨by decide +kernel, rfl⟩
theorem dX12_say_39 : Dc cX12_say 39 (.invokestatic 148) 3 42 := ⟨by decide +kernel, rfl⟩
theorem djX12_say_42 : Dj cX12_say 42 (.ifCond .ne 6) 3 45 6 48 := ⟨by decide +kernel, rfl, by decide⟩
theorem dX12_say_45 : Dc cX12_say 45 (.bipush (-4)) 2 47 := ⟨by decide +kernel, rfl⟩
theorem dX12_say_47 : Dc cX12_say 47 (.ireturn) 1 48 := ⟨by decide +kernel, rfl⟩
theorem dX12_say_48 : Dc cX12_say 48 (.iinc 2 1) 3 51 := ⟨by decide +kernel, rfl⟩
theorem djX12_say_51 : Dj cX12_say 51 (.goto (-30)) 3 54 (-30) 21 := ⟨by decide +kernel, rfl, by decide⟩
theorem dX12_say_54 : Dc cX12_say 54 (.aload_n 0) 1 55 := ⟨by decide +kernel, rfl⟩
theorem dX12_say_55 : Dc cX12_say 55 (.iload_n 1) 1 56 := ⟨by decide +kernel, rfl⟩
theorem dX12_say_56 : Dc cX12_say 56 (.putfield 259) 3 59 := ⟨by decide +kernel, rfl⟩
theorem dX12_say_59 : Dc cX12_say 59 (.iconst 0) 1 60 := ⟨by decide +kernel, rfl⟩
theorem dX12_say_60 : Dc cX12_say 60 (.istore_n 2) 1 61 := ⟨by decide +kernel, rfl⟩
theorem dX12_say_61 : Dc cX12_say 61 (.iload_n 2) 1 62 := ⟨by decide +kernel, rfl⟩
theorem dX12_say_62 : Dc cX12_say 62 (.iload_n 1) 1 63 := ⟨by decide +kernel, rfl⟩
theorem djX12_say_63 : Dj cX12_say 63 (.if_icmp .ge 24) 3 66 24 87 := ⟨by decide +kernel, rfl, by decide⟩
theorem dX12_say_66 : Dc cX12_say 66 (.aload_n 0) 1 67 := ⟨by decide +kernel, rfl⟩
theorem dX12_say_67 : Dc cX12_say 67 (.getfield 44) 3 70 := ⟨by decide +kernel, rfl⟩
theorem dX12_say_70 : Dc cX12_say 70 (.iload_n 2) 1 71 := ⟨by decide +kernel, rfl⟩
theorem dX12_say_71 : Dc cX12_say 71 (.aload_n 0) 1 72 := ⟨by decide +kernel, rfl⟩
theorem dX12_say_72 : Dc cX12_say 72 (.getfield 47) 3 75 := ⟨by decide +kernel, rfl⟩
theorem dX12_say_75 : Dc cX12_say 75 (.iload_n 2) 1 76 := ⟨by decide +kernel, rfl⟩
theorem dX12_say_76 : Dc cX12_say 76 (.baload) 1 77 := ⟨by decide +kernel, rfl⟩
theorem dX12_say_77 : Dc cX12_say 77 (.bipush 97) 2 79 := ⟨by decide +kernel, rfl⟩
theorem dX12_say_79 : Dc cX12_say 79 (.isub) 1 80 := ⟨by decide +kernel, rfl⟩
theorem dX12_say_80 : Dc cX12_say 80 (.iastore) 1 81 := ⟨by decide +kernel, rfl⟩
theorem dX12_say_81 : Dc cX12_say 81 (.iinc 2 1) 3 84 := ⟨by decide +kernel, rfl⟩
theorem djX12_say_84 : Dj cX12_say 84 (.goto (-23)) 3 87 (-23) 61 := ⟨by decide +kernel, rfl, by decide⟩
theorem dX12_say_87 : Dc cX12_say 87 (.iload_n 1) 1 88 := ⟨by decide +kernel, rfl⟩
theorem dX12_say_88 : Dc cX12_say 88 (.ireturn) 1 89 := ⟨by decide +kernel, rfl⟩
section
variable {p : Program} {l : Launch} {e : Env} {s : State} {m : MethodId} {args : Array Value} {below : List Frame} {meth : Method} {c : Code} {A0 : Nat → Prop} {D : va_G} {cA : Nat → ClassId} {ad : Nat → Nat} {Z : (Nat → Nat) × (Nat → Nat)} {Q : Int → St → Prop}
set_option maxHeartbeats 4000000 in
set_option maxRecDepth 100000 in
theorem t_X12_say_l61 (E : Ev p s m args meth c cX12_say 3 RX12 A0 D cA ad NR Z) (hr : meth.sig.returnType = (some .int)) : ∀ (n : Nat) (x1 : Int) (x2 : Int) (σ : St), C32 x1 → C32 x2 → CanS shR NR σ → wp_X12_say_l61 Q n x1 x2 σ → G p l e (rmL 2 0 0) s m args below meth c 3 A0 D cA ad shR NR 0 0 (MQ below (QIc D cA ad shR NR Q A0) args s 0 0 A0) σ 61 [some (.ref (ad 0)), some (vI x1), some (vI x2)] [] := by
  intro n
  induction n with
  | zero => intro _ _ _ _ _ _ h; exact h.elim
  | succ n ih =>
    intro x1 x2 σ c1 c2 hσ h
    unfold wp_X12_say_l61 at h
    refine g_iload_2 E dX12_say_61 ?_
    refine g_iload_1 E dX12_say_62 ?_
    refine g_icmp_ge E c2 c1 djX12_say_63 (fun hc => ?_) (fun hc => ?_)
    · replace h := h.1 hc
      refine g_iload_1 E dX12_say_87 ?_
      exact g_iret E hr c1 h hσ dX12_say_88
    · replace h := h.2 hc
      refine g_aload_0 E dX12_say_66 ?_
      refine g_getR E fl_RX12_44 kR_0 sR_0 rfl dX12_say_67 ?_
      refine g_iload_2 E dX12_say_70 ?_
      refine g_aload_0 E dX12_say_71 ?_
      refine g_getR E fl_RX12_47 kR_0 sR_0 rfl dX12_say_72 ?_
      refine g_iload_2 E dX12_say_75 ?_
      refine g_bald E kR_12 sR_12 (by decide) h.1 dX12_say_76 ?_
      replace h := h.2
      refine g_bipush E (by decide) dX12_say_77 ?_
      refine g_isub E dX12_say_79 ?_
      refine g_iast E kR_11 sR_11 (by decide) h.1 dX12_say_80 (g_nmS (fun σ7 eσ7 => ?_))
      replace h := h.2 σ7 eσ7
      have hσ7 : CanS shR NR σ7 := by rw [eσ7]; exact wR_11 hσ (c32_w _)
      refine g_iinc_2 E rfl (by decide) dX12_say_81 (fun v8 ev8 => ?_)
      replace h := h v8 ev8
      have cv8 : C32 v8 := by rw [ev8]; exact c32_w _
      refine g_goto E djX12_say_84 ?_
      exact (ih x1 v8 σ7 c1 cv8 hσ7 h).weak (w_k (w_k (w_k w_n)))
set_option maxHeartbeats 4000000 in
set_option maxRecDepth 100000 in
theorem t_X12_say_l21 (E : Ev p s m args meth c cX12_say 3 RX12 A0 D cA ad NR Z) (hr : meth.sig.returnType = (some .int)) : ∀ (n : Nat) (x1 : Int) (x2 : Int) (σ : St), C32 x1 → C32 x2 → CanS shR NR σ → wp_X12_say_l21 Q n x1 x2 σ → G p l e (rmL 2 0 0) s m args below meth c 3 A0 D cA ad shR NR 0 0 (MQ below (QIc D cA ad shR NR Q A0) args s 0 0 A0) σ 21 [some (.ref (ad 0)), some (vI x1), some (vI x2)] [] := by
  intro n
  induction n with
  | zero => intro _ _ _ _ _ _ h; exact h.elim
  | succ n ih =>
    intro x1 x2 σ c1 c2 hσ h
    unfold wp_X12_say_l21 at h
    refine g_iload_2 E dX12_say_21 ?_
    refine g_iload_1 E dX12_say_22 ?_
    refine g_icmp_ge E c2 c1 djX12_say_23 (fun hc => ?_) (fun hc => ?_)
    · replace h := h.1 hc
      refine g_aload_0 E dX12_say_54 ?_
      refine g_iload_1 E dX12_say_55 ?_
      refine g_putI E fl_RX12_259 rfl rfl kR_0 sR_0 rfl dX12_say_56 (g_nmS (fun σ3 eσ3 => ?_))
      replace h := h σ3 eσ3
      have hσ3 : CanS shR NR σ3 := by rw [eσ3]; exact uR_0_15 hσ c1
      refine g_iconst E dX12_say_59 ?_
      refine g_istore_2 E rfl (by decide) dX12_say_60 ?_
      exact (t_X12_say_l61 E hr bigN x1 0 σ3 c1 cl_0 hσ3 h).weak (w_k (w_k (w_k w_n)))
    · replace h := h.2 hc
      refine g_aload_0 E dX12_say_26 ?_
      refine g_getR E fl_RX12_47 kR_0 sR_0 rfl dX12_say_27 ?_
      refine g_iload_2 E dX12_say_30 ?_
      refine g_bald E kR_12 sR_12 (by decide) h.1 dX12_say_31 ?_
      replace h := h.2
      refine g_i2l E (aR_12 hσ _) dX12_say_32 ?_
      refine g_ldc2 (n := 97) E wc_RX12_168 dX12_say_33 ?_
      refine g_ldc2 (n := 122) E wc_RX12_170 dX12_say_36 ?_
      refine g_callsI E my_X12_in ms_X12_in ml_RX12_148 (rm_ok (by decide) (by decide)) ⟨Nat.zero_le _, Nat.zero_le _⟩ (m_X12_in E.2.2.1 (c32_of_c64 (aR_12 hσ _)) cL_97 cL_122 hσ h) rfl rfl (Nat.le_of_ble_eq_true rfl) dX12_say_39 (fun r4 σ5 cr4 hσ5 h => ?_)
      refine g_if_ne E cr4 djX12_say_42 (fun hc => ?_) (fun hc => ?_)
      · replace h := h.1 hc
        refine g_iinc_2 E rfl (by decide) dX12_say_48 (fun v6 ev6 => ?_)
        replace h := h v6 ev6
        have cv6 : C32 v6 := by rw [ev6]; exact c32_w _
        refine g_goto E djX12_say_51 ?_
        exact (ih x1 v6 σ5 c1 cv6 hσ5 h).weak (w_k (w_k (w_k w_n)))
      · replace h := h.2 hc
        refine g_bipush E (by decide) dX12_say_45 ?_
        exact g_iret E hr cl_m4 h hσ5 dX12_say_47
set_option maxHeartbeats 4000000 in
set_option maxRecDepth 100000 in
theorem t_X12_say (E : Ev p s m args meth c cX12_say 3 RX12 A0 D cA ad NR Z) (hr : meth.sig.returnType = (some .int)) (σ : St) (hσ : CanS shR NR σ) (h : wp_X12_say  σ Q) : G p l e (rmL 2 0 0) s m args below meth c 3 A0 D cA ad shR NR 0 0 (MQ below (QIc D cA ad shR NR Q A0) args s 0 0 A0) σ 0 [some (.ref (ad 0)), none, none] [] := by
  unfold wp_X12_say at h
  refine g_aload_0 E dX12_say_0 ?_
  refine g_getI E fl_RX12_145 kR_0 sR_0 rfl dX12_say_1 ?_
  refine g_nmI (fun v1 ev1 => ?_)
  replace h := h v1 ev1
  have cv1 : C32 v1 := by rw [ev1]; exact (fR_0_17 hσ)
  refine g_istore_1 E rfl (by decide) dX12_say_4 ?_
  refine g_aload_0 E dX12_say_5 ?_
  refine g_iconst E dX12_say_6 ?_
  refine g_putI E fl_RX12_145 rfl rfl kR_0 sR_0 rfl dX12_say_7 (g_nmS (fun σ2 eσ2 => ?_))
  replace h := h σ2 eσ2
  have hσ2 : CanS shR NR σ2 := by rw [eσ2]; exact uR_0_17 hσ cl_0
  refine g_iload_1 E dX12_say_10 ?_
  refine g_bipush E (by decide) dX12_say_11 ?_
  refine g_icmp_le E cv1 cl_8 djX12_say_13 (fun hc => ?_) (fun hc => ?_)
  · replace h := h.1 hc
    refine g_iconst E dX12_say_19 ?_
    refine g_istore_2 E rfl (by decide) dX12_say_20 ?_
    exact (t_X12_say_l21 E hr bigN v1 0 σ2 cv1 cl_0 hσ2 h).weak (w_k (w_k (w_k w_n)))
  · replace h := h.2 hc
    refine g_bipush E (by decide) dX12_say_16 ?_
    exact g_iret E hr cl_m4 h hσ2 dX12_say_18
end
theorem m_X12_say {Z : (Nat → Nat) × (Nat → Nat)} {l : Launch} {D : va_G} {cA : Nat → ClassId} {ad : Nat → Nat} {σ : St} {Q : Int → St → Prop} (hA : AdOk NR ad) (hσ : CanS shR NR σ) (h : wp_X12_say  σ Q) : KtI Z l D cA ad shR NR yX12_say cX12_say 3 (some .int) 2 [.ref (ad 0)] σ Q :=
  KtI.of my_X12_say hA [some (.ref (ad 0)), none, none] (Nat.le_of_ble_eq_true rfl) rfl (fun p e s m args below meth c A0 E hr => t_X12_say E hr σ hσ h)
