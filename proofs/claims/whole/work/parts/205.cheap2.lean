def wpR_cheap (x1 x2 x3 x4 : Int) (σ : St) (Q : Int → St → Prop) : Prop := wp_X11_itemOf x1 x2 x3 σ (fun r1 σ2 => (r1 < 0 ∨ x4 < 0 ∨ ¬ x4 ≤ 300) ∧ Q (-2) σ2)
def wpA_cheap (x1 x2 x3 x4 : Int) (σ : St) (Q : Int → St → Prop) : Prop := wp_X11_itemOf x1 x2 x3 σ (fun r1 σ2 => (¬ r1 < 0 ∧ ¬ x4 < 0 ∧ x4 ≤ 300) ∧ wp0_upTo r1 x4 σ2 (fun r3 σ4 => wp_X11_tellNumber r3 σ4 (fun r5 σ6 => Q r5 σ6)))
section CA
variable {Z : (Nat → Nat) × (Nat → Nat)} {l : Launch} {D : va_G} {cA : Nat → ClassId} {ad : Nat → Nat}
set_option maxHeartbeats 4000000 in
theorem r_cheap {x1 x2 x3 x4 : Int} {σ : St} {Q : Int → St → Prop} (hA : AdOk (NC false) ad) (c1 : C32 x1) (c2 : C32 x2) (c3 : C32 x3) (c4 : C32 x4) (hσ : CanS (shC false) (NC false) σ) (h : wpR_cheap x1 x2 x3 x4 σ Q) : KtL Z l D cA ad (shC false) (NC false) yX11_cheap cX11_cheap 6 (some .long) 7 [.ref (ad 0), vI x1, vI x2, vI x3, vI x4] σ Q := by
  refine KtL.of my_X11_cheap hA [some (.ref (ad 0)), some (vI x1), some (vI x2), some (vI x3), some (vI x4), none] (Nat.le_of_ble_eq_true rfl) rfl (fun p e s m args below meth c A0 E hr => ?_)
  unfold wpR_cheap at h
  refine g_aload_0 E dX11_cheap_0 ?_
  refine g_iload_1 E dX11_cheap_1 ?_
  refine g_iload_2 E dX11_cheap_2 ?_
  refine g_iload_3 E dX11_cheap_3 ?_
  refine g_callvI E my_X11_itemOf mi_X11_itemOf msel_X11_itemOf ml_RX11_223 (rm_ok (by decide) (by decide)) ⟨Nat.zero_le _, Nat.zero_le _⟩ (kC_0 false) (sC_0 false) rfl (m_X11_itemOf E.2.2.1 c1 c2 c3 hσ h) rfl rfl (Nat.le_of_ble_eq_true rfl) dX11_cheap_4 (fun r1 σ2 cr1 hσ2 h => ?_)
  obtain ⟨h1, h⟩ := h
  refine g_istore_5 E rfl (by decide) dX11_cheap_7 ?_
  refine g_iload_5 E dX11_cheap_9 ?_
  refine g_if_lt E cr1 djX11_cheap_11 (fun hc => ?_) (fun hc => ?_)
  · refine g_ldc2 (n := (-2)) E wc_RX11_230 dX11_cheap_27 ?_
    exact g_lret E hr cL_m2 h hσ2 dX11_cheap_30
  · refine g_iload_4 E dX11_cheap_14 ?_
    refine g_if_lt E c4 djX11_cheap_16 (fun hc2 => ?_) (fun hc2 => ?_)
    · refine g_ldc2 (n := (-2)) E wc_RX11_230 dX11_cheap_27 ?_
      exact g_lret E hr cL_m2 h hσ2 dX11_cheap_30
    · refine g_iload_4 E dX11_cheap_19 ?_
      refine g_sipush E (by decide) dX11_cheap_21 ?_
      refine g_icmp_le E c4 cl_300 djX11_cheap_24 (fun hc3 => ?_) (fun hc3 => ?_)
      · exact absurd h1 (by omega)
      · refine g_ldc2 (n := (-2)) E wc_RX11_230 dX11_cheap_27 ?_
        exact g_lret E hr cL_m2 h hσ2 dX11_cheap_30
theorem ad_ok {ad ad' : Nat → Nat} {q : Nat} (hA : AdOk (NC false) ad) (h1 : ∀ i, i < 83 → ad' i = ad i) (h2 : ∀ k, k < 83 → ad k < q) (h3 : q ≤ ad' 83) : AdOk (NC true) ad' := by
  intro i j hi hj hij
  have hi : i < 84 := hi
  have hj : j < 84 := hj
  by_cases g1 : i = 83
  · by_cases g2 : j = 83
    · omega
    · rw [g1, h1 j (by omega)] at hij
      have := h2 j (by omega)
      omega
  · by_cases g2 : j = 83
    · rw [g2, h1 i (by omega)] at hij
      have := h2 i (by omega)
      omega
    · rw [h1 i (by omega), h1 j (by omega)] at hij
      exact hA i j (by show i < 83; omega) (by show j < 83; omega) hij
set_option maxHeartbeats 4000000 in
theorem a_cheap {x1 x2 x3 x4 : Int} {σ : St} {Q : Int → St → Prop} (hA : AdOk (NC false) ad) (c1 : C32 x1) (c2 : C32 x2) (c3 : C32 x3) (c4 : C32 x4) (hσ : CanS (shC false) (NC false) σ) (h : wpA_cheap x1 x2 x3 x4 σ Q) : KtA Z l D cA ad yX11_cheap cX11_cheap 6 7 [.ref (ad 0), vI x1, vI x2, vI x3, vI x4] σ Q (fun _ _ => False) := by
  intro sz
  refine Met.ofWF (cc := cX11_cheap) (maxL := 6) (ret := some .long) my_X11_cheap.2.2.2.2 rfl ?_
  intro p e s m args below meth c s₁ B hml hv
  obtain ⟨rfl, hsz, hP, hK, hZ⟩ := hv
  subst hsz
  have hts := atoms_spec (ws := Cond.code yX11_cheap cX11_cheap 6 (some .long) :: gtbl) B.pre
  have hown : s.vm.findClass RX11 = some m.cls := findClass_of_methodNamed B.named
  have hl0 := lv_entry [.ref (ad 0), vI x1, vI x2, vI x3, vI x4] (n := 6) (Nat.le_of_ble_eq_true rfl)
  rw [lg_entry_eq]
  have E : Ev p s m ([.ref (ad 0), vI x1, vI x2, vI x3, vI x4] : List Value).toArray meth c cX11_cheap 6 RX11 (AA (NC false) ad s.heap.size) D cA ad (NC false) Z := ⟨⟨B.exec, B.bytes, hml, hown, fun w hw => hts w (List.mem_cons_of_mem _ hw)⟩, hK, hA, fun i hi => Or.inl ⟨i, hi, rfl⟩, fun q hq => Or.inr hq, B.notSynchronized, hZ⟩
  have hr := B.returns
  suffices hG : G p l e (rmL 7 1 130032) s m ([.ref (ad 0), vI x1, vI x2, vI x3, vI x4] : List Value).toArray below meth c 6 (AA (NC false) ad s.heap.size) D cA ad (shC false) (NC false) 0 0 (MQ below (va_Ql (postA ad s.heap.size Q (fun _ _ => False)) (bA D cA) (AA (NC false) ad s.heap.size)) ([.ref (ad 0), vI x1, vI x2, vI x3, vI x4] : List Value).toArray s 1 130032 (AA (NC false) ad s.heap.size)) σ 0 [some (.ref (ad 0)), some (vI x1), some (vI x2), some (vI x3), some (vI x4), none] [] from hG s.heap [] _ hP va_S.rf hl0
  unfold wpA_cheap at h
  refine g_aload_0 E dX11_cheap_0 ?_
  refine g_iload_1 E dX11_cheap_1 ?_
  refine g_iload_2 E dX11_cheap_2 ?_
  refine g_iload_3 E dX11_cheap_3 ?_
  refine g_callvI E my_X11_itemOf mi_X11_itemOf msel_X11_itemOf ml_RX11_223 (rm_ok (by decide) (by decide)) ⟨Nat.zero_le _, Nat.zero_le _⟩ (kC_0 false) (sC_0 false) rfl (m_X11_itemOf E.2.2.1 c1 c2 c3 hσ h) rfl rfl (Nat.le_of_ble_eq_true rfl) dX11_cheap_4 (fun r1 σ2 cr1 hσ2 h => ?_)
  obtain ⟨⟨n1, n2, n3⟩, h⟩ := h
  refine g_istore_5 E rfl (by decide) dX11_cheap_7 ?_
  refine g_iload_5 E dX11_cheap_9 ?_
  refine g_if_lt E cr1 djX11_cheap_11 (fun hc => absurd hc n1) (fun hc => ?_)
  refine g_iload_4 E dX11_cheap_14 ?_
  refine g_if_lt E c4 djX11_cheap_16 (fun hc => absurd hc n2) (fun hc => ?_)
  refine g_iload_4 E dX11_cheap_19 ?_
  refine g_sipush E (by decide) dX11_cheap_21 ?_
  refine g_icmp_le E c4 cl_300 djX11_cheap_24 (fun hc3 => ?_) (fun hc3 => absurd n3 hc3)
  refine g_aload_0 E dX11_cheap_31 ?_
  refine g_getR E fl_RX11_95 (kC_0 false) (sC_0 false) rfl dX11_cheap_32 ?_
  refine g_iload_5 E dX11_cheap_35 ?_
  refine g_iload_4 E dX11_cheap_37 ?_
  obtain ⟨⟨hx, hb, hml, hown, hts⟩, hK, hA, hAa, hAq, hlk, hZx⟩ := id E
  intro H locs ls hP hS hL
  have hz : s.heap.size ≤ H.size := hS.1
  have hlts : ∀ k, k < 83 → ad k < H.size := fun k hk => (hP k _ (wl_get (N := NC false) hk)).lt
  refine va_calll (S := UA) (va_runV (As := [vI r1, vI x4]) (rest := []) (n := 2) (C := yX8_upTo.cls) ⟨hx, hb, hml, hown, hts⟩ (a_upTo (Z := Z) (l := l) (Q := _) (Q0 := fun _ _ => False) hA cr1 c4 hσ2 h H.size) ⟨callB_of 2 hts (good_code my_X8_upTo.1) rfl rfl rfl (hts _ my_X8_upTo.2.1) (hts _ ml_RX11_319) ⟨my_X8_upTo.2.2.1.1, my_X8_upTo.2.2.1.2, my_X8_upTo.2.2.2.1⟩ (rm_ok (by decide) (by decide)), hts _ mi_X8_upTo, hts _ msel_X8_upTo⟩ ⟨pre_blind, va_recv hK hP (q := (RX8, TX8, 7)) cls_8.1 (wl_o (kC_76 false) sC_76f), fun U hU hW => ⟨rfl, by rw [hU], by rw [hU]; exact hP, va_K.moved hW.alike hK, by rw [hU]; exact ((hZx.kept hS.2.1).narrow (AA_sub hAa hAq hz)).warm hW⟩⟩ rfl rfl hL.1 rfl (lv_room (Nat.le_of_ble_eq_true rfl)) dX11_cheap_39.1 ⟨Nat.le_of_ble_eq_true rfl, Nat.le_of_ble_eq_true rfl⟩) hS (fun q _ h => AA_sub hAa hAq hz q h) (AA_sub hAa hAq hz) (fun r u t H1 locs1 ht hvm hw hB hz1 hk1 hS1 => ?_)
  obtain ⟨r3, σ4, b1, ad1⟩ := u
  obtain ⟨rfl, cr3, hσ4, hq1, hq0, hadE, had83⟩ := hw
  cases b1 with
  | false => exact (hq0 rfl).elim
  | true =>
    have h := hq1 rfl
    have hP4 : va_P D classes (wl (shC true) (NC true) ad1 cA σ4) H1 := by rw [← ht]; exact hB
    have hAd : AdOk (NC true) ad1 := ad_ok hA hadE hlts (had83 rfl)
    have E1 : Ev p s m ([.ref (ad 0), vI x1, vI x2, vI x3, vI x4] : List Value).toArray meth c cX11_cheap 6 RX11 (AA (NC false) ad s.heap.size) D cA ad1 (NC true) Z := by
      refine ⟨⟨hx, hb, hml, hown, hts⟩, hK, hAd, fun i hi => ?_, hAq, hlk, hZx⟩
      have hi : i < 84 := hi
      by_cases g1 : i = 83
      · rw [g1]; exact Or.inr (Nat.le_trans hz (had83 rfl))
      · rw [show ad1 i = ad i from hadE i (by omega)]; exact hAa i (by show i < 83; omega)
    have key : G p l e (rmL 7 1 130032) s m ([.ref (ad 0), vI x1, vI x2, vI x3, vI x4] : List Value).toArray below meth c 6 (AA (NC false) ad s.heap.size) D cA ad1 (shC true) (NC true) 1 130032 (MQ below (va_Ql (postA ad s.heap.size Q (fun _ _ => False)) (bA D cA) (AA (NC false) ad s.heap.size)) ([.ref (ad 0), vI x1, vI x2, vI x3, vI x4] : List Value).toArray s 1 130032 (AA (NC false) ad s.heap.size)) σ4 42 [some (.ref (ad 0)), some (vI x1), some (vI x2), some (vI x3), some (vI x4), some (vI r1)] [vL r3] := by
      refine g_callsL E1 my_X11_tellNumber ms_X11_tellNumber ml_RX11_236 (rm_ok (by decide) (by decide)) ⟨Nat.le_refl _, Nat.le_refl _⟩ (m_X11_tellNumber (b := true) hAd cr3 hσ4 h) rfl rfl (Nat.le_of_ble_eq_true rfl) dX11_cheap_42 (fun r5 σ6 cr5 hσ6 h => ?_)
      intro H2 locs2 ls2 hP2 hS2 hL2
      exact W.lret (v := Int64.ofInt r5) hx hb hr (fun t ht hW => ⟨⟨_, (r5, σ6, true, ad1), rfl, ⟨rfl, cr5, hσ6, fun _ => h, fun z => (by cases z), hadE, fun _ => Nat.le_trans hz (had83 rfl)⟩, by show va_P _ _ _ t.heap; rw [ht]; exact hP2⟩, hS2.F ht⟩) hS2.2.2 dX11_cheap_45.1 hlk
    exact key H1 locs1 ls hP4 hS1 hL
end CA
