theorem mlL_136 : Cond.methodLink RL 136 yX12_cheap ∈ gtbl := tg (tb_10 (List.mem_of_getElem? (i := 34) rfl)) rfl
theorem mlL_133 : Cond.methodLink RL 133 yX11_cheap ∈ gtbl := tg (tb_6 (List.mem_of_getElem? (i := 166) rfl)) rfl
def B2 (σ : St) : Prop := ∀ k j, -1 ≤ σ k j ∧ σ k j ≤ 2
theorem B2_up {σ : St} {k j : Nat} {v : Int} (h : B2 σ) (hv : -1 ≤ v ∧ v ≤ 2) : B2 (upS σ k j v) := by
  intro a b
  unfold upS
  split
  · exact hv
  · exact h a b
set_option maxRecDepth 100000 in
theorem B2_X4_clear_4 {σ : St} (h : B2 σ) : B2 (st_X4_clear_4 σ) := by
  unfold st_X4_clear_4
  repeat (first | exact h | refine B2_up ?_ (by decide))
set_option maxRecDepth 100000 in
theorem B2_X4_init_4 {σ : St} (h : B2 σ) : B2 (st_X4_init_4 σ) := by
  unfold st_X4_init_4
  repeat (first | exact h | refine B2_up ?_ (by decide) | refine B2_X4_clear_4 ?_ | refine B2_X4_clear_14 ?_ | refine B2_X0_init_24 ?_ | refine B2_X1_init_36 ?_ | refine B2_X2_init_41 ?_ | refine B2_X7_init_45 ?_ | refine B2_X9_init_50 ?_ | refine B2_X3_init_54 ?_ | refine B2_X10_init_68 ?_ | refine B2_X10_init_72 ?_ | refine B2_X8_init_76 ?_ | refine B2_X5_init_80 ?_ | refine B2_X12_init_0 ?_)
set_option maxRecDepth 100000 in
theorem B2_X6_init_3 {σ : St} (h : B2 σ) : B2 (st_X6_init_3 σ) := by
  unfold st_X6_init_3
  repeat (first | exact h | refine B2_up ?_ (by decide) | refine B2_X4_clear_4 ?_ | refine B2_X4_init_4 ?_ | refine B2_X4_clear_14 ?_ | refine B2_X4_init_14 ?_ | refine B2_X0_init_24 ?_ | refine B2_X1_init_36 ?_ | refine B2_X2_init_41 ?_ | refine B2_X7_init_45 ?_ | refine B2_X9_init_50 ?_ | refine B2_X3_init_54 ?_ | refine B2_X10_init_68 ?_ | refine B2_X10_init_72 ?_ | refine B2_X8_init_76 ?_ | refine B2_X5_init_80 ?_ | refine B2_X12_init_0 ?_)
set_option maxRecDepth 100000 in
theorem B2_X4_clear_14 {σ : St} (h : B2 σ) : B2 (st_X4_clear_14 σ) := by
  unfold st_X4_clear_14
  repeat (first | exact h | refine B2_up ?_ (by decide))
set_option maxRecDepth 100000 in
theorem B2_X4_init_14 {σ : St} (h : B2 σ) : B2 (st_X4_init_14 σ) := by
  unfold st_X4_init_14
  repeat (first | exact h | refine B2_up ?_ (by decide) | refine B2_X4_clear_4 ?_ | refine B2_X4_clear_14 ?_ | refine B2_X0_init_24 ?_ | refine B2_X1_init_36 ?_ | refine B2_X2_init_41 ?_ | refine B2_X7_init_45 ?_ | refine B2_X9_init_50 ?_ | refine B2_X3_init_54 ?_ | refine B2_X10_init_68 ?_ | refine B2_X10_init_72 ?_ | refine B2_X8_init_76 ?_ | refine B2_X5_init_80 ?_ | refine B2_X12_init_0 ?_)
set_option maxRecDepth 100000 in
theorem B2_X0_init_24 {σ : St} (h : B2 σ) : B2 (st_X0_init_24 σ) := by
  unfold st_X0_init_24
  repeat (first | exact h | refine B2_up ?_ (by decide))
set_option maxRecDepth 100000 in
theorem B2_X1_init_36 {σ : St} (h : B2 σ) : B2 (st_X1_init_36 σ) := by
  unfold st_X1_init_36
  repeat (first | exact h | refine B2_up ?_ (by decide))
set_option maxRecDepth 100000 in
theorem B2_X2_init_41 {σ : St} (h : B2 σ) : B2 (st_X2_init_41 σ) := by
  unfold st_X2_init_41
  repeat (first | exact h | refine B2_up ?_ (by decide))
set_option maxRecDepth 100000 in
theorem B2_X7_init_45 {σ : St} (h : B2 σ) : B2 (st_X7_init_45 σ) := by
  unfold st_X7_init_45
  repeat (first | exact h | refine B2_up ?_ (by decide))
set_option maxRecDepth 100000 in
theorem B2_X9_init_50 {σ : St} (h : B2 σ) : B2 (st_X9_init_50 σ) := by
  unfold st_X9_init_50
  repeat (first | exact h | refine B2_up ?_ (by decide))
set_option maxRecDepth 100000 in
theorem B2_X3_init_54 {σ : St} (h : B2 σ) : B2 (st_X3_init_54 σ) := by
  unfold st_X3_init_54
  repeat (first | exact h | refine B2_up ?_ (by decide))
set_option maxRecDepth 100000 in
theorem B2_X10_init_68 {σ : St} (h : B2 σ) : B2 (st_X10_init_68 σ) := by
  unfold st_X10_init_68
  repeat (first | exact h | refine B2_up ?_ (by decide))
set_option maxRecDepth 100000 in
theorem B2_X10_init_72 {σ : St} (h : B2 σ) : B2 (st_X10_init_72 σ) := by
  unfold st_X10_init_72
  repeat (first | exact h | refine B2_up ?_ (by decide))
set_option maxRecDepth 100000 in
theorem B2_X8_init_76 {σ : St} (h : B2 σ) : B2 (st_X8_init_76 σ) := by
  unfold st_X8_init_76
  repeat (first | exact h | refine B2_up ?_ (by decide))
set_option maxRecDepth 100000 in
theorem B2_X5_init_80 {σ : St} (h : B2 σ) : B2 (st_X5_init_80 σ) := by
  unfold st_X5_init_80
  repeat (first | exact h | refine B2_up ?_ (by decide))
set_option maxRecDepth 100000 in
theorem B2_X11_init_0 {σ : St} (h : B2 σ) : B2 (st_X11_init_0 σ) := by
  unfold st_X11_init_0
  repeat (first | exact h | refine B2_up ?_ (by decide) | refine B2_X4_clear_4 ?_ | refine B2_X4_init_4 ?_ | refine B2_X6_init_3 ?_ | refine B2_X4_clear_14 ?_ | refine B2_X4_init_14 ?_ | refine B2_X0_init_24 ?_ | refine B2_X1_init_36 ?_ | refine B2_X2_init_41 ?_ | refine B2_X7_init_45 ?_ | refine B2_X9_init_50 ?_ | refine B2_X3_init_54 ?_ | refine B2_X10_init_68 ?_ | refine B2_X10_init_72 ?_ | refine B2_X8_init_76 ?_ | refine B2_X5_init_80 ?_ | refine B2_X12_init_0 ?_)
set_option maxRecDepth 100000 in
theorem B2_X12_init_0 {σ : St} (h : B2 σ) : B2 (st_X12_init_0 σ) := by
  unfold st_X12_init_0
  repeat (first | exact h | refine B2_up ?_ (by decide))
theorem B2.can {σ : St} (h : B2 σ) (sh : Nat → Shp) (N : Nat) : CanS sh N σ := by
  intro k _
  have h1 : ∀ j, C32 (σ k j) := fun j => by have := h k j; unfold C32; omega
  unfold canK
  split
  · exact fun j => c32_of_c64 (h1 j)
  · split
    · exact fun f z => ⟨fun _ => h1 f, fun _ => c32_of_c64 (h1 f)⟩
    · exact h1
def σ00 : St := fun _ _ => 0
def σC0 : St := st_X11_init_0 σ00
def σR0 : St := st_X12_init_0 σ00
theorem B2_00 : B2 σ00 := fun _ _ => by unfold σ00; omega
theorem fvs_5 {ba : Nat} {c : Nat → Int} : ∀ (fs : List (Nat × Nat)) (i : Nat), (∀ f q, fs[f]? = some q → q.1 = 2 → c (i + f) = 1) → fvs5 ba c fs i = fvs (fun k => ba + k) c fs i := by
  intro fs
  induction fs with
  | nil => intro i _; rfl
  | cons a r ih =>
    intro i h
    simp only [fvs5, fvs]
    rw [ih (i + 1) (fun f q hq h2 => by have := h (f + 1) q (by simpa using hq) h2; rw [show i + 1 + f = i + (f + 1) by omega]; exact this)]
    congr 1
    by_cases h2 : a.1 = 2
    · have := h 0 a (by simp) h2
      rw [Nat.add_zero] at this
      simp only [h2, this, and_self, if_true]
    · simp only [h2, false_and, if_false]
theorem wl_5 {sh : Nat → Shp} {N ba : Nat} {cA : Nat → ClassId} {σ : St} (h : ∀ k, k < N → (sh k).1 = 4 → ∀ f, f < (sh k).2.2.length → ((sh k).2.2.getD f (0, 0)).1 = 2 → σ k f = 1) : wl5 sh N ba cA σ = wl sh N (fun k => ba + k) cA σ := by
  unfold wl5 wl
  apply List.map_congr_left
  intro k hk
  have hk := List.mem_range.mp hk
  unfold mkE5 mkE
  by_cases h1 : (sh k).1 = 1
  · simp only [h1, if_true]
  · simp only [h1, if_false]
    by_cases h4 : (sh k).1 = 4
    · simp only [h4, if_true]
      rw [fvs_5 _ 0 (fun f q hq h2 => ?_)]
      have hf := (List.getElem?_eq_some_iff.mp hq).1
      rw [Nat.zero_add]
      refine h k hk h4 f hf ?_
      rw [List.getD_eq_getElem?_getD, hq]
      exact h2
    · simp only [h4, if_false]
theorem flC : ∀ k, k < 83 → (shC false k).1 = 4 → ∀ f, f < (shC false k).2.2.length → ((shC false k).2.2.getD f (0, 0)).1 = 2 → σC0 k f = 1 := by decide +kernel
theorem flR : ∀ k, k < 42 → (shR k).1 = 4 → ∀ f, f < (shR k).2.2.length → ((shR k).2.2.getD f (0, 0)).1 = 2 → σR0 k f = 1 := by decide +kernel
def Step_cheap (Inv : Bool → St → St → Prop) : Prop := ∀ (σ τ : St) (x1 x2 x3 x4 : Int), C32 x1 → C32 x2 → C32 x3 → C32 x4 → (Inv true σ τ → wp_X11_cheap x1 x2 x3 x4 σ (fun r σ1 => wp_X12_cheap x1 x2 x3 x4 τ (fun r1 τ1 => r = r1 ∧ Inv true σ1 τ1))) ∧ (Inv false σ τ → wpR_cheap x1 x2 x3 x4 σ (fun r σ1 => wp_X12_cheap x1 x2 x3 x4 τ (fun r1 τ1 => r = r1 ∧ Inv false σ1 τ1)) ∨ wpA_cheap x1 x2 x3 x4 σ (fun r σ1 => wp_X12_cheap x1 x2 x3 x4 τ (fun r1 τ1 => r = r1 ∧ Inv true σ1 τ1)))
def StepAll (Inv : Bool → St → St → Prop) : Prop := Step_feed Inv ∧ Step_end Inv ∧ Step_grammar Inv ∧ Step_fault Inv ∧ Step_say Inv ∧ Step_count Inv ∧ Step_rule Inv ∧ Step_table Inv ∧ Step_drops Inv ∧ Step_prices Inv ∧ Step_elements Inv ∧ Step_can Inv ∧ Step_least Inv ∧ Step_ways Inv ∧ Step_dearest Inv ∧ Step_used Inv ∧ Step_sum Inv ∧ Step_value Inv ∧ Step_rounds Inv ∧ Step_laws Inv ∧ Step_cases Inv ∧ Step_settled Inv ∧ Step_best Inv ∧ Step_size Inv ∧ Step_step Inv ∧ Step_bounds Inv ∧ Step_tell Inv ∧ Step_octet Inv ∧ Step_cheap Inv ∧ Step_alike Inv ∧ Step_without Inv ∧ Step_heads Inv ∧ Step_mends Inv ∧ Step_mend Inv ∧ Step_rings Inv ∧ Step_alive Inv
def cb (b : Bool) : Nat := if b then 126 else 125
def sb (b : Bool) : Nat := if b then 828058 else 698026
theorem cb_ok (b : Bool) : cb b ≤ room_1.cells ∧ sb b ≤ room_1.slots := by cases b <;> exact ⟨Nat.le_of_ble_eq_true rfl, Nat.le_of_ble_eq_true rfl⟩
section LW
variable {p : Program} {l : Launch} {e : Env} {s : State} {m : MethodId} {args : Array Value} {below : List Frame} {meth : Method} {c : Code} {D : va_G} {cA : Nat → ClassId} {adR : Nat → Nat} {Q : State → Prop} {Z : (Nat → Nat) × (Nat → Nat)} {bq L : Nat} {xs : Nat → Int32} {Inv : Bool → St → St → Prop}
set_option maxHeartbeats 2000000 in
theorem lc_cheap_t (E : EvL p s m args meth c D cA Z bq L xs) {adC : Nat → Nat} (hAp : Ap s adC adR true) (hI : Step_cheap Inv) {σ τ : St} (hσ : CanS (shC true) (NC true) σ) (hτ : CanS shR NR τ) (h0 : Inv true σ τ) {i : Int} (hi : 0 ≤ i ∧ i + 6 ≤ (L : Int)) (kk : ∀ σ1 τ1, CanS (shC true) (NC true) σ1 → CanS shR NR τ1 → Inv true σ1 τ1 → GL p l e s m args below meth c D cA adC adR true (cb true) (sb true) Q σ1 τ1 1464 [some (.ref bq), some (.ref (adC 0)), some (.ref (adR 0)), some (vI i)] []) : GL p l e s m args below meth c D cA adC adR true (cb true) (sb true) Q σ τ 1248 [some (.ref bq), some (.ref (adC 0)), some (.ref (adR 0)), some (vI i)] [] := by
  have h := (hI σ τ (XI xs (i + 1).toNat) (XI xs (i + 2).toNat) (XI xs (i + 3).toNat) (XI xs (i + 4).toNat) (c32_t _) (c32_t _) (c32_t _) (c32_t _)).1 h0
  refine l_aload_1 E dL_1248 ?_
  refine l_arg E hi (by decide) dL_1249 dL_1250 dL_1251 dL_1252 dL_1253 ?_
  refine l_arg E hi (by decide) dL_1254 dL_1255 dL_1256 dL_1257 dL_1258 ?_
  refine l_arg E hi (by decide) dL_1259 dL_1260 dL_1261 dL_1262 dL_1263 ?_
  refine l_arg E hi (by decide) dL_1264 dL_1265 dL_1266 dL_1267 dL_1268 ?_
  refine l_callCL E hAp my_X11_cheap mi_X11_cheap msel_X11_cheap mlL_133 (by decide) (cb_ok true) (kC_0 true) (sC_0 true) rfl (m_X11_cheap hAp.1 (c32_t _) (c32_t _) (c32_t _) (c32_t _) hσ h) rfl rfl (Nat.le_of_ble_eq_true rfl) dL_1269 (fun r1 σ1 cr1 hσ1 h => ?_)
  refine l_aload_2 E dL_1272 ?_
  refine l_arg E hi (by decide) dL_1273 dL_1274 dL_1275 dL_1276 dL_1277 ?_
  refine l_arg E hi (by decide) dL_1278 dL_1279 dL_1280 dL_1281 dL_1282 ?_
  refine l_arg E hi (by decide) dL_1283 dL_1284 dL_1285 dL_1286 dL_1287 ?_
  refine l_arg E hi (by decide) dL_1288 dL_1289 dL_1290 dL_1291 dL_1292 ?_
  refine l_callRL E hAp my_X12_cheap mi_X12_cheap msel_X12_cheap mlL_136 (by decide) (cb_ok true) kR_0 sR_0 rfl (m_X12_cheap hAp.2.1 (c32_t _) (c32_t _) (c32_t _) (c32_t _) hτ h) rfl rfl (Nat.le_of_ble_eq_true rfl) dL_1293 (fun r2 τ1 cr2 hτ1 h => ?_)
  obtain ⟨e1, h1⟩ := h
  exact l_lcmp_eq E cr1 e1 dL_1296 djL_1297 (kk σ1 τ1 hσ1 hτ1 h1)
set_option maxHeartbeats 2000000 in
theorem lc_cheap_f (E : EvL p s m args meth c D cA Z bq L xs) {adC : Nat → Nat} (hAp : Ap s adC adR false) (hI : Step_cheap Inv) {σ τ : St} (hσ : CanS (shC false) (NC false) σ) (hτ : CanS shR NR τ) (h0 : Inv false σ τ) {i : Int} (hi : 0 ≤ i ∧ i + 6 ≤ (L : Int)) (kk : ∀ σ1 τ1, CanS (shC false) (NC false) σ1 → CanS shR NR τ1 → Inv false σ1 τ1 → GL p l e s m args below meth c D cA adC adR false (cb false) (sb false) Q σ1 τ1 1464 [some (.ref bq), some (.ref (adC 0)), some (.ref (adR 0)), some (vI i)] [])
    (kk2 : ∀ σ1 τ1 (ad1 : Nat → Nat), ad1 0 = adC 0 → Ap s ad1 adR true → CanS (shC true) (NC true) σ1 → CanS shR NR τ1 → Inv true σ1 τ1 → GL p l e s m args below meth c D cA ad1 adR true (cb true) (sb true) Q σ1 τ1 1464 [some (.ref bq), some (.ref (ad1 0)), some (.ref (adR 0)), some (vI i)] []) : GL p l e s m args below meth c D cA adC adR false (cb false) (sb false) Q σ τ 1248 [some (.ref bq), some (.ref (adC 0)), some (.ref (adR 0)), some (vI i)] [] := by
  rcases (hI σ τ (XI xs (i + 1).toNat) (XI xs (i + 2).toNat) (XI xs (i + 3).toNat) (XI xs (i + 4).toNat) (c32_t _) (c32_t _) (c32_t _) (c32_t _)).2 h0 with h | h
  · refine l_aload_1 E dL_1248 ?_
    refine l_arg E hi (by decide) dL_1249 dL_1250 dL_1251 dL_1252 dL_1253 ?_
    refine l_arg E hi (by decide) dL_1254 dL_1255 dL_1256 dL_1257 dL_1258 ?_
    refine l_arg E hi (by decide) dL_1259 dL_1260 dL_1261 dL_1262 dL_1263 ?_
    refine l_arg E hi (by decide) dL_1264 dL_1265 dL_1266 dL_1267 dL_1268 ?_
    refine l_callCL E hAp my_X11_cheap mi_X11_cheap msel_X11_cheap mlL_133 (by decide) (cb_ok false) (kC_0 false) (sC_0 false) rfl (r_cheap hAp.1 (c32_t _) (c32_t _) (c32_t _) (c32_t _) hσ h) rfl rfl (Nat.le_of_ble_eq_true rfl) dL_1269 (fun r1 σ1 cr1 hσ1 h => ?_)
    refine l_aload_2 E dL_1272 ?_
    refine l_arg E hi (by decide) dL_1273 dL_1274 dL_1275 dL_1276 dL_1277 ?_
    refine l_arg E hi (by decide) dL_1278 dL_1279 dL_1280 dL_1281 dL_1282 ?_
    refine l_arg E hi (by decide) dL_1283 dL_1284 dL_1285 dL_1286 dL_1287 ?_
    refine l_arg E hi (by decide) dL_1288 dL_1289 dL_1290 dL_1291 dL_1292 ?_
    refine l_callRL E hAp my_X12_cheap mi_X12_cheap msel_X12_cheap mlL_136 (by decide) (cb_ok false) kR_0 sR_0 rfl (m_X12_cheap hAp.2.1 (c32_t _) (c32_t _) (c32_t _) (c32_t _) hτ h) rfl rfl (Nat.le_of_ble_eq_true rfl) dL_1293 (fun r2 τ1 cr2 hτ1 h => ?_)
    obtain ⟨e1, h1⟩ := h
    exact l_lcmp_eq E cr1 e1 dL_1296 djL_1297 (kk σ1 τ1 hσ1 hτ1 h1)
  · refine l_aload_1 E dL_1248 ?_
    refine l_arg E hi (by decide) dL_1249 dL_1250 dL_1251 dL_1252 dL_1253 ?_
    refine l_arg E hi (by decide) dL_1254 dL_1255 dL_1256 dL_1257 dL_1258 ?_
    refine l_arg E hi (by decide) dL_1259 dL_1260 dL_1261 dL_1262 dL_1263 ?_
    refine l_arg E hi (by decide) dL_1264 dL_1265 dL_1266 dL_1267 dL_1268 ?_
    obtain ⟨⟨hx, hb, hml, hown, hts⟩, hK, hZx, hX, hbl, hL3⟩ := id E
    obtain ⟨a1, a2, a3, a4, a5⟩ := id hAp
    intro H locs ls hP hT hS hL
    have hz : s.heap.size ≤ H.size := hS.1
    have hsub : ∀ q, AA (NC false) adC H.size q → AL s q := AA_sub a3 (fun q h => h) hz
    have hlts : ∀ k, k < 83 → adC k < H.size := fun k hk => (hP k _ (wl_get (N := NC false) hk)).lt
    refine va_calll (S := UA) (va_runV (As := [vI (XI xs (i + 1).toNat), vI (XI xs (i + 2).toNat), vI (XI xs (i + 3).toNat), vI (XI xs (i + 4).toNat)]) (rest := []) (n := 4) (C := yX11_cheap.cls) ⟨hx, hb, hml, hown, hts⟩ (a_cheap (Z := Z) (l := l) a1 (c32_t _) (c32_t _) (c32_t _) (c32_t _) hσ h H.size) ⟨callB_of 4 hts (good_code my_X11_cheap.1) rfl rfl rfl (hts _ my_X11_cheap.2.1) (hts _ mlL_133) ⟨my_X11_cheap.2.2.1.1, my_X11_cheap.2.2.1.2, my_X11_cheap.2.2.2.1⟩ (by decide), hts _ mi_X11_cheap, hts _ msel_X11_cheap⟩ ⟨pre_blind, va_recv hK hP (q := (RX11, TX11, 16)) cls_11.1 (wl_o (kC_0 false) (sC_0 false)), fun U hU hW => ⟨rfl, by rw [hU], by rw [hU]; exact hP, va_K.moved hW.alike hK, by rw [hU]; exact ((hZx.kept hS.2.1).narrow hsub).warm hW⟩⟩ rfl rfl hL.1 rfl (lv_room (Nat.le_of_ble_eq_true rfl)) dL_1269.1 ⟨Nat.le_of_ble_eq_true rfl, Nat.le_of_ble_eq_true rfl⟩) hS (fun q _ h => hsub q h) hsub (fun r u t H1 locs1 ht hvm hw hB hz1 hk1 hS1 => ?_)
    obtain ⟨r1, σ1, b1, ad1⟩ := u
    obtain ⟨rfl, cr1, hσ1, hq1, hq0, hadE, had83⟩ := hw
    cases b1 with
    | false => exact (hq0 rfl).elim
    | true =>
      have h := hq1 rfl
      have hadE : ∀ i, i < 83 → ad1 i = adC i := hadE
      have had83 : H.size ≤ ad1 83 := had83 rfl
      have hP1 : va_P D classes (wl (shC true) (NC true) ad1 cA σ1) H1 := by rw [← ht]; exact hB
      have hT1 : va_P D classes (wl shR NR adR cA τ) H1 := hT.kept (fun k q hq => by
        obtain ⟨l1, rfl⟩ := wl_lt hq
        have hlt := (hT k _ hq).lt
        refine hk1 _ hlt (fun z => ?_)
        rcases z with ⟨i, hi, e⟩ | z
        · exact a5 i k hi l1 e.symm
        · exact absurd hlt (Nat.not_lt.mpr z))
      have hAp1 : Ap s ad1 adR true := by
        refine ⟨ad_ok a1 hadE hlts had83, a2, fun i hi => ?_, a4, fun i j hi hj => ?_⟩
        · have hi : i < 84 := hi
          by_cases g1 : i = 83
          · rw [g1]; exact Nat.le_trans hz had83
          · rw [hadE i (by omega)]; exact a3 i (by show i < 83; omega)
        · have hi : i < 84 := hi
          by_cases g1 : i = 83
          · rw [g1]
            have := (hT j _ (wl_get hj)).lt
            have h3 : adR j < H.size := this
            omega
          · rw [hadE i (by omega)]; exact a5 i j (by show i < 83; omega) hj
      have key : GL p l e s m args below meth c D cA ad1 adR true (cb true) (sb true) Q σ1 τ 1272 [some (.ref bq), some (.ref (ad1 0)), some (.ref (adR 0)), some (vI i)] [vL r1] := by
        refine l_aload_2 E dL_1272 ?_
        refine l_arg E hi (by decide) dL_1273 dL_1274 dL_1275 dL_1276 dL_1277 ?_
        refine l_arg E hi (by decide) dL_1278 dL_1279 dL_1280 dL_1281 dL_1282 ?_
        refine l_arg E hi (by decide) dL_1283 dL_1284 dL_1285 dL_1286 dL_1287 ?_
        refine l_arg E hi (by decide) dL_1288 dL_1289 dL_1290 dL_1291 dL_1292 ?_
        refine l_callRL E hAp1 my_X12_cheap mi_X12_cheap msel_X12_cheap mlL_136 (by decide) (cb_ok true) kR_0 sR_0 rfl (m_X12_cheap hAp1.2.1 (c32_t _) (c32_t _) (c32_t _) (c32_t _) hτ h) rfl rfl (Nat.le_of_ble_eq_true rfl) dL_1293 (fun r2 τ1 cr2 hτ1 h => ?_)
        obtain ⟨e1, h1⟩ := h
        exact l_lcmp_eq E cr1 e1 dL_1296 djL_1297 (kk2 σ1 τ1 ad1 (hadE 0 (by decide)) hAp1 hσ1 hτ1 h1)
      rw [hadE 0 (by decide)] at key
      exact key H1 locs1 ls hP1 hT1 hS1 hL
theorem law_exit (E : EvL p s m args meth c D cA Z bq L xs) (hr : meth.sig.returnType = ret) (hlk : meth.locks = false) {b : Bool} {adC : Nat → Nat} (ha : args = #[Value.ref bq]) {σ τ : St} {ol : List (Option Value)} : GL p l e s m args below meth c D cA adC adR b (cb b) (sb b) (lw_Z below #[Value.ref bq] s) σ τ 1470 ol [] := by
  subst ha
  obtain ⟨⟨hx, hb, hml, hown, hts⟩, hK, hZx, hX, hbl, hL3⟩ := id E
  intro H locs ls hP hT hS hL
  refine lv_iconst (v := 1) hx hb dL_1470.1 rfl ?_
  refine va_forget hS.2.2 ?_
  refine W.widen (k := 600000) (n := 7302250) (by cases b <;> exact Nat.le_of_ble_eq_true rfl) (by cases b <;> exact Nat.le_of_ble_eq_true rfl) ?_
  exact lw_ret hx hb hr hlk dL_1471.1
set_option maxHeartbeats 4000000 in
theorem law_loop (E : EvL p s m args meth c D cA Z bq L xs) (hr : meth.sig.returnType = ret) (hlk : meth.locks = false) (ha : args = #[Value.ref bq]) (hSt : StepAll Inv) : ∀ (n : Nat) (b : Bool) (adC : Nat → Nat) (σ τ : St) (i : Int), 0 ≤ i → i ≤ (L : Int) + 6 → (L : Int) - i < n → Ap s adC adR b → CanS (shC b) (NC b) σ → CanS shR NR τ → Inv b σ τ → GL p l e s m args below meth c D cA adC adR b (cb b) (sb b) (lw_Z below #[Value.ref bq] s) σ τ 18 [some (.ref bq), some (.ref (adC 0)), some (.ref (adR 0)), some (vI i)] [] := by
  intro n
  have hL3 := E.2.2.2.2.2
  have hend : ∀ (b : Bool) (adC : Nat → Nat) (σ τ : St) (i : Int), i > w32 ((L : Int) - 6) → C32 i → GL p l e s m args below meth c D cA adC adR b (cb b) (sb b) (lw_Z below #[Value.ref bq] s) σ τ 18 [some (.ref bq), some (.ref (adC 0)), some (.ref (adR 0)), some (vI i)] [] := by
    intro b adC σ τ i hc ci
    refine l_iload_3 E dL_18 ?_
    refine l_aload_0 E dL_19 ?_
    refine l_slen E dL_20 ?_
    refine l_bipush E (by decide) dL_21 ?_
    refine l_isub E dL_23 ?_
    refine l_icmp_gt E ci (c32_w _) djL_24 (fun _ => law_exit E hr hlk ha) (fun hn => absurd hc hn)
  have eL : w32 ((L : Int) - 6) = (L : Int) - 6 := w32_id (by unfold C32; omega)
  induction n with
  | zero =>
    intro b adC σ τ i h0 h0' hn hAp hσ hτ hI
    by_cases hbig : C32 i
    · exact hend b adC σ τ i (by rw [eL]; omega) hbig
    · exfalso
      exact hbig (by unfold C32; omega)
  | succ n ih =>
    intro b adC σ τ i h0 h0' hn hAp hσ hτ hI
    by_cases hbig : C32 i
    · by_cases hc : i > w32 ((L : Int) - 6)
      · exact hend b adC σ τ i hc hbig
      · rw [eL] at hc
        have hi : 0 ≤ i ∧ i + 6 ≤ (L : Int) := by omega
        have kk : ∀ (b1 : Bool) (ad1 : Nat → Nat) (σ1 τ1 : St), Ap s ad1 adR b1 → CanS (shC b1) (NC b1) σ1 → CanS shR NR τ1 → Inv b1 σ1 τ1 → GL p l e s m args below meth c D cA ad1 adR b1 (cb b1) (sb b1) (lw_Z below #[Value.ref bq] s) σ1 τ1 1464 [some (.ref bq), some (.ref (ad1 0)), some (.ref (adR 0)), some (vI i)] [] := by
          intro b1 ad1 σ1 τ1 hAp1 hσ1 hτ1 hI1
          refine l_iinc_3 E rfl dL_1464 (fun v ev => ?_)
          have ev : v = i + 6 := ev.trans (w32_id (by unfold C32; omega))
          refine l_goto E djL_1467 ?_
          exact ih b1 ad1 σ1 τ1 v (by omega) (by omega) (by omega) hAp1 hσ1 hτ1 hI1
        refine l_iload_3 E dL_18 ?_
        refine l_aload_0 E dL_19 ?_
        refine l_slen E dL_20 ?_
        refine l_bipush E (by decide) dL_21 ?_
        refine l_isub E dL_23 ?_
        refine l_icmp_gt E hbig (c32_w _) djL_24 (fun hg => absurd hg (by rw [eL]; omega)) (fun _ => ?_)
        refine l_aload_0 E dL_27 ?_
        refine l_iload_3 E dL_28 ?_
        refine l_sld E (by omega) dL_29 ?_
        refine l_bipush E (by decide) dL_30 ?_
        refine l_iand E dL_32 ?_
        have cz : C32 (b_and (XI xs i.toNat) 63) := c32_t _
        generalize b_and (XI xs i.toNat) 63 = z at cz ⊢
        by_cases h0 : z = 0
        · refine l_tableIn (v := 0) (i := 0) E cz h0 (by decide) (by decide) dL_33 rfl (tgt := 192) (by decide) ?_
          exact lc_feed E hAp (cb_ok b) hSt.1 hσ hτ hI hi (fun σ1 τ1 g1 g2 g3 => kk b adC σ1 τ1 hAp g1 g2 g3)
        by_cases h1 : z = 1
        · refine l_tableIn (v := 1) (i := 1) E cz h1 (by decide) (by decide) dL_33 rfl (tgt := 255) (by decide) ?_
          exact lc_end E hAp (cb_ok b) hSt.2.1 hσ hτ hI hi (fun σ1 τ1 g1 g2 g3 => kk b adC σ1 τ1 hAp g1 g2 g3)
        by_cases h2 : z = 2
        · refine l_tableIn (v := 2) (i := 2) E cz h2 (by decide) (by decide) dL_33 rfl (tgt := 278) (by decide) ?_
          exact lc_grammar E hAp (cb_ok b) hSt.2.2.1 hσ hτ hI hi (fun σ1 τ1 g1 g2 g3 => kk b adC σ1 τ1 hAp g1 g2 g3)
        by_cases h3 : z = 3
        · refine l_tableIn (v := 3) (i := 3) E cz h3 (by decide) (by decide) dL_33 rfl (tgt := 291) (by decide) ?_
          exact lc_fault E hAp (cb_ok b) hSt.2.2.2.1 hσ hτ hI hi (fun σ1 τ1 g1 g2 g3 => kk b adC σ1 τ1 hAp g1 g2 g3)
        by_cases h4 : z = 4
        · refine l_tableIn (v := 4) (i := 4) E cz h4 (by decide) (by decide) dL_33 rfl (tgt := 314) (by decide) ?_
          exact lc_say E hAp (cb_ok b) hSt.2.2.2.2.1 hσ hτ hI hi (fun σ1 τ1 g1 g2 g3 => kk b adC σ1 τ1 hAp g1 g2 g3)
        by_cases h5 : z = 5
        · refine l_tableIn (v := 5) (i := 5) E cz h5 (by decide) (by decide) dL_33 rfl (tgt := 327) (by decide) ?_
          exact lc_count E hAp (cb_ok b) hSt.2.2.2.2.2.1 hσ hτ hI hi (fun σ1 τ1 g1 g2 g3 => kk b adC σ1 τ1 hAp g1 g2 g3)
        by_cases h6 : z = 6
        · refine l_tableIn (v := 6) (i := 6) E cz h6 (by decide) (by decide) dL_33 rfl (tgt := 350) (by decide) ?_
          exact lc_rule E hAp (cb_ok b) hSt.2.2.2.2.2.2.1 hσ hτ hI hi (fun σ1 τ1 g1 g2 g3 => kk b adC σ1 τ1 hAp g1 g2 g3)
        by_cases h7 : z = 7
        · refine l_tableIn (v := 7) (i := 7) E cz h7 (by decide) (by decide) dL_33 rfl (tgt := 383) (by decide) ?_
          exact lc_table E hAp (cb_ok b) hSt.2.2.2.2.2.2.2.1 hσ hτ hI hi (fun σ1 τ1 g1 g2 g3 => kk b adC σ1 τ1 hAp g1 g2 g3)
        by_cases h8 : z = 8
        · refine l_tableIn (v := 8) (i := 8) E cz h8 (by decide) (by decide) dL_33 rfl (tgt := 426) (by decide) ?_
          exact lc_drops E hAp (cb_ok b) hSt.2.2.2.2.2.2.2.2.1 hσ hτ hI hi (fun σ1 τ1 g1 g2 g3 => kk b adC σ1 τ1 hAp g1 g2 g3)
        by_cases h9 : z = 9
        · refine l_tableIn (v := 9) (i := 9) E cz h9 (by decide) (by decide) dL_33 rfl (tgt := 459) (by decide) ?_
          exact lc_prices E hAp (cb_ok b) hSt.2.2.2.2.2.2.2.2.2.1 hσ hτ hI hi (fun σ1 τ1 g1 g2 g3 => kk b adC σ1 τ1 hAp g1 g2 g3)
        by_cases h10 : z = 10
        · refine l_tableIn (v := 10) (i := 10) E cz h10 (by decide) (by decide) dL_33 rfl (tgt := 492) (by decide) ?_
          exact lc_elements E hAp (cb_ok b) hSt.2.2.2.2.2.2.2.2.2.2.1 hσ hτ hI hi (fun σ1 τ1 g1 g2 g3 => kk b adC σ1 τ1 hAp g1 g2 g3)
        by_cases h11 : z = 11
        · refine l_tableIn (v := 11) (i := 11) E cz h11 (by decide) (by decide) dL_33 rfl (tgt := 525) (by decide) ?_
          exact lc_can E hAp (cb_ok b) hSt.2.2.2.2.2.2.2.2.2.2.2.1 hσ hτ hI hi (fun σ1 τ1 g1 g2 g3 => kk b adC σ1 τ1 hAp g1 g2 g3)
        by_cases h12 : z = 12
        · refine l_tableIn (v := 12) (i := 12) E cz h12 (by decide) (by decide) dL_33 rfl (tgt := 568) (by decide) ?_
          exact lc_least E hAp (cb_ok b) hSt.2.2.2.2.2.2.2.2.2.2.2.2.1 hσ hτ hI hi (fun σ1 τ1 g1 g2 g3 => kk b adC σ1 τ1 hAp g1 g2 g3)
        by_cases h13 : z = 13
        · refine l_tableIn (v := 13) (i := 13) E cz h13 (by decide) (by decide) dL_33 rfl (tgt := 611) (by decide) ?_
          exact lc_ways E hAp (cb_ok b) hSt.2.2.2.2.2.2.2.2.2.2.2.2.2.1 hσ hτ hI hi (fun σ1 τ1 g1 g2 g3 => kk b adC σ1 τ1 hAp g1 g2 g3)
        by_cases h14 : z = 14
        · refine l_tableIn (v := 14) (i := 14) E cz h14 (by decide) (by decide) dL_33 rfl (tgt := 655) (by decide) ?_
          exact lc_dearest E hAp (cb_ok b) hSt.2.2.2.2.2.2.2.2.2.2.2.2.2.2.1 hσ hτ hI hi (fun σ1 τ1 g1 g2 g3 => kk b adC σ1 τ1 hAp g1 g2 g3)
        by_cases h15 : z = 15
        · refine l_tableIn (v := 15) (i := 15) E cz h15 (by decide) (by decide) dL_33 rfl (tgt := 698) (by decide) ?_
          exact lc_used E hAp (cb_ok b) hSt.2.2.2.2.2.2.2.2.2.2.2.2.2.2.2.1 hσ hτ hI hi (fun σ1 τ1 g1 g2 g3 => kk b adC σ1 τ1 hAp g1 g2 g3)
        by_cases h16 : z = 16
        · refine l_tableIn (v := 16) (i := 16) E cz h16 (by decide) (by decide) dL_33 rfl (tgt := 752) (by decide) ?_
          exact lc_sum E hAp (cb_ok b) hSt.2.2.2.2.2.2.2.2.2.2.2.2.2.2.2.2.1 hσ hτ hI hi (fun σ1 τ1 g1 g2 g3 => kk b adC σ1 τ1 hAp g1 g2 g3)
        by_cases h17 : z = 17
        · refine l_tableIn (v := 17) (i := 17) E cz h17 (by decide) (by decide) dL_33 rfl (tgt := 795) (by decide) ?_
          exact lc_value E hAp (cb_ok b) hSt.2.2.2.2.2.2.2.2.2.2.2.2.2.2.2.2.2.1 hσ hτ hI hi (fun σ1 τ1 g1 g2 g3 => kk b adC σ1 τ1 hAp g1 g2 g3)
        by_cases h18 : z = 18
        · refine l_tableIn (v := 18) (i := 18) E cz h18 (by decide) (by decide) dL_33 rfl (tgt := 838) (by decide) ?_
          exact lc_rounds E hAp (cb_ok b) hSt.2.2.2.2.2.2.2.2.2.2.2.2.2.2.2.2.2.2.1 hσ hτ hI hi (fun σ1 τ1 g1 g2 g3 => kk b adC σ1 τ1 hAp g1 g2 g3)
        by_cases h19 : z = 19
        · refine l_tableIn (v := 19) (i := 19) E cz h19 (by decide) (by decide) dL_33 rfl (tgt := 851) (by decide) ?_
          exact lc_laws E hAp (cb_ok b) hSt.2.2.2.2.2.2.2.2.2.2.2.2.2.2.2.2.2.2.2.1 hσ hτ hI hi (fun σ1 τ1 g1 g2 g3 => kk b adC σ1 τ1 hAp g1 g2 g3)
        by_cases h20 : z = 20
        · refine l_tableIn (v := 20) (i := 20) E cz h20 (by decide) (by decide) dL_33 rfl (tgt := 864) (by decide) ?_
          exact lc_cases E hAp (cb_ok b) hSt.2.2.2.2.2.2.2.2.2.2.2.2.2.2.2.2.2.2.2.2.1 hσ hτ hI hi (fun σ1 τ1 g1 g2 g3 => kk b adC σ1 τ1 hAp g1 g2 g3)
        by_cases h21 : z = 21
        · refine l_tableIn (v := 21) (i := 21) E cz h21 (by decide) (by decide) dL_33 rfl (tgt := 917) (by decide) ?_
          exact lc_settled E hAp (cb_ok b) hSt.2.2.2.2.2.2.2.2.2.2.2.2.2.2.2.2.2.2.2.2.2.1 hσ hτ hI hi (fun σ1 τ1 g1 g2 g3 => kk b adC σ1 τ1 hAp g1 g2 g3)
        by_cases h22 : z = 22
        · refine l_tableIn (v := 22) (i := 22) E cz h22 (by decide) (by decide) dL_33 rfl (tgt := 950) (by decide) ?_
          exact lc_best E hAp (cb_ok b) hSt.2.2.2.2.2.2.2.2.2.2.2.2.2.2.2.2.2.2.2.2.2.2.1 hσ hτ hI hi (fun σ1 τ1 g1 g2 g3 => kk b adC σ1 τ1 hAp g1 g2 g3)
        by_cases h23 : z = 23
        · refine l_tableIn (v := 23) (i := 23) E cz h23 (by decide) (by decide) dL_33 rfl (tgt := 1003) (by decide) ?_
          exact lc_size E hAp (cb_ok b) hSt.2.2.2.2.2.2.2.2.2.2.2.2.2.2.2.2.2.2.2.2.2.2.2.1 hσ hτ hI hi (fun σ1 τ1 g1 g2 g3 => kk b adC σ1 τ1 hAp g1 g2 g3)
        by_cases h24 : z = 24
        · refine l_tableIn (v := 24) (i := 24) E cz h24 (by decide) (by decide) dL_33 rfl (tgt := 1066) (by decide) ?_
          exact lc_step E hAp (cb_ok b) hSt.2.2.2.2.2.2.2.2.2.2.2.2.2.2.2.2.2.2.2.2.2.2.2.2.1 hσ hτ hI hi (fun σ1 τ1 g1 g2 g3 => kk b adC σ1 τ1 hAp g1 g2 g3)
        by_cases h25 : z = 25
        · refine l_tableIn (v := 25) (i := 25) E cz h25 (by decide) (by decide) dL_33 rfl (tgt := 1129) (by decide) ?_
          exact lc_bounds E hAp (cb_ok b) hSt.2.2.2.2.2.2.2.2.2.2.2.2.2.2.2.2.2.2.2.2.2.2.2.2.2.1 hσ hτ hI hi (fun σ1 τ1 g1 g2 g3 => kk b adC σ1 τ1 hAp g1 g2 g3)
        by_cases h26 : z = 26
        · refine l_tableIn (v := 26) (i := 26) E cz h26 (by decide) (by decide) dL_33 rfl (tgt := 1172) (by decide) ?_
          exact lc_tell E hAp (cb_ok b) hSt.2.2.2.2.2.2.2.2.2.2.2.2.2.2.2.2.2.2.2.2.2.2.2.2.2.2.1 hσ hτ hI hi (fun σ1 τ1 g1 g2 g3 => kk b adC σ1 τ1 hAp g1 g2 g3)
        by_cases h27 : z = 27
        · refine l_tableIn (v := 27) (i := 27) E cz h27 (by decide) (by decide) dL_33 rfl (tgt := 1225) (by decide) ?_
          exact lc_octet E hAp (cb_ok b) hSt.2.2.2.2.2.2.2.2.2.2.2.2.2.2.2.2.2.2.2.2.2.2.2.2.2.2.2.1 hσ hτ hI hi (fun σ1 τ1 g1 g2 g3 => kk b adC σ1 τ1 hAp g1 g2 g3)
        by_cases h28 : z = 28
        · refine l_tableIn (v := 28) (i := 28) E cz h28 (by decide) (by decide) dL_33 rfl (tgt := 1248) (by decide) ?_
          cases b with
          | true => exact lc_cheap_t E hAp hSt.2.2.2.2.2.2.2.2.2.2.2.2.2.2.2.2.2.2.2.2.2.2.2.2.2.2.2.2.1 hσ hτ hI hi (fun σ1 τ1 g1 g2 g3 => kk true adC σ1 τ1 hAp g1 g2 g3)
          | false => exact lc_cheap_f E hAp hSt.2.2.2.2.2.2.2.2.2.2.2.2.2.2.2.2.2.2.2.2.2.2.2.2.2.2.2.2.1 hσ hτ hI hi (fun σ1 τ1 g1 g2 g3 => kk false adC σ1 τ1 hAp g1 g2 g3) (fun σ1 τ1 ad1 _ g0 g1 g2 g3 => kk true ad1 σ1 τ1 g0 g1 g2 g3)
        by_cases h29 : z = 29
        · refine l_tableIn (v := 29) (i := 29) E cz h29 (by decide) (by decide) dL_33 rfl (tgt := 1302) (by decide) ?_
          exact lc_alike E hAp (cb_ok b) hSt.2.2.2.2.2.2.2.2.2.2.2.2.2.2.2.2.2.2.2.2.2.2.2.2.2.2.2.2.2.1 hσ hτ hI hi (fun σ1 τ1 g1 g2 g3 => kk b adC σ1 τ1 hAp g1 g2 g3)
        by_cases h30 : z = 30
        · refine l_tableIn (v := 30) (i := 30) E cz h30 (by decide) (by decide) dL_33 rfl (tgt := 1365) (by decide) ?_
          exact lc_without E hAp (cb_ok b) hSt.2.2.2.2.2.2.2.2.2.2.2.2.2.2.2.2.2.2.2.2.2.2.2.2.2.2.2.2.2.2.1 hσ hτ hI hi (fun σ1 τ1 g1 g2 g3 => kk b adC σ1 τ1 hAp g1 g2 g3)
        by_cases h31 : z = 31
        · refine l_tableIn (v := 31) (i := 31) E cz h31 (by decide) (by decide) dL_33 rfl (tgt := 1388) (by decide) ?_
          exact lc_heads E hAp (cb_ok b) hSt.2.2.2.2.2.2.2.2.2.2.2.2.2.2.2.2.2.2.2.2.2.2.2.2.2.2.2.2.2.2.2.1 hσ hτ hI hi (fun σ1 τ1 g1 g2 g3 => kk b adC σ1 τ1 hAp g1 g2 g3)
        by_cases h32 : z = 32
        · refine l_tableIn (v := 32) (i := 32) E cz h32 (by decide) (by decide) dL_33 rfl (tgt := 1401) (by decide) ?_
          exact lc_mends E hAp (cb_ok b) hSt.2.2.2.2.2.2.2.2.2.2.2.2.2.2.2.2.2.2.2.2.2.2.2.2.2.2.2.2.2.2.2.2.1 hσ hτ hI hi (fun σ1 τ1 g1 g2 g3 => kk b adC σ1 τ1 hAp g1 g2 g3)
        by_cases h33 : z = 33
        · refine l_tableIn (v := 33) (i := 33) E cz h33 (by decide) (by decide) dL_33 rfl (tgt := 1414) (by decide) ?_
          exact lc_mend E hAp (cb_ok b) hSt.2.2.2.2.2.2.2.2.2.2.2.2.2.2.2.2.2.2.2.2.2.2.2.2.2.2.2.2.2.2.2.2.2.1 hσ hτ hI hi (fun σ1 τ1 g1 g2 g3 => kk b adC σ1 τ1 hAp g1 g2 g3)
        by_cases h34 : z = 34
        · refine l_tableIn (v := 34) (i := 34) E cz h34 (by decide) (by decide) dL_33 rfl (tgt := 1437) (by decide) ?_
          exact lc_rings E hAp (cb_ok b) hSt.2.2.2.2.2.2.2.2.2.2.2.2.2.2.2.2.2.2.2.2.2.2.2.2.2.2.2.2.2.2.2.2.2.2.1 hσ hτ hI hi (fun σ1 τ1 g1 g2 g3 => kk b adC σ1 τ1 hAp g1 g2 g3)
        by_cases h35 : z = 35
        · refine l_tableIn (v := 35) (i := 35) E cz h35 (by decide) (by decide) dL_33 rfl (tgt := 1450) (by decide) ?_
          exact lc_alive E hAp (cb_ok b) hSt.2.2.2.2.2.2.2.2.2.2.2.2.2.2.2.2.2.2.2.2.2.2.2.2.2.2.2.2.2.2.2.2.2.2.2 hσ hτ hI hi (fun σ1 τ1 g1 g2 g3 => kk b adC σ1 τ1 hAp g1 g2 g3)
        refine l_tableOut E cz (by omega) dL_33 (tgt := 1464) (by decide) ?_
        exact kk b adC σ τ hAp hσ hτ hI
    · exfalso
      exact hbig (by unfold C32; omega)
end LW
