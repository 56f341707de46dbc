def XI (xs : Nat → Int32) (j : Nat) : Int := (xs j).toInt
def AL (s : State) : Nat → Prop := fun q => s.heap.size ≤ q
def EvL (p : Program) (s : State) (m : MethodId) (args : Array Value) (meth : Method) (c : Code) (D : va_G) (cA : Nat → ClassId) (Z : (Nat → Nat) × (Nat → Nat)) (bq L : Nat) (xs : Nat → Int32) : Prop :=
  CallFix p m c code 4 s args gtbl RL ∧ va_K D classes (tyA cA) s ∧ SX Z (AL s) s s.heap ∧ va_X bq L xs s s.heap ∧ bq < s.heap.size ∧ L ≤ 3072
def GL (p : Program) (l : Launch) (e : Env) (s : State) (m : MethodId) (args : Array Value) (below : List Frame) (meth : Method) (c : Code) (D : va_G) (cA : Nat → ClassId) (adC adR : Nat → Nat) (b : Bool) (cells slots : Nat) (Q : State → Prop) (σ τ : St) (pc : Nat) (ol : List (Option Value)) (st : List Value) : Prop :=
  ∀ (H : Heap) (locs : List Loc) (ls : Array Slot), va_P D classes (wl (shC b) (NC b) adC cA σ) H → va_P D classes (wl shR NR adR cA τ) H → va_S (AL s) s.heap H locs → Lh ls 4 ol → W p l e room_1 s m args below meth c H locs cells slots Q (F0 m pc ls st)
/-- the two worlds are apart, and new -/
def Ap (s : State) (adC adR : Nat → Nat) (b : Bool) : Prop := AdOk (NC b) adC ∧ AdOk NR adR ∧ (∀ i, i < NC b → AL s (adC i)) ∧ (∀ i, i < NR → AL s (adR i)) ∧ ∀ i j, i < NC b → j < NR → adC i ≠ adR j
section GLs
variable {p : Program} {l : Launch} {e : Env} {s : State} {m : MethodId} {args : Array Value} {below : List Frame} {meth : Method} {c : Code} {D : va_G} {cA : Nat → ClassId} {adC adR : Nat → Nat} {b : Bool} {cells slots : Nat} {Q : State → Prop} {Z : (Nat → Nat) × (Nat → Nat)} {bq L : Nat} {xs : Nat → Int32}
variable {σ τ : St} {pc pc' tgt : Nat} {ol : List (Option Value)} {st stk : List Value}
theorem l_iconst (E : EvL p s m args meth c D cA Z bq L xs) {n : Int} (d : Dc code pc (.iconst n) 1 pc') (k : GL p l e s m args below meth c D cA adC adR b cells slots Q σ τ pc' ol (vI n :: st)) : GL p l e s m args below meth c D cA adC adR b cells slots Q σ τ pc ol st := by
  obtain ⟨⟨hx, hb, hml, hown, hts⟩, hK, hZx, hX, hbl, hL3⟩ := E
  obtain ⟨d, rfl⟩ := d
  intro H locs ls hP hT hS hL
  exact lv_iconst hx hb d rfl (k H locs ls hP hT hS hL)
theorem l_bipush (E : EvL p s m args meth c D cA Z bq L xs) {n : Int} (h : (Int8.ofInt n).toInt32 = Int32.ofInt n) (d : Dc code pc (.bipush n) 2 pc') (k : GL p l e s m args below meth c D cA adC adR b cells slots Q σ τ pc' ol (vI n :: st)) : GL p l e s m args below meth c D cA adC adR b cells slots Q σ τ pc ol st := by
  obtain ⟨⟨hx, hb, hml, hown, hts⟩, hK, hZx, hX, hbl, hL3⟩ := E
  obtain ⟨d, rfl⟩ := d
  intro H locs ls hP hT hS hL
  exact lv_bipush hx hb d h (k H locs ls hP hT hS hL)
theorem l_iload_0 (E : EvL p s m args meth c D cA Z bq L xs) {ot : List (Option Value)} {x : Int} (d : Dc code pc (.iload_n 0) 1 pc') (k : GL p l e s m args below meth c D cA adC adR b cells slots Q σ τ pc' (some (vI x) :: ot) (vI x :: st)) : GL p l e s m args below meth c D cA adC adR b cells slots Q σ τ pc (some (vI x) :: ot) st := by
  obtain ⟨⟨hx, hb, hml, hown, hts⟩, hK, hZx, hX, hbl, hL3⟩ := E
  obtain ⟨d, rfl⟩ := d
  intro H locs ls hP hT hS hL
  exact lv_iload_n hx hb d rfl (hL.at (i := 0) rfl) (k H locs ls hP hT hS hL)
theorem l_iload_1 (E : EvL p s m args meth c D cA Z bq L xs) {a0 : Option Value} {ot : List (Option Value)} {x : Int} (d : Dc code pc (.iload_n 1) 1 pc') (k : GL p l e s m args below meth c D cA adC adR b cells slots Q σ τ pc' (a0 :: some (vI x) :: ot) (vI x :: st)) : GL p l e s m args below meth c D cA adC adR b cells slots Q σ τ pc (a0 :: some (vI x) :: ot) st := by
  obtain ⟨⟨hx, hb, hml, hown, hts⟩, hK, hZx, hX, hbl, hL3⟩ := E
  obtain ⟨d, rfl⟩ := d
  intro H locs ls hP hT hS hL
  exact lv_iload_n hx hb d rfl (hL.at (i := 1) rfl) (k H locs ls hP hT hS hL)
theorem l_iload_2 (E : EvL p s m args meth c D cA Z bq L xs) {a0 a1 : Option Value} {ot : List (Option Value)} {x : Int} (d : Dc code pc (.iload_n 2) 1 pc') (k : GL p l e s m args below meth c D cA adC adR b cells slots Q σ τ pc' (a0 :: a1 :: some (vI x) :: ot) (vI x :: st)) : GL p l e s m args below meth c D cA adC adR b cells slots Q σ τ pc (a0 :: a1 :: some (vI x) :: ot) st := by
  obtain ⟨⟨hx, hb, hml, hown, hts⟩, hK, hZx, hX, hbl, hL3⟩ := E
  obtain ⟨d, rfl⟩ := d
  intro H locs ls hP hT hS hL
  exact lv_iload_n hx hb d rfl (hL.at (i := 2) rfl) (k H locs ls hP hT hS hL)
theorem l_iload_3 (E : EvL p s m args meth c D cA Z bq L xs) {a0 a1 a2 : Option Value} {ot : List (Option Value)} {x : Int} (d : Dc code pc (.iload_n 3) 1 pc') (k : GL p l e s m args below meth c D cA adC adR b cells slots Q σ τ pc' (a0 :: a1 :: a2 :: some (vI x) :: ot) (vI x :: st)) : GL p l e s m args below meth c D cA adC adR b cells slots Q σ τ pc (a0 :: a1 :: a2 :: some (vI x) :: ot) st := by
  obtain ⟨⟨hx, hb, hml, hown, hts⟩, hK, hZx, hX, hbl, hL3⟩ := E
  obtain ⟨d, rfl⟩ := d
  intro H locs ls hP hT hS hL
  exact lv_iload_n hx hb d rfl (hL.at (i := 3) rfl) (k H locs ls hP hT hS hL)
theorem l_aload_0 (E : EvL p s m args meth c D cA Z bq L xs) {ot : List (Option Value)} {x : Nat} (d : Dc code pc (.aload_n 0) 1 pc') (k : GL p l e s m args below meth c D cA adC adR b cells slots Q σ τ pc' (some (.ref x) :: ot) (.ref x :: st)) : GL p l e s m args below meth c D cA adC adR b cells slots Q σ τ pc (some (.ref x) :: ot) st := by
  obtain ⟨⟨hx, hb, hml, hown, hts⟩, hK, hZx, hX, hbl, hL3⟩ := E
  obtain ⟨d, rfl⟩ := d
  intro H locs ls hP hT hS hL
  exact lv_aload_n hx hb d rfl (hL.at (i := 0) rfl) (k H locs ls hP hT hS hL)
theorem l_aload_1 (E : EvL p s m args meth c D cA Z bq L xs) {a0 : Option Value} {ot : List (Option Value)} {x : Nat} (d : Dc code pc (.aload_n 1) 1 pc') (k : GL p l e s m args below meth c D cA adC adR b cells slots Q σ τ pc' (a0 :: some (.ref x) :: ot) (.ref x :: st)) : GL p l e s m args below meth c D cA adC adR b cells slots Q σ τ pc (a0 :: some (.ref x) :: ot) st := by
  obtain ⟨⟨hx, hb, hml, hown, hts⟩, hK, hZx, hX, hbl, hL3⟩ := E
  obtain ⟨d, rfl⟩ := d
  intro H locs ls hP hT hS hL
  exact lv_aload_n hx hb d rfl (hL.at (i := 1) rfl) (k H locs ls hP hT hS hL)
theorem l_aload_2 (E : EvL p s m args meth c D cA Z bq L xs) {a0 a1 : Option Value} {ot : List (Option Value)} {x : Nat} (d : Dc code pc (.aload_n 2) 1 pc') (k : GL p l e s m args below meth c D cA adC adR b cells slots Q σ τ pc' (a0 :: a1 :: some (.ref x) :: ot) (.ref x :: st)) : GL p l e s m args below meth c D cA adC adR b cells slots Q σ τ pc (a0 :: a1 :: some (.ref x) :: ot) st := by
  obtain ⟨⟨hx, hb, hml, hown, hts⟩, hK, hZx, hX, hbl, hL3⟩ := E
  obtain ⟨d, rfl⟩ := d
  intro H locs ls hP hT hS hL
  exact lv_aload_n hx hb d rfl (hL.at (i := 2) rfl) (k H locs ls hP hT hS hL)
theorem l_aload_3 (E : EvL p s m args meth c D cA Z bq L xs) {a0 a1 a2 : Option Value} {ot : List (Option Value)} {x : Nat} (d : Dc code pc (.aload_n 3) 1 pc') (k : GL p l e s m args below meth c D cA adC adR b cells slots Q σ τ pc' (a0 :: a1 :: a2 :: some (.ref x) :: ot) (.ref x :: st)) : GL p l e s m args below meth c D cA adC adR b cells slots Q σ τ pc (a0 :: a1 :: a2 :: some (.ref x) :: ot) st := by
  obtain ⟨⟨hx, hb, hml, hown, hts⟩, hK, hZx, hX, hbl, hL3⟩ := E
  obtain ⟨d, rfl⟩ := d
  intro H locs ls hP hT hS hL
  exact lv_aload_n hx hb d rfl (hL.at (i := 3) rfl) (k H locs ls hP hT hS hL)
theorem l_iadd (E : EvL p s m args meth c D cA Z bq L xs) {x y : Int} (d : Dc code pc (.iadd) 1 pc') (k : GL p l e s m args below meth c D cA adC adR b cells slots Q σ τ pc' ol (vI (w32 (x + y)) :: st)) : GL p l e s m args below meth c D cA adC adR b cells slots Q σ τ pc ol (vI y :: vI x :: st) := by
  obtain ⟨⟨hx, hb, hml, hown, hts⟩, hK, hZx, hX, hbl, hL3⟩ := E
  obtain ⟨d, rfl⟩ := d
  intro H locs ls hP hT hS hL
  have k := k H locs ls hP hT hS hL
  unfold vI at *
  refine lv_iadd hx hb d ?_
  rw [i_w32, Int32.ofInt_add] at k
  exact k
theorem l_isub (E : EvL p s m args meth c D cA Z bq L xs) {x y : Int} (d : Dc code pc (.isub) 1 pc') (k : GL p l e s m args below meth c D cA adC adR b cells slots Q σ τ pc' ol (vI (w32 (x - y)) :: st)) : GL p l e s m args below meth c D cA adC adR b cells slots Q σ τ pc ol (vI y :: vI x :: st) := by
  obtain ⟨⟨hx, hb, hml, hown, hts⟩, hK, hZx, hX, hbl, hL3⟩ := E
  obtain ⟨d, rfl⟩ := d
  intro H locs ls hP hT hS hL
  have k := k H locs ls hP hT hS hL
  unfold vI at *
  refine lv_isub hx hb d ?_
  rw [i_w32, Int32.ofInt_sub] at k
  exact k
theorem l_iand (E : EvL p s m args meth c D cA Z bq L xs) {x y : Int} (d : Dc code pc (.iand) 1 pc') (k : GL p l e s m args below meth c D cA adC adR b cells slots Q σ τ pc' ol (vI (b_and x y) :: st)) : GL p l e s m args below meth c D cA adC adR b cells slots Q σ τ pc ol (vI y :: vI x :: st) := by
  obtain ⟨⟨hx, hb, hml, hown, hts⟩, hK, hZx, hX, hbl, hL3⟩ := E
  obtain ⟨d, rfl⟩ := d
  intro H locs ls hP hT hS hL
  have k := k H locs ls hP hT hS hL
  unfold vI at *
  refine lv_iand hx hb d ?_
  unfold b_and at k
  rw [Int32.ofInt_toInt] at k
  exact k
theorem l_goto (E : EvL p s m args meth c D cA Z bq L xs) {off : Int} (d : Dj code pc (.goto off) 3 pc' off tgt) (k : GL p l e s m args below meth c D cA adC adR b cells slots Q σ τ tgt ol st) : GL p l e s m args below meth c D cA adC adR b cells slots Q σ τ pc ol st := by
  obtain ⟨⟨hx, hb, hml, hown, hts⟩, hK, hZx, hX, hbl, hL3⟩ := E
  obtain ⟨d, rfl, ht⟩ := d
  intro H locs ls hP hT hS hL
  exact lv_goto hx hb d ht (k H locs ls hP hT hS hL)
theorem l_icmp_gt (E : EvL p s m args meth c D cA Z bq L xs) {off x y : Int} (cx : C32 x) (cy : C32 y) (d : Dj code pc (.if_icmp .gt off) 3 pc' off tgt) (k1 : x > y → GL p l e s m args below meth c D cA adC adR b cells slots Q σ τ tgt ol st) (k2 : ¬ (x > y) → GL p l e s m args below meth c D cA adC adR b cells slots Q σ τ pc' ol st) : GL p l e s m args below meth c D cA adC adR b cells slots Q σ τ pc ol (vI y :: vI x :: st) := by
  obtain ⟨⟨hx, hb, hml, hown, hts⟩, hK, hZx, hX, hbl, hL3⟩ := E
  obtain ⟨d, rfl, ht⟩ := d
  intro H locs ls hP hT hS hL
  refine lv_icmp_gt hx hb d ht (fun h => k1 ?_ H locs ls hP hT hS hL) (fun h => k2 ?_ H locs ls hP hT hS hL)
  · simpa only [ge_iff_le, gt_iff_lt, ne_eq, Decidable.not_not, i_eq cx cy, i_lt cx cy, i_lt cy cx, i_le cx cy, i_le cy cx] using h
  · simpa only [ge_iff_le, gt_iff_lt, ne_eq, Decidable.not_not, i_eq cx cy, i_lt cx cy, i_lt cy cx, i_le cx cy, i_le cy cx] using h
theorem l_icmp_eq (E : EvL p s m args meth c D cA Z bq L xs) {off x y : Int} (cx : C32 x) (cy : C32 y) (d : Dj code pc (.if_icmp .eq off) 3 pc' off tgt) (k1 : x = y → GL p l e s m args below meth c D cA adC adR b cells slots Q σ τ tgt ol st) (k2 : ¬ (x = y) → GL p l e s m args below meth c D cA adC adR b cells slots Q σ τ pc' ol st) : GL p l e s m args below meth c D cA adC adR b cells slots Q σ τ pc ol (vI y :: vI x :: st) := by
  obtain ⟨⟨hx, hb, hml, hown, hts⟩, hK, hZx, hX, hbl, hL3⟩ := E
  obtain ⟨d, rfl, ht⟩ := d
  intro H locs ls hP hT hS hL
  refine lv_icmp_eq hx hb d ht (fun h => k1 ?_ H locs ls hP hT hS hL) (fun h => k2 ?_ H locs ls hP hT hS hL)
  · simpa only [ge_iff_le, gt_iff_lt, ne_eq, Decidable.not_not, i_eq cx cy, i_lt cx cy, i_lt cy cx, i_le cx cy, i_le cy cx] using h
  · simpa only [ge_iff_le, gt_iff_lt, ne_eq, Decidable.not_not, i_eq cx cy, i_lt cx cy, i_lt cy cx, i_le cx cy, i_le cy cx] using h
theorem l_lcmp_eq (E : EvL p s m args meth c D cA Z bq L xs) {off x y : Int} {pc1 : Nat} (cx : C64 x) (hxy : x = y) (d1 : Dc code pc .lcmp 1 pc1) (d : Dj code pc1 (.ifCond .eq off) 3 pc' off tgt) (k1 : GL p l e s m args below meth c D cA adC adR b cells slots Q σ τ tgt ol st) : GL p l e s m args below meth c D cA adC adR b cells slots Q σ τ pc ol (vL y :: vL x :: st) := by
  obtain ⟨⟨hx, hb, hml, hown, hts⟩, hK, hZx, hX, hbl, hL3⟩ := E
  obtain ⟨d, rfl, ht⟩ := d
  obtain ⟨d1, rfl⟩ := d1
  subst hxy
  intro H locs ls hP hT hS hL
  refine W.lcmp hx hb d1 ?_
  rw [cmp_spec cx cx, if_neg (by omega), if_pos rfl]
  refine lv_if_eq hx hb d ht (fun _ => k1 H locs ls hP hT hS hL) (fun h => absurd rfl h)
theorem l_iinc_3 (E : EvL p s m args meth c D cA Z bq L xs) {a0 a1 a2 : Option Value} {ot : List (Option Value)} {x n : Int} (ho : okP a2 = true) (d : Dc code pc (.iinc 3 n) 3 pc') (k : ∀ v : Int, v = w32 (x + n) → GL p l e s m args below meth c D cA adC adR b cells slots Q σ τ pc' (a0 :: a1 :: a2 :: some (vI v) :: ot) st) : GL p l e s m args below meth c D cA adC adR b cells slots Q σ τ pc (a0 :: a1 :: a2 :: some (vI x) :: ot) st := by
  obtain ⟨⟨hx, hb, hml, hown, hts⟩, hK, hZx, hX, hbl, hL3⟩ := E
  obtain ⟨d, rfl⟩ := d
  intro H locs ls hP hT hS hL
  obtain ⟨kk, hk⟩ := List.getElem?_of_mem ((lvL_mem (a0 :: a1 :: a2 :: some (vI x) :: ot) 0).mpr ⟨3, rfl, by simp⟩ : (3, vI x) ∈ lvL (a0 :: a1 :: a2 :: some (vI x) :: ot) 0)
  refine lv_iinc (v := Int32.ofInt (w32 (x + n))) hx hb d hL hk (by rw [i_w32, Int32.ofInt_add]) (by decide) rfl (fun ls' hL' => k _ rfl H locs ls' hP hT hS (lv_more hL' (lvL_set1 (ol := a0 :: a1 :: a2 :: some (vI x) :: ot) (i := 3) ho)))
theorem l_slen (E : EvL p s m args meth c D cA Z bq L xs) (d : Dc code pc .arraylength 1 pc') (k : GL p l e s m args below meth c D cA adC adR b cells slots Q σ τ pc' ol (vI (L : Int) :: st)) : GL p l e s m args below meth c D cA adC adR b cells slots Q σ τ pc ol (.ref bq :: st) := by
  obtain ⟨⟨hx, hb, hml, hown, hts⟩, hK, hZx, hX, hbl, hL3⟩ := E
  obtain ⟨d, rfl⟩ := d
  intro H locs ls hP hT hS hL
  obtain ⟨scr, h1, h2, h3, h4, h5⟩ := hX.kept (H1 := H) (hS.2.1 bq hbl (Nat.not_le.mpr hbl))
  exact W.alen hx hb h1 h2 (n := Int32.ofInt (L : Int)) (by rw [h4]; rfl) rfl rfl d (k H locs ls hP hT hS hL)
theorem l_sld (E : EvL p s m args meth c D cA Z bq L xs) {x : Int} (hi : 0 ≤ x ∧ x < (L : Int)) (d : Dc code pc .iaload 1 pc') (k : GL p l e s m args below meth c D cA adC adR b cells slots Q σ τ pc' ol (vI (XI xs x.toNat) :: st)) : GL p l e s m args below meth c D cA adC adR b cells slots Q σ τ pc ol (vI x :: .ref bq :: st) := by
  obtain ⟨⟨hx, hb, hml, hown, hts⟩, hK, hZx, hX, hbl, hL3⟩ := E
  obtain ⟨d, rfl⟩ := d
  obtain ⟨g1, g2⟩ := in_of hi (by omega)
  intro H locs ls hP hT hS hL
  obtain ⟨scr, h1, h2, h3, h4, h5⟩ := hX.kept (H1 := H) (hS.2.1 bq hbl (Nat.not_le.mpr hbl))
  refine W.iald (v := vI (XI xs x.toNat)) hx hb h1 h2 h3 (by rw [h4]; exact g1) (by rw [g2, h5 _ (by omega)]; unfold vI XI; rw [Int32.ofInt_toInt]) rfl rfl d (k H locs ls hP hT hS hL)
theorem l_arg (E : EvL p s m args meth c D cA Z bq L xs) {a1 a2 : Option Value} {i n : Int} {q1 q2 q3 q4 pc5 : Nat} (hi : 0 ≤ i ∧ i + 6 ≤ (L : Int)) (hn : 0 ≤ n ∧ n ≤ 5) (d0 : Dc code pc (.aload_n 0) 1 q1) (d1 : Dc code q1 (.iload_n 3) 1 q2) (d2 : Dc code q2 (.iconst n) 1 q3) (d3 : Dc code q3 .iadd 1 q4) (d4 : Dc code q4 .iaload 1 pc5) (k : GL p l e s m args below meth c D cA adC adR b cells slots Q σ τ pc5 [some (.ref bq), a1, a2, some (vI i)] (vI (XI xs (i + n).toNat) :: st)) : GL p l e s m args below meth c D cA adC adR b cells slots Q σ τ pc [some (.ref bq), a1, a2, some (vI i)] st := by
  obtain ⟨⟨hx, hb, hml, hown, hts⟩, hK, hZx, hX, hbl, hL3⟩ := E
  have E2 : EvL p s m args meth c D cA Z bq L xs := ⟨⟨hx, hb, hml, hown, hts⟩, hK, hZx, hX, hbl, hL3⟩
  refine l_aload_0 E2 d0 ?_
  refine l_iload_3 E2 d1 ?_
  refine l_iconst E2 d2 ?_
  refine l_iadd E2 d3 ?_
  have e : w32 (i + n) = i + n := w32_id (by unfold C32; omega)
  rw [e]
  exact l_sld E2 (by omega) d4 k
theorem l_tableIn (E : EvL p s m args meth c D cA Z bq L xs) {dflt lo hi x v : Int} {offs : Array Int} {len i : Nat} {off : Int} (cx : C32 x) (hv : x = v) (h1 : ¬ v < lo ∧ ¬ hi < v) (hi' : (v - lo).toNat = i) (d : Dc code pc (.tableswitch dflt lo hi offs) len pc') (ho : offs[i]? = some off) (ht : (pc : Int) + off = (tgt : Int)) (k : GL p l e s m args below meth c D cA adC adR b cells slots Q σ τ tgt ol st) : GL p l e s m args below meth c D cA adC adR b cells slots Q σ τ pc ol (vI x :: st) := by
  obtain ⟨⟨hx, hb, hml, hown, hts⟩, hK, hZx, hX, hbl, hL3⟩ := E
  obtain ⟨d, rfl⟩ := d
  subst hv
  intro H locs ls hP hT hS hL
  exact lv_tableIn hx hb d (by rw [i_toInt cx]; exact h1.1) (by rw [i_toInt cx]; exact h1.2) (by rw [i_toInt cx, hi']; exact ho) ht (k H locs ls hP hT hS hL)
theorem l_tableOut (E : EvL p s m args meth c D cA Z bq L xs) {dflt lo hi x : Int} {offs : Array Int} {len : Nat} (cx : C32 x) (hv : x < lo ∨ hi < x) (d : Dc code pc (.tableswitch dflt lo hi offs) len pc') (ht : (pc : Int) + dflt = (tgt : Int)) (k : GL p l e s m args below meth c D cA adC adR b cells slots Q σ τ tgt ol st) : GL p l e s m args below meth c D cA adC adR b cells slots Q σ τ pc ol (vI x :: st) := by
  obtain ⟨⟨hx, hb, hml, hown, hts⟩, hK, hZx, hX, hbl, hL3⟩ := E
  obtain ⟨d, rfl⟩ := d
  intro H locs ls hP hT hS hL
  exact lv_tableOut hx hb d (by rw [i_toInt cx]; exact hv) ht (k H locs ls hP hT hS hL)
theorem l_callCI (E : EvL p s m args meth c D cA Z bq L xs) (hAp : Ap s adC adR b) {y : MethodName} {code1 : ByteArray} {nL1 n L1 idx nf ci : Nat} {ret : Option FieldType} {As : List Value} {T : u_T} {fs : List (Nat × Nat)} {Qp : Int → St → Prop} (hm : MYk y code1 nL1 ret n) (hi : Cond.instanceMethod y ∈ gtbl) (hsel : Cond.selects y.cls y y ∈ gtbl) (hl : Cond.methodLink RL idx y ∈ gtbl) (hR : (rmL L1 0 0).frames + 1 ≤ room_1.frames ∧ 8 + (nL1 + 11) + (rmL L1 0 0).locals ≤ room_1.locals) (hcs : cells ≤ room_1.cells ∧ slots ≤ room_1.slots) (hk : 0 < (NC b)) (hs : shC b 0 = (4, ci, fs)) (hc : classes[ci]? = some (y.cls, T, nf)) (kt : KtI Z l D cA adC (shC b) (NC b) y code1 nL1 ret L1 (.ref (adC 0) :: As) σ Qp) (hn : As.length = n) (hst : stk = As.reverse ++ .ref (adC 0) :: st) (hcat : (st.map fun v => v.category).sum ≤ 8) (d : Dc code pc (.invokevirtual idx) 3 pc') (kk : ∀ (r : Int) (σ1 : St), C32 r → CanS (shC b) (NC b) σ1 → Qp r σ1 → GL p l e s m args below meth c D cA adC adR b cells slots Q σ1 τ pc' ol (vI r :: st)) : GL p l e s m args below meth c D cA adC adR b cells slots Q σ τ pc ol stk := by
  obtain ⟨⟨hx, hb, hml, hown, hts⟩, hK, hZx, hX, hbl, hL3⟩ := E
  obtain ⟨d, rfl⟩ := d
  obtain ⟨a1, a2, a3, a4, a5⟩ := hAp
  intro H locs ls hP hT hS hL
  have hz : s.heap.size ≤ H.size := hS.1
  have hsub : ∀ q, AA (NC b) adC H.size q → AL s q := AA_sub a3 (fun q h => h) hz
  refine va_calli (S := Int × St) (va_runV (As := As) (rest := st) (n := n) (C := y.cls) ⟨hx, hb, hml, hown, hts⟩ (kt H.size) ⟨callB_of n hts (good_code hm.1) rfl rfl rfl (hts _ hm.2.1) (hts _ hl) ⟨hm.2.2.1.1, hm.2.2.1.2, hm.2.2.2.1⟩ hR, hts _ hi, hts _ hsel⟩ ⟨pre_blind, va_recv hK hP (q := (y.cls, T, nf)) hc (wl_o hk hs), fun U hU hW => ⟨rfl, by rw [hU], by rw [hU]; exact hP, va_K.moved hW.alike hK, by rw [hU]; exact ((hZx.kept hS.2.1).narrow hsub).warm hW⟩⟩ rfl hn hL.1 hst (lv_room hcat) d hcs) hS (fun q _ h => hsub q h) hsub (fun r u t H1 locs1 ht hvm hw hB hz1 hk1 hS1 => ?_)
  obtain ⟨r1, u1⟩ := u
  obtain ⟨rfl, cr, hq, hσ1⟩ := hw
  have hB' : va_P D classes (wl (shC b) (NC b) adC cA u1) H1 := by rw [← ht]; exact hB
  have hO : va_P D classes (wl shR NR adR cA τ) H1 := hT.kept (fun k q hq => by
    obtain ⟨l1, rfl⟩ := wl_lt hq
    have hlt := (hT k _ hq).lt
    refine hk1 _ hlt (fun z => ?_)
    rcases z with ⟨i, hi, e⟩ | z
    · exact a5 i k hi l1 e.symm
    · exact absurd hlt (Nat.not_lt.mpr z))
  exact kk r1 u1 cr hσ1 hq H1 locs1 ls hB' hO hS1 hL
theorem l_callRI (E : EvL p s m args meth c D cA Z bq L xs) (hAp : Ap s adC adR b) {y : MethodName} {code1 : ByteArray} {nL1 n L1 idx nf ci : Nat} {ret : Option FieldType} {As : List Value} {T : u_T} {fs : List (Nat × Nat)} {Qp : Int → St → Prop} (hm : MYk y code1 nL1 ret n) (hi : Cond.instanceMethod y ∈ gtbl) (hsel : Cond.selects y.cls y y ∈ gtbl) (hl : Cond.methodLink RL idx y ∈ gtbl) (hR : (rmL L1 0 0).frames + 1 ≤ room_1.frames ∧ 8 + (nL1 + 11) + (rmL L1 0 0).locals ≤ room_1.locals) (hcs : cells ≤ room_1.cells ∧ slots ≤ room_1.slots) (hk : 0 < NR) (hs : shR 0 = (4, ci, fs)) (hc : classes[ci]? = some (y.cls, T, nf)) (kt : KtI Z l D cA adR shR NR y code1 nL1 ret L1 (.ref (adR 0) :: As) τ Qp) (hn : As.length = n) (hst : stk = As.reverse ++ .ref (adR 0) :: st) (hcat : (st.map fun v => v.category).sum ≤ 8) (d : Dc code pc (.invokevirtual idx) 3 pc') (kk : ∀ (r : Int) (τ1 : St), C32 r → CanS shR NR τ1 → Qp r τ1 → GL p l e s m args below meth c D cA adC adR b cells slots Q σ τ1 pc' ol (vI r :: st)) : GL p l e s m args below meth c D cA adC adR b cells slots Q σ τ pc ol stk := by
  obtain ⟨⟨hx, hb, hml, hown, hts⟩, hK, hZx, hX, hbl, hL3⟩ := E
  obtain ⟨d, rfl⟩ := d
  obtain ⟨a1, a2, a3, a4, a5⟩ := hAp
  intro H locs ls hP hT hS hL
  have hz : s.heap.size ≤ H.size := hS.1
  have hsub : ∀ q, AA NR adR H.size q → AL s q := AA_sub a4 (fun q h => h) hz
  refine va_calli (S := Int × St) (va_runV (As := As) (rest := st) (n := n) (C := y.cls) ⟨hx, hb, hml, hown, hts⟩ (kt H.size) ⟨callB_of n hts (good_code hm.1) rfl rfl rfl (hts _ hm.2.1) (hts _ hl) ⟨hm.2.2.1.1, hm.2.2.1.2, hm.2.2.2.1⟩ hR, hts _ hi, hts _ hsel⟩ ⟨pre_blind, va_recv hK hT (q := (y.cls, T, nf)) hc (wl_o hk hs), fun U hU hW => ⟨rfl, by rw [hU], by rw [hU]; exact hT, va_K.moved hW.alike hK, by rw [hU]; exact ((hZx.kept hS.2.1).narrow hsub).warm hW⟩⟩ rfl hn hL.1 hst (lv_room hcat) d hcs) hS (fun q _ h => hsub q h) hsub (fun r u t H1 locs1 ht hvm hw hB hz1 hk1 hS1 => ?_)
  obtain ⟨r1, u1⟩ := u
  obtain ⟨rfl, cr, hq, hσ1⟩ := hw
  have hB' : va_P D classes (wl shR NR adR cA u1) H1 := by rw [← ht]; exact hB
  have hO : va_P D classes (wl (shC b) (NC b) adC cA σ) H1 := hP.kept (fun k q hq => by
    obtain ⟨l1, rfl⟩ := wl_lt hq
    have hlt := (hP k _ hq).lt
    refine hk1 _ hlt (fun z => ?_)
    rcases z with ⟨i, hi, e⟩ | z
    · exact a5 k i l1 hi e
    · exact absurd hlt (Nat.not_lt.mpr z))
  exact kk r1 u1 cr hσ1 hq H1 locs1 ls hO hB' hS1 hL
theorem l_callCL (E : EvL p s m args meth c D cA Z bq L xs) (hAp : Ap s adC adR b) {y : MethodName} {code1 : ByteArray} {nL1 n L1 idx nf ci : Nat} {ret : Option FieldType} {As : List Value} {T : u_T} {fs : List (Nat × Nat)} {Qp : Int → St → Prop} (hm : MYk y code1 nL1 ret n) (hi : Cond.instanceMethod y ∈ gtbl) (hsel : Cond.selects y.cls y y ∈ gtbl) (hl : Cond.methodLink RL idx y ∈ gtbl) (hR : (rmL L1 0 0).frames + 1 ≤ room_1.frames ∧ 8 + (nL1 + 11) + (rmL L1 0 0).locals ≤ room_1.locals) (hcs : cells ≤ room_1.cells ∧ slots ≤ room_1.slots) (hk : 0 < (NC b)) (hs : shC b 0 = (4, ci, fs)) (hc : classes[ci]? = some (y.cls, T, nf)) (kt : KtL Z l D cA adC (shC b) (NC b) y code1 nL1 ret L1 (.ref (adC 0) :: As) σ Qp) (hn : As.length = n) (hst : stk = As.reverse ++ .ref (adC 0) :: st) (hcat : (st.map fun v => v.category).sum ≤ 8) (d : Dc code pc (.invokevirtual idx) 3 pc') (kk : ∀ (r : Int) (σ1 : St), C64 r → CanS (shC b) (NC b) σ1 → Qp r σ1 → GL p l e s m args below meth c D cA adC adR b cells slots Q σ1 τ pc' ol (vL r :: st)) : GL p l e s m args below meth c D cA adC adR b cells slots Q σ τ pc ol stk := by
  obtain ⟨⟨hx, hb, hml, hown, hts⟩, hK, hZx, hX, hbl, hL3⟩ := E
  obtain ⟨d, rfl⟩ := d
  obtain ⟨a1, a2, a3, a4, a5⟩ := hAp
  intro H locs ls hP hT hS hL
  have hz : s.heap.size ≤ H.size := hS.1
  have hsub : ∀ q, AA (NC b) adC H.size q → AL s q := AA_sub a3 (fun q h => h) hz
  refine va_calll (S := Int × St) (va_runV (As := As) (rest := st) (n := n) (C := y.cls) ⟨hx, hb, hml, hown, hts⟩ (kt H.size) ⟨callB_of n hts (good_code hm.1) rfl rfl rfl (hts _ hm.2.1) (hts _ hl) ⟨hm.2.2.1.1, hm.2.2.1.2, hm.2.2.2.1⟩ hR, hts _ hi, hts _ hsel⟩ ⟨pre_blind, va_recv hK hP (q := (y.cls, T, nf)) hc (wl_o hk hs), fun U hU hW => ⟨rfl, by rw [hU], by rw [hU]; exact hP, va_K.moved hW.alike hK, by rw [hU]; exact ((hZx.kept hS.2.1).narrow hsub).warm hW⟩⟩ rfl hn hL.1 hst (lv_room hcat) d hcs) hS (fun q _ h => hsub q h) hsub (fun r u t H1 locs1 ht hvm hw hB hz1 hk1 hS1 => ?_)
  obtain ⟨r1, u1⟩ := u
  obtain ⟨rfl, cr, hq, hσ1⟩ := hw
  have hB' : va_P D classes (wl (shC b) (NC b) adC cA u1) H1 := by rw [← ht]; exact hB
  have hO : va_P D classes (wl shR NR adR cA τ) H1 := hT.kept (fun k q hq => by
    obtain ⟨l1, rfl⟩ := wl_lt hq
    have hlt := (hT k _ hq).lt
    refine hk1 _ hlt (fun z => ?_)
    rcases z with ⟨i, hi, e⟩ | z
    · exact a5 i k hi l1 e.symm
    · exact absurd hlt (Nat.not_lt.mpr z))
  exact kk r1 u1 cr hσ1 hq H1 locs1 ls hB' hO hS1 hL
theorem l_callRL (E : EvL p s m args meth c D cA Z bq L xs) (hAp : Ap s adC adR b) {y : MethodName} {code1 : ByteArray} {nL1 n L1 idx nf ci : Nat} {ret : Option FieldType} {As : List Value} {T : u_T} {fs : List (Nat × Nat)} {Qp : Int → St → Prop} (hm : MYk y code1 nL1 ret n) (hi : Cond.instanceMethod y ∈ gtbl) (hsel : Cond.selects y.cls y y ∈ gtbl) (hl : Cond.methodLink RL idx y ∈ gtbl) (hR : (rmL L1 0 0).frames + 1 ≤ room_1.frames ∧ 8 + (nL1 + 11) + (rmL L1 0 0).locals ≤ room_1.locals) (hcs : cells ≤ room_1.cells ∧ slots ≤ room_1.slots) (hk : 0 < NR) (hs : shR 0 = (4, ci, fs)) (hc : classes[ci]? = some (y.cls, T, nf)) (kt : KtL Z l D cA adR shR NR y code1 nL1 ret L1 (.ref (adR 0) :: As) τ Qp) (hn : As.length = n) (hst : stk = As.reverse ++ .ref (adR 0) :: st) (hcat : (st.map fun v => v.category).sum ≤ 8) (d : Dc code pc (.invokevirtual idx) 3 pc') (kk : ∀ (r : Int) (τ1 : St), C64 r → CanS shR NR τ1 → Qp r τ1 → GL p l e s m args below meth c D cA adC adR b cells slots Q σ τ1 pc' ol (vL r :: st)) : GL p l e s m args below meth c D cA adC adR b cells slots Q σ τ pc ol stk := by
  obtain ⟨⟨hx, hb, hml, hown, hts⟩, hK, hZx, hX, hbl, hL3⟩ := E
  obtain ⟨d, rfl⟩ := d
  obtain ⟨a1, a2, a3, a4, a5⟩ := hAp
  intro H locs ls hP hT hS hL
  have hz : s.heap.size ≤ H.size := hS.1
  have hsub : ∀ q, AA NR adR H.size q → AL s q := AA_sub a4 (fun q h => h) hz
  refine va_calll (S := Int × St) (va_runV (As := As) (rest := st) (n := n) (C := y.cls) ⟨hx, hb, hml, hown, hts⟩ (kt H.size) ⟨callB_of n hts (good_code hm.1) rfl rfl rfl (hts _ hm.2.1) (hts _ hl) ⟨hm.2.2.1.1, hm.2.2.1.2, hm.2.2.2.1⟩ hR, hts _ hi, hts _ hsel⟩ ⟨pre_blind, va_recv hK hT (q := (y.cls, T, nf)) hc (wl_o hk hs), fun U hU hW => ⟨rfl, by rw [hU], by rw [hU]; exact hT, va_K.moved hW.alike hK, by rw [hU]; exact ((hZx.kept hS.2.1).narrow hsub).warm hW⟩⟩ rfl hn hL.1 hst (lv_room hcat) d hcs) hS (fun q _ h => hsub q h) hsub (fun r u t H1 locs1 ht hvm hw hB hz1 hk1 hS1 => ?_)
  obtain ⟨r1, u1⟩ := u
  obtain ⟨rfl, cr, hq, hσ1⟩ := hw
  have hB' : va_P D classes (wl shR NR adR cA u1) H1 := by rw [← ht]; exact hB
  have hO : va_P D classes (wl (shC b) (NC b) adC cA σ) H1 := hP.kept (fun k q hq => by
    obtain ⟨l1, rfl⟩ := wl_lt hq
    have hlt := (hP k _ hq).lt
    refine hk1 _ hlt (fun z => ?_)
    rcases z with ⟨i, hi, e⟩ | z
    · exact a5 k i l1 hi e
    · exact absurd hlt (Nat.not_lt.mpr z))
  exact kk r1 u1 cr hσ1 hq H1 locs1 ls hO hB' hS1 hL
end GLs
