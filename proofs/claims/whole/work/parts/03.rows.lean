abbrev classes : List vw_C := [(RX0, TX0, 18), (RX1, TX1, 10), (RX2, TX2, 9), (RX3, TX3, 18), (RX4, TX4, 13), (RX5, TX5, 10), (RX6, TX6, 9), (RX7, TX7, 8), (RX8, TX8, 7), (RX9, TX9, 7), (RX10, TX10, 10), (RX11, TX11, 16), (RX12, TX12, 66)]
def gtbl : List Cond := lw_tbl.filter goodWord
theorem tg {w : Cond} (h : w ∈ lw_tbl) (g : goodWord w = true) : w ∈ gtbl := List.mem_filter.mpr ⟨h, g⟩
def tyA (cA : Nat → ClassId) : List (ClassId × FieldType) := [(cA 0, .int), (cA 1, .long), (cA 2, .byte), (cA 3, .boolean)]
def Dc (cc : ByteArray) (pc : Nat) (i : Instr) (n pc' : Nat) : Prop := decode cc pc = .ok (i, n) ∧ pc + n = pc'
def Dj (cc : ByteArray) (pc : Nat) (i : Instr) (n pc' : Nat) (off : Int) (tgt : Nat) : Prop := decode cc pc = .ok (i, n) ∧ pc + n = pc' ∧ (pc : Int) + off = (tgt : Int)
/-- a class of the world: its words, its fields' types and names -/
def ClsOk (ci : Nat) (C : String) (T : u_T) (n : Nat) (ty : Nat → FieldType) : Prop := classes[ci]? = some (C, T, n) ∧ (∀ w ∈ u_ws C T n, w ∈ gtbl) ∧ (∀ k, k < n → parseFieldDescriptor (T k).2.2.1 = some (ty k)) ∧ (∀ a, a < n → ∀ b, b < n → a ≠ b → (T a).2.1 ≠ (T b).2.1)
/-- an entry of a class's constants that is a field -/
def FLk (own : String) (idx ci : Nat) (C : String) (T : u_T) (n : Nat) (ty : Nat → FieldType) (f : Nat) : Prop := ClsOk ci C T n ty ∧ f < n ∧ (T f).1 = C ∧ Cond.fieldLink own idx C (T f).2.1 (T f).2.2.1 ∈ gtbl
/-- a method of the class files -/
def MYk (y : MethodName) (code : ByteArray) (nL : Nat) (ret : Option FieldType) (n : Nat) : Prop := Cond.code y code nL ret ∈ gtbl ∧ Cond.initialized y.cls ∈ gtbl ∧ (y.cls ≠ "java/lang/invoke/MethodHandle" ∧ y.cls ≠ "java/lang/invoke/VarHandle") ∧ (parseMethodDescriptor y.desc).map (fun d => d.parameters.length) = some n ∧ plainFor y = true
theorem good_tbl : ∀ w ∈ gtbl, (w.onTables && w.keeps) = true ∨ ∃ ty, w = .arrayClass ty := fun w hw => good_of_word (List.mem_filter.mp hw).2
def strT : List (String × Nat × String × List Int) := [("SpanValues$Reader", 44, "rule", [114, 117, 108, 101]), ("SpanValues$Reader", 130, "cost", [99, 111, 115, 116]), ("SpanValues$Reader", 135, "as", [97, 115]), ("SpanValues$Reader", 53, "table", [116, 97, 98, 108, 101]), ("SpanValues$Reader", 73, "zero", [122, 101, 114, 111]), ("SpanValues$Reader", 81, "one", [111, 110, 101]), ("SpanValues$Reader", 85, "plus", [112, 108, 117, 115]), ("SpanValues$Reader", 94, "times", [116, 105, 109, 101, 115]), ("SpanValuesModel", 242, "table", [116, 97, 98, 108, 101]), ("SpanValuesModel", 219, "zero", [122, 101, 114, 111]), ("SpanValuesModel", 224, "one", [111, 110, 101]), ("SpanValuesModel", 225, "plus", [112, 108, 117, 115]), ("SpanValuesModel", 226, "times", [116, 105, 109, 101, 115]), ("SpanValuesModel", 247, "rule", [114, 117, 108, 101]), ("SpanValuesModel", 239, "cost", [99, 111, 115, 116]), ("SpanValuesModel", 240, "as", [97, 115])]
def strO (i : Nat) : String × Nat × String × List Int := strT.getD i ("", 0, "", [])
/-- the String constants and the JDK's statics: nobody changes them -/
def SX (Z : (Nat → Nat) × (Nat → Nat)) (A : Nat → Prop) (U : State) (H : Heap) : Prop :=
  (∀ i, i < 16 → vk_R (strO i).1 (strO i).2.1 (strO i).2.2.1 (Z.1 i) U ∧ va_O "java/lang/String" (Z.1 i) A U H ∧ va_OF "java/lang/String" "coder" "B" (.int 0) (Z.1 i) A U H ∧ va_OF "java/lang/String" "value" "[B" (.ref (Z.2 i)) (Z.1 i) A U H ∧ va_T .byte (Z.2 i) (strO i).2.2.2.length (fun j => .int (Int32.ofInt ((strO i).2.2.2.getD j 0))) A U H) ∧
  va_Z "java/lang/String" "COMPACT_STRINGS" "Z" (.int 1) A U H ∧ va_Zq "jdk/internal/util/Preconditions" "SIOOBE_FORMATTER" "Ljava/util/function/BiFunction;" A U H
theorem SX.kept {Z : (Nat → Nat) × (Nat → Nat)} {A : Nat → Prop} {U : State} {H H1 : Heap} (h : SX Z A U H) (hq : ∀ a : Nat, a < H.size → ¬ A a → H1[a]? = H[a]?) : SX Z A U H1 :=
  ⟨fun i hi => ⟨(h.1 i hi).1, (h.1 i hi).2.1.kept hq, (h.1 i hi).2.2.1.kept hq, (h.1 i hi).2.2.2.1.kept hq, (h.1 i hi).2.2.2.2.kept hq⟩, h.2.1.kept hq, h.2.2.kept hq⟩
theorem SX.narrow {Z : (Nat → Nat) × (Nat → Nat)} {A B : Nat → Prop} {U : State} {H : Heap} (h : SX Z A U H) (hAB : ∀ q, B q → A q) : SX Z B U H :=
  ⟨fun i hi => ⟨(h.1 i hi).1, (h.1 i hi).2.1.narrow hAB, (h.1 i hi).2.2.1.narrow hAB, (h.1 i hi).2.2.2.1.narrow hAB, (h.1 i hi).2.2.2.2.narrow hAB⟩, h.2.1.narrow hAB, h.2.2.narrow hAB⟩
theorem SX.warm {Z : (Nat → Nat) × (Nat → Nat)} {A : Nat → Prop} {s U : State} {H : Heap} (h : SX Z A s H) (hW : s.WarmedH U.vm) : SX Z A U H :=
  ⟨fun i hi => ⟨(h.1 i hi).1.warm hW, (h.1 i hi).2.1.moved hW.alike, (h.1 i hi).2.2.1.moved hW.alike, (h.1 i hi).2.2.2.1.moved hW.alike, (h.1 i hi).2.2.2.2.moved hW.alike⟩, h.2.1.moved hW.alike, h.2.2.moved hW.alike⟩
theorem SX.same {Z : (Nat → Nat) × (Nat → Nat)} {A : Nat → Prop} {s U : State} {H : Heap} (h : SX Z A s H) (hv : U.vm = s.vm) : SX Z A U H :=
  ⟨fun i hi => ⟨(h.1 i hi).1.same hv, (h.1 i hi).2.1.moved (by rw [hv]; exact Vm.Alike.refl _), (h.1 i hi).2.2.1.moved (by rw [hv]; exact Vm.Alike.refl _), (h.1 i hi).2.2.2.1.moved (by rw [hv]; exact Vm.Alike.refl _), (h.1 i hi).2.2.2.2.moved (by rw [hv]; exact Vm.Alike.refl _)⟩, h.2.1.moved (by rw [hv]; exact Vm.Alike.refl _), h.2.2.moved (by rw [hv]; exact Vm.Alike.refl _)⟩
def Ev (p : Program) (s : State) (m : MethodId) (args : Array Value) (meth : Method) (c : Code) (cc : ByteArray) (nL : Nat) (own : String) (A0 : Nat → Prop) (D : va_G) (cA : Nat → ClassId) (ad : Nat → Nat) (N : Nat) (Z : (Nat → Nat) × (Nat → Nat)) : Prop :=
  CallFix p m c cc nL s args gtbl own ∧ va_K D classes (tyA cA) s ∧ AdOk N ad ∧ (∀ i, i < N → A0 (ad i)) ∧ (∀ q, s.heap.size ≤ q → A0 q) ∧ meth.locks = false ∧ SX Z A0 s s.heap
def G (p : Program) (l : Launch) (e : Env) (R : Room) (s : State) (m : MethodId) (args : Array Value) (below : List Frame) (meth : Method) (c : Code) (nL : Nat) (A0 : Nat → Prop) (D : va_G) (cA : Nat → ClassId) (ad : Nat → Nat) (sh : Nat → Shp) (N cells slots : Nat) (Q : State → Prop) (σ : St) (pc : Nat) (ol : List (Option Value)) (st : List Value) : Prop :=
  ∀ (H : Heap) (locs : List Loc) (ls : Array Slot), va_P D classes (wl sh N ad cA σ) H → va_S A0 s.heap H locs → Lh ls nL ol → W p l e R s m args below meth c H locs cells slots Q (F0 m pc ls st)
theorem wl_D {sh : Nat → Shp} {N : Nat} {ad : Nat → Nat} {cA : Nat → ClassId} {σ : St} {A0 : Nat → Prop} (h1 : AdOk N ad) (h2 : ∀ i, i < N → A0 (ad i)) : va_D A0 (wl sh N ad cA σ) := by
  refine ⟨fun i j p q hi hj hpq => ?_, fun k q hk => ?_⟩
  · obtain ⟨l1, rfl⟩ := wl_lt hi
    obtain ⟨l2, rfl⟩ := wl_lt hj
    exact h1 i j l1 l2 hpq
  · obtain ⟨l1, rfl⟩ := wl_lt hk
    exact h2 k l1
theorem in_of {x : Int} {n : Nat} (h : 0 ≤ x ∧ x < (n : Int)) (hn : n < 2147483648) : vp_in (Int32.ofInt x) n ∧ (Int32.ofInt x).toNatClampNeg = x.toNat := by
  have hc : C32 x := by unfold C32; omega
  have e : (Int32.ofInt x).toNatClampNeg = x.toNat := by
    show (Int32.ofInt x).toInt.toNat = x.toNat
    rw [i_toInt hc]
  refine ⟨?_, e⟩
  unfold vp_in
  rw [e, show (0 : Int32) = Int32.ofInt 0 from rfl, i_lt hc c32_0]
  omega
section GG
variable {p : Program} {l : Launch} {e : Env} {R : Room} {s : State} {m : MethodId} {args : Array Value} {below : List Frame} {meth : Method} {c : Code} {nL : Nat} {A0 : Nat → Prop} {D : va_G} {cA : Nat → ClassId} {ad : Nat → Nat} {sh : Nat → Shp} {N cells slots : Nat} {Q : State → Prop} {cc : ByteArray} {own : String} {Z : (Nat → Nat) × (Nat → Nat)}
variable {σ : St} {pc pc' tgt : Nat} {ol : List (Option Value)} {st : List Value}
theorem g_iconst (E : Ev p s m args meth c cc nL own A0 D cA ad N Z) {n : Int} (d : Dc cc pc (.iconst n) 1 pc') (k : G p l e R s m args below meth c nL A0 D cA ad sh N cells slots Q σ pc' ol (vI n :: st)) : G p l e R s m args below meth c nL A0 D cA ad sh N cells slots Q σ pc ol st := by
  obtain ⟨⟨hx, hb, hml, hown, hts⟩, hK, hA, hAa, hAq, hlk, hZx⟩ := E
  obtain ⟨d, rfl⟩ := d
  intro H locs ls hP hS hL
  exact lv_iconst hx hb d rfl (k H locs ls hP hS hL)
theorem g_bipush (E : Ev p s m args meth c cc nL own A0 D cA ad N Z) {n : Int} (h : (Int8.ofInt n).toInt32 = Int32.ofInt n) (d : Dc cc pc (.bipush n) 2 pc') (k : G p l e R s m args below meth c nL A0 D cA ad sh N cells slots Q σ pc' ol (vI n :: st)) : G p l e R s m args below meth c nL A0 D cA ad sh N cells slots Q σ pc ol st := by
  obtain ⟨⟨hx, hb, hml, hown, hts⟩, hK, hA, hAa, hAq, hlk, hZx⟩ := E
  obtain ⟨d, rfl⟩ := d
  intro H locs ls hP hS hL
  exact lv_bipush hx hb d h (k H locs ls hP hS hL)
theorem g_sipush (E : Ev p s m args meth c cc nL own A0 D cA ad N Z) {n : Int} (h : (Int16.ofInt n).toInt32 = Int32.ofInt n) (d : Dc cc pc (.sipush n) 3 pc') (k : G p l e R s m args below meth c nL A0 D cA ad sh N cells slots Q σ pc' ol (vI n :: st)) : G p l e R s m args below meth c nL A0 D cA ad sh N cells slots Q σ pc ol st := by
  obtain ⟨⟨hx, hb, hml, hown, hts⟩, hK, hA, hAa, hAq, hlk, hZx⟩ := E
  obtain ⟨d, rfl⟩ := d
  intro H locs ls hP hS hL
  exact lv_sipush hx hb d h (k H locs ls hP hS hL)
theorem g_lconst (E : Ev p s m args meth c cc nL own A0 D cA ad N Z) {n : Int} {i : Fin 2} (h : Int64.ofNat (i : Nat) = Int64.ofInt n) (d : Dc cc pc (.lconst i) 1 pc') (k : G p l e R s m args below meth c nL A0 D cA ad sh N cells slots Q σ pc' ol (vL n :: st)) : G p l e R s m args below meth c nL A0 D cA ad sh N cells slots Q σ pc ol st := by
  obtain ⟨⟨hx, hb, hml, hown, hts⟩, hK, hA, hAa, hAq, hlk, hZx⟩ := E
  obtain ⟨d, rfl⟩ := d
  intro H locs ls hP hS hL
  exact lv_lconst hx hb d h (k H locs ls hP hS hL)
theorem g_ldc (E : Ev p s m args meth c cc nL own A0 D cA ad N Z) {n : Int} {i : Nat} (h : Jvm.Cond.constant own i (Int32.ofInt n) ∈ gtbl) (d : Dc cc pc (.ldc i) 2 pc') (k : G p l e R s m args below meth c nL A0 D cA ad sh N cells slots Q σ pc' ol (vI n :: st)) : G p l e R s m args below meth c nL A0 D cA ad sh N cells slots Q σ pc ol st := by
  obtain ⟨⟨hx, hb, hml, hown, hts⟩, hK, hA, hAa, hAq, hlk, hZx⟩ := E
  obtain ⟨d, rfl⟩ := d
  intro H locs ls hP hS hL
  exact lv_ldc hx hb hown (hts _ h) d (k H locs ls hP hS hL)
theorem g_ldcw (E : Ev p s m args meth c cc nL own A0 D cA ad N Z) {n : Int} {i : Nat} (h : Jvm.Cond.constant own i (Int32.ofInt n) ∈ gtbl) (d : Dc cc pc (.ldc_w i) 3 pc') (k : G p l e R s m args below meth c nL A0 D cA ad sh N cells slots Q σ pc' ol (vI n :: st)) : G p l e R s m args below meth c nL A0 D cA ad sh N cells slots Q σ pc ol st := by
  obtain ⟨⟨hx, hb, hml, hown, hts⟩, hK, hA, hAa, hAq, hlk, hZx⟩ := E
  obtain ⟨d, rfl⟩ := d
  intro H locs ls hP hS hL
  exact lv_ldcw hx hb hown (hts _ h) d (k H locs ls hP hS hL)
theorem g_ldc2 (E : Ev p s m args meth c cc nL own A0 D cA ad N Z) {n : Int} {i : Nat} (h : Jvm.Cond.constantLong own i (Int64.ofInt n) ∈ gtbl) (d : Dc cc pc (.ldc2_w i) 3 pc') (k : G p l e R s m args below meth c nL A0 D cA ad sh N cells slots Q σ pc' ol (vL n :: st)) : G p l e R s m args below meth c nL A0 D cA ad sh N cells slots Q σ pc ol st := by
  obtain ⟨⟨hx, hb, hml, hown, hts⟩, hK, hA, hAa, hAq, hlk, hZx⟩ := E
  obtain ⟨d, rfl⟩ := d
  intro H locs ls hP hS hL
  exact lv_ldc2 hx hb hown (hts _ h) d (k H locs ls hP hS hL)
theorem g_iload_0 (E : Ev p s m args meth c cc nL own A0 D cA ad N Z) {ot : List (Option Value)} {x : Int} (d : Dc cc pc (.iload_n 0) 1 pc') (k : G p l e R s m args below meth c nL A0 D cA ad sh N cells slots Q σ pc' (some (vI x) :: ot) (vI x :: st)) : G p l e R s m args below meth c nL A0 D cA ad sh N cells slots Q σ pc (some (vI x) :: ot) st := by
  obtain ⟨⟨hx, hb, hml, hown, hts⟩, hK, hA, hAa, hAq, hlk, hZx⟩ := E
  obtain ⟨d, rfl⟩ := d
  intro H locs ls hP hS hL
  exact lv_iload_n hx hb d rfl (hL.at (i := 0) rfl) (k H locs ls hP hS hL)
theorem g_iload_1 (E : Ev p s m args meth c cc nL own A0 D cA ad N Z) {a0 : Option Value} {ot : List (Option Value)} {x : Int} (d : Dc cc pc (.iload_n 1) 1 pc') (k : G p l e R s m args below meth c nL A0 D cA ad sh N cells slots Q σ pc' (a0 :: some (vI x) :: ot) (vI x :: st)) : G p l e R s m args below meth c nL A0 D cA ad sh N cells slots Q σ pc (a0 :: some (vI x) :: ot) st := by
  obtain ⟨⟨hx, hb, hml, hown, hts⟩, hK, hA, hAa, hAq, hlk, hZx⟩ := E
  obtain ⟨d, rfl⟩ := d
  intro H locs ls hP hS hL
  exact lv_iload_n hx hb d rfl (hL.at (i := 1) rfl) (k H locs ls hP hS hL)
theorem g_iload_2 (E : Ev p s m args meth c cc nL own A0 D cA ad N Z) {a0 a1 : Option Value} {ot : List (Option Value)} {x : Int} (d : Dc cc pc (.iload_n 2) 1 pc') (k : G p l e R s m args below meth c nL A0 D cA ad sh N cells slots Q σ pc' (a0 :: a1 :: some (vI x) :: ot) (vI x :: st)) : G p l e R s m args below meth c nL A0 D cA ad sh N cells slots Q σ pc (a0 :: a1 :: some (vI x) :: ot) st := by
  obtain ⟨⟨hx, hb, hml, hown, hts⟩, hK, hA, hAa, hAq, hlk, hZx⟩ := E
  obtain ⟨d, rfl⟩ := d
  intro H locs ls hP hS hL
  exact lv_iload_n hx hb d rfl (hL.at (i := 2) rfl) (k H locs ls hP hS hL)
theorem g_iload_3 (E : Ev p s m args meth c cc nL own A0 D cA ad N Z) {a0 a1 a2 : Option Value} {ot : List (Option Value)} {x : Int} (d : Dc cc pc (.iload_n 3) 1 pc') (k : G p l e R s m args below meth c nL A0 D cA ad sh N cells slots Q σ pc' (a0 :: a1 :: a2 :: some (vI x) :: ot) (vI x :: st)) : G p l e R s m args below meth c nL A0 D cA ad sh N cells slots Q σ pc (a0 :: a1 :: a2 :: some (vI x) :: ot) st := by
  obtain ⟨⟨hx, hb, hml, hown, hts⟩, hK, hA, hAa, hAq, hlk, hZx⟩ := E
  obtain ⟨d, rfl⟩ := d
  intro H locs ls hP hS hL
  exact lv_iload_n hx hb d rfl (hL.at (i := 3) rfl) (k H locs ls hP hS hL)
theorem g_iload_4 (E : Ev p s m args meth c cc nL own A0 D cA ad N Z) {a0 a1 a2 a3 : Option Value} {ot : List (Option Value)} {x : Int} (d : Dc cc pc (.iload 4) 2 pc') (k : G p l e R s m args below meth c nL A0 D cA ad sh N cells slots Q σ pc' (a0 :: a1 :: a2 :: a3 :: some (vI x) :: ot) (vI x :: st)) : G p l e R s m args below meth c nL A0 D cA ad sh N cells slots Q σ pc (a0 :: a1 :: a2 :: a3 :: some (vI x) :: ot) st := by
  obtain ⟨⟨hx, hb, hml, hown, hts⟩, hK, hA, hAa, hAq, hlk, hZx⟩ := E
  obtain ⟨d, rfl⟩ := d
  intro H locs ls hP hS hL
  exact lv_iload hx hb d (hL.at (i := 4) rfl) (k H locs ls hP hS hL)
theorem g_iload_5 (E : Ev p s m args meth c cc nL own A0 D cA ad N Z) {a0 a1 a2 a3 a4 : Option Value} {ot : List (Option Value)} {x : Int} (d : Dc cc pc (.iload 5) 2 pc') (k : G p l e R s m args below meth c nL A0 D cA ad sh N cells slots Q σ pc' (a0 :: a1 :: a2 :: a3 :: a4 :: some (vI x) :: ot) (vI x :: st)) : G p l e R s m args below meth c nL A0 D cA ad sh N cells slots Q σ pc (a0 :: a1 :: a2 :: a3 :: a4 :: some (vI x) :: ot) st := by
  obtain ⟨⟨hx, hb, hml, hown, hts⟩, hK, hA, hAa, hAq, hlk, hZx⟩ := E
  obtain ⟨d, rfl⟩ := d
  intro H locs ls hP hS hL
  exact lv_iload hx hb d (hL.at (i := 5) rfl) (k H locs ls hP hS hL)
theorem g_iload_6 (E : Ev p s m args meth c cc nL own A0 D cA ad N Z) {a0 a1 a2 a3 a4 a5 : Option Value} {ot : List (Option Value)} {x : Int} (d : Dc cc pc (.iload 6) 2 pc') (k : G p l e R s m args below meth c nL A0 D cA ad sh N cells slots Q σ pc' (a0 :: a1 :: a2 :: a3 :: a4 :: a5 :: some (vI x) :: ot) (vI x :: st)) : G p l e R s m args below meth c nL A0 D cA ad sh N cells slots Q σ pc (a0 :: a1 :: a2 :: a3 :: a4 :: a5 :: some (vI x) :: ot) st := by
  obtain ⟨⟨hx, hb, hml, hown, hts⟩, hK, hA, hAa, hAq, hlk, hZx⟩ := E
  obtain ⟨d, rfl⟩ := d
  intro H locs ls hP hS hL
  exact lv_iload hx hb d (hL.at (i := 6) rfl) (k H locs ls hP hS hL)
theorem g_iload_7 (E : Ev p s m args meth c cc nL own A0 D cA ad N Z) {a0 a1 a2 a3 a4 a5 a6 : Option Value} {ot : List (Option Value)} {x : Int} (d : Dc cc pc (.iload 7) 2 pc') (k : G p l e R s m args below meth c nL A0 D cA ad sh N cells slots Q σ pc' (a0 :: a1 :: a2 :: a3 :: a4 :: a5 :: a6 :: some (vI x) :: ot) (vI x :: st)) : G p l e R s m args below meth c nL A0 D cA ad sh N cells slots Q σ pc (a0 :: a1 :: a2 :: a3 :: a4 :: a5 :: a6 :: some (vI x) :: ot) st := by
  obtain ⟨⟨hx, hb, hml, hown, hts⟩, hK, hA, hAa, hAq, hlk, hZx⟩ := E
  obtain ⟨d, rfl⟩ := d
  intro H locs ls hP hS hL
  exact lv_iload hx hb d (hL.at (i := 7) rfl) (k H locs ls hP hS hL)
theorem g_iload_8 (E : Ev p s m args meth c cc nL own A0 D cA ad N Z) {a0 a1 a2 a3 a4 a5 a6 a7 : Option Value} {ot : List (Option Value)} {x : Int} (d : Dc cc pc (.iload 8) 2 pc') (k : G p l e R s m args below meth c nL A0 D cA ad sh N cells slots Q σ pc' (a0 :: a1 :: a2 :: a3 :: a4 :: a5 :: a6 :: a7 :: some (vI x) :: ot) (vI x :: st)) : G p l e R s m args below meth c nL A0 D cA ad sh N cells slots Q σ pc (a0 :: a1 :: a2 :: a3 :: a4 :: a5 :: a6 :: a7 :: some (vI x) :: ot) st := by
  obtain ⟨⟨hx, hb, hml, hown, hts⟩, hK, hA, hAa, hAq, hlk, hZx⟩ := E
  obtain ⟨d, rfl⟩ := d
  intro H locs ls hP hS hL
  exact lv_iload hx hb d (hL.at (i := 8) rfl) (k H locs ls hP hS hL)
theorem g_iload_9 (E : Ev p s m args meth c cc nL own A0 D cA ad N Z) {a0 a1 a2 a3 a4 a5 a6 a7 a8 : Option Value} {ot : List (Option Value)} {x : Int} (d : Dc cc pc (.iload 9) 2 pc') (k : G p l e R s m args below meth c nL A0 D cA ad sh N cells slots Q σ pc' (a0 :: a1 :: a2 :: a3 :: a4 :: a5 :: a6 :: a7 :: a8 :: some (vI x) :: ot) (vI x :: st)) : G p l e R s m args below meth c nL A0 D cA ad sh N cells slots Q σ pc (a0 :: a1 :: a2 :: a3 :: a4 :: a5 :: a6 :: a7 :: a8 :: some (vI x) :: ot) st := by
  obtain ⟨⟨hx, hb, hml, hown, hts⟩, hK, hA, hAa, hAq, hlk, hZx⟩ := E
  obtain ⟨d, rfl⟩ := d
  intro H locs ls hP hS hL
  exact lv_iload hx hb d (hL.at (i := 9) rfl) (k H locs ls hP hS hL)
theorem g_iload_10 (E : Ev p s m args meth c cc nL own A0 D cA ad N Z) {a0 a1 a2 a3 a4 a5 a6 a7 a8 a9 : Option Value} {ot : List (Option Value)} {x : Int} (d : Dc cc pc (.iload 10) 2 pc') (k : G p l e R s m args below meth c nL A0 D cA ad sh N cells slots Q σ pc' (a0 :: a1 :: a2 :: a3 :: a4 :: a5 :: a6 :: a7 :: a8 :: a9 :: some (vI x) :: ot) (vI x :: st)) : G p l e R s m args below meth c nL A0 D cA ad sh N cells slots Q σ pc (a0 :: a1 :: a2 :: a3 :: a4 :: a5 :: a6 :: a7 :: a8 :: a9 :: some (vI x) :: ot) st := by
  obtain ⟨⟨hx, hb, hml, hown, hts⟩, hK, hA, hAa, hAq, hlk, hZx⟩ := E
  obtain ⟨d, rfl⟩ := d
  intro H locs ls hP hS hL
  exact lv_iload hx hb d (hL.at (i := 10) rfl) (k H locs ls hP hS hL)
theorem g_iload_11 (E : Ev p s m args meth c cc nL own A0 D cA ad N Z) {a0 a1 a2 a3 a4 a5 a6 a7 a8 a9 a10 : Option Value} {ot : List (Option Value)} {x : Int} (d : Dc cc pc (.iload 11) 2 pc') (k : G p l e R s m args below meth c nL A0 D cA ad sh N cells slots Q σ pc' (a0 :: a1 :: a2 :: a3 :: a4 :: a5 :: a6 :: a7 :: a8 :: a9 :: a10 :: some (vI x) :: ot) (vI x :: st)) : G p l e R s m args below meth c nL A0 D cA ad sh N cells slots Q σ pc (a0 :: a1 :: a2 :: a3 :: a4 :: a5 :: a6 :: a7 :: a8 :: a9 :: a10 :: some (vI x) :: ot) st := by
  obtain ⟨⟨hx, hb, hml, hown, hts⟩, hK, hA, hAa, hAq, hlk, hZx⟩ := E
  obtain ⟨d, rfl⟩ := d
  intro H locs ls hP hS hL
  exact lv_iload hx hb d (hL.at (i := 11) rfl) (k H locs ls hP hS hL)
theorem g_iload_12 (E : Ev p s m args meth c cc nL own A0 D cA ad N Z) {a0 a1 a2 a3 a4 a5 a6 a7 a8 a9 a10 a11 : Option Value} {ot : List (Option Value)} {x : Int} (d : Dc cc pc (.iload 12) 2 pc') (k : G p l e R s m args below meth c nL A0 D cA ad sh N cells slots Q σ pc' (a0 :: a1 :: a2 :: a3 :: a4 :: a5 :: a6 :: a7 :: a8 :: a9 :: a10 :: a11 :: some (vI x) :: ot) (vI x :: st)) : G p l e R s m args below meth c nL A0 D cA ad sh N cells slots Q σ pc (a0 :: a1 :: a2 :: a3 :: a4 :: a5 :: a6 :: a7 :: a8 :: a9 :: a10 :: a11 :: some (vI x) :: ot) st := by
  obtain ⟨⟨hx, hb, hml, hown, hts⟩, hK, hA, hAa, hAq, hlk, hZx⟩ := E
  obtain ⟨d, rfl⟩ := d
  intro H locs ls hP hS hL
  exact lv_iload hx hb d (hL.at (i := 12) rfl) (k H locs ls hP hS hL)
theorem g_iload_13 (E : Ev p s m args meth c cc nL own A0 D cA ad N Z) {a0 a1 a2 a3 a4 a5 a6 a7 a8 a9 a10 a11 a12 : Option Value} {ot : List (Option Value)} {x : Int} (d : Dc cc pc (.iload 13) 2 pc') (k : G p l e R s m args below meth c nL A0 D cA ad sh N cells slots Q σ pc' (a0 :: a1 :: a2 :: a3 :: a4 :: a5 :: a6 :: a7 :: a8 :: a9 :: a10 :: a11 :: a12 :: some (vI x) :: ot) (vI x :: st)) : G p l e R s m args below meth c nL A0 D cA ad sh N cells slots Q σ pc (a0 :: a1 :: a2 :: a3 :: a4 :: a5 :: a6 :: a7 :: a8 :: a9 :: a10 :: a11 :: a12 :: some (vI x) :: ot) st := by
  obtain ⟨⟨hx, hb, hml, hown, hts⟩, hK, hA, hAa, hAq, hlk, hZx⟩ := E
  obtain ⟨d, rfl⟩ := d
  intro H locs ls hP hS hL
  exact lv_iload hx hb d (hL.at (i := 13) rfl) (k H locs ls hP hS hL)
theorem g_iload_14 (E : Ev p s m args meth c cc nL own A0 D cA ad N Z) {a0 a1 a2 a3 a4 a5 a6 a7 a8 a9 a10 a11 a12 a13 : Option Value} {ot : List (Option Value)} {x : Int} (d : Dc cc pc (.iload 14) 2 pc') (k : G p l e R s m args below meth c nL A0 D cA ad sh N cells slots Q σ pc' (a0 :: a1 :: a2 :: a3 :: a4 :: a5 :: a6 :: a7 :: a8 :: a9 :: a10 :: a11 :: a12 :: a13 :: some (vI x) :: ot) (vI x :: st)) : G p l e R s m args below meth c nL A0 D cA ad sh N cells slots Q σ pc (a0 :: a1 :: a2 :: a3 :: a4 :: a5 :: a6 :: a7 :: a8 :: a9 :: a10 :: a11 :: a12 :: a13 :: some (vI x) :: ot) st := by
  obtain ⟨⟨hx, hb, hml, hown, hts⟩, hK, hA, hAa, hAq, hlk, hZx⟩ := E
  obtain ⟨d, rfl⟩ := d
  intro H locs ls hP hS hL
  exact lv_iload hx hb d (hL.at (i := 14) rfl) (k H locs ls hP hS hL)
theorem g_iload_15 (E : Ev p s m args meth c cc nL own A0 D cA ad N Z) {a0 a1 a2 a3 a4 a5 a6 a7 a8 a9 a10 a11 a12 a13 a14 : Option Value} {ot : List (Option Value)} {x : Int} (d : Dc cc pc (.iload 15) 2 pc') (k : G p l e R s m args below meth c nL A0 D cA ad sh N cells slots Q σ pc' (a0 :: a1 :: a2 :: a3 :: a4 :: a5 :: a6 :: a7 :: a8 :: a9 :: a10 :: a11 :: a12 :: a13 :: a14 :: some (vI x) :: ot) (vI x :: st)) : G p l e R s m args below meth c nL A0 D cA ad sh N cells slots Q σ pc (a0 :: a1 :: a2 :: a3 :: a4 :: a5 :: a6 :: a7 :: a8 :: a9 :: a10 :: a11 :: a12 :: a13 :: a14 :: some (vI x) :: ot) st := by
  obtain ⟨⟨hx, hb, hml, hown, hts⟩, hK, hA, hAa, hAq, hlk, hZx⟩ := E
  obtain ⟨d, rfl⟩ := d
  intro H locs ls hP hS hL
  exact lv_iload hx hb d (hL.at (i := 15) rfl) (k H locs ls hP hS hL)
theorem g_lload_0 (E : Ev p s m args meth c cc nL own A0 D cA ad N Z) {ot : List (Option Value)} {x : Int} (d : Dc cc pc (.lload_n 0) 1 pc') (k : G p l e R s m args below meth c nL A0 D cA ad sh N cells slots Q σ pc' (some (vL x) :: ot) (vL x :: st)) : G p l e R s m args below meth c nL A0 D cA ad sh N cells slots Q σ pc (some (vL x) :: ot) st := by
  obtain ⟨⟨hx, hb, hml, hown, hts⟩, hK, hA, hAa, hAq, hlk, hZx⟩ := E
  obtain ⟨d, rfl⟩ := d
  intro H locs ls hP hS hL
  exact lv_lload_n hx hb d rfl (hL.at (i := 0) rfl) (k H locs ls hP hS hL)
theorem g_lload_1 (E : Ev p s m args meth c cc nL own A0 D cA ad N Z) {a0 : Option Value} {ot : List (Option Value)} {x : Int} (d : Dc cc pc (.lload_n 1) 1 pc') (k : G p l e R s m args below meth c nL A0 D cA ad sh N cells slots Q σ pc' (a0 :: some (vL x) :: ot) (vL x :: st)) : G p l e R s m args below meth c nL A0 D cA ad sh N cells slots Q σ pc (a0 :: some (vL x) :: ot) st := by
  obtain ⟨⟨hx, hb, hml, hown, hts⟩, hK, hA, hAa, hAq, hlk, hZx⟩ := E
  obtain ⟨d, rfl⟩ := d
  intro H locs ls hP hS hL
  exact lv_lload_n hx hb d rfl (hL.at (i := 1) rfl) (k H locs ls hP hS hL)
theorem g_lload_2 (E : Ev p s m args meth c cc nL own A0 D cA ad N Z) {a0 a1 : Option Value} {ot : List (Option Value)} {x : Int} (d : Dc cc pc (.lload_n 2) 1 pc') (k : G p l e R s m args below meth c nL A0 D cA ad sh N cells slots Q σ pc' (a0 :: a1 :: some (vL x) :: ot) (vL x :: st)) : G p l e R s m args below meth c nL A0 D cA ad sh N cells slots Q σ pc (a0 :: a1 :: some (vL x) :: ot) st := by
  obtain ⟨⟨hx, hb, hml, hown, hts⟩, hK, hA, hAa, hAq, hlk, hZx⟩ := E
  obtain ⟨d, rfl⟩ := d
  intro H locs ls hP hS hL
  exact lv_lload_n hx hb d rfl (hL.at (i := 2) rfl) (k H locs ls hP hS hL)
theorem g_lload_3 (E : Ev p s m args meth c cc nL own A0 D cA ad N Z) {a0 a1 a2 : Option Value} {ot : List (Option Value)} {x : Int} (d : Dc cc pc (.lload_n 3) 1 pc') (k : G p l e R s m args below meth c nL A0 D cA ad sh N cells slots Q σ pc' (a0 :: a1 :: a2 :: some (vL x) :: ot) (vL x :: st)) : G p l e R s m args below meth c nL A0 D cA ad sh N cells slots Q σ pc (a0 :: a1 :: a2 :: some (vL x) :: ot) st := by
  obtain ⟨⟨hx, hb, hml, hown, hts⟩, hK, hA, hAa, hAq, hlk, hZx⟩ := E
  obtain ⟨d, rfl⟩ := d
  intro H locs ls hP hS hL
  exact lv_lload_n hx hb d rfl (hL.at (i := 3) rfl) (k H locs ls hP hS hL)
theorem g_lload_4 (E : Ev p s m args meth c cc nL own A0 D cA ad N Z) {a0 a1 a2 a3 : Option Value} {ot : List (Option Value)} {x : Int} (d : Dc cc pc (.lload 4) 2 pc') (k : G p l e R s m args below meth c nL A0 D cA ad sh N cells slots Q σ pc' (a0 :: a1 :: a2 :: a3 :: some (vL x) :: ot) (vL x :: st)) : G p l e R s m args below meth c nL A0 D cA ad sh N cells slots Q σ pc (a0 :: a1 :: a2 :: a3 :: some (vL x) :: ot) st := by
  obtain ⟨⟨hx, hb, hml, hown, hts⟩, hK, hA, hAa, hAq, hlk, hZx⟩ := E
  obtain ⟨d, rfl⟩ := d
  intro H locs ls hP hS hL
  exact lv_lload hx hb d (hL.at (i := 4) rfl) (k H locs ls hP hS hL)
theorem g_lload_5 (E : Ev p s m args meth c cc nL own A0 D cA ad N Z) {a0 a1 a2 a3 a4 : Option Value} {ot : List (Option Value)} {x : Int} (d : Dc cc pc (.lload 5) 2 pc') (k : G p l e R s m args below meth c nL A0 D cA ad sh N cells slots Q σ pc' (a0 :: a1 :: a2 :: a3 :: a4 :: some (vL x) :: ot) (vL x :: st)) : G p l e R s m args below meth c nL A0 D cA ad sh N cells slots Q σ pc (a0 :: a1 :: a2 :: a3 :: a4 :: some (vL x) :: ot) st := by
  obtain ⟨⟨hx, hb, hml, hown, hts⟩, hK, hA, hAa, hAq, hlk, hZx⟩ := E
  obtain ⟨d, rfl⟩ := d
  intro H locs ls hP hS hL
  exact lv_lload hx hb d (hL.at (i := 5) rfl) (k H locs ls hP hS hL)
theorem g_lload_6 (E : Ev p s m args meth c cc nL own A0 D cA ad N Z) {a0 a1 a2 a3 a4 a5 : Option Value} {ot : List (Option Value)} {x : Int} (d : Dc cc pc (.lload 6) 2 pc') (k : G p l e R s m args below meth c nL A0 D cA ad sh N cells slots Q σ pc' (a0 :: a1 :: a2 :: a3 :: a4 :: a5 :: some (vL x) :: ot) (vL x :: st)) : G p l e R s m args below meth c nL A0 D cA ad sh N cells slots Q σ pc (a0 :: a1 :: a2 :: a3 :: a4 :: a5 :: some (vL x) :: ot) st := by
  obtain ⟨⟨hx, hb, hml, hown, hts⟩, hK, hA, hAa, hAq, hlk, hZx⟩ := E
  obtain ⟨d, rfl⟩ := d
  intro H locs ls hP hS hL
  exact lv_lload hx hb d (hL.at (i := 6) rfl) (k H locs ls hP hS hL)
theorem g_lload_7 (E : Ev p s m args meth c cc nL own A0 D cA ad N Z) {a0 a1 a2 a3 a4 a5 a6 : Option Value} {ot : List (Option Value)} {x : Int} (d : Dc cc pc (.lload 7) 2 pc') (k : G p l e R s m args below meth c nL A0 D cA ad sh N cells slots Q σ pc' (a0 :: a1 :: a2 :: a3 :: a4 :: a5 :: a6 :: some (vL x) :: ot) (vL x :: st)) : G p l e R s m args below meth c nL A0 D cA ad sh N cells slots Q σ pc (a0 :: a1 :: a2 :: a3 :: a4 :: a5 :: a6 :: some (vL x) :: ot) st := by
  obtain ⟨⟨hx, hb, hml, hown, hts⟩, hK, hA, hAa, hAq, hlk, hZx⟩ := E
  obtain ⟨d, rfl⟩ := d
  intro H locs ls hP hS hL
  exact lv_lload hx hb d (hL.at (i := 7) rfl) (k H locs ls hP hS hL)
theorem g_lload_8 (E : Ev p s m args meth c cc nL own A0 D cA ad N Z) {a0 a1 a2 a3 a4 a5 a6 a7 : Option Value} {ot : List (Option Value)} {x : Int} (d : Dc cc pc (.lload 8) 2 pc') (k : G p l e R s m args below meth c nL A0 D cA ad sh N cells slots Q σ pc' (a0 :: a1 :: a2 :: a3 :: a4 :: a5 :: a6 :: a7 :: some (vL x) :: ot) (vL x :: st)) : G p l e R s m args below meth c nL A0 D cA ad sh N cells slots Q σ pc (a0 :: a1 :: a2 :: a3 :: a4 :: a5 :: a6 :: a7 :: some (vL x) :: ot) st := by
  obtain ⟨⟨hx, hb, hml, hown, hts⟩, hK, hA, hAa, hAq, hlk, hZx⟩ := E
  obtain ⟨d, rfl⟩ := d
  intro H locs ls hP hS hL
  exact lv_lload hx hb d (hL.at (i := 8) rfl) (k H locs ls hP hS hL)
theorem g_lload_9 (E : Ev p s m args meth c cc nL own A0 D cA ad N Z) {a0 a1 a2 a3 a4 a5 a6 a7 a8 : Option Value} {ot : List (Option Value)} {x : Int} (d : Dc cc pc (.lload 9) 2 pc') (k : G p l e R s m args below meth c nL A0 D cA ad sh N cells slots Q σ pc' (a0 :: a1 :: a2 :: a3 :: a4 :: a5 :: a6 :: a7 :: a8 :: some (vL x) :: ot) (vL x :: st)) : G p l e R s m args below meth c nL A0 D cA ad sh N cells slots Q σ pc (a0 :: a1 :: a2 :: a3 :: a4 :: a5 :: a6 :: a7 :: a8 :: some (vL x) :: ot) st := by
  obtain ⟨⟨hx, hb, hml, hown, hts⟩, hK, hA, hAa, hAq, hlk, hZx⟩ := E
  obtain ⟨d, rfl⟩ := d
  intro H locs ls hP hS hL
  exact lv_lload hx hb d (hL.at (i := 9) rfl) (k H locs ls hP hS hL)
theorem g_lload_10 (E : Ev p s m args meth c cc nL own A0 D cA ad N Z) {a0 a1 a2 a3 a4 a5 a6 a7 a8 a9 : Option Value} {ot : List (Option Value)} {x : Int} (d : Dc cc pc (.lload 10) 2 pc') (k : G p l e R s m args below meth c nL A0 D cA ad sh N cells slots Q σ pc' (a0 :: a1 :: a2 :: a3 :: a4 :: a5 :: a6 :: a7 :: a8 :: a9 :: some (vL x) :: ot) (vL x :: st)) : G p l e R s m args below meth c nL A0 D cA ad sh N cells slots Q σ pc (a0 :: a1 :: a2 :: a3 :: a4 :: a5 :: a6 :: a7 :: a8 :: a9 :: some (vL x) :: ot) st := by
  obtain ⟨⟨hx, hb, hml, hown, hts⟩, hK, hA, hAa, hAq, hlk, hZx⟩ := E
  obtain ⟨d, rfl⟩ := d
  intro H locs ls hP hS hL
  exact lv_lload hx hb d (hL.at (i := 10) rfl) (k H locs ls hP hS hL)
theorem g_lload_11 (E : Ev p s m args meth c cc nL own A0 D cA ad N Z) {a0 a1 a2 a3 a4 a5 a6 a7 a8 a9 a10 : Option Value} {ot : List (Option Value)} {x : Int} (d : Dc cc pc (.lload 11) 2 pc') (k : G p l e R s m args below meth c nL A0 D cA ad sh N cells slots Q σ pc' (a0 :: a1 :: a2 :: a3 :: a4 :: a5 :: a6 :: a7 :: a8 :: a9 :: a10 :: some (vL x) :: ot) (vL x :: st)) : G p l e R s m args below meth c nL A0 D cA ad sh N cells slots Q σ pc (a0 :: a1 :: a2 :: a3 :: a4 :: a5 :: a6 :: a7 :: a8 :: a9 :: a10 :: some (vL x) :: ot) st := by
  obtain ⟨⟨hx, hb, hml, hown, hts⟩, hK, hA, hAa, hAq, hlk, hZx⟩ := E
  obtain ⟨d, rfl⟩ := d
  intro H locs ls hP hS hL
  exact lv_lload hx hb d (hL.at (i := 11) rfl) (k H locs ls hP hS hL)
theorem g_lload_12 (E : Ev p s m args meth c cc nL own A0 D cA ad N Z) {a0 a1 a2 a3 a4 a5 a6 a7 a8 a9 a10 a11 : Option Value} {ot : List (Option Value)} {x : Int} (d : Dc cc pc (.lload 12) 2 pc') (k : G p l e R s m args below meth c nL A0 D cA ad sh N cells slots Q σ pc' (a0 :: a1 :: a2 :: a3 :: a4 :: a5 :: a6 :: a7 :: a8 :: a9 :: a10 :: a11 :: some (vL x) :: ot) (vL x :: st)) : G p l e R s m args below meth c nL A0 D cA ad sh N cells slots Q σ pc (a0 :: a1 :: a2 :: a3 :: a4 :: a5 :: a6 :: a7 :: a8 :: a9 :: a10 :: a11 :: some (vL x) :: ot) st := by
  obtain ⟨⟨hx, hb, hml, hown, hts⟩, hK, hA, hAa, hAq, hlk, hZx⟩ := E
  obtain ⟨d, rfl⟩ := d
  intro H locs ls hP hS hL
  exact lv_lload hx hb d (hL.at (i := 12) rfl) (k H locs ls hP hS hL)
theorem g_lload_13 (E : Ev p s m args meth c cc nL own A0 D cA ad N Z) {a0 a1 a2 a3 a4 a5 a6 a7 a8 a9 a10 a11 a12 : Option Value} {ot : List (Option Value)} {x : Int} (d : Dc cc pc (.lload 13) 2 pc') (k : G p l e R s m args below meth c nL A0 D cA ad sh N cells slots Q σ pc' (a0 :: a1 :: a2 :: a3 :: a4 :: a5 :: a6 :: a7 :: a8 :: a9 :: a10 :: a11 :: a12 :: some (vL x) :: ot) (vL x :: st)) : G p l e R s m args below meth c nL A0 D cA ad sh N cells slots Q σ pc (a0 :: a1 :: a2 :: a3 :: a4 :: a5 :: a6 :: a7 :: a8 :: a9 :: a10 :: a11 :: a12 :: some (vL x) :: ot) st := by
  obtain ⟨⟨hx, hb, hml, hown, hts⟩, hK, hA, hAa, hAq, hlk, hZx⟩ := E
  obtain ⟨d, rfl⟩ := d
  intro H locs ls hP hS hL
  exact lv_lload hx hb d (hL.at (i := 13) rfl) (k H locs ls hP hS hL)
theorem g_lload_14 (E : Ev p s m args meth c cc nL own A0 D cA ad N Z) {a0 a1 a2 a3 a4 a5 a6 a7 a8 a9 a10 a11 a12 a13 : Option Value} {ot : List (Option Value)} {x : Int} (d : Dc cc pc (.lload 14) 2 pc') (k : G p l e R s m args below meth c nL A0 D cA ad sh N cells slots Q σ pc' (a0 :: a1 :: a2 :: a3 :: a4 :: a5 :: a6 :: a7 :: a8 :: a9 :: a10 :: a11 :: a12 :: a13 :: some (vL x) :: ot) (vL x :: st)) : G p l e R s m args below meth c nL A0 D cA ad sh N cells slots Q σ pc (a0 :: a1 :: a2 :: a3 :: a4 :: a5 :: a6 :: a7 :: a8 :: a9 :: a10 :: a11 :: a12 :: a13 :: some (vL x) :: ot) st := by
  obtain ⟨⟨hx, hb, hml, hown, hts⟩, hK, hA, hAa, hAq, hlk, hZx⟩ := E
  obtain ⟨d, rfl⟩ := d
  intro H locs ls hP hS hL
  exact lv_lload hx hb d (hL.at (i := 14) rfl) (k H locs ls hP hS hL)
theorem g_lload_15 (E : Ev p s m args meth c cc nL own A0 D cA ad N Z) {a0 a1 a2 a3 a4 a5 a6 a7 a8 a9 a10 a11 a12 a13 a14 : Option Value} {ot : List (Option Value)} {x : Int} (d : Dc cc pc (.lload 15) 2 pc') (k : G p l e R s m args below meth c nL A0 D cA ad sh N cells slots Q σ pc' (a0 :: a1 :: a2 :: a3 :: a4 :: a5 :: a6 :: a7 :: a8 :: a9 :: a10 :: a11 :: a12 :: a13 :: a14 :: some (vL x) :: ot) (vL x :: st)) : G p l e R s m args below meth c nL A0 D cA ad sh N cells slots Q σ pc (a0 :: a1 :: a2 :: a3 :: a4 :: a5 :: a6 :: a7 :: a8 :: a9 :: a10 :: a11 :: a12 :: a13 :: a14 :: some (vL x) :: ot) st := by
  obtain ⟨⟨hx, hb, hml, hown, hts⟩, hK, hA, hAa, hAq, hlk, hZx⟩ := E
  obtain ⟨d, rfl⟩ := d
  intro H locs ls hP hS hL
  exact lv_lload hx hb d (hL.at (i := 15) rfl) (k H locs ls hP hS hL)
theorem g_aload_0 (E : Ev p s m args meth c cc nL own A0 D cA ad N Z) {ot : List (Option Value)} {x : Nat} (d : Dc cc pc (.aload_n 0) 1 pc') (k : G p l e R s m args below meth c nL A0 D cA ad sh N cells slots Q σ pc' (some (.ref x) :: ot) (.ref x :: st)) : G p l e R s m args below meth c nL A0 D cA ad sh N cells slots Q σ pc (some (.ref x) :: ot) st := by
  obtain ⟨⟨hx, hb, hml, hown, hts⟩, hK, hA, hAa, hAq, hlk, hZx⟩ := E
  obtain ⟨d, rfl⟩ := d
  intro H locs ls hP hS hL
  exact lv_aload_n hx hb d rfl (hL.at (i := 0) rfl) (k H locs ls hP hS hL)
theorem g_aload_1 (E : Ev p s m args meth c cc nL own A0 D cA ad N Z) {a0 : Option Value} {ot : List (Option Value)} {x : Nat} (d : Dc cc pc (.aload_n 1) 1 pc') (k : G p l e R s m args below meth c nL A0 D cA ad sh N cells slots Q σ pc' (a0 :: some (.ref x) :: ot) (.ref x :: st)) : G p l e R s m args below meth c nL A0 D cA ad sh N cells slots Q σ pc (a0 :: some (.ref x) :: ot) st := by
  obtain ⟨⟨hx, hb, hml, hown, hts⟩, hK, hA, hAa, hAq, hlk, hZx⟩ := E
  obtain ⟨d, rfl⟩ := d
  intro H locs ls hP hS hL
  exact lv_aload_n hx hb d rfl (hL.at (i := 1) rfl) (k H locs ls hP hS hL)
theorem g_aload_2 (E : Ev p s m args meth c cc nL own A0 D cA ad N Z) {a0 a1 : Option Value} {ot : List (Option Value)} {x : Nat} (d : Dc cc pc (.aload_n 2) 1 pc') (k : G p l e R s m args below meth c nL A0 D cA ad sh N cells slots Q σ pc' (a0 :: a1 :: some (.ref x) :: ot) (.ref x :: st)) : G p l e R s m args below meth c nL A0 D cA ad sh N cells slots Q σ pc (a0 :: a1 :: some (.ref x) :: ot) st := by
  obtain ⟨⟨hx, hb, hml, hown, hts⟩, hK, hA, hAa, hAq, hlk, hZx⟩ := E
  obtain ⟨d, rfl⟩ := d
  intro H locs ls hP hS hL
  exact lv_aload_n hx hb d rfl (hL.at (i := 2) rfl) (k H locs ls hP hS hL)
theorem g_aload_3 (E : Ev p s m args meth c cc nL own A0 D cA ad N Z) {a0 a1 a2 : Option Value} {ot : List (Option Value)} {x : Nat} (d : Dc cc pc (.aload_n 3) 1 pc') (k : G p l e R s m args below meth c nL A0 D cA ad sh N cells slots Q σ pc' (a0 :: a1 :: a2 :: some (.ref x) :: ot) (.ref x :: st)) : G p l e R s m args below meth c nL A0 D cA ad sh N cells slots Q σ pc (a0 :: a1 :: a2 :: some (.ref x) :: ot) st := by
  obtain ⟨⟨hx, hb, hml, hown, hts⟩, hK, hA, hAa, hAq, hlk, hZx⟩ := E
  obtain ⟨d, rfl⟩ := d
  intro H locs ls hP hS hL
  exact lv_aload_n hx hb d rfl (hL.at (i := 3) rfl) (k H locs ls hP hS hL)
theorem g_aload_4 (E : Ev p s m args meth c cc nL own A0 D cA ad N Z) {a0 a1 a2 a3 : Option Value} {ot : List (Option Value)} {x : Nat} (d : Dc cc pc (.aload 4) 2 pc') (k : G p l e R s m args below meth c nL A0 D cA ad sh N cells slots Q σ pc' (a0 :: a1 :: a2 :: a3 :: some (.ref x) :: ot) (.ref x :: st)) : G p l e R s m args below meth c nL A0 D cA ad sh N cells slots Q σ pc (a0 :: a1 :: a2 :: a3 :: some (.ref x) :: ot) st := by
  obtain ⟨⟨hx, hb, hml, hown, hts⟩, hK, hA, hAa, hAq, hlk, hZx⟩ := E
  obtain ⟨d, rfl⟩ := d
  intro H locs ls hP hS hL
  exact lv_aload hx hb d (hL.at (i := 4) rfl) (k H locs ls hP hS hL)
theorem g_aload_5 (E : Ev p s m args meth c cc nL own A0 D cA ad N Z) {a0 a1 a2 a3 a4 : Option Value} {ot : List (Option Value)} {x : Nat} (d : Dc cc pc (.aload 5) 2 pc') (k : G p l e R s m args below meth c nL A0 D cA ad sh N cells slots Q σ pc' (a0 :: a1 :: a2 :: a3 :: a4 :: some (.ref x) :: ot) (.ref x :: st)) : G p l e R s m args below meth c nL A0 D cA ad sh N cells slots Q σ pc (a0 :: a1 :: a2 :: a3 :: a4 :: some (.ref x) :: ot) st := by
  obtain ⟨⟨hx, hb, hml, hown, hts⟩, hK, hA, hAa, hAq, hlk, hZx⟩ := E
  obtain ⟨d, rfl⟩ := d
  intro H locs ls hP hS hL
  exact lv_aload hx hb d (hL.at (i := 5) rfl) (k H locs ls hP hS hL)
theorem g_aload_6 (E : Ev p s m args meth c cc nL own A0 D cA ad N Z) {a0 a1 a2 a3 a4 a5 : Option Value} {ot : List (Option Value)} {x : Nat} (d : Dc cc pc (.aload 6) 2 pc') (k : G p l e R s m args below meth c nL A0 D cA ad sh N cells slots Q σ pc' (a0 :: a1 :: a2 :: a3 :: a4 :: a5 :: some (.ref x) :: ot) (.ref x :: st)) : G p l e R s m args below meth c nL A0 D cA ad sh N cells slots Q σ pc (a0 :: a1 :: a2 :: a3 :: a4 :: a5 :: some (.ref x) :: ot) st := by
  obtain ⟨⟨hx, hb, hml, hown, hts⟩, hK, hA, hAa, hAq, hlk, hZx⟩ := E
  obtain ⟨d, rfl⟩ := d
  intro H locs ls hP hS hL
  exact lv_aload hx hb d (hL.at (i := 6) rfl) (k H locs ls hP hS hL)
theorem g_aload_7 (E : Ev p s m args meth c cc nL own A0 D cA ad N Z) {a0 a1 a2 a3 a4 a5 a6 : Option Value} {ot : List (Option Value)} {x : Nat} (d : Dc cc pc (.aload 7) 2 pc') (k : G p l e R s m args below meth c nL A0 D cA ad sh N cells slots Q σ pc' (a0 :: a1 :: a2 :: a3 :: a4 :: a5 :: a6 :: some (.ref x) :: ot) (.ref x :: st)) : G p l e R s m args below meth c nL A0 D cA ad sh N cells slots Q σ pc (a0 :: a1 :: a2 :: a3 :: a4 :: a5 :: a6 :: some (.ref x) :: ot) st := by
  obtain ⟨⟨hx, hb, hml, hown, hts⟩, hK, hA, hAa, hAq, hlk, hZx⟩ := E
  obtain ⟨d, rfl⟩ := d
  intro H locs ls hP hS hL
  exact lv_aload hx hb d (hL.at (i := 7) rfl) (k H locs ls hP hS hL)
theorem g_aload_8 (E : Ev p s m args meth c cc nL own A0 D cA ad N Z) {a0 a1 a2 a3 a4 a5 a6 a7 : Option Value} {ot : List (Option Value)} {x : Nat} (d : Dc cc pc (.aload 8) 2 pc') (k : G p l e R s m args below meth c nL A0 D cA ad sh N cells slots Q σ pc' (a0 :: a1 :: a2 :: a3 :: a4 :: a5 :: a6 :: a7 :: some (.ref x) :: ot) (.ref x :: st)) : G p l e R s m args below meth c nL A0 D cA ad sh N cells slots Q σ pc (a0 :: a1 :: a2 :: a3 :: a4 :: a5 :: a6 :: a7 :: some (.ref x) :: ot) st := by
  obtain ⟨⟨hx, hb, hml, hown, hts⟩, hK, hA, hAa, hAq, hlk, hZx⟩ := E
  obtain ⟨d, rfl⟩ := d
  intro H locs ls hP hS hL
  exact lv_aload hx hb d (hL.at (i := 8) rfl) (k H locs ls hP hS hL)
theorem g_aload_9 (E : Ev p s m args meth c cc nL own A0 D cA ad N Z) {a0 a1 a2 a3 a4 a5 a6 a7 a8 : Option Value} {ot : List (Option Value)} {x : Nat} (d : Dc cc pc (.aload 9) 2 pc') (k : G p l e R s m args below meth c nL A0 D cA ad sh N cells slots Q σ pc' (a0 :: a1 :: a2 :: a3 :: a4 :: a5 :: a6 :: a7 :: a8 :: some (.ref x) :: ot) (.ref x :: st)) : G p l e R s m args below meth c nL A0 D cA ad sh N cells slots Q σ pc (a0 :: a1 :: a2 :: a3 :: a4 :: a5 :: a6 :: a7 :: a8 :: some (.ref x) :: ot) st := by
  obtain ⟨⟨hx, hb, hml, hown, hts⟩, hK, hA, hAa, hAq, hlk, hZx⟩ := E
  obtain ⟨d, rfl⟩ := d
  intro H locs ls hP hS hL
  exact lv_aload hx hb d (hL.at (i := 9) rfl) (k H locs ls hP hS hL)
theorem g_aload_10 (E : Ev p s m args meth c cc nL own A0 D cA ad N Z) {a0 a1 a2 a3 a4 a5 a6 a7 a8 a9 : Option Value} {ot : List (Option Value)} {x : Nat} (d : Dc cc pc (.aload 10) 2 pc') (k : G p l e R s m args below meth c nL A0 D cA ad sh N cells slots Q σ pc' (a0 :: a1 :: a2 :: a3 :: a4 :: a5 :: a6 :: a7 :: a8 :: a9 :: some (.ref x) :: ot) (.ref x :: st)) : G p l e R s m args below meth c nL A0 D cA ad sh N cells slots Q σ pc (a0 :: a1 :: a2 :: a3 :: a4 :: a5 :: a6 :: a7 :: a8 :: a9 :: some (.ref x) :: ot) st := by
  obtain ⟨⟨hx, hb, hml, hown, hts⟩, hK, hA, hAa, hAq, hlk, hZx⟩ := E
  obtain ⟨d, rfl⟩ := d
  intro H locs ls hP hS hL
  exact lv_aload hx hb d (hL.at (i := 10) rfl) (k H locs ls hP hS hL)
theorem g_aload_11 (E : Ev p s m args meth c cc nL own A0 D cA ad N Z) {a0 a1 a2 a3 a4 a5 a6 a7 a8 a9 a10 : Option Value} {ot : List (Option Value)} {x : Nat} (d : Dc cc pc (.aload 11) 2 pc') (k : G p l e R s m args below meth c nL A0 D cA ad sh N cells slots Q σ pc' (a0 :: a1 :: a2 :: a3 :: a4 :: a5 :: a6 :: a7 :: a8 :: a9 :: a10 :: some (.ref x) :: ot) (.ref x :: st)) : G p l e R s m args below meth c nL A0 D cA ad sh N cells slots Q σ pc (a0 :: a1 :: a2 :: a3 :: a4 :: a5 :: a6 :: a7 :: a8 :: a9 :: a10 :: some (.ref x) :: ot) st := by
  obtain ⟨⟨hx, hb, hml, hown, hts⟩, hK, hA, hAa, hAq, hlk, hZx⟩ := E
  obtain ⟨d, rfl⟩ := d
  intro H locs ls hP hS hL
  exact lv_aload hx hb d (hL.at (i := 11) rfl) (k H locs ls hP hS hL)
theorem g_aload_12 (E : Ev p s m args meth c cc nL own A0 D cA ad N Z) {a0 a1 a2 a3 a4 a5 a6 a7 a8 a9 a10 a11 : Option Value} {ot : List (Option Value)} {x : Nat} (d : Dc cc pc (.aload 12) 2 pc') (k : G p l e R s m args below meth c nL A0 D cA ad sh N cells slots Q σ pc' (a0 :: a1 :: a2 :: a3 :: a4 :: a5 :: a6 :: a7 :: a8 :: a9 :: a10 :: a11 :: some (.ref x) :: ot) (.ref x :: st)) : G p l e R s m args below meth c nL A0 D cA ad sh N cells slots Q σ pc (a0 :: a1 :: a2 :: a3 :: a4 :: a5 :: a6 :: a7 :: a8 :: a9 :: a10 :: a11 :: some (.ref x) :: ot) st := by
  obtain ⟨⟨hx, hb, hml, hown, hts⟩, hK, hA, hAa, hAq, hlk, hZx⟩ := E
  obtain ⟨d, rfl⟩ := d
  intro H locs ls hP hS hL
  exact lv_aload hx hb d (hL.at (i := 12) rfl) (k H locs ls hP hS hL)
theorem g_aload_13 (E : Ev p s m args meth c cc nL own A0 D cA ad N Z) {a0 a1 a2 a3 a4 a5 a6 a7 a8 a9 a10 a11 a12 : Option Value} {ot : List (Option Value)} {x : Nat} (d : Dc cc pc (.aload 13) 2 pc') (k : G p l e R s m args below meth c nL A0 D cA ad sh N cells slots Q σ pc' (a0 :: a1 :: a2 :: a3 :: a4 :: a5 :: a6 :: a7 :: a8 :: a9 :: a10 :: a11 :: a12 :: some (.ref x) :: ot) (.ref x :: st)) : G p l e R s m args below meth c nL A0 D cA ad sh N cells slots Q σ pc (a0 :: a1 :: a2 :: a3 :: a4 :: a5 :: a6 :: a7 :: a8 :: a9 :: a10 :: a11 :: a12 :: some (.ref x) :: ot) st := by
  obtain ⟨⟨hx, hb, hml, hown, hts⟩, hK, hA, hAa, hAq, hlk, hZx⟩ := E
  obtain ⟨d, rfl⟩ := d
  intro H locs ls hP hS hL
  exact lv_aload hx hb d (hL.at (i := 13) rfl) (k H locs ls hP hS hL)
theorem g_aload_14 (E : Ev p s m args meth c cc nL own A0 D cA ad N Z) {a0 a1 a2 a3 a4 a5 a6 a7 a8 a9 a10 a11 a12 a13 : Option Value} {ot : List (Option Value)} {x : Nat} (d : Dc cc pc (.aload 14) 2 pc') (k : G p l e R s m args below meth c nL A0 D cA ad sh N cells slots Q σ pc' (a0 :: a1 :: a2 :: a3 :: a4 :: a5 :: a6 :: a7 :: a8 :: a9 :: a10 :: a11 :: a12 :: a13 :: some (.ref x) :: ot) (.ref x :: st)) : G p l e R s m args below meth c nL A0 D cA ad sh N cells slots Q σ pc (a0 :: a1 :: a2 :: a3 :: a4 :: a5 :: a6 :: a7 :: a8 :: a9 :: a10 :: a11 :: a12 :: a13 :: some (.ref x) :: ot) st := by
  obtain ⟨⟨hx, hb, hml, hown, hts⟩, hK, hA, hAa, hAq, hlk, hZx⟩ := E
  obtain ⟨d, rfl⟩ := d
  intro H locs ls hP hS hL
  exact lv_aload hx hb d (hL.at (i := 14) rfl) (k H locs ls hP hS hL)
theorem g_aload_15 (E : Ev p s m args meth c cc nL own A0 D cA ad N Z) {a0 a1 a2 a3 a4 a5 a6 a7 a8 a9 a10 a11 a12 a13 a14 : Option Value} {ot : List (Option Value)} {x : Nat} (d : Dc cc pc (.aload 15) 2 pc') (k : G p l e R s m args below meth c nL A0 D cA ad sh N cells slots Q σ pc' (a0 :: a1 :: a2 :: a3 :: a4 :: a5 :: a6 :: a7 :: a8 :: a9 :: a10 :: a11 :: a12 :: a13 :: a14 :: some (.ref x) :: ot) (.ref x :: st)) : G p l e R s m args below meth c nL A0 D cA ad sh N cells slots Q σ pc (a0 :: a1 :: a2 :: a3 :: a4 :: a5 :: a6 :: a7 :: a8 :: a9 :: a10 :: a11 :: a12 :: a13 :: a14 :: some (.ref x) :: ot) st := by
  obtain ⟨⟨hx, hb, hml, hown, hts⟩, hK, hA, hAa, hAq, hlk, hZx⟩ := E
  obtain ⟨d, rfl⟩ := d
  intro H locs ls hP hS hL
  exact lv_aload hx hb d (hL.at (i := 15) rfl) (k H locs ls hP hS hL)
theorem g_istore_0 (E : Ev p s m args meth c cc nL own A0 D cA ad N Z) {a0 : Option Value} {ot : List (Option Value)} {x : Int} (hn : 0 < nL) (d : Dc cc pc (.istore_n 0) 1 pc') (k : G p l e R s m args below meth c nL A0 D cA ad sh N cells slots Q σ pc' (some (vI x) :: ot) st) : G p l e R s m args below meth c nL A0 D cA ad sh N cells slots Q σ pc (a0 :: ot) (vI x :: st) := by
  obtain ⟨⟨hx, hb, hml, hown, hts⟩, hK, hA, hAa, hAq, hlk, hZx⟩ := E
  obtain ⟨d, rfl⟩ := d
  intro H locs ls hP hS hL
  exact lv_istore_n hx hb d rfl hL hn rfl (fun ls' hL' => k H locs ls' hP hS (lv_more hL' (lvL_set1 (ol := (a0 :: ot)) (i := 0) rfl)))
theorem g_istore_1 (E : Ev p s m args meth c cc nL own A0 D cA ad N Z) {a0 a1 : Option Value} {ot : List (Option Value)} {x : Int} (ho : okP a0 = true) (hn : 1 < nL) (d : Dc cc pc (.istore_n 1) 1 pc') (k : G p l e R s m args below meth c nL A0 D cA ad sh N cells slots Q σ pc' (a0 :: some (vI x) :: ot) st) : G p l e R s m args below meth c nL A0 D cA ad sh N cells slots Q σ pc (a0 :: a1 :: ot) (vI x :: st) := by
  obtain ⟨⟨hx, hb, hml, hown, hts⟩, hK, hA, hAa, hAq, hlk, hZx⟩ := E
  obtain ⟨d, rfl⟩ := d
  intro H locs ls hP hS hL
  exact lv_istore_n hx hb d rfl hL hn rfl (fun ls' hL' => k H locs ls' hP hS (lv_more hL' (lvL_set1 (ol := (a0 :: a1 :: ot)) (i := 1) ho)))
theorem g_istore_2 (E : Ev p s m args meth c cc nL own A0 D cA ad N Z) {a0 a1 a2 : Option Value} {ot : List (Option Value)} {x : Int} (ho : okP a1 = true) (hn : 2 < nL) (d : Dc cc pc (.istore_n 2) 1 pc') (k : G p l e R s m args below meth c nL A0 D cA ad sh N cells slots Q σ pc' (a0 :: a1 :: some (vI x) :: ot) st) : G p l e R s m args below meth c nL A0 D cA ad sh N cells slots Q σ pc (a0 :: a1 :: a2 :: ot) (vI x :: st) := by
  obtain ⟨⟨hx, hb, hml, hown, hts⟩, hK, hA, hAa, hAq, hlk, hZx⟩ := E
  obtain ⟨d, rfl⟩ := d
  intro H locs ls hP hS hL
  exact lv_istore_n hx hb d rfl hL hn rfl (fun ls' hL' => k H locs ls' hP hS (lv_more hL' (lvL_set1 (ol := (a0 :: a1 :: a2 :: ot)) (i := 2) ho)))
theorem g_istore_3 (E : Ev p s m args meth c cc nL own A0 D cA ad N Z) {a0 a1 a2 a3 : Option Value} {ot : List (Option Value)} {x : Int} (ho : okP a2 = true) (hn : 3 < nL) (d : Dc cc pc (.istore_n 3) 1 pc') (k : G p l e R s m args below meth c nL A0 D cA ad sh N cells slots Q σ pc' (a0 :: a1 :: a2 :: some (vI x) :: ot) st) : G p l e R s m args below meth c nL A0 D cA ad sh N cells slots Q σ pc (a0 :: a1 :: a2 :: a3 :: ot) (vI x :: st) := by
  obtain ⟨⟨hx, hb, hml, hown, hts⟩, hK, hA, hAa, hAq, hlk, hZx⟩ := E
  obtain ⟨d, rfl⟩ := d
  intro H locs ls hP hS hL
  exact lv_istore_n hx hb d rfl hL hn rfl (fun ls' hL' => k H locs ls' hP hS (lv_more hL' (lvL_set1 (ol := (a0 :: a1 :: a2 :: a3 :: ot)) (i := 3) ho)))
theorem g_istore_4 (E : Ev p s m args meth c cc nL own A0 D cA ad N Z) {a0 a1 a2 a3 a4 : Option Value} {ot : List (Option Value)} {x : Int} (ho : okP a3 = true) (hn : 4 < nL) (d : Dc cc pc (.istore 4) 2 pc') (k : G p l e R s m args below meth c nL A0 D cA ad sh N cells slots Q σ pc' (a0 :: a1 :: a2 :: a3 :: some (vI x) :: ot) st) : G p l e R s m args below meth c nL A0 D cA ad sh N cells slots Q σ pc (a0 :: a1 :: a2 :: a3 :: a4 :: ot) (vI x :: st) := by
  obtain ⟨⟨hx, hb, hml, hown, hts⟩, hK, hA, hAa, hAq, hlk, hZx⟩ := E
  obtain ⟨d, rfl⟩ := d
  intro H locs ls hP hS hL
  exact lv_istore hx hb d hL hn rfl (fun ls' hL' => k H locs ls' hP hS (lv_more hL' (lvL_set1 (ol := (a0 :: a1 :: a2 :: a3 :: a4 :: ot)) (i := 4) ho)))
theorem g_istore_5 (E : Ev p s m args meth c cc nL own A0 D cA ad N Z) {a0 a1 a2 a3 a4 a5 : Option Value} {ot : List (Option Value)} {x : Int} (ho : okP a4 = true) (hn : 5 < nL) (d : Dc cc pc (.istore 5) 2 pc') (k : G p l e R s m args below meth c nL A0 D cA ad sh N cells slots Q σ pc' (a0 :: a1 :: a2 :: a3 :: a4 :: some (vI x) :: ot) st) : G p l e R s m args below meth c nL A0 D cA ad sh N cells slots Q σ pc (a0 :: a1 :: a2 :: a3 :: a4 :: a5 :: ot) (vI x :: st) := by
  obtain ⟨⟨hx, hb, hml, hown, hts⟩, hK, hA, hAa, hAq, hlk, hZx⟩ := E
  obtain ⟨d, rfl⟩ := d
  intro H locs ls hP hS hL
  exact lv_istore hx hb d hL hn rfl (fun ls' hL' => k H locs ls' hP hS (lv_more hL' (lvL_set1 (ol := (a0 :: a1 :: a2 :: a3 :: a4 :: a5 :: ot)) (i := 5) ho)))
theorem g_istore_6 (E : Ev p s m args meth c cc nL own A0 D cA ad N Z) {a0 a1 a2 a3 a4 a5 a6 : Option Value} {ot : List (Option Value)} {x : Int} (ho : okP a5 = true) (hn : 6 < nL) (d : Dc cc pc (.istore 6) 2 pc') (k : G p l e R s m args below meth c nL A0 D cA ad sh N cells slots Q σ pc' (a0 :: a1 :: a2 :: a3 :: a4 :: a5 :: some (vI x) :: ot) st) : G p l e R s m args below meth c nL A0 D cA ad sh N cells slots Q σ pc (a0 :: a1 :: a2 :: a3 :: a4 :: a5 :: a6 :: ot) (vI x :: st) := by
  obtain ⟨⟨hx, hb, hml, hown, hts⟩, hK, hA, hAa, hAq, hlk, hZx⟩ := E
  obtain ⟨d, rfl⟩ := d
  intro H locs ls hP hS hL
  exact lv_istore hx hb d hL hn rfl (fun ls' hL' => k H locs ls' hP hS (lv_more hL' (lvL_set1 (ol := (a0 :: a1 :: a2 :: a3 :: a4 :: a5 :: a6 :: ot)) (i := 6) ho)))
theorem g_istore_7 (E : Ev p s m args meth c cc nL own A0 D cA ad N Z) {a0 a1 a2 a3 a4 a5 a6 a7 : Option Value} {ot : List (Option Value)} {x : Int} (ho : okP a6 = true) (hn : 7 < nL) (d : Dc cc pc (.istore 7) 2 pc') (k : G p l e R s m args below meth c nL A0 D cA ad sh N cells slots Q σ pc' (a0 :: a1 :: a2 :: a3 :: a4 :: a5 :: a6 :: some (vI x) :: ot) st) : G p l e R s m args below meth c nL A0 D cA ad sh N cells slots Q σ pc (a0 :: a1 :: a2 :: a3 :: a4 :: a5 :: a6 :: a7 :: ot) (vI x :: st) := by
  obtain ⟨⟨hx, hb, hml, hown, hts⟩, hK, hA, hAa, hAq, hlk, hZx⟩ := E
  obtain ⟨d, rfl⟩ := d
  intro H locs ls hP hS hL
  exact lv_istore hx hb d hL hn rfl (fun ls' hL' => k H locs ls' hP hS (lv_more hL' (lvL_set1 (ol := (a0 :: a1 :: a2 :: a3 :: a4 :: a5 :: a6 :: a7 :: ot)) (i := 7) ho)))
theorem g_istore_8 (E : Ev p s m args meth c cc nL own A0 D cA ad N Z) {a0 a1 a2 a3 a4 a5 a6 a7 a8 : Option Value} {ot : List (Option Value)} {x : Int} (ho : okP a7 = true) (hn : 8 < nL) (d : Dc cc pc (.istore 8) 2 pc') (k : G p l e R s m args below meth c nL A0 D cA ad sh N cells slots Q σ pc' (a0 :: a1 :: a2 :: a3 :: a4 :: a5 :: a6 :: a7 :: some (vI x) :: ot) st) : G p l e R s m args below meth c nL A0 D cA ad sh N cells slots Q σ pc (a0 :: a1 :: a2 :: a3 :: a4 :: a5 :: a6 :: a7 :: a8 :: ot) (vI x :: st) := by
  obtain ⟨⟨hx, hb, hml, hown, hts⟩, hK, hA, hAa, hAq, hlk, hZx⟩ := E
  obtain ⟨d, rfl⟩ := d
  intro H locs ls hP hS hL
  exact lv_istore hx hb d hL hn rfl (fun ls' hL' => k H locs ls' hP hS (lv_more hL' (lvL_set1 (ol := (a0 :: a1 :: a2 :: a3 :: a4 :: a5 :: a6 :: a7 :: a8 :: ot)) (i := 8) ho)))
theorem g_istore_9 (E : Ev p s m args meth c cc nL own A0 D cA ad N Z) {a0 a1 a2 a3 a4 a5 a6 a7 a8 a9 : Option Value} {ot : List (Option Value)} {x : Int} (ho : okP a8 = true) (hn : 9 < nL) (d : Dc cc pc (.istore 9) 2 pc') (k : G p l e R s m args below meth c nL A0 D cA ad sh N cells slots Q σ pc' (a0 :: a1 :: a2 :: a3 :: a4 :: a5 :: a6 :: a7 :: a8 :: some (vI x) :: ot) st) : G p l e R s m args below meth c nL A0 D cA ad sh N cells slots Q σ pc (a0 :: a1 :: a2 :: a3 :: a4 :: a5 :: a6 :: a7 :: a8 :: a9 :: ot) (vI x :: st) := by
  obtain ⟨⟨hx, hb, hml, hown, hts⟩, hK, hA, hAa, hAq, hlk, hZx⟩ := E
  obtain ⟨d, rfl⟩ := d
  intro H locs ls hP hS hL
  exact lv_istore hx hb d hL hn rfl (fun ls' hL' => k H locs ls' hP hS (lv_more hL' (lvL_set1 (ol := (a0 :: a1 :: a2 :: a3 :: a4 :: a5 :: a6 :: a7 :: a8 :: a9 :: ot)) (i := 9) ho)))
theorem g_istore_10 (E : Ev p s m args meth c cc nL own A0 D cA ad N Z) {a0 a1 a2 a3 a4 a5 a6 a7 a8 a9 a10 : Option Value} {ot : List (Option Value)} {x : Int} (ho : okP a9 = true) (hn : 10 < nL) (d : Dc cc pc (.istore 10) 2 pc') (k : G p l e R s m args below meth c nL A0 D cA ad sh N cells slots Q σ pc' (a0 :: a1 :: a2 :: a3 :: a4 :: a5 :: a6 :: a7 :: a8 :: a9 :: some (vI x) :: ot) st) : G p l e R s m args below meth c nL A0 D cA ad sh N cells slots Q σ pc (a0 :: a1 :: a2 :: a3 :: a4 :: a5 :: a6 :: a7 :: a8 :: a9 :: a10 :: ot) (vI x :: st) := by
  obtain ⟨⟨hx, hb, hml, hown, hts⟩, hK, hA, hAa, hAq, hlk, hZx⟩ := E
  obtain ⟨d, rfl⟩ := d
  intro H locs ls hP hS hL
  exact lv_istore hx hb d hL hn rfl (fun ls' hL' => k H locs ls' hP hS (lv_more hL' (lvL_set1 (ol := (a0 :: a1 :: a2 :: a3 :: a4 :: a5 :: a6 :: a7 :: a8 :: a9 :: a10 :: ot)) (i := 10) ho)))
theorem g_istore_11 (E : Ev p s m args meth c cc nL own A0 D cA ad N Z) {a0 a1 a2 a3 a4 a5 a6 a7 a8 a9 a10 a11 : Option Value} {ot : List (Option Value)} {x : Int} (ho : okP a10 = true) (hn : 11 < nL) (d : Dc cc pc (.istore 11) 2 pc') (k : G p l e R s m args below meth c nL A0 D cA ad sh N cells slots Q σ pc' (a0 :: a1 :: a2 :: a3 :: a4 :: a5 :: a6 :: a7 :: a8 :: a9 :: a10 :: some (vI x) :: ot) st) : G p l e R s m args below meth c nL A0 D cA ad sh N cells slots Q σ pc (a0 :: a1 :: a2 :: a3 :: a4 :: a5 :: a6 :: a7 :: a8 :: a9 :: a10 :: a11 :: ot) (vI x :: st) := by
  obtain ⟨⟨hx, hb, hml, hown, hts⟩, hK, hA, hAa, hAq, hlk, hZx⟩ := E
  obtain ⟨d, rfl⟩ := d
  intro H locs ls hP hS hL
  exact lv_istore hx hb d hL hn rfl (fun ls' hL' => k H locs ls' hP hS (lv_more hL' (lvL_set1 (ol := (a0 :: a1 :: a2 :: a3 :: a4 :: a5 :: a6 :: a7 :: a8 :: a9 :: a10 :: a11 :: ot)) (i := 11) ho)))
theorem g_istore_12 (E : Ev p s m args meth c cc nL own A0 D cA ad N Z) {a0 a1 a2 a3 a4 a5 a6 a7 a8 a9 a10 a11 a12 : Option Value} {ot : List (Option Value)} {x : Int} (ho : okP a11 = true) (hn : 12 < nL) (d : Dc cc pc (.istore 12) 2 pc') (k : G p l e R s m args below meth c nL A0 D cA ad sh N cells slots Q σ pc' (a0 :: a1 :: a2 :: a3 :: a4 :: a5 :: a6 :: a7 :: a8 :: a9 :: a10 :: a11 :: some (vI x) :: ot) st) : G p l e R s m args below meth c nL A0 D cA ad sh N cells slots Q σ pc (a0 :: a1 :: a2 :: a3 :: a4 :: a5 :: a6 :: a7 :: a8 :: a9 :: a10 :: a11 :: a12 :: ot) (vI x :: st) := by
  obtain ⟨⟨hx, hb, hml, hown, hts⟩, hK, hA, hAa, hAq, hlk, hZx⟩ := E
  obtain ⟨d, rfl⟩ := d
  intro H locs ls hP hS hL
  exact lv_istore hx hb d hL hn rfl (fun ls' hL' => k H locs ls' hP hS (lv_more hL' (lvL_set1 (ol := (a0 :: a1 :: a2 :: a3 :: a4 :: a5 :: a6 :: a7 :: a8 :: a9 :: a10 :: a11 :: a12 :: ot)) (i := 12) ho)))
theorem g_istore_13 (E : Ev p s m args meth c cc nL own A0 D cA ad N Z) {a0 a1 a2 a3 a4 a5 a6 a7 a8 a9 a10 a11 a12 a13 : Option Value} {ot : List (Option Value)} {x : Int} (ho : okP a12 = true) (hn : 13 < nL) (d : Dc cc pc (.istore 13) 2 pc') (k : G p l e R s m args below meth c nL A0 D cA ad sh N cells slots Q σ pc' (a0 :: a1 :: a2 :: a3 :: a4 :: a5 :: a6 :: a7 :: a8 :: a9 :: a10 :: a11 :: a12 :: some (vI x) :: ot) st) : G p l e R s m args below meth c nL A0 D cA ad sh N cells slots Q σ pc (a0 :: a1 :: a2 :: a3 :: a4 :: a5 :: a6 :: a7 :: a8 :: a9 :: a10 :: a11 :: a12 :: a13 :: ot) (vI x :: st) := by
  obtain ⟨⟨hx, hb, hml, hown, hts⟩, hK, hA, hAa, hAq, hlk, hZx⟩ := E
  obtain ⟨d, rfl⟩ := d
  intro H locs ls hP hS hL
  exact lv_istore hx hb d hL hn rfl (fun ls' hL' => k H locs ls' hP hS (lv_more hL' (lvL_set1 (ol := (a0 :: a1 :: a2 :: a3 :: a4 :: a5 :: a6 :: a7 :: a8 :: a9 :: a10 :: a11 :: a12 :: a13 :: ot)) (i := 13) ho)))
theorem g_istore_14 (E : Ev p s m args meth c cc nL own A0 D cA ad N Z) {a0 a1 a2 a3 a4 a5 a6 a7 a8 a9 a10 a11 a12 a13 a14 : Option Value} {ot : List (Option Value)} {x : Int} (ho : okP a13 = true) (hn : 14 < nL) (d : Dc cc pc (.istore 14) 2 pc') (k : G p l e R s m args below meth c nL A0 D cA ad sh N cells slots Q σ pc' (a0 :: a1 :: a2 :: a3 :: a4 :: a5 :: a6 :: a7 :: a8 :: a9 :: a10 :: a11 :: a12 :: a13 :: some (vI x) :: ot) st) : G p l e R s m args below meth c nL A0 D cA ad sh N cells slots Q σ pc (a0 :: a1 :: a2 :: a3 :: a4 :: a5 :: a6 :: a7 :: a8 :: a9 :: a10 :: a11 :: a12 :: a13 :: a14 :: ot) (vI x :: st) := by
  obtain ⟨⟨hx, hb, hml, hown, hts⟩, hK, hA, hAa, hAq, hlk, hZx⟩ := E
  obtain ⟨d, rfl⟩ := d
  intro H locs ls hP hS hL
  exact lv_istore hx hb d hL hn rfl (fun ls' hL' => k H locs ls' hP hS (lv_more hL' (lvL_set1 (ol := (a0 :: a1 :: a2 :: a3 :: a4 :: a5 :: a6 :: a7 :: a8 :: a9 :: a10 :: a11 :: a12 :: a13 :: a14 :: ot)) (i := 14) ho)))
theorem g_istore_15 (E : Ev p s m args meth c cc nL own A0 D cA ad N Z) {a0 a1 a2 a3 a4 a5 a6 a7 a8 a9 a10 a11 a12 a13 a14 a15 : Option Value} {ot : List (Option Value)} {x : Int} (ho : okP a14 = true) (hn : 15 < nL) (d : Dc cc pc (.istore 15) 2 pc') (k : G p l e R s m args below meth c nL A0 D cA ad sh N cells slots Q σ pc' (a0 :: a1 :: a2 :: a3 :: a4 :: a5 :: a6 :: a7 :: a8 :: a9 :: a10 :: a11 :: a12 :: a13 :: a14 :: some (vI x) :: ot) st) : G p l e R s m args below meth c nL A0 D cA ad sh N cells slots Q σ pc (a0 :: a1 :: a2 :: a3 :: a4 :: a5 :: a6 :: a7 :: a8 :: a9 :: a10 :: a11 :: a12 :: a13 :: a14 :: a15 :: ot) (vI x :: st) := by
  obtain ⟨⟨hx, hb, hml, hown, hts⟩, hK, hA, hAa, hAq, hlk, hZx⟩ := E
  obtain ⟨d, rfl⟩ := d
  intro H locs ls hP hS hL
  exact lv_istore hx hb d hL hn rfl (fun ls' hL' => k H locs ls' hP hS (lv_more hL' (lvL_set1 (ol := (a0 :: a1 :: a2 :: a3 :: a4 :: a5 :: a6 :: a7 :: a8 :: a9 :: a10 :: a11 :: a12 :: a13 :: a14 :: a15 :: ot)) (i := 15) ho)))
theorem g_lstore_0 (E : Ev p s m args meth c cc nL own A0 D cA ad N Z) {a0 a1 : Option Value} {ot : List (Option Value)} {x : Int} (hn : 1 < nL) (d : Dc cc pc (.lstore_n 0) 1 pc') (k : G p l e R s m args below meth c nL A0 D cA ad sh N cells slots Q σ pc' (some (vL x) :: none :: ot) st) : G p l e R s m args below meth c nL A0 D cA ad sh N cells slots Q σ pc (a0 :: a1 :: ot) (vL x :: st) := by
  obtain ⟨⟨hx, hb, hml, hown, hts⟩, hK, hA, hAa, hAq, hlk, hZx⟩ := E
  obtain ⟨d, rfl⟩ := d
  intro H locs ls hP hS hL
  exact lv_lstore_n hx hb d rfl hL hn rfl (fun ls' hL' => k H locs ls' hP hS (lv_more hL' (lvL_set2 (ol := (a0 :: a1 :: ot)) (i := 0) rfl)))
theorem g_lstore_1 (E : Ev p s m args meth c cc nL own A0 D cA ad N Z) {a0 a1 a2 : Option Value} {ot : List (Option Value)} {x : Int} (ho : okP a0 = true) (hn : 2 < nL) (d : Dc cc pc (.lstore_n 1) 1 pc') (k : G p l e R s m args below meth c nL A0 D cA ad sh N cells slots Q σ pc' (a0 :: some (vL x) :: none :: ot) st) : G p l e R s m args below meth c nL A0 D cA ad sh N cells slots Q σ pc (a0 :: a1 :: a2 :: ot) (vL x :: st) := by
  obtain ⟨⟨hx, hb, hml, hown, hts⟩, hK, hA, hAa, hAq, hlk, hZx⟩ := E
  obtain ⟨d, rfl⟩ := d
  intro H locs ls hP hS hL
  exact lv_lstore_n hx hb d rfl hL hn rfl (fun ls' hL' => k H locs ls' hP hS (lv_more hL' (lvL_set2 (ol := (a0 :: a1 :: a2 :: ot)) (i := 1) ho)))
theorem g_lstore_2 (E : Ev p s m args meth c cc nL own A0 D cA ad N Z) {a0 a1 a2 a3 : Option Value} {ot : List (Option Value)} {x : Int} (ho : okP a1 = true) (hn : 3 < nL) (d : Dc cc pc (.lstore_n 2) 1 pc') (k : G p l e R s m args below meth c nL A0 D cA ad sh N cells slots Q σ pc' (a0 :: a1 :: some (vL x) :: none :: ot) st) : G p l e R s m args below meth c nL A0 D cA ad sh N cells slots Q σ pc (a0 :: a1 :: a2 :: a3 :: ot) (vL x :: st) := by
  obtain ⟨⟨hx, hb, hml, hown, hts⟩, hK, hA, hAa, hAq, hlk, hZx⟩ := E
  obtain ⟨d, rfl⟩ := d
  intro H locs ls hP hS hL
  exact lv_lstore_n hx hb d rfl hL hn rfl (fun ls' hL' => k H locs ls' hP hS (lv_more hL' (lvL_set2 (ol := (a0 :: a1 :: a2 :: a3 :: ot)) (i := 2) ho)))
theorem g_lstore_3 (E : Ev p s m args meth c cc nL own A0 D cA ad N Z) {a0 a1 a2 a3 a4 : Option Value} {ot : List (Option Value)} {x : Int} (ho : okP a2 = true) (hn : 4 < nL) (d : Dc cc pc (.lstore_n 3) 1 pc') (k : G p l e R s m args below meth c nL A0 D cA ad sh N cells slots Q σ pc' (a0 :: a1 :: a2 :: some (vL x) :: none :: ot) st) : G p l e R s m args below meth c nL A0 D cA ad sh N cells slots Q σ pc (a0 :: a1 :: a2 :: a3 :: a4 :: ot) (vL x :: st) := by
  obtain ⟨⟨hx, hb, hml, hown, hts⟩, hK, hA, hAa, hAq, hlk, hZx⟩ := E
  obtain ⟨d, rfl⟩ := d
  intro H locs ls hP hS hL
  exact lv_lstore_n hx hb d rfl hL hn rfl (fun ls' hL' => k H locs ls' hP hS (lv_more hL' (lvL_set2 (ol := (a0 :: a1 :: a2 :: a3 :: a4 :: ot)) (i := 3) ho)))
theorem g_lstore_4 (E : Ev p s m args meth c cc nL own A0 D cA ad N Z) {a0 a1 a2 a3 a4 a5 : Option Value} {ot : List (Option Value)} {x : Int} (ho : okP a3 = true) (hn : 5 < nL) (d : Dc cc pc (.lstore 4) 2 pc') (k : G p l e R s m args below meth c nL A0 D cA ad sh N cells slots Q σ pc' (a0 :: a1 :: a2 :: a3 :: some (vL x) :: none :: ot) st) : G p l e R s m args below meth c nL A0 D cA ad sh N cells slots Q σ pc (a0 :: a1 :: a2 :: a3 :: a4 :: a5 :: ot) (vL x :: st) := by
  obtain ⟨⟨hx, hb, hml, hown, hts⟩, hK, hA, hAa, hAq, hlk, hZx⟩ := E
  obtain ⟨d, rfl⟩ := d
  intro H locs ls hP hS hL
  exact lv_lstore hx hb d hL hn rfl (fun ls' hL' => k H locs ls' hP hS (lv_more hL' (lvL_set2 (ol := (a0 :: a1 :: a2 :: a3 :: a4 :: a5 :: ot)) (i := 4) ho)))
theorem g_lstore_5 (E : Ev p s m args meth c cc nL own A0 D cA ad N Z) {a0 a1 a2 a3 a4 a5 a6 : Option Value} {ot : List (Option Value)} {x : Int} (ho : okP a4 = true) (hn : 6 < nL) (d : Dc cc pc (.lstore 5) 2 pc') (k : G p l e R s m args below meth c nL A0 D cA ad sh N cells slots Q σ pc' (a0 :: a1 :: a2 :: a3 :: a4 :: some (vL x) :: none :: ot) st) : G p l e R s m args below meth c nL A0 D cA ad sh N cells slots Q σ pc (a0 :: a1 :: a2 :: a3 :: a4 :: a5 :: a6 :: ot) (vL x :: st) := by
  obtain ⟨⟨hx, hb, hml, hown, hts⟩, hK, hA, hAa, hAq, hlk, hZx⟩ := E
  obtain ⟨d, rfl⟩ := d
  intro H locs ls hP hS hL
  exact lv_lstore hx hb d hL hn rfl (fun ls' hL' => k H locs ls' hP hS (lv_more hL' (lvL_set2 (ol := (a0 :: a1 :: a2 :: a3 :: a4 :: a5 :: a6 :: ot)) (i := 5) ho)))
theorem g_lstore_6 (E : Ev p s m args meth c cc nL own A0 D cA ad N Z) {a0 a1 a2 a3 a4 a5 a6 a7 : Option Value} {ot : List (Option Value)} {x : Int} (ho : okP a5 = true) (hn : 7 < nL) (d : Dc cc pc (.lstore 6) 2 pc') (k : G p l e R s m args below meth c nL A0 D cA ad sh N cells slots Q σ pc' (a0 :: a1 :: a2 :: a3 :: a4 :: a5 :: some (vL x) :: none :: ot) st) : G p l e R s m args below meth c nL A0 D cA ad sh N cells slots Q σ pc (a0 :: a1 :: a2 :: a3 :: a4 :: a5 :: a6 :: a7 :: ot) (vL x :: st) := by
  obtain ⟨⟨hx, hb, hml, hown, hts⟩, hK, hA, hAa, hAq, hlk, hZx⟩ := E
  obtain ⟨d, rfl⟩ := d
  intro H locs ls hP hS hL
  exact lv_lstore hx hb d hL hn rfl (fun ls' hL' => k H locs ls' hP hS (lv_more hL' (lvL_set2 (ol := (a0 :: a1 :: a2 :: a3 :: a4 :: a5 :: a6 :: a7 :: ot)) (i := 6) ho)))
theorem g_lstore_7 (E : Ev p s m args meth c cc nL own A0 D cA ad N Z) {a0 a1 a2 a3 a4 a5 a6 a7 a8 : Option Value} {ot : List (Option Value)} {x : Int} (ho : okP a6 = true) (hn : 8 < nL) (d : Dc cc pc (.lstore 7) 2 pc') (k : G p l e R s m args below meth c nL A0 D cA ad sh N cells slots Q σ pc' (a0 :: a1 :: a2 :: a3 :: a4 :: a5 :: a6 :: some (vL x) :: none :: ot) st) : G p l e R s m args below meth c nL A0 D cA ad sh N cells slots Q σ pc (a0 :: a1 :: a2 :: a3 :: a4 :: a5 :: a6 :: a7 :: a8 :: ot) (vL x :: st) := by
  obtain ⟨⟨hx, hb, hml, hown, hts⟩, hK, hA, hAa, hAq, hlk, hZx⟩ := E
  obtain ⟨d, rfl⟩ := d
  intro H locs ls hP hS hL
  exact lv_lstore hx hb d hL hn rfl (fun ls' hL' => k H locs ls' hP hS (lv_more hL' (lvL_set2 (ol := (a0 :: a1 :: a2 :: a3 :: a4 :: a5 :: a6 :: a7 :: a8 :: ot)) (i := 7) ho)))
theorem g_lstore_8 (E : Ev p s m args meth c cc nL own A0 D cA ad N Z) {a0 a1 a2 a3 a4 a5 a6 a7 a8 a9 : Option Value} {ot : List (Option Value)} {x : Int} (ho : okP a7 = true) (hn : 9 < nL) (d : Dc cc pc (.lstore 8) 2 pc') (k : G p l e R s m args below meth c nL A0 D cA ad sh N cells slots Q σ pc' (a0 :: a1 :: a2 :: a3 :: a4 :: a5 :: a6 :: a7 :: some (vL x) :: none :: ot) st) : G p l e R s m args below meth c nL A0 D cA ad sh N cells slots Q σ pc (a0 :: a1 :: a2 :: a3 :: a4 :: a5 :: a6 :: a7 :: a8 :: a9 :: ot) (vL x :: st) := by
  obtain ⟨⟨hx, hb, hml, hown, hts⟩, hK, hA, hAa, hAq, hlk, hZx⟩ := E
  obtain ⟨d, rfl⟩ := d
  intro H locs ls hP hS hL
  exact lv_lstore hx hb d hL hn rfl (fun ls' hL' => k H locs ls' hP hS (lv_more hL' (lvL_set2 (ol := (a0 :: a1 :: a2 :: a3 :: a4 :: a5 :: a6 :: a7 :: a8 :: a9 :: ot)) (i := 8) ho)))
theorem g_lstore_9 (E : Ev p s m args meth c cc nL own A0 D cA ad N Z) {a0 a1 a2 a3 a4 a5 a6 a7 a8 a9 a10 : Option Value} {ot : List (Option Value)} {x : Int} (ho : okP a8 = true) (hn : 10 < nL) (d : Dc cc pc (.lstore 9) 2 pc') (k : G p l e R s m args below meth c nL A0 D cA ad sh N cells slots Q σ pc' (a0 :: a1 :: a2 :: a3 :: a4 :: a5 :: a6 :: a7 :: a8 :: some (vL x) :: none :: ot) st) : G p l e R s m args below meth c nL A0 D cA ad sh N cells slots Q σ pc (a0 :: a1 :: a2 :: a3 :: a4 :: a5 :: a6 :: a7 :: a8 :: a9 :: a10 :: ot) (vL x :: st) := by
  obtain ⟨⟨hx, hb, hml, hown, hts⟩, hK, hA, hAa, hAq, hlk, hZx⟩ := E
  obtain ⟨d, rfl⟩ := d
  intro H locs ls hP hS hL
  exact lv_lstore hx hb d hL hn rfl (fun ls' hL' => k H locs ls' hP hS (lv_more hL' (lvL_set2 (ol := (a0 :: a1 :: a2 :: a3 :: a4 :: a5 :: a6 :: a7 :: a8 :: a9 :: a10 :: ot)) (i := 9) ho)))
theorem g_lstore_10 (E : Ev p s m args meth c cc nL own A0 D cA ad N Z) {a0 a1 a2 a3 a4 a5 a6 a7 a8 a9 a10 a11 : Option Value} {ot : List (Option Value)} {x : Int} (ho : okP a9 = true) (hn : 11 < nL) (d : Dc cc pc (.lstore 10) 2 pc') (k : G p l e R s m args below meth c nL A0 D cA ad sh N cells slots Q σ pc' (a0 :: a1 :: a2 :: a3 :: a4 :: a5 :: a6 :: a7 :: a8 :: a9 :: some (vL x) :: none :: ot) st) : G p l e R s m args below meth c nL A0 D cA ad sh N cells slots Q σ pc (a0 :: a1 :: a2 :: a3 :: a4 :: a5 :: a6 :: a7 :: a8 :: a9 :: a10 :: a11 :: ot) (vL x :: st) := by
  obtain ⟨⟨hx, hb, hml, hown, hts⟩, hK, hA, hAa, hAq, hlk, hZx⟩ := E
  obtain ⟨d, rfl⟩ := d
  intro H locs ls hP hS hL
  exact lv_lstore hx hb d hL hn rfl (fun ls' hL' => k H locs ls' hP hS (lv_more hL' (lvL_set2 (ol := (a0 :: a1 :: a2 :: a3 :: a4 :: a5 :: a6 :: a7 :: a8 :: a9 :: a10 :: a11 :: ot)) (i := 10) ho)))
theorem g_lstore_11 (E : Ev p s m args meth c cc nL own A0 D cA ad N Z) {a0 a1 a2 a3 a4 a5 a6 a7 a8 a9 a10 a11 a12 : Option Value} {ot : List (Option Value)} {x : Int} (ho : okP a10 = true) (hn : 12 < nL) (d : Dc cc pc (.lstore 11) 2 pc') (k : G p l e R s m args below meth c nL A0 D cA ad sh N cells slots Q σ pc' (a0 :: a1 :: a2 :: a3 :: a4 :: a5 :: a6 :: a7 :: a8 :: a9 :: a10 :: some (vL x) :: none :: ot) st) : G p l e R s m args below meth c nL A0 D cA ad sh N cells slots Q σ pc (a0 :: a1 :: a2 :: a3 :: a4 :: a5 :: a6 :: a7 :: a8 :: a9 :: a10 :: a11 :: a12 :: ot) (vL x :: st) := by
  obtain ⟨⟨hx, hb, hml, hown, hts⟩, hK, hA, hAa, hAq, hlk, hZx⟩ := E
  obtain ⟨d, rfl⟩ := d
  intro H locs ls hP hS hL
  exact lv_lstore hx hb d hL hn rfl (fun ls' hL' => k H locs ls' hP hS (lv_more hL' (lvL_set2 (ol := (a0 :: a1 :: a2 :: a3 :: a4 :: a5 :: a6 :: a7 :: a8 :: a9 :: a10 :: a11 :: a12 :: ot)) (i := 11) ho)))
theorem g_lstore_12 (E : Ev p s m args meth c cc nL own A0 D cA ad N Z) {a0 a1 a2 a3 a4 a5 a6 a7 a8 a9 a10 a11 a12 a13 : Option Value} {ot : List (Option Value)} {x : Int} (ho : okP a11 = true) (hn : 13 < nL) (d : Dc cc pc (.lstore 12) 2 pc') (k : G p l e R s m args below meth c nL A0 D cA ad sh N cells slots Q σ pc' (a0 :: a1 :: a2 :: a3 :: a4 :: a5 :: a6 :: a7 :: a8 :: a9 :: a10 :: a11 :: some (vL x) :: none :: ot) st) : G p l e R s m args below meth c nL A0 D cA ad sh N cells slots Q σ pc (a0 :: a1 :: a2 :: a3 :: a4 :: a5 :: a6 :: a7 :: a8 :: a9 :: a10 :: a11 :: a12 :: a13 :: ot) (vL x :: st) := by
  obtain ⟨⟨hx, hb, hml, hown, hts⟩, hK, hA, hAa, hAq, hlk, hZx⟩ := E
  obtain ⟨d, rfl⟩ := d
  intro H locs ls hP hS hL
  exact lv_lstore hx hb d hL hn rfl (fun ls' hL' => k H locs ls' hP hS (lv_more hL' (lvL_set2 (ol := (a0 :: a1 :: a2 :: a3 :: a4 :: a5 :: a6 :: a7 :: a8 :: a9 :: a10 :: a11 :: a12 :: a13 :: ot)) (i := 12) ho)))
theorem g_lstore_13 (E : Ev p s m args meth c cc nL own A0 D cA ad N Z) {a0 a1 a2 a3 a4 a5 a6 a7 a8 a9 a10 a11 a12 a13 a14 : Option Value} {ot : List (Option Value)} {x : Int} (ho : okP a12 = true) (hn : 14 < nL) (d : Dc cc pc (.lstore 13) 2 pc') (k : G p l e R s m args below meth c nL A0 D cA ad sh N cells slots Q σ pc' (a0 :: a1 :: a2 :: a3 :: a4 :: a5 :: a6 :: a7 :: a8 :: a9 :: a10 :: a11 :: a12 :: some (vL x) :: none :: ot) st) : G p l e R s m args below meth c nL A0 D cA ad sh N cells slots Q σ pc (a0 :: a1 :: a2 :: a3 :: a4 :: a5 :: a6 :: a7 :: a8 :: a9 :: a10 :: a11 :: a12 :: a13 :: a14 :: ot) (vL x :: st) := by
  obtain ⟨⟨hx, hb, hml, hown, hts⟩, hK, hA, hAa, hAq, hlk, hZx⟩ := E
  obtain ⟨d, rfl⟩ := d
  intro H locs ls hP hS hL
  exact lv_lstore hx hb d hL hn rfl (fun ls' hL' => k H locs ls' hP hS (lv_more hL' (lvL_set2 (ol := (a0 :: a1 :: a2 :: a3 :: a4 :: a5 :: a6 :: a7 :: a8 :: a9 :: a10 :: a11 :: a12 :: a13 :: a14 :: ot)) (i := 13) ho)))
theorem g_lstore_14 (E : Ev p s m args meth c cc nL own A0 D cA ad N Z) {a0 a1 a2 a3 a4 a5 a6 a7 a8 a9 a10 a11 a12 a13 a14 a15 : Option Value} {ot : List (Option Value)} {x : Int} (ho : okP a13 = true) (hn : 15 < nL) (d : Dc cc pc (.lstore 14) 2 pc') (k : G p l e R s m args below meth c nL A0 D cA ad sh N cells slots Q σ pc' (a0 :: a1 :: a2 :: a3 :: a4 :: a5 :: a6 :: a7 :: a8 :: a9 :: a10 :: a11 :: a12 :: a13 :: some (vL x) :: none :: ot) st) : G p l e R s m args below meth c nL A0 D cA ad sh N cells slots Q σ pc (a0 :: a1 :: a2 :: a3 :: a4 :: a5 :: a6 :: a7 :: a8 :: a9 :: a10 :: a11 :: a12 :: a13 :: a14 :: a15 :: ot) (vL x :: st) := by
  obtain ⟨⟨hx, hb, hml, hown, hts⟩, hK, hA, hAa, hAq, hlk, hZx⟩ := E
  obtain ⟨d, rfl⟩ := d
  intro H locs ls hP hS hL
  exact lv_lstore hx hb d hL hn rfl (fun ls' hL' => k H locs ls' hP hS (lv_more hL' (lvL_set2 (ol := (a0 :: a1 :: a2 :: a3 :: a4 :: a5 :: a6 :: a7 :: a8 :: a9 :: a10 :: a11 :: a12 :: a13 :: a14 :: a15 :: ot)) (i := 14) ho)))
theorem g_lstore_15 (E : Ev p s m args meth c cc nL own A0 D cA ad N Z) {a0 a1 a2 a3 a4 a5 a6 a7 a8 a9 a10 a11 a12 a13 a14 a15 a16 : Option Value} {ot : List (Option Value)} {x : Int} (ho : okP a14 = true) (hn : 16 < nL) (d : Dc cc pc (.lstore 15) 2 pc') (k : G p l e R s m args below meth c nL A0 D cA ad sh N cells slots Q σ pc' (a0 :: a1 :: a2 :: a3 :: a4 :: a5 :: a6 :: a7 :: a8 :: a9 :: a10 :: a11 :: a12 :: a13 :: a14 :: some (vL x) :: none :: ot) st) : G p l e R s m args below meth c nL A0 D cA ad sh N cells slots Q σ pc (a0 :: a1 :: a2 :: a3 :: a4 :: a5 :: a6 :: a7 :: a8 :: a9 :: a10 :: a11 :: a12 :: a13 :: a14 :: a15 :: a16 :: ot) (vL x :: st) := by
  obtain ⟨⟨hx, hb, hml, hown, hts⟩, hK, hA, hAa, hAq, hlk, hZx⟩ := E
  obtain ⟨d, rfl⟩ := d
  intro H locs ls hP hS hL
  exact lv_lstore hx hb d hL hn rfl (fun ls' hL' => k H locs ls' hP hS (lv_more hL' (lvL_set2 (ol := (a0 :: a1 :: a2 :: a3 :: a4 :: a5 :: a6 :: a7 :: a8 :: a9 :: a10 :: a11 :: a12 :: a13 :: a14 :: a15 :: a16 :: ot)) (i := 15) ho)))
theorem g_astore_0 (E : Ev p s m args meth c cc nL own A0 D cA ad N Z) {a0 : Option Value} {ot : List (Option Value)} {x : Nat} (hn : 0 < nL) (d : Dc cc pc (.astore_n 0) 1 pc') (k : G p l e R s m args below meth c nL A0 D cA ad sh N cells slots Q σ pc' (some (.ref x) :: ot) st) : G p l e R s m args below meth c nL A0 D cA ad sh N cells slots Q σ pc (a0 :: ot) (.ref x :: st) := by
  obtain ⟨⟨hx, hb, hml, hown, hts⟩, hK, hA, hAa, hAq, hlk, hZx⟩ := E
  obtain ⟨d, rfl⟩ := d
  intro H locs ls hP hS hL
  exact lv_astore_n hx hb d rfl hL hn rfl (fun ls' hL' => k H locs ls' hP hS (lv_more hL' (lvL_set1 (ol := (a0 :: ot)) (i := 0) rfl)))
theorem g_astore_1 (E : Ev p s m args meth c cc nL own A0 D cA ad N Z) {a0 a1 : Option Value} {ot : List (Option Value)} {x : Nat} (ho : okP a0 = true) (hn : 1 < nL) (d : Dc cc pc (.astore_n 1) 1 pc') (k : G p l e R s m args below meth c nL A0 D cA ad sh N cells slots Q σ pc' (a0 :: some (.ref x) :: ot) st) : G p l e R s m args below meth c nL A0 D cA ad sh N cells slots Q σ pc (a0 :: a1 :: ot) (.ref x :: st) := by
  obtain ⟨⟨hx, hb, hml, hown, hts⟩, hK, hA, hAa, hAq, hlk, hZx⟩ := E
  obtain ⟨d, rfl⟩ := d
  intro H locs ls hP hS hL
  exact lv_astore_n hx hb d rfl hL hn rfl (fun ls' hL' => k H locs ls' hP hS (lv_more hL' (lvL_set1 (ol := (a0 :: a1 :: ot)) (i := 1) ho)))
theorem g_astore_2 (E : Ev p s m args meth c cc nL own A0 D cA ad N Z) {a0 a1 a2 : Option Value} {ot : List (Option Value)} {x : Nat} (ho : okP a1 = true) (hn : 2 < nL) (d : Dc cc pc (.astore_n 2) 1 pc') (k : G p l e R s m args below meth c nL A0 D cA ad sh N cells slots Q σ pc' (a0 :: a1 :: some (.ref x) :: ot) st) : G p l e R s m args below meth c nL A0 D cA ad sh N cells slots Q σ pc (a0 :: a1 :: a2 :: ot) (.ref x :: st) := by
  obtain ⟨⟨hx, hb, hml, hown, hts⟩, hK, hA, hAa, hAq, hlk, hZx⟩ := E
  obtain ⟨d, rfl⟩ := d
  intro H locs ls hP hS hL
  exact lv_astore_n hx hb d rfl hL hn rfl (fun ls' hL' => k H locs ls' hP hS (lv_more hL' (lvL_set1 (ol := (a0 :: a1 :: a2 :: ot)) (i := 2) ho)))
theorem g_astore_3 (E : Ev p s m args meth c cc nL own A0 D cA ad N Z) {a0 a1 a2 a3 : Option Value} {ot : List (Option Value)} {x : Nat} (ho : okP a2 = true) (hn : 3 < nL) (d : Dc cc pc (.astore_n 3) 1 pc') (k : G p l e R s m args below meth c nL A0 D cA ad sh N cells slots Q σ pc' (a0 :: a1 :: a2 :: some (.ref x) :: ot) st) : G p l e R s m args below meth c nL A0 D cA ad sh N cells slots Q σ pc (a0 :: a1 :: a2 :: a3 :: ot) (.ref x :: st) := by
  obtain ⟨⟨hx, hb, hml, hown, hts⟩, hK, hA, hAa, hAq, hlk, hZx⟩ := E
  obtain ⟨d, rfl⟩ := d
  intro H locs ls hP hS hL
  exact lv_astore_n hx hb d rfl hL hn rfl (fun ls' hL' => k H locs ls' hP hS (lv_more hL' (lvL_set1 (ol := (a0 :: a1 :: a2 :: a3 :: ot)) (i := 3) ho)))
theorem g_astore_4 (E : Ev p s m args meth c cc nL own A0 D cA ad N Z) {a0 a1 a2 a3 a4 : Option Value} {ot : List (Option Value)} {x : Nat} (ho : okP a3 = true) (hn : 4 < nL) (d : Dc cc pc (.astore 4) 2 pc') (k : G p l e R s m args below meth c nL A0 D cA ad sh N cells slots Q σ pc' (a0 :: a1 :: a2 :: a3 :: some (.ref x) :: ot) st) : G p l e R s m args below meth c nL A0 D cA ad sh N cells slots Q σ pc (a0 :: a1 :: a2 :: a3 :: a4 :: ot) (.ref x :: st) := by
  obtain ⟨⟨hx, hb, hml, hown, hts⟩, hK, hA, hAa, hAq, hlk, hZx⟩ := E
  obtain ⟨d, rfl⟩ := d
  intro H locs ls hP hS hL
  exact lv_astore hx hb d hL hn rfl (fun ls' hL' => k H locs ls' hP hS (lv_more hL' (lvL_set1 (ol := (a0 :: a1 :: a2 :: a3 :: a4 :: ot)) (i := 4) ho)))
theorem g_astore_5 (E : Ev p s m args meth c cc nL own A0 D cA ad N Z) {a0 a1 a2 a3 a4 a5 : Option Value} {ot : List (Option Value)} {x : Nat} (ho : okP a4 = true) (hn : 5 < nL) (d : Dc cc pc (.astore 5) 2 pc') (k : G p l e R s m args below meth c nL A0 D cA ad sh N cells slots Q σ pc' (a0 :: a1 :: a2 :: a3 :: a4 :: some (.ref x) :: ot) st) : G p l e R s m args below meth c nL A0 D cA ad sh N cells slots Q σ pc (a0 :: a1 :: a2 :: a3 :: a4 :: a5 :: ot) (.ref x :: st) := by
  obtain ⟨⟨hx, hb, hml, hown, hts⟩, hK, hA, hAa, hAq, hlk, hZx⟩ := E
  obtain ⟨d, rfl⟩ := d
  intro H locs ls hP hS hL
  exact lv_astore hx hb d hL hn rfl (fun ls' hL' => k H locs ls' hP hS (lv_more hL' (lvL_set1 (ol := (a0 :: a1 :: a2 :: a3 :: a4 :: a5 :: ot)) (i := 5) ho)))
theorem g_astore_6 (E : Ev p s m args meth c cc nL own A0 D cA ad N Z) {a0 a1 a2 a3 a4 a5 a6 : Option Value} {ot : List (Option Value)} {x : Nat} (ho : okP a5 = true) (hn : 6 < nL) (d : Dc cc pc (.astore 6) 2 pc') (k : G p l e R s m args below meth c nL A0 D cA ad sh N cells slots Q σ pc' (a0 :: a1 :: a2 :: a3 :: a4 :: a5 :: some (.ref x) :: ot) st) : G p l e R s m args below meth c nL A0 D cA ad sh N cells slots Q σ pc (a0 :: a1 :: a2 :: a3 :: a4 :: a5 :: a6 :: ot) (.ref x :: st) := by
  obtain ⟨⟨hx, hb, hml, hown, hts⟩, hK, hA, hAa, hAq, hlk, hZx⟩ := E
  obtain ⟨d, rfl⟩ := d
  intro H locs ls hP hS hL
  exact lv_astore hx hb d hL hn rfl (fun ls' hL' => k H locs ls' hP hS (lv_more hL' (lvL_set1 (ol := (a0 :: a1 :: a2 :: a3 :: a4 :: a5 :: a6 :: ot)) (i := 6) ho)))
theorem g_astore_7 (E : Ev p s m args meth c cc nL own A0 D cA ad N Z) {a0 a1 a2 a3 a4 a5 a6 a7 : Option Value} {ot : List (Option Value)} {x : Nat} (ho : okP a6 = true) (hn : 7 < nL) (d : Dc cc pc (.astore 7) 2 pc') (k : G p l e R s m args below meth c nL A0 D cA ad sh N cells slots Q σ pc' (a0 :: a1 :: a2 :: a3 :: a4 :: a5 :: a6 :: some (.ref x) :: ot) st) : G p l e R s m args below meth c nL A0 D cA ad sh N cells slots Q σ pc (a0 :: a1 :: a2 :: a3 :: a4 :: a5 :: a6 :: a7 :: ot) (.ref x :: st) := by
  obtain ⟨⟨hx, hb, hml, hown, hts⟩, hK, hA, hAa, hAq, hlk, hZx⟩ := E
  obtain ⟨d, rfl⟩ := d
  intro H locs ls hP hS hL
  exact lv_astore hx hb d hL hn rfl (fun ls' hL' => k H locs ls' hP hS (lv_more hL' (lvL_set1 (ol := (a0 :: a1 :: a2 :: a3 :: a4 :: a5 :: a6 :: a7 :: ot)) (i := 7) ho)))
theorem g_astore_8 (E : Ev p s m args meth c cc nL own A0 D cA ad N Z) {a0 a1 a2 a3 a4 a5 a6 a7 a8 : Option Value} {ot : List (Option Value)} {x : Nat} (ho : okP a7 = true) (hn : 8 < nL) (d : Dc cc pc (.astore 8) 2 pc') (k : G p l e R s m args below meth c nL A0 D cA ad sh N cells slots Q σ pc' (a0 :: a1 :: a2 :: a3 :: a4 :: a5 :: a6 :: a7 :: some (.ref x) :: ot) st) : G p l e R s m args below meth c nL A0 D cA ad sh N cells slots Q σ pc (a0 :: a1 :: a2 :: a3 :: a4 :: a5 :: a6 :: a7 :: a8 :: ot) (.ref x :: st) := by
  obtain ⟨⟨hx, hb, hml, hown, hts⟩, hK, hA, hAa, hAq, hlk, hZx⟩ := E
  obtain ⟨d, rfl⟩ := d
  intro H locs ls hP hS hL
  exact lv_astore hx hb d hL hn rfl (fun ls' hL' => k H locs ls' hP hS (lv_more hL' (lvL_set1 (ol := (a0 :: a1 :: a2 :: a3 :: a4 :: a5 :: a6 :: a7 :: a8 :: ot)) (i := 8) ho)))
theorem g_astore_9 (E : Ev p s m args meth c cc nL own A0 D cA ad N Z) {a0 a1 a2 a3 a4 a5 a6 a7 a8 a9 : Option Value} {ot : List (Option Value)} {x : Nat} (ho : okP a8 = true) (hn : 9 < nL) (d : Dc cc pc (.astore 9) 2 pc') (k : G p l e R s m args below meth c nL A0 D cA ad sh N cells slots Q σ pc' (a0 :: a1 :: a2 :: a3 :: a4 :: a5 :: a6 :: a7 :: a8 :: some (.ref x) :: ot) st) : G p l e R s m args below meth c nL A0 D cA ad sh N cells slots Q σ pc (a0 :: a1 :: a2 :: a3 :: a4 :: a5 :: a6 :: a7 :: a8 :: a9 :: ot) (.ref x :: st) := by
  obtain ⟨⟨hx, hb, hml, hown, hts⟩, hK, hA, hAa, hAq, hlk, hZx⟩ := E
  obtain ⟨d, rfl⟩ := d
  intro H locs ls hP hS hL
  exact lv_astore hx hb d hL hn rfl (fun ls' hL' => k H locs ls' hP hS (lv_more hL' (lvL_set1 (ol := (a0 :: a1 :: a2 :: a3 :: a4 :: a5 :: a6 :: a7 :: a8 :: a9 :: ot)) (i := 9) ho)))
theorem g_astore_10 (E : Ev p s m args meth c cc nL own A0 D cA ad N Z) {a0 a1 a2 a3 a4 a5 a6 a7 a8 a9 a10 : Option Value} {ot : List (Option Value)} {x : Nat} (ho : okP a9 = true) (hn : 10 < nL) (d : Dc cc pc (.astore 10) 2 pc') (k : G p l e R s m args below meth c nL A0 D cA ad sh N cells slots Q σ pc' (a0 :: a1 :: a2 :: a3 :: a4 :: a5 :: a6 :: a7 :: a8 :: a9 :: some (.ref x) :: ot) st) : G p l e R s m args below meth c nL A0 D cA ad sh N cells slots Q σ pc (a0 :: a1 :: a2 :: a3 :: a4 :: a5 :: a6 :: a7 :: a8 :: a9 :: a10 :: ot) (.ref x :: st) := by
  obtain ⟨⟨hx, hb, hml, hown, hts⟩, hK, hA, hAa, hAq, hlk, hZx⟩ := E
  obtain ⟨d, rfl⟩ := d
  intro H locs ls hP hS hL
  exact lv_astore hx hb d hL hn rfl (fun ls' hL' => k H locs ls' hP hS (lv_more hL' (lvL_set1 (ol := (a0 :: a1 :: a2 :: a3 :: a4 :: a5 :: a6 :: a7 :: a8 :: a9 :: a10 :: ot)) (i := 10) ho)))
theorem g_astore_11 (E : Ev p s m args meth c cc nL own A0 D cA ad N Z) {a0 a1 a2 a3 a4 a5 a6 a7 a8 a9 a10 a11 : Option Value} {ot : List (Option Value)} {x : Nat} (ho : okP a10 = true) (hn : 11 < nL) (d : Dc cc pc (.astore 11) 2 pc') (k : G p l e R s m args below meth c nL A0 D cA ad sh N cells slots Q σ pc' (a0 :: a1 :: a2 :: a3 :: a4 :: a5 :: a6 :: a7 :: a8 :: a9 :: a10 :: some (.ref x) :: ot) st) : G p l e R s m args below meth c nL A0 D cA ad sh N cells slots Q σ pc (a0 :: a1 :: a2 :: a3 :: a4 :: a5 :: a6 :: a7 :: a8 :: a9 :: a10 :: a11 :: ot) (.ref x :: st) := by
  obtain ⟨⟨hx, hb, hml, hown, hts⟩, hK, hA, hAa, hAq, hlk, hZx⟩ := E
  obtain ⟨d, rfl⟩ := d
  intro H locs ls hP hS hL
  exact lv_astore hx hb d hL hn rfl (fun ls' hL' => k H locs ls' hP hS (lv_more hL' (lvL_set1 (ol := (a0 :: a1 :: a2 :: a3 :: a4 :: a5 :: a6 :: a7 :: a8 :: a9 :: a10 :: a11 :: ot)) (i := 11) ho)))
theorem g_astore_12 (E : Ev p s m args meth c cc nL own A0 D cA ad N Z) {a0 a1 a2 a3 a4 a5 a6 a7 a8 a9 a10 a11 a12 : Option Value} {ot : List (Option Value)} {x : Nat} (ho : okP a11 = true) (hn : 12 < nL) (d : Dc cc pc (.astore 12) 2 pc') (k : G p l e R s m args below meth c nL A0 D cA ad sh N cells slots Q σ pc' (a0 :: a1 :: a2 :: a3 :: a4 :: a5 :: a6 :: a7 :: a8 :: a9 :: a10 :: a11 :: some (.ref x) :: ot) st) : G p l e R s m args below meth c nL A0 D cA ad sh N cells slots Q σ pc (a0 :: a1 :: a2 :: a3 :: a4 :: a5 :: a6 :: a7 :: a8 :: a9 :: a10 :: a11 :: a12 :: ot) (.ref x :: st) := by
  obtain ⟨⟨hx, hb, hml, hown, hts⟩, hK, hA, hAa, hAq, hlk, hZx⟩ := E
  obtain ⟨d, rfl⟩ := d
  intro H locs ls hP hS hL
  exact lv_astore hx hb d hL hn rfl (fun ls' hL' => k H locs ls' hP hS (lv_more hL' (lvL_set1 (ol := (a0 :: a1 :: a2 :: a3 :: a4 :: a5 :: a6 :: a7 :: a8 :: a9 :: a10 :: a11 :: a12 :: ot)) (i := 12) ho)))
theorem g_astore_13 (E : Ev p s m args meth c cc nL own A0 D cA ad N Z) {a0 a1 a2 a3 a4 a5 a6 a7 a8 a9 a10 a11 a12 a13 : Option Value} {ot : List (Option Value)} {x : Nat} (ho : okP a12 = true) (hn : 13 < nL) (d : Dc cc pc (.astore 13) 2 pc') (k : G p l e R s m args below meth c nL A0 D cA ad sh N cells slots Q σ pc' (a0 :: a1 :: a2 :: a3 :: a4 :: a5 :: a6 :: a7 :: a8 :: a9 :: a10 :: a11 :: a12 :: some (.ref x) :: ot) st) : G p l e R s m args below meth c nL A0 D cA ad sh N cells slots Q σ pc (a0 :: a1 :: a2 :: a3 :: a4 :: a5 :: a6 :: a7 :: a8 :: a9 :: a10 :: a11 :: a12 :: a13 :: ot) (.ref x :: st) := by
  obtain ⟨⟨hx, hb, hml, hown, hts⟩, hK, hA, hAa, hAq, hlk, hZx⟩ := E
  obtain ⟨d, rfl⟩ := d
  intro H locs ls hP hS hL
  exact lv_astore hx hb d hL hn rfl (fun ls' hL' => k H locs ls' hP hS (lv_more hL' (lvL_set1 (ol := (a0 :: a1 :: a2 :: a3 :: a4 :: a5 :: a6 :: a7 :: a8 :: a9 :: a10 :: a11 :: a12 :: a13 :: ot)) (i := 13) ho)))
theorem g_astore_14 (E : Ev p s m args meth c cc nL own A0 D cA ad N Z) {a0 a1 a2 a3 a4 a5 a6 a7 a8 a9 a10 a11 a12 a13 a14 : Option Value} {ot : List (Option Value)} {x : Nat} (ho : okP a13 = true) (hn : 14 < nL) (d : Dc cc pc (.astore 14) 2 pc') (k : G p l e R s m args below meth c nL A0 D cA ad sh N cells slots Q σ pc' (a0 :: a1 :: a2 :: a3 :: a4 :: a5 :: a6 :: a7 :: a8 :: a9 :: a10 :: a11 :: a12 :: a13 :: some (.ref x) :: ot) st) : G p l e R s m args below meth c nL A0 D cA ad sh N cells slots Q σ pc (a0 :: a1 :: a2 :: a3 :: a4 :: a5 :: a6 :: a7 :: a8 :: a9 :: a10 :: a11 :: a12 :: a13 :: a14 :: ot) (.ref x :: st) := by
  obtain ⟨⟨hx, hb, hml, hown, hts⟩, hK, hA, hAa, hAq, hlk, hZx⟩ := E
  obtain ⟨d, rfl⟩ := d
  intro H locs ls hP hS hL
  exact lv_astore hx hb d hL hn rfl (fun ls' hL' => k H locs ls' hP hS (lv_more hL' (lvL_set1 (ol := (a0 :: a1 :: a2 :: a3 :: a4 :: a5 :: a6 :: a7 :: a8 :: a9 :: a10 :: a11 :: a12 :: a13 :: a14 :: ot)) (i := 14) ho)))
theorem g_astore_15 (E : Ev p s m args meth c cc nL own A0 D cA ad N Z) {a0 a1 a2 a3 a4 a5 a6 a7 a8 a9 a10 a11 a12 a13 a14 a15 : Option Value} {ot : List (Option Value)} {x : Nat} (ho : okP a14 = true) (hn : 15 < nL) (d : Dc cc pc (.astore 15) 2 pc') (k : G p l e R s m args below meth c nL A0 D cA ad sh N cells slots Q σ pc' (a0 :: a1 :: a2 :: a3 :: a4 :: a5 :: a6 :: a7 :: a8 :: a9 :: a10 :: a11 :: a12 :: a13 :: a14 :: some (.ref x) :: ot) st) : G p l e R s m args below meth c nL A0 D cA ad sh N cells slots Q σ pc (a0 :: a1 :: a2 :: a3 :: a4 :: a5 :: a6 :: a7 :: a8 :: a9 :: a10 :: a11 :: a12 :: a13 :: a14 :: a15 :: ot) (.ref x :: st) := by
  obtain ⟨⟨hx, hb, hml, hown, hts⟩, hK, hA, hAa, hAq, hlk, hZx⟩ := E
  obtain ⟨d, rfl⟩ := d
  intro H locs ls hP hS hL
  exact lv_astore hx hb d hL hn rfl (fun ls' hL' => k H locs ls' hP hS (lv_more hL' (lvL_set1 (ol := (a0 :: a1 :: a2 :: a3 :: a4 :: a5 :: a6 :: a7 :: a8 :: a9 :: a10 :: a11 :: a12 :: a13 :: a14 :: a15 :: ot)) (i := 15) ho)))
theorem g_iinc_1 (E : Ev p s m args meth c cc nL own A0 D cA ad N Z) {a0 : Option Value} {ot : List (Option Value)} {x n : Int} (ho : okP a0 = true) (hn : 1 < nL) (d : Dc cc pc (.iinc 1 n) 3 pc') (k : ∀ v : Int, v = w32 (x + n) → G p l e R s m args below meth c nL A0 D cA ad sh N cells slots Q σ pc' (a0 :: some (vI v) :: ot) st) : G p l e R s m args below meth c nL A0 D cA ad sh N cells slots Q σ pc (a0 :: some (vI x) :: ot) st := by
  obtain ⟨⟨hx, hb, hml, hown, hts⟩, hK, hA, hAa, hAq, hlk, hZx⟩ := E
  obtain ⟨d, rfl⟩ := d
  intro H locs ls hP hS hL
  obtain ⟨kk, hk⟩ := List.getElem?_of_mem ((lvL_mem (a0 :: some (vI x) :: ot) 0).mpr ⟨1, rfl, by simp⟩ : (1, vI x) ∈ lvL (a0 :: some (vI x) :: ot) 0)
  refine lv_iinc (v := Int32.ofInt (w32 (x + n))) hx hb d hL hk (by rw [i_w32, Int32.ofInt_add]) hn rfl (fun ls' hL' => k _ rfl H locs ls' hP hS (lv_more hL' (lvL_set1 (ol := (a0 :: some (vI x) :: ot)) (i := 1) ho)))
theorem g_iinc_2 (E : Ev p s m args meth c cc nL own A0 D cA ad N Z) {a0 a1 : Option Value} {ot : List (Option Value)} {x n : Int} (ho : okP a1 = true) (hn : 2 < nL) (d : Dc cc pc (.iinc 2 n) 3 pc') (k : ∀ v : Int, v = w32 (x + n) → G p l e R s m args below meth c nL A0 D cA ad sh N cells slots Q σ pc' (a0 :: a1 :: some (vI v) :: ot) st) : G p l e R s m args below meth c nL A0 D cA ad sh N cells slots Q σ pc (a0 :: a1 :: some (vI x) :: ot) st := by
  obtain ⟨⟨hx, hb, hml, hown, hts⟩, hK, hA, hAa, hAq, hlk, hZx⟩ := E
  obtain ⟨d, rfl⟩ := d
  intro H locs ls hP hS hL
  obtain ⟨kk, hk⟩ := List.getElem?_of_mem ((lvL_mem (a0 :: a1 :: some (vI x) :: ot) 0).mpr ⟨2, rfl, by simp⟩ : (2, vI x) ∈ lvL (a0 :: a1 :: some (vI x) :: ot) 0)
  refine lv_iinc (v := Int32.ofInt (w32 (x + n))) hx hb d hL hk (by rw [i_w32, Int32.ofInt_add]) hn rfl (fun ls' hL' => k _ rfl H locs ls' hP hS (lv_more hL' (lvL_set1 (ol := (a0 :: a1 :: some (vI x) :: ot)) (i := 2) ho)))
theorem g_iinc_3 (E : Ev p s m args meth c cc nL own A0 D cA ad N Z) {a0 a1 a2 : Option Value} {ot : List (Option Value)} {x n : Int} (ho : okP a2 = true) (hn : 3 < nL) (d : Dc cc pc (.iinc 3 n) 3 pc') (k : ∀ v : Int, v = w32 (x + n) → G p l e R s m args below meth c nL A0 D cA ad sh N cells slots Q σ pc' (a0 :: a1 :: a2 :: some (vI v) :: ot) st) : G p l e R s m args below meth c nL A0 D cA ad sh N cells slots Q σ pc (a0 :: a1 :: a2 :: some (vI x) :: ot) st := by
  obtain ⟨⟨hx, hb, hml, hown, hts⟩, hK, hA, hAa, hAq, hlk, hZx⟩ := E
  obtain ⟨d, rfl⟩ := d
  intro H locs ls hP hS hL
  obtain ⟨kk, hk⟩ := List.getElem?_of_mem ((lvL_mem (a0 :: a1 :: a2 :: some (vI x) :: ot) 0).mpr ⟨3, rfl, by simp⟩ : (3, vI x) ∈ lvL (a0 :: a1 :: a2 :: some (vI x) :: ot) 0)
  refine lv_iinc (v := Int32.ofInt (w32 (x + n))) hx hb d hL hk (by rw [i_w32, Int32.ofInt_add]) hn rfl (fun ls' hL' => k _ rfl H locs ls' hP hS (lv_more hL' (lvL_set1 (ol := (a0 :: a1 :: a2 :: some (vI x) :: ot)) (i := 3) ho)))
theorem g_iinc_4 (E : Ev p s m args meth c cc nL own A0 D cA ad N Z) {a0 a1 a2 a3 : Option Value} {ot : List (Option Value)} {x n : Int} (ho : okP a3 = true) (hn : 4 < nL) (d : Dc cc pc (.iinc 4 n) 3 pc') (k : ∀ v : Int, v = w32 (x + n) → G p l e R s m args below meth c nL A0 D cA ad sh N cells slots Q σ pc' (a0 :: a1 :: a2 :: a3 :: some (vI v) :: ot) st) : G p l e R s m args below meth c nL A0 D cA ad sh N cells slots Q σ pc (a0 :: a1 :: a2 :: a3 :: some (vI x) :: ot) st := by
  obtain ⟨⟨hx, hb, hml, hown, hts⟩, hK, hA, hAa, hAq, hlk, hZx⟩ := E
  obtain ⟨d, rfl⟩ := d
  intro H locs ls hP hS hL
  obtain ⟨kk, hk⟩ := List.getElem?_of_mem ((lvL_mem (a0 :: a1 :: a2 :: a3 :: some (vI x) :: ot) 0).mpr ⟨4, rfl, by simp⟩ : (4, vI x) ∈ lvL (a0 :: a1 :: a2 :: a3 :: some (vI x) :: ot) 0)
  refine lv_iinc (v := Int32.ofInt (w32 (x + n))) hx hb d hL hk (by rw [i_w32, Int32.ofInt_add]) hn rfl (fun ls' hL' => k _ rfl H locs ls' hP hS (lv_more hL' (lvL_set1 (ol := (a0 :: a1 :: a2 :: a3 :: some (vI x) :: ot)) (i := 4) ho)))
theorem g_iinc_5 (E : Ev p s m args meth c cc nL own A0 D cA ad N Z) {a0 a1 a2 a3 a4 : Option Value} {ot : List (Option Value)} {x n : Int} (ho : okP a4 = true) (hn : 5 < nL) (d : Dc cc pc (.iinc 5 n) 3 pc') (k : ∀ v : Int, v = w32 (x + n) → G p l e R s m args below meth c nL A0 D cA ad sh N cells slots Q σ pc' (a0 :: a1 :: a2 :: a3 :: a4 :: some (vI v) :: ot) st) : G p l e R s m args below meth c nL A0 D cA ad sh N cells slots Q σ pc (a0 :: a1 :: a2 :: a3 :: a4 :: some (vI x) :: ot) st := by
  obtain ⟨⟨hx, hb, hml, hown, hts⟩, hK, hA, hAa, hAq, hlk, hZx⟩ := E
  obtain ⟨d, rfl⟩ := d
  intro H locs ls hP hS hL
  obtain ⟨kk, hk⟩ := List.getElem?_of_mem ((lvL_mem (a0 :: a1 :: a2 :: a3 :: a4 :: some (vI x) :: ot) 0).mpr ⟨5, rfl, by simp⟩ : (5, vI x) ∈ lvL (a0 :: a1 :: a2 :: a3 :: a4 :: some (vI x) :: ot) 0)
  refine lv_iinc (v := Int32.ofInt (w32 (x + n))) hx hb d hL hk (by rw [i_w32, Int32.ofInt_add]) hn rfl (fun ls' hL' => k _ rfl H locs ls' hP hS (lv_more hL' (lvL_set1 (ol := (a0 :: a1 :: a2 :: a3 :: a4 :: some (vI x) :: ot)) (i := 5) ho)))
theorem g_iinc_6 (E : Ev p s m args meth c cc nL own A0 D cA ad N Z) {a0 a1 a2 a3 a4 a5 : Option Value} {ot : List (Option Value)} {x n : Int} (ho : okP a5 = true) (hn : 6 < nL) (d : Dc cc pc (.iinc 6 n) 3 pc') (k : ∀ v : Int, v = w32 (x + n) → G p l e R s m args below meth c nL A0 D cA ad sh N cells slots Q σ pc' (a0 :: a1 :: a2 :: a3 :: a4 :: a5 :: some (vI v) :: ot) st) : G p l e R s m args below meth c nL A0 D cA ad sh N cells slots Q σ pc (a0 :: a1 :: a2 :: a3 :: a4 :: a5 :: some (vI x) :: ot) st := by
  obtain ⟨⟨hx, hb, hml, hown, hts⟩, hK, hA, hAa, hAq, hlk, hZx⟩ := E
  obtain ⟨d, rfl⟩ := d
  intro H locs ls hP hS hL
  obtain ⟨kk, hk⟩ := List.getElem?_of_mem ((lvL_mem (a0 :: a1 :: a2 :: a3 :: a4 :: a5 :: some (vI x) :: ot) 0).mpr ⟨6, rfl, by simp⟩ : (6, vI x) ∈ lvL (a0 :: a1 :: a2 :: a3 :: a4 :: a5 :: some (vI x) :: ot) 0)
  refine lv_iinc (v := Int32.ofInt (w32 (x + n))) hx hb d hL hk (by rw [i_w32, Int32.ofInt_add]) hn rfl (fun ls' hL' => k _ rfl H locs ls' hP hS (lv_more hL' (lvL_set1 (ol := (a0 :: a1 :: a2 :: a3 :: a4 :: a5 :: some (vI x) :: ot)) (i := 6) ho)))
theorem g_iinc_7 (E : Ev p s m args meth c cc nL own A0 D cA ad N Z) {a0 a1 a2 a3 a4 a5 a6 : Option Value} {ot : List (Option Value)} {x n : Int} (ho : okP a6 = true) (hn : 7 < nL) (d : Dc cc pc (.iinc 7 n) 3 pc') (k : ∀ v : Int, v = w32 (x + n) → G p l e R s m args below meth c nL A0 D cA ad sh N cells slots Q σ pc' (a0 :: a1 :: a2 :: a3 :: a4 :: a5 :: a6 :: some (vI v) :: ot) st) : G p l e R s m args below meth c nL A0 D cA ad sh N cells slots Q σ pc (a0 :: a1 :: a2 :: a3 :: a4 :: a5 :: a6 :: some (vI x) :: ot) st := by
  obtain ⟨⟨hx, hb, hml, hown, hts⟩, hK, hA, hAa, hAq, hlk, hZx⟩ := E
  obtain ⟨d, rfl⟩ := d
  intro H locs ls hP hS hL
  obtain ⟨kk, hk⟩ := List.getElem?_of_mem ((lvL_mem (a0 :: a1 :: a2 :: a3 :: a4 :: a5 :: a6 :: some (vI x) :: ot) 0).mpr ⟨7, rfl, by simp⟩ : (7, vI x) ∈ lvL (a0 :: a1 :: a2 :: a3 :: a4 :: a5 :: a6 :: some (vI x) :: ot) 0)
  refine lv_iinc (v := Int32.ofInt (w32 (x + n))) hx hb d hL hk (by rw [i_w32, Int32.ofInt_add]) hn rfl (fun ls' hL' => k _ rfl H locs ls' hP hS (lv_more hL' (lvL_set1 (ol := (a0 :: a1 :: a2 :: a3 :: a4 :: a5 :: a6 :: some (vI x) :: ot)) (i := 7) ho)))
theorem g_iinc_8 (E : Ev p s m args meth c cc nL own A0 D cA ad N Z) {a0 a1 a2 a3 a4 a5 a6 a7 : Option Value} {ot : List (Option Value)} {x n : Int} (ho : okP a7 = true) (hn : 8 < nL) (d : Dc cc pc (.iinc 8 n) 3 pc') (k : ∀ v : Int, v = w32 (x + n) → G p l e R s m args below meth c nL A0 D cA ad sh N cells slots Q σ pc' (a0 :: a1 :: a2 :: a3 :: a4 :: a5 :: a6 :: a7 :: some (vI v) :: ot) st) : G p l e R s m args below meth c nL A0 D cA ad sh N cells slots Q σ pc (a0 :: a1 :: a2 :: a3 :: a4 :: a5 :: a6 :: a7 :: some (vI x) :: ot) st := by
  obtain ⟨⟨hx, hb, hml, hown, hts⟩, hK, hA, hAa, hAq, hlk, hZx⟩ := E
  obtain ⟨d, rfl⟩ := d
  intro H locs ls hP hS hL
  obtain ⟨kk, hk⟩ := List.getElem?_of_mem ((lvL_mem (a0 :: a1 :: a2 :: a3 :: a4 :: a5 :: a6 :: a7 :: some (vI x) :: ot) 0).mpr ⟨8, rfl, by simp⟩ : (8, vI x) ∈ lvL (a0 :: a1 :: a2 :: a3 :: a4 :: a5 :: a6 :: a7 :: some (vI x) :: ot) 0)
  refine lv_iinc (v := Int32.ofInt (w32 (x + n))) hx hb d hL hk (by rw [i_w32, Int32.ofInt_add]) hn rfl (fun ls' hL' => k _ rfl H locs ls' hP hS (lv_more hL' (lvL_set1 (ol := (a0 :: a1 :: a2 :: a3 :: a4 :: a5 :: a6 :: a7 :: some (vI x) :: ot)) (i := 8) ho)))
theorem g_iinc_9 (E : Ev p s m args meth c cc nL own A0 D cA ad N Z) {a0 a1 a2 a3 a4 a5 a6 a7 a8 : Option Value} {ot : List (Option Value)} {x n : Int} (ho : okP a8 = true) (hn : 9 < nL) (d : Dc cc pc (.iinc 9 n) 3 pc') (k : ∀ v : Int, v = w32 (x + n) → G p l e R s m args below meth c nL A0 D cA ad sh N cells slots Q σ pc' (a0 :: a1 :: a2 :: a3 :: a4 :: a5 :: a6 :: a7 :: a8 :: some (vI v) :: ot) st) : G p l e R s m args below meth c nL A0 D cA ad sh N cells slots Q σ pc (a0 :: a1 :: a2 :: a3 :: a4 :: a5 :: a6 :: a7 :: a8 :: some (vI x) :: ot) st := by
  obtain ⟨⟨hx, hb, hml, hown, hts⟩, hK, hA, hAa, hAq, hlk, hZx⟩ := E
  obtain ⟨d, rfl⟩ := d
  intro H locs ls hP hS hL
  obtain ⟨kk, hk⟩ := List.getElem?_of_mem ((lvL_mem (a0 :: a1 :: a2 :: a3 :: a4 :: a5 :: a6 :: a7 :: a8 :: some (vI x) :: ot) 0).mpr ⟨9, rfl, by simp⟩ : (9, vI x) ∈ lvL (a0 :: a1 :: a2 :: a3 :: a4 :: a5 :: a6 :: a7 :: a8 :: some (vI x) :: ot) 0)
  refine lv_iinc (v := Int32.ofInt (w32 (x + n))) hx hb d hL hk (by rw [i_w32, Int32.ofInt_add]) hn rfl (fun ls' hL' => k _ rfl H locs ls' hP hS (lv_more hL' (lvL_set1 (ol := (a0 :: a1 :: a2 :: a3 :: a4 :: a5 :: a6 :: a7 :: a8 :: some (vI x) :: ot)) (i := 9) ho)))
theorem g_iinc_10 (E : Ev p s m args meth c cc nL own A0 D cA ad N Z) {a0 a1 a2 a3 a4 a5 a6 a7 a8 a9 : Option Value} {ot : List (Option Value)} {x n : Int} (ho : okP a9 = true) (hn : 10 < nL) (d : Dc cc pc (.iinc 10 n) 3 pc') (k : ∀ v : Int, v = w32 (x + n) → G p l e R s m args below meth c nL A0 D cA ad sh N cells slots Q σ pc' (a0 :: a1 :: a2 :: a3 :: a4 :: a5 :: a6 :: a7 :: a8 :: a9 :: some (vI v) :: ot) st) : G p l e R s m args below meth c nL A0 D cA ad sh N cells slots Q σ pc (a0 :: a1 :: a2 :: a3 :: a4 :: a5 :: a6 :: a7 :: a8 :: a9 :: some (vI x) :: ot) st := by
  obtain ⟨⟨hx, hb, hml, hown, hts⟩, hK, hA, hAa, hAq, hlk, hZx⟩ := E
  obtain ⟨d, rfl⟩ := d
  intro H locs ls hP hS hL
  obtain ⟨kk, hk⟩ := List.getElem?_of_mem ((lvL_mem (a0 :: a1 :: a2 :: a3 :: a4 :: a5 :: a6 :: a7 :: a8 :: a9 :: some (vI x) :: ot) 0).mpr ⟨10, rfl, by simp⟩ : (10, vI x) ∈ lvL (a0 :: a1 :: a2 :: a3 :: a4 :: a5 :: a6 :: a7 :: a8 :: a9 :: some (vI x) :: ot) 0)
  refine lv_iinc (v := Int32.ofInt (w32 (x + n))) hx hb d hL hk (by rw [i_w32, Int32.ofInt_add]) hn rfl (fun ls' hL' => k _ rfl H locs ls' hP hS (lv_more hL' (lvL_set1 (ol := (a0 :: a1 :: a2 :: a3 :: a4 :: a5 :: a6 :: a7 :: a8 :: a9 :: some (vI x) :: ot)) (i := 10) ho)))
theorem g_iinc_11 (E : Ev p s m args meth c cc nL own A0 D cA ad N Z) {a0 a1 a2 a3 a4 a5 a6 a7 a8 a9 a10 : Option Value} {ot : List (Option Value)} {x n : Int} (ho : okP a10 = true) (hn : 11 < nL) (d : Dc cc pc (.iinc 11 n) 3 pc') (k : ∀ v : Int, v = w32 (x + n) → G p l e R s m args below meth c nL A0 D cA ad sh N cells slots Q σ pc' (a0 :: a1 :: a2 :: a3 :: a4 :: a5 :: a6 :: a7 :: a8 :: a9 :: a10 :: some (vI v) :: ot) st) : G p l e R s m args below meth c nL A0 D cA ad sh N cells slots Q σ pc (a0 :: a1 :: a2 :: a3 :: a4 :: a5 :: a6 :: a7 :: a8 :: a9 :: a10 :: some (vI x) :: ot) st := by
  obtain ⟨⟨hx, hb, hml, hown, hts⟩, hK, hA, hAa, hAq, hlk, hZx⟩ := E
  obtain ⟨d, rfl⟩ := d
  intro H locs ls hP hS hL
  obtain ⟨kk, hk⟩ := List.getElem?_of_mem ((lvL_mem (a0 :: a1 :: a2 :: a3 :: a4 :: a5 :: a6 :: a7 :: a8 :: a9 :: a10 :: some (vI x) :: ot) 0).mpr ⟨11, rfl, by simp⟩ : (11, vI x) ∈ lvL (a0 :: a1 :: a2 :: a3 :: a4 :: a5 :: a6 :: a7 :: a8 :: a9 :: a10 :: some (vI x) :: ot) 0)
  refine lv_iinc (v := Int32.ofInt (w32 (x + n))) hx hb d hL hk (by rw [i_w32, Int32.ofInt_add]) hn rfl (fun ls' hL' => k _ rfl H locs ls' hP hS (lv_more hL' (lvL_set1 (ol := (a0 :: a1 :: a2 :: a3 :: a4 :: a5 :: a6 :: a7 :: a8 :: a9 :: a10 :: some (vI x) :: ot)) (i := 11) ho)))
theorem g_iinc_12 (E : Ev p s m args meth c cc nL own A0 D cA ad N Z) {a0 a1 a2 a3 a4 a5 a6 a7 a8 a9 a10 a11 : Option Value} {ot : List (Option Value)} {x n : Int} (ho : okP a11 = true) (hn : 12 < nL) (d : Dc cc pc (.iinc 12 n) 3 pc') (k : ∀ v : Int, v = w32 (x + n) → G p l e R s m args below meth c nL A0 D cA ad sh N cells slots Q σ pc' (a0 :: a1 :: a2 :: a3 :: a4 :: a5 :: a6 :: a7 :: a8 :: a9 :: a10 :: a11 :: some (vI v) :: ot) st) : G p l e R s m args below meth c nL A0 D cA ad sh N cells slots Q σ pc (a0 :: a1 :: a2 :: a3 :: a4 :: a5 :: a6 :: a7 :: a8 :: a9 :: a10 :: a11 :: some (vI x) :: ot) st := by
  obtain ⟨⟨hx, hb, hml, hown, hts⟩, hK, hA, hAa, hAq, hlk, hZx⟩ := E
  obtain ⟨d, rfl⟩ := d
  intro H locs ls hP hS hL
  obtain ⟨kk, hk⟩ := List.getElem?_of_mem ((lvL_mem (a0 :: a1 :: a2 :: a3 :: a4 :: a5 :: a6 :: a7 :: a8 :: a9 :: a10 :: a11 :: some (vI x) :: ot) 0).mpr ⟨12, rfl, by simp⟩ : (12, vI x) ∈ lvL (a0 :: a1 :: a2 :: a3 :: a4 :: a5 :: a6 :: a7 :: a8 :: a9 :: a10 :: a11 :: some (vI x) :: ot) 0)
  refine lv_iinc (v := Int32.ofInt (w32 (x + n))) hx hb d hL hk (by rw [i_w32, Int32.ofInt_add]) hn rfl (fun ls' hL' => k _ rfl H locs ls' hP hS (lv_more hL' (lvL_set1 (ol := (a0 :: a1 :: a2 :: a3 :: a4 :: a5 :: a6 :: a7 :: a8 :: a9 :: a10 :: a11 :: some (vI x) :: ot)) (i := 12) ho)))
theorem g_iinc_13 (E : Ev p s m args meth c cc nL own A0 D cA ad N Z) {a0 a1 a2 a3 a4 a5 a6 a7 a8 a9 a10 a11 a12 : Option Value} {ot : List (Option Value)} {x n : Int} (ho : okP a12 = true) (hn : 13 < nL) (d : Dc cc pc (.iinc 13 n) 3 pc') (k : ∀ v : Int, v = w32 (x + n) → G p l e R s m args below meth c nL A0 D cA ad sh N cells slots Q σ pc' (a0 :: a1 :: a2 :: a3 :: a4 :: a5 :: a6 :: a7 :: a8 :: a9 :: a10 :: a11 :: a12 :: some (vI v) :: ot) st) : G p l e R s m args below meth c nL A0 D cA ad sh N cells slots Q σ pc (a0 :: a1 :: a2 :: a3 :: a4 :: a5 :: a6 :: a7 :: a8 :: a9 :: a10 :: a11 :: a12 :: some (vI x) :: ot) st := by
  obtain ⟨⟨hx, hb, hml, hown, hts⟩, hK, hA, hAa, hAq, hlk, hZx⟩ := E
  obtain ⟨d, rfl⟩ := d
  intro H locs ls hP hS hL
  obtain ⟨kk, hk⟩ := List.getElem?_of_mem ((lvL_mem (a0 :: a1 :: a2 :: a3 :: a4 :: a5 :: a6 :: a7 :: a8 :: a9 :: a10 :: a11 :: a12 :: some (vI x) :: ot) 0).mpr ⟨13, rfl, by simp⟩ : (13, vI x) ∈ lvL (a0 :: a1 :: a2 :: a3 :: a4 :: a5 :: a6 :: a7 :: a8 :: a9 :: a10 :: a11 :: a12 :: some (vI x) :: ot) 0)
  refine lv_iinc (v := Int32.ofInt (w32 (x + n))) hx hb d hL hk (by rw [i_w32, Int32.ofInt_add]) hn rfl (fun ls' hL' => k _ rfl H locs ls' hP hS (lv_more hL' (lvL_set1 (ol := (a0 :: a1 :: a2 :: a3 :: a4 :: a5 :: a6 :: a7 :: a8 :: a9 :: a10 :: a11 :: a12 :: some (vI x) :: ot)) (i := 13) ho)))
theorem g_iinc_14 (E : Ev p s m args meth c cc nL own A0 D cA ad N Z) {a0 a1 a2 a3 a4 a5 a6 a7 a8 a9 a10 a11 a12 a13 : Option Value} {ot : List (Option Value)} {x n : Int} (ho : okP a13 = true) (hn : 14 < nL) (d : Dc cc pc (.iinc 14 n) 3 pc') (k : ∀ v : Int, v = w32 (x + n) → G p l e R s m args below meth c nL A0 D cA ad sh N cells slots Q σ pc' (a0 :: a1 :: a2 :: a3 :: a4 :: a5 :: a6 :: a7 :: a8 :: a9 :: a10 :: a11 :: a12 :: a13 :: some (vI v) :: ot) st) : G p l e R s m args below meth c nL A0 D cA ad sh N cells slots Q σ pc (a0 :: a1 :: a2 :: a3 :: a4 :: a5 :: a6 :: a7 :: a8 :: a9 :: a10 :: a11 :: a12 :: a13 :: some (vI x) :: ot) st := by
  obtain ⟨⟨hx, hb, hml, hown, hts⟩, hK, hA, hAa, hAq, hlk, hZx⟩ := E
  obtain ⟨d, rfl⟩ := d
  intro H locs ls hP hS hL
  obtain ⟨kk, hk⟩ := List.getElem?_of_mem ((lvL_mem (a0 :: a1 :: a2 :: a3 :: a4 :: a5 :: a6 :: a7 :: a8 :: a9 :: a10 :: a11 :: a12 :: a13 :: some (vI x) :: ot) 0).mpr ⟨14, rfl, by simp⟩ : (14, vI x) ∈ lvL (a0 :: a1 :: a2 :: a3 :: a4 :: a5 :: a6 :: a7 :: a8 :: a9 :: a10 :: a11 :: a12 :: a13 :: some (vI x) :: ot) 0)
  refine lv_iinc (v := Int32.ofInt (w32 (x + n))) hx hb d hL hk (by rw [i_w32, Int32.ofInt_add]) hn rfl (fun ls' hL' => k _ rfl H locs ls' hP hS (lv_more hL' (lvL_set1 (ol := (a0 :: a1 :: a2 :: a3 :: a4 :: a5 :: a6 :: a7 :: a8 :: a9 :: a10 :: a11 :: a12 :: a13 :: some (vI x) :: ot)) (i := 14) ho)))
theorem g_iinc_15 (E : Ev p s m args meth c cc nL own A0 D cA ad N Z) {a0 a1 a2 a3 a4 a5 a6 a7 a8 a9 a10 a11 a12 a13 a14 : Option Value} {ot : List (Option Value)} {x n : Int} (ho : okP a14 = true) (hn : 15 < nL) (d : Dc cc pc (.iinc 15 n) 3 pc') (k : ∀ v : Int, v = w32 (x + n) → G p l e R s m args below meth c nL A0 D cA ad sh N cells slots Q σ pc' (a0 :: a1 :: a2 :: a3 :: a4 :: a5 :: a6 :: a7 :: a8 :: a9 :: a10 :: a11 :: a12 :: a13 :: a14 :: some (vI v) :: ot) st) : G p l e R s m args below meth c nL A0 D cA ad sh N cells slots Q σ pc (a0 :: a1 :: a2 :: a3 :: a4 :: a5 :: a6 :: a7 :: a8 :: a9 :: a10 :: a11 :: a12 :: a13 :: a14 :: some (vI x) :: ot) st := by
  obtain ⟨⟨hx, hb, hml, hown, hts⟩, hK, hA, hAa, hAq, hlk, hZx⟩ := E
  obtain ⟨d, rfl⟩ := d
  intro H locs ls hP hS hL
  obtain ⟨kk, hk⟩ := List.getElem?_of_mem ((lvL_mem (a0 :: a1 :: a2 :: a3 :: a4 :: a5 :: a6 :: a7 :: a8 :: a9 :: a10 :: a11 :: a12 :: a13 :: a14 :: some (vI x) :: ot) 0).mpr ⟨15, rfl, by simp⟩ : (15, vI x) ∈ lvL (a0 :: a1 :: a2 :: a3 :: a4 :: a5 :: a6 :: a7 :: a8 :: a9 :: a10 :: a11 :: a12 :: a13 :: a14 :: some (vI x) :: ot) 0)
  refine lv_iinc (v := Int32.ofInt (w32 (x + n))) hx hb d hL hk (by rw [i_w32, Int32.ofInt_add]) hn rfl (fun ls' hL' => k _ rfl H locs ls' hP hS (lv_more hL' (lvL_set1 (ol := (a0 :: a1 :: a2 :: a3 :: a4 :: a5 :: a6 :: a7 :: a8 :: a9 :: a10 :: a11 :: a12 :: a13 :: a14 :: some (vI x) :: ot)) (i := 15) ho)))
theorem g_iadd (E : Ev p s m args meth c cc nL own A0 D cA ad N Z) {x y : Int} (d : Dc cc pc (.iadd) 1 pc') (k : G p l e R s m args below meth c nL A0 D cA ad sh N cells slots Q σ pc' ol (vI (w32 (x + y)) :: st)) : G p l e R s m args below meth c nL A0 D cA ad sh N cells slots Q σ pc ol (vI y :: vI x :: st) := by
  obtain ⟨⟨hx, hb, hml, hown, hts⟩, hK, hA, hAa, hAq, hlk, hZx⟩ := E
  obtain ⟨d, rfl⟩ := d
  intro H locs ls hP hS hL
  have k := k H locs ls hP hS hL
  (try unfold vI at *)
  (try unfold vL at *)
  refine lv_iadd hx hb d ?_
  rw [i_w32, Int32.ofInt_add] at k
  exact k
theorem g_isub (E : Ev p s m args meth c cc nL own A0 D cA ad N Z) {x y : Int} (d : Dc cc pc (.isub) 1 pc') (k : G p l e R s m args below meth c nL A0 D cA ad sh N cells slots Q σ pc' ol (vI (w32 (x - y)) :: st)) : G p l e R s m args below meth c nL A0 D cA ad sh N cells slots Q σ pc ol (vI y :: vI x :: st) := by
  obtain ⟨⟨hx, hb, hml, hown, hts⟩, hK, hA, hAa, hAq, hlk, hZx⟩ := E
  obtain ⟨d, rfl⟩ := d
  intro H locs ls hP hS hL
  have k := k H locs ls hP hS hL
  (try unfold vI at *)
  (try unfold vL at *)
  refine lv_isub hx hb d ?_
  rw [i_w32, Int32.ofInt_sub] at k
  exact k
theorem g_imul (E : Ev p s m args meth c cc nL own A0 D cA ad N Z) {x y : Int} (d : Dc cc pc (.imul) 1 pc') (k : G p l e R s m args below meth c nL A0 D cA ad sh N cells slots Q σ pc' ol (vI (w32 (x * y)) :: st)) : G p l e R s m args below meth c nL A0 D cA ad sh N cells slots Q σ pc ol (vI y :: vI x :: st) := by
  obtain ⟨⟨hx, hb, hml, hown, hts⟩, hK, hA, hAa, hAq, hlk, hZx⟩ := E
  obtain ⟨d, rfl⟩ := d
  intro H locs ls hP hS hL
  have k := k H locs ls hP hS hL
  (try unfold vI at *)
  (try unfold vL at *)
  refine lv_imul hx hb d ?_
  rw [i_w32, Int32.ofInt_mul] at k
  exact k
theorem g_iand (E : Ev p s m args meth c cc nL own A0 D cA ad N Z) {x y : Int} (d : Dc cc pc (.iand) 1 pc') (k : G p l e R s m args below meth c nL A0 D cA ad sh N cells slots Q σ pc' ol (vI (b_and x y) :: st)) : G p l e R s m args below meth c nL A0 D cA ad sh N cells slots Q σ pc ol (vI y :: vI x :: st) := by
  obtain ⟨⟨hx, hb, hml, hown, hts⟩, hK, hA, hAa, hAq, hlk, hZx⟩ := E
  obtain ⟨d, rfl⟩ := d
  intro H locs ls hP hS hL
  have k := k H locs ls hP hS hL
  (try unfold vI at *)
  (try unfold vL at *)
  refine lv_iand hx hb d ?_
  unfold b_and at k
  rw [Int32.ofInt_toInt] at k
  exact k
theorem g_ior (E : Ev p s m args meth c cc nL own A0 D cA ad N Z) {x y : Int} (d : Dc cc pc (.ior) 1 pc') (k : G p l e R s m args below meth c nL A0 D cA ad sh N cells slots Q σ pc' ol (vI (b_or x y) :: st)) : G p l e R s m args below meth c nL A0 D cA ad sh N cells slots Q σ pc ol (vI y :: vI x :: st) := by
  obtain ⟨⟨hx, hb, hml, hown, hts⟩, hK, hA, hAa, hAq, hlk, hZx⟩ := E
  obtain ⟨d, rfl⟩ := d
  intro H locs ls hP hS hL
  have k := k H locs ls hP hS hL
  (try unfold vI at *)
  (try unfold vL at *)
  refine lv_ior hx hb d ?_
  unfold b_or at k
  rw [Int32.ofInt_toInt] at k
  exact k
theorem g_ixor (E : Ev p s m args meth c cc nL own A0 D cA ad N Z) {x y : Int} (d : Dc cc pc (.ixor) 1 pc') (k : G p l e R s m args below meth c nL A0 D cA ad sh N cells slots Q σ pc' ol (vI (b_xor x y) :: st)) : G p l e R s m args below meth c nL A0 D cA ad sh N cells slots Q σ pc ol (vI y :: vI x :: st) := by
  obtain ⟨⟨hx, hb, hml, hown, hts⟩, hK, hA, hAa, hAq, hlk, hZx⟩ := E
  obtain ⟨d, rfl⟩ := d
  intro H locs ls hP hS hL
  have k := k H locs ls hP hS hL
  (try unfold vI at *)
  (try unfold vL at *)
  refine lv_ixor hx hb d ?_
  unfold b_xor at k
  rw [Int32.ofInt_toInt] at k
  exact k
theorem g_ishl (E : Ev p s m args meth c cc nL own A0 D cA ad N Z) {x y : Int} (d : Dc cc pc (.ishl) 1 pc') (k : G p l e R s m args below meth c nL A0 D cA ad sh N cells slots Q σ pc' ol (vI (b_shl x y) :: st)) : G p l e R s m args below meth c nL A0 D cA ad sh N cells slots Q σ pc ol (vI y :: vI x :: st) := by
  obtain ⟨⟨hx, hb, hml, hown, hts⟩, hK, hA, hAa, hAq, hlk, hZx⟩ := E
  obtain ⟨d, rfl⟩ := d
  intro H locs ls hP hS hL
  have k := k H locs ls hP hS hL
  (try unfold vI at *)
  (try unfold vL at *)
  refine lv_ishl hx hb d ?_
  unfold b_shl at k
  rw [Int32.ofInt_toInt] at k
  exact k
theorem g_ishr (E : Ev p s m args meth c cc nL own A0 D cA ad N Z) {x y : Int} (d : Dc cc pc (.ishr) 1 pc') (k : G p l e R s m args below meth c nL A0 D cA ad sh N cells slots Q σ pc' ol (vI (b_shr x y) :: st)) : G p l e R s m args below meth c nL A0 D cA ad sh N cells slots Q σ pc ol (vI y :: vI x :: st) := by
  obtain ⟨⟨hx, hb, hml, hown, hts⟩, hK, hA, hAa, hAq, hlk, hZx⟩ := E
  obtain ⟨d, rfl⟩ := d
  intro H locs ls hP hS hL
  have k := k H locs ls hP hS hL
  (try unfold vI at *)
  (try unfold vL at *)
  refine lv_ishr hx hb d ?_
  unfold b_shr at k
  rw [Int32.ofInt_toInt] at k
  exact k
theorem g_iushr (E : Ev p s m args meth c cc nL own A0 D cA ad N Z) {x y : Int} (d : Dc cc pc (.iushr) 1 pc') (k : G p l e R s m args below meth c nL A0 D cA ad sh N cells slots Q σ pc' ol (vI (b_ushr x y) :: st)) : G p l e R s m args below meth c nL A0 D cA ad sh N cells slots Q σ pc ol (vI y :: vI x :: st) := by
  obtain ⟨⟨hx, hb, hml, hown, hts⟩, hK, hA, hAa, hAq, hlk, hZx⟩ := E
  obtain ⟨d, rfl⟩ := d
  intro H locs ls hP hS hL
  have k := k H locs ls hP hS hL
  (try unfold vI at *)
  (try unfold vL at *)
  refine lv_iushr hx hb d rfl ?_
  unfold b_ushr at k
  rw [Int32.ofInt_toInt] at k
  exact k
theorem g_idiv (E : Ev p s m args meth c cc nL own A0 D cA ad N Z) {x y : Int} (cy : C32 y) (hz : y ≠ 0) (d : Dc cc pc (.idiv) 1 pc') (k : G p l e R s m args below meth c nL A0 D cA ad sh N cells slots Q σ pc' ol (vI (b_div x y) :: st)) : G p l e R s m args below meth c nL A0 D cA ad sh N cells slots Q σ pc ol (vI y :: vI x :: st) := by
  obtain ⟨⟨hx, hb, hml, hown, hts⟩, hK, hA, hAa, hAq, hlk, hZx⟩ := E
  obtain ⟨d, rfl⟩ := d
  intro H locs ls hP hS hL
  have k := k H locs ls hP hS hL
  (try unfold vI at *)
  (try unfold vL at *)
  refine lv_idiv hx hb d (by rw [show (0 : Int32) = Int32.ofInt 0 from rfl, i_eq cy c32_0]; exact hz) ?_
  unfold b_div at k
  rw [Int32.ofInt_toInt] at k
  exact k
theorem g_irem (E : Ev p s m args meth c cc nL own A0 D cA ad N Z) {x y : Int} (cy : C32 y) (hz : y ≠ 0) (d : Dc cc pc (.irem) 1 pc') (k : G p l e R s m args below meth c nL A0 D cA ad sh N cells slots Q σ pc' ol (vI (b_rem x y) :: st)) : G p l e R s m args below meth c nL A0 D cA ad sh N cells slots Q σ pc ol (vI y :: vI x :: st) := by
  obtain ⟨⟨hx, hb, hml, hown, hts⟩, hK, hA, hAa, hAq, hlk, hZx⟩ := E
  obtain ⟨d, rfl⟩ := d
  intro H locs ls hP hS hL
  have k := k H locs ls hP hS hL
  (try unfold vI at *)
  (try unfold vL at *)
  refine lv_irem hx hb d (by rw [show (0 : Int32) = Int32.ofInt 0 from rfl, i_eq cy c32_0]; exact hz) ?_
  unfold b_rem at k
  rw [Int32.ofInt_toInt] at k
  exact k
theorem g_ladd (E : Ev p s m args meth c cc nL own A0 D cA ad N Z) {x y : Int} (d : Dc cc pc (.ladd) 1 pc') (k : G p l e R s m args below meth c nL A0 D cA ad sh N cells slots Q σ pc' ol (vL (w64 (x + y)) :: st)) : G p l e R s m args below meth c nL A0 D cA ad sh N cells slots Q σ pc ol (vL y :: vL x :: st) := by
  obtain ⟨⟨hx, hb, hml, hown, hts⟩, hK, hA, hAa, hAq, hlk, hZx⟩ := E
  obtain ⟨d, rfl⟩ := d
  intro H locs ls hP hS hL
  have k := k H locs ls hP hS hL
  (try unfold vI at *)
  (try unfold vL at *)
  refine lv_ladd hx hb d ?_
  rw [l_w64, Int64.ofInt_add] at k
  exact k
theorem g_lsub (E : Ev p s m args meth c cc nL own A0 D cA ad N Z) {x y : Int} (d : Dc cc pc (.lsub) 1 pc') (k : G p l e R s m args below meth c nL A0 D cA ad sh N cells slots Q σ pc' ol (vL (w64 (x - y)) :: st)) : G p l e R s m args below meth c nL A0 D cA ad sh N cells slots Q σ pc ol (vL y :: vL x :: st) := by
  obtain ⟨⟨hx, hb, hml, hown, hts⟩, hK, hA, hAa, hAq, hlk, hZx⟩ := E
  obtain ⟨d, rfl⟩ := d
  intro H locs ls hP hS hL
  have k := k H locs ls hP hS hL
  (try unfold vI at *)
  (try unfold vL at *)
  refine lv_lsub hx hb d ?_
  rw [l_w64, Int64.ofInt_sub] at k
  exact k
theorem g_lmul (E : Ev p s m args meth c cc nL own A0 D cA ad N Z) {x y : Int} (d : Dc cc pc (.lmul) 1 pc') (k : G p l e R s m args below meth c nL A0 D cA ad sh N cells slots Q σ pc' ol (vL (w64 (x * y)) :: st)) : G p l e R s m args below meth c nL A0 D cA ad sh N cells slots Q σ pc ol (vL y :: vL x :: st) := by
  obtain ⟨⟨hx, hb, hml, hown, hts⟩, hK, hA, hAa, hAq, hlk, hZx⟩ := E
  obtain ⟨d, rfl⟩ := d
  intro H locs ls hP hS hL
  have k := k H locs ls hP hS hL
  (try unfold vI at *)
  (try unfold vL at *)
  refine lv_lmul hx hb d ?_
  rw [l_w64, Int64.ofInt_mul] at k
  exact k
theorem g_land (E : Ev p s m args meth c cc nL own A0 D cA ad N Z) {x y : Int} (d : Dc cc pc (.land) 1 pc') (k : G p l e R s m args below meth c nL A0 D cA ad sh N cells slots Q σ pc' ol (vL (l_and x y) :: st)) : G p l e R s m args below meth c nL A0 D cA ad sh N cells slots Q σ pc ol (vL y :: vL x :: st) := by
  obtain ⟨⟨hx, hb, hml, hown, hts⟩, hK, hA, hAa, hAq, hlk, hZx⟩ := E
  obtain ⟨d, rfl⟩ := d
  intro H locs ls hP hS hL
  have k := k H locs ls hP hS hL
  (try unfold vI at *)
  (try unfold vL at *)
  refine lv_land hx hb d ?_
  unfold l_and at k
  rw [Int64.ofInt_toInt] at k
  exact k
theorem g_lor (E : Ev p s m args meth c cc nL own A0 D cA ad N Z) {x y : Int} (d : Dc cc pc (.lor) 1 pc') (k : G p l e R s m args below meth c nL A0 D cA ad sh N cells slots Q σ pc' ol (vL (l_or x y) :: st)) : G p l e R s m args below meth c nL A0 D cA ad sh N cells slots Q σ pc ol (vL y :: vL x :: st) := by
  obtain ⟨⟨hx, hb, hml, hown, hts⟩, hK, hA, hAa, hAq, hlk, hZx⟩ := E
  obtain ⟨d, rfl⟩ := d
  intro H locs ls hP hS hL
  have k := k H locs ls hP hS hL
  (try unfold vI at *)
  (try unfold vL at *)
  refine lv_lor hx hb d ?_
  unfold l_or at k
  rw [Int64.ofInt_toInt] at k
  exact k
theorem g_lxor (E : Ev p s m args meth c cc nL own A0 D cA ad N Z) {x y : Int} (d : Dc cc pc (.lxor) 1 pc') (k : G p l e R s m args below meth c nL A0 D cA ad sh N cells slots Q σ pc' ol (vL (l_xor x y) :: st)) : G p l e R s m args below meth c nL A0 D cA ad sh N cells slots Q σ pc ol (vL y :: vL x :: st) := by
  obtain ⟨⟨hx, hb, hml, hown, hts⟩, hK, hA, hAa, hAq, hlk, hZx⟩ := E
  obtain ⟨d, rfl⟩ := d
  intro H locs ls hP hS hL
  have k := k H locs ls hP hS hL
  (try unfold vI at *)
  (try unfold vL at *)
  refine lv_lxor hx hb d ?_
  unfold l_xor at k
  rw [Int64.ofInt_toInt] at k
  exact k
theorem g_ldiv (E : Ev p s m args meth c cc nL own A0 D cA ad N Z) {x y : Int} (cy : C64 y) (hz : y ≠ 0) (d : Dc cc pc (.ldiv) 1 pc') (k : G p l e R s m args below meth c nL A0 D cA ad sh N cells slots Q σ pc' ol (vL (l_div x y) :: st)) : G p l e R s m args below meth c nL A0 D cA ad sh N cells slots Q σ pc ol (vL y :: vL x :: st) := by
  obtain ⟨⟨hx, hb, hml, hown, hts⟩, hK, hA, hAa, hAq, hlk, hZx⟩ := E
  obtain ⟨d, rfl⟩ := d
  intro H locs ls hP hS hL
  have k := k H locs ls hP hS hL
  (try unfold vI at *)
  (try unfold vL at *)
  refine lv_ldiv hx hb d (by rw [show (0 : Int64) = Int64.ofInt 0 from rfl, l_eq cy (by unfold C64; omega)]; exact hz) ?_
  unfold l_div at k
  rw [Int64.ofInt_toInt] at k
  exact k
theorem g_lrem (E : Ev p s m args meth c cc nL own A0 D cA ad N Z) {x y : Int} (cy : C64 y) (hz : y ≠ 0) (d : Dc cc pc (.lrem) 1 pc') (k : G p l e R s m args below meth c nL A0 D cA ad sh N cells slots Q σ pc' ol (vL (l_rem x y) :: st)) : G p l e R s m args below meth c nL A0 D cA ad sh N cells slots Q σ pc ol (vL y :: vL x :: st) := by
  obtain ⟨⟨hx, hb, hml, hown, hts⟩, hK, hA, hAa, hAq, hlk, hZx⟩ := E
  obtain ⟨d, rfl⟩ := d
  intro H locs ls hP hS hL
  have k := k H locs ls hP hS hL
  (try unfold vI at *)
  (try unfold vL at *)
  refine lv_lrem hx hb d (by rw [show (0 : Int64) = Int64.ofInt 0 from rfl, l_eq cy (by unfold C64; omega)]; exact hz) ?_
  unfold l_rem at k
  rw [Int64.ofInt_toInt] at k
  exact k
theorem g_lshl (E : Ev p s m args meth c cc nL own A0 D cA ad N Z) {x y : Int} (d : Dc cc pc (.lshl) 1 pc') (k : G p l e R s m args below meth c nL A0 D cA ad sh N cells slots Q σ pc' ol (vL (l_shl x y) :: st)) : G p l e R s m args below meth c nL A0 D cA ad sh N cells slots Q σ pc ol (vI y :: vL x :: st) := by
  obtain ⟨⟨hx, hb, hml, hown, hts⟩, hK, hA, hAa, hAq, hlk, hZx⟩ := E
  obtain ⟨d, rfl⟩ := d
  intro H locs ls hP hS hL
  have k := k H locs ls hP hS hL
  (try unfold vI at *)
  (try unfold vL at *)
  refine lv_lshl hx hb d rfl ?_
  unfold l_shl at k
  rw [Int64.ofInt_toInt] at k
  exact k
theorem g_lshr (E : Ev p s m args meth c cc nL own A0 D cA ad N Z) {x y : Int} (d : Dc cc pc (.lshr) 1 pc') (k : G p l e R s m args below meth c nL A0 D cA ad sh N cells slots Q σ pc' ol (vL (l_shr x y) :: st)) : G p l e R s m args below meth c nL A0 D cA ad sh N cells slots Q σ pc ol (vI y :: vL x :: st) := by
  obtain ⟨⟨hx, hb, hml, hown, hts⟩, hK, hA, hAa, hAq, hlk, hZx⟩ := E
  obtain ⟨d, rfl⟩ := d
  intro H locs ls hP hS hL
  have k := k H locs ls hP hS hL
  (try unfold vI at *)
  (try unfold vL at *)
  refine lv_lshr hx hb d rfl ?_
  unfold l_shr at k
  rw [Int64.ofInt_toInt] at k
  exact k
theorem g_lushr (E : Ev p s m args meth c cc nL own A0 D cA ad N Z) {x y : Int} (d : Dc cc pc (.lushr) 1 pc') (k : G p l e R s m args below meth c nL A0 D cA ad sh N cells slots Q σ pc' ol (vL (l_ushr x y) :: st)) : G p l e R s m args below meth c nL A0 D cA ad sh N cells slots Q σ pc ol (vI y :: vL x :: st) := by
  obtain ⟨⟨hx, hb, hml, hown, hts⟩, hK, hA, hAa, hAq, hlk, hZx⟩ := E
  obtain ⟨d, rfl⟩ := d
  intro H locs ls hP hS hL
  have k := k H locs ls hP hS hL
  (try unfold vI at *)
  (try unfold vL at *)
  refine lv_lushr hx hb d rfl ?_
  unfold l_ushr at k
  rw [Int64.ofInt_toInt] at k
  exact k
theorem g_ineg (E : Ev p s m args meth c cc nL own A0 D cA ad N Z) {x : Int} (d : Dc cc pc (.ineg) 1 pc') (k : G p l e R s m args below meth c nL A0 D cA ad sh N cells slots Q σ pc' ol (vI (w32 (-x)) :: st)) : G p l e R s m args below meth c nL A0 D cA ad sh N cells slots Q σ pc ol (vI x :: st) := by
  obtain ⟨⟨hx, hb, hml, hown, hts⟩, hK, hA, hAa, hAq, hlk, hZx⟩ := E
  obtain ⟨d, rfl⟩ := d
  intro H locs ls hP hS hL
  have k := k H locs ls hP hS hL
  (try unfold vI at *)
  (try unfold vL at *)
  refine lv_ineg hx hb d ?_
  rw [i_w32, Int32.ofInt_neg] at k
  exact k
theorem g_i2l (E : Ev p s m args meth c cc nL own A0 D cA ad N Z) {x : Int} (cx : C32 x) (d : Dc cc pc (.i2l) 1 pc') (k : G p l e R s m args below meth c nL A0 D cA ad sh N cells slots Q σ pc' ol (vL x :: st)) : G p l e R s m args below meth c nL A0 D cA ad sh N cells slots Q σ pc ol (vI x :: st) := by
  obtain ⟨⟨hx, hb, hml, hown, hts⟩, hK, hA, hAa, hAq, hlk, hZx⟩ := E
  obtain ⟨d, rfl⟩ := d
  intro H locs ls hP hS hL
  have k := k H locs ls hP hS hL
  (try unfold vI at *)
  (try unfold vL at *)
  refine lv_i2l hx hb d rfl ?_
  rw [show Int64.ofInt x = (Int32.ofInt x).toInt64 by rw [← Int64.toInt_inj, l_toInt (c32_of_c64 cx), Int32.toInt_toInt64, i_toInt cx]] at k
  exact k
theorem g_l2i (E : Ev p s m args meth c cc nL own A0 D cA ad N Z) {x : Int} (d : Dc cc pc (.l2i) 1 pc') (k : G p l e R s m args below meth c nL A0 D cA ad sh N cells slots Q σ pc' ol (vI (l_int x) :: st)) : G p l e R s m args below meth c nL A0 D cA ad sh N cells slots Q σ pc ol (vL x :: st) := by
  obtain ⟨⟨hx, hb, hml, hown, hts⟩, hK, hA, hAa, hAq, hlk, hZx⟩ := E
  obtain ⟨d, rfl⟩ := d
  intro H locs ls hP hS hL
  have k := k H locs ls hP hS hL
  (try unfold vI at *)
  (try unfold vL at *)
  refine lv_l2i hx hb d rfl ?_
  unfold l_int at k
  rw [Int32.ofInt_toInt] at k
  exact k
theorem g_i2b (E : Ev p s m args meth c cc nL own A0 D cA ad N Z) {x : Int} (d : Dc cc pc (.i2b) 1 pc') (k : G p l e R s m args below meth c nL A0 D cA ad sh N cells slots Q σ pc' ol (vI (b_byte x) :: st)) : G p l e R s m args below meth c nL A0 D cA ad sh N cells slots Q σ pc ol (vI x :: st) := by
  obtain ⟨⟨hx, hb, hml, hown, hts⟩, hK, hA, hAa, hAq, hlk, hZx⟩ := E
  obtain ⟨d, rfl⟩ := d
  intro H locs ls hP hS hL
  have k := k H locs ls hP hS hL
  (try unfold vI at *)
  (try unfold vL at *)
  refine lv_i2b hx hb d rfl ?_
  unfold b_byte at k
  rw [Int32.ofInt_toInt] at k
  exact k
theorem g_i2c (E : Ev p s m args meth c cc nL own A0 D cA ad N Z) {x : Int} (d : Dc cc pc (.i2c) 1 pc') (k : G p l e R s m args below meth c nL A0 D cA ad sh N cells slots Q σ pc' ol (vI (b_char x) :: st)) : G p l e R s m args below meth c nL A0 D cA ad sh N cells slots Q σ pc ol (vI x :: st) := by
  obtain ⟨⟨hx, hb, hml, hown, hts⟩, hK, hA, hAa, hAq, hlk, hZx⟩ := E
  obtain ⟨d, rfl⟩ := d
  intro H locs ls hP hS hL
  have k := k H locs ls hP hS hL
  (try unfold vI at *)
  (try unfold vL at *)
  refine lv_i2c hx hb d rfl ?_
  unfold b_char at k
  rw [Int32.ofInt_toInt] at k
  exact k
theorem g_dup (E : Ev p s m args meth c cc nL own A0 D cA ad N Z) {v : Value} (hv : v.category = 1) (d : Dc cc pc .dup 1 pc') (k : G p l e R s m args below meth c nL A0 D cA ad sh N cells slots Q σ pc' ol (v :: v :: st)) : G p l e R s m args below meth c nL A0 D cA ad sh N cells slots Q σ pc ol (v :: st) := by
  obtain ⟨⟨hx, hb, hml, hown, hts⟩, hK, hA, hAa, hAq, hlk, hZx⟩ := E
  obtain ⟨d, rfl⟩ := d
  intro H locs ls hP hS hL
  exact lv_dup hx hb d hv (k H locs ls hP hS hL)
theorem g_pop (E : Ev p s m args meth c cc nL own A0 D cA ad N Z) {v : Value} (hv : v.category = 1) (d : Dc cc pc .pop 1 pc') (k : G p l e R s m args below meth c nL A0 D cA ad sh N cells slots Q σ pc' ol st) : G p l e R s m args below meth c nL A0 D cA ad sh N cells slots Q σ pc ol (v :: st) := by
  obtain ⟨⟨hx, hb, hml, hown, hts⟩, hK, hA, hAa, hAq, hlk, hZx⟩ := E
  obtain ⟨d, rfl⟩ := d
  intro H locs ls hP hS hL
  exact lv_pop hx hb d hv (k H locs ls hP hS hL)
theorem g_dup2 (E : Ev p s m args meth c cc nL own A0 D cA ad N Z) {v w : Value} (hv : v.category = 1) (hw : w.category = 1) (d : Dc cc pc .dup2 1 pc') (k : G p l e R s m args below meth c nL A0 D cA ad sh N cells slots Q σ pc' ol (v :: w :: v :: w :: st)) : G p l e R s m args below meth c nL A0 D cA ad sh N cells slots Q σ pc ol (v :: w :: st) := by
  obtain ⟨⟨hx, hb, hml, hown, hts⟩, hK, hA, hAa, hAq, hlk, hZx⟩ := E
  obtain ⟨d, rfl⟩ := d
  intro H locs ls hP hS hL
  exact lv_dup2_11 hx hb d hv hw (k H locs ls hP hS hL)
theorem g_goto (E : Ev p s m args meth c cc nL own A0 D cA ad N Z) {off : Int} (d : Dj cc pc (.goto off) 3 pc' off tgt) (k : G p l e R s m args below meth c nL A0 D cA ad sh N cells slots Q σ tgt ol st) : G p l e R s m args below meth c nL A0 D cA ad sh N cells slots Q σ pc ol st := by
  obtain ⟨⟨hx, hb, hml, hown, hts⟩, hK, hA, hAa, hAq, hlk, hZx⟩ := E
  obtain ⟨d, rfl, ht⟩ := d
  intro H locs ls hP hS hL
  exact lv_goto hx hb d ht (k H locs ls hP hS hL)
theorem g_icmp_eq (E : Ev p s m args meth c cc nL own A0 D cA ad N Z) {off x y : Int} (cx : C32 x) (cy : C32 y) (d : Dj cc pc (.if_icmp .eq off) 3 pc' off tgt) (k1 : x = y → G p l e R s m args below meth c nL A0 D cA ad sh N cells slots Q σ tgt ol st) (k2 : ¬ (x = y) → G p l e R s m args below meth c nL A0 D cA ad sh N cells slots Q σ pc' ol st) : G p l e R s m args below meth c nL A0 D cA ad sh N cells slots Q σ pc ol (vI y :: vI x :: st) := by
  obtain ⟨⟨hx, hb, hml, hown, hts⟩, hK, hA, hAa, hAq, hlk, hZx⟩ := E
  obtain ⟨d, rfl, ht⟩ := d
  intro H locs ls hP hS hL
  refine lv_icmp_eq hx hb d ht (fun h => k1 ?_ H locs ls hP hS hL) (fun h => k2 ?_ H locs ls hP hS hL)
  · simpa only [ge_iff_le, gt_iff_lt, ne_eq, Decidable.not_not, i_eq cx cy, i_lt cx cy, i_lt cy cx, i_le cx cy, i_le cy cx] using h
  · simpa only [ge_iff_le, gt_iff_lt, ne_eq, Decidable.not_not, i_eq cx cy, i_lt cx cy, i_lt cy cx, i_le cx cy, i_le cy cx] using h
theorem g_if_eq (E : Ev p s m args meth c cc nL own A0 D cA ad N Z) {off x : Int} (cx : C32 x) (d : Dj cc pc (.ifCond .eq off) 3 pc' off tgt) (k1 : x = 0 → G p l e R s m args below meth c nL A0 D cA ad sh N cells slots Q σ tgt ol st) (k2 : ¬ (x = 0) → G p l e R s m args below meth c nL A0 D cA ad sh N cells slots Q σ pc' ol st) : G p l e R s m args below meth c nL A0 D cA ad sh N cells slots Q σ pc ol (vI x :: st) := by
  obtain ⟨⟨hx, hb, hml, hown, hts⟩, hK, hA, hAa, hAq, hlk, hZx⟩ := E
  obtain ⟨d, rfl, ht⟩ := d
  intro H locs ls hP hS hL
  refine lv_if_eq hx hb d ht (fun h => k1 ?_ H locs ls hP hS hL) (fun h => k2 ?_ H locs ls hP hS hL)
  · rw [show (0 : Int32) = Int32.ofInt 0 from rfl] at h
    simpa only [ge_iff_le, gt_iff_lt, ne_eq, Decidable.not_not, i_eq cx c32_0, i_lt cx c32_0, i_lt c32_0 cx, i_le cx c32_0, i_le c32_0 cx] using h
  · rw [show (0 : Int32) = Int32.ofInt 0 from rfl] at h
    simpa only [ge_iff_le, gt_iff_lt, ne_eq, Decidable.not_not, i_eq cx c32_0, i_lt cx c32_0, i_lt c32_0 cx, i_le cx c32_0, i_le c32_0 cx] using h
theorem g_icmp_ne (E : Ev p s m args meth c cc nL own A0 D cA ad N Z) {off x y : Int} (cx : C32 x) (cy : C32 y) (d : Dj cc pc (.if_icmp .ne off) 3 pc' off tgt) (k1 : x ≠ y → G p l e R s m args below meth c nL A0 D cA ad sh N cells slots Q σ tgt ol st) (k2 : ¬ (x ≠ y) → G p l e R s m args below meth c nL A0 D cA ad sh N cells slots Q σ pc' ol st) : G p l e R s m args below meth c nL A0 D cA ad sh N cells slots Q σ pc ol (vI y :: vI x :: st) := by
  obtain ⟨⟨hx, hb, hml, hown, hts⟩, hK, hA, hAa, hAq, hlk, hZx⟩ := E
  obtain ⟨d, rfl, ht⟩ := d
  intro H locs ls hP hS hL
  refine lv_icmp_ne hx hb d ht (fun h => k1 ?_ H locs ls hP hS hL) (fun h => k2 ?_ H locs ls hP hS hL)
  · simpa only [ge_iff_le, gt_iff_lt, ne_eq, Decidable.not_not, i_eq cx cy, i_lt cx cy, i_lt cy cx, i_le cx cy, i_le cy cx] using h
  · simpa only [ge_iff_le, gt_iff_lt, ne_eq, Decidable.not_not, i_eq cx cy, i_lt cx cy, i_lt cy cx, i_le cx cy, i_le cy cx] using h
theorem g_if_ne (E : Ev p s m args meth c cc nL own A0 D cA ad N Z) {off x : Int} (cx : C32 x) (d : Dj cc pc (.ifCond .ne off) 3 pc' off tgt) (k1 : x ≠ 0 → G p l e R s m args below meth c nL A0 D cA ad sh N cells slots Q σ tgt ol st) (k2 : ¬ (x ≠ 0) → G p l e R s m args below meth c nL A0 D cA ad sh N cells slots Q σ pc' ol st) : G p l e R s m args below meth c nL A0 D cA ad sh N cells slots Q σ pc ol (vI x :: st) := by
  obtain ⟨⟨hx, hb, hml, hown, hts⟩, hK, hA, hAa, hAq, hlk, hZx⟩ := E
  obtain ⟨d, rfl, ht⟩ := d
  intro H locs ls hP hS hL
  refine lv_if_ne hx hb d ht (fun h => k1 ?_ H locs ls hP hS hL) (fun h => k2 ?_ H locs ls hP hS hL)
  · rw [show (0 : Int32) = Int32.ofInt 0 from rfl] at h
    simpa only [ge_iff_le, gt_iff_lt, ne_eq, Decidable.not_not, i_eq cx c32_0, i_lt cx c32_0, i_lt c32_0 cx, i_le cx c32_0, i_le c32_0 cx] using h
  · rw [show (0 : Int32) = Int32.ofInt 0 from rfl] at h
    simpa only [ge_iff_le, gt_iff_lt, ne_eq, Decidable.not_not, i_eq cx c32_0, i_lt cx c32_0, i_lt c32_0 cx, i_le cx c32_0, i_le c32_0 cx] using h
theorem g_icmp_lt (E : Ev p s m args meth c cc nL own A0 D cA ad N Z) {off x y : Int} (cx : C32 x) (cy : C32 y) (d : Dj cc pc (.if_icmp .lt off) 3 pc' off tgt) (k1 : x < y → G p l e R s m args below meth c nL A0 D cA ad sh N cells slots Q σ tgt ol st) (k2 : ¬ (x < y) → G p l e R s m args below meth c nL A0 D cA ad sh N cells slots Q σ pc' ol st) : G p l e R s m args below meth c nL A0 D cA ad sh N cells slots Q σ pc ol (vI y :: vI x :: st) := by
  obtain ⟨⟨hx, hb, hml, hown, hts⟩, hK, hA, hAa, hAq, hlk, hZx⟩ := E
  obtain ⟨d, rfl, ht⟩ := d
  intro H locs ls hP hS hL
  refine lv_icmp_lt hx hb d ht (fun h => k1 ?_ H locs ls hP hS hL) (fun h => k2 ?_ H locs ls hP hS hL)
  · simpa only [ge_iff_le, gt_iff_lt, ne_eq, Decidable.not_not, i_eq cx cy, i_lt cx cy, i_lt cy cx, i_le cx cy, i_le cy cx] using h
  · simpa only [ge_iff_le, gt_iff_lt, ne_eq, Decidable.not_not, i_eq cx cy, i_lt cx cy, i_lt cy cx, i_le cx cy, i_le cy cx] using h
theorem g_if_lt (E : Ev p s m args meth c cc nL own A0 D cA ad N Z) {off x : Int} (cx : C32 x) (d : Dj cc pc (.ifCond .lt off) 3 pc' off tgt) (k1 : x < 0 → G p l e R s m args below meth c nL A0 D cA ad sh N cells slots Q σ tgt ol st) (k2 : ¬ (x < 0) → G p l e R s m args below meth c nL A0 D cA ad sh N cells slots Q σ pc' ol st) : G p l e R s m args below meth c nL A0 D cA ad sh N cells slots Q σ pc ol (vI x :: st) := by
  obtain ⟨⟨hx, hb, hml, hown, hts⟩, hK, hA, hAa, hAq, hlk, hZx⟩ := E
  obtain ⟨d, rfl, ht⟩ := d
  intro H locs ls hP hS hL
  refine lv_if_lt hx hb d ht (fun h => k1 ?_ H locs ls hP hS hL) (fun h => k2 ?_ H locs ls hP hS hL)
  · rw [show (0 : Int32) = Int32.ofInt 0 from rfl] at h
    simpa only [ge_iff_le, gt_iff_lt, ne_eq, Decidable.not_not, i_eq cx c32_0, i_lt cx c32_0, i_lt c32_0 cx, i_le cx c32_0, i_le c32_0 cx] using h
  · rw [show (0 : Int32) = Int32.ofInt 0 from rfl] at h
    simpa only [ge_iff_le, gt_iff_lt, ne_eq, Decidable.not_not, i_eq cx c32_0, i_lt cx c32_0, i_lt c32_0 cx, i_le cx c32_0, i_le c32_0 cx] using h
theorem g_icmp_ge (E : Ev p s m args meth c cc nL own A0 D cA ad N Z) {off x y : Int} (cx : C32 x) (cy : C32 y) (d : Dj cc pc (.if_icmp .ge off) 3 pc' off tgt) (k1 : x ≥ y → G p l e R s m args below meth c nL A0 D cA ad sh N cells slots Q σ tgt ol st) (k2 : ¬ (x ≥ y) → G p l e R s m args below meth c nL A0 D cA ad sh N cells slots Q σ pc' ol st) : G p l e R s m args below meth c nL A0 D cA ad sh N cells slots Q σ pc ol (vI y :: vI x :: st) := by
  obtain ⟨⟨hx, hb, hml, hown, hts⟩, hK, hA, hAa, hAq, hlk, hZx⟩ := E
  obtain ⟨d, rfl, ht⟩ := d
  intro H locs ls hP hS hL
  refine lv_icmp_ge hx hb d ht (fun h => k1 ?_ H locs ls hP hS hL) (fun h => k2 ?_ H locs ls hP hS hL)
  · simpa only [ge_iff_le, gt_iff_lt, ne_eq, Decidable.not_not, i_eq cx cy, i_lt cx cy, i_lt cy cx, i_le cx cy, i_le cy cx] using h
  · simpa only [ge_iff_le, gt_iff_lt, ne_eq, Decidable.not_not, i_eq cx cy, i_lt cx cy, i_lt cy cx, i_le cx cy, i_le cy cx] using h
theorem g_if_ge (E : Ev p s m args meth c cc nL own A0 D cA ad N Z) {off x : Int} (cx : C32 x) (d : Dj cc pc (.ifCond .ge off) 3 pc' off tgt) (k1 : x ≥ 0 → G p l e R s m args below meth c nL A0 D cA ad sh N cells slots Q σ tgt ol st) (k2 : ¬ (x ≥ 0) → G p l e R s m args below meth c nL A0 D cA ad sh N cells slots Q σ pc' ol st) : G p l e R s m args below meth c nL A0 D cA ad sh N cells slots Q σ pc ol (vI x :: st) := by
  obtain ⟨⟨hx, hb, hml, hown, hts⟩, hK, hA, hAa, hAq, hlk, hZx⟩ := E
  obtain ⟨d, rfl, ht⟩ := d
  intro H locs ls hP hS hL
  refine lv_if_ge hx hb d ht (fun h => k1 ?_ H locs ls hP hS hL) (fun h => k2 ?_ H locs ls hP hS hL)
  · rw [show (0 : Int32) = Int32.ofInt 0 from rfl] at h
    simpa only [ge_iff_le, gt_iff_lt, ne_eq, Decidable.not_not, i_eq cx c32_0, i_lt cx c32_0, i_lt c32_0 cx, i_le cx c32_0, i_le c32_0 cx] using h
  · rw [show (0 : Int32) = Int32.ofInt 0 from rfl] at h
    simpa only [ge_iff_le, gt_iff_lt, ne_eq, Decidable.not_not, i_eq cx c32_0, i_lt cx c32_0, i_lt c32_0 cx, i_le cx c32_0, i_le c32_0 cx] using h
theorem g_icmp_gt (E : Ev p s m args meth c cc nL own A0 D cA ad N Z) {off x y : Int} (cx : C32 x) (cy : C32 y) (d : Dj cc pc (.if_icmp .gt off) 3 pc' off tgt) (k1 : x > y → G p l e R s m args below meth c nL A0 D cA ad sh N cells slots Q σ tgt ol st) (k2 : ¬ (x > y) → G p l e R s m args below meth c nL A0 D cA ad sh N cells slots Q σ pc' ol st) : G p l e R s m args below meth c nL A0 D cA ad sh N cells slots Q σ pc ol (vI y :: vI x :: st) := by
  obtain ⟨⟨hx, hb, hml, hown, hts⟩, hK, hA, hAa, hAq, hlk, hZx⟩ := E
  obtain ⟨d, rfl, ht⟩ := d
  intro H locs ls hP hS hL
  refine lv_icmp_gt hx hb d ht (fun h => k1 ?_ H locs ls hP hS hL) (fun h => k2 ?_ H locs ls hP hS hL)
  · simpa only [ge_iff_le, gt_iff_lt, ne_eq, Decidable.not_not, i_eq cx cy, i_lt cx cy, i_lt cy cx, i_le cx cy, i_le cy cx] using h
  · simpa only [ge_iff_le, gt_iff_lt, ne_eq, Decidable.not_not, i_eq cx cy, i_lt cx cy, i_lt cy cx, i_le cx cy, i_le cy cx] using h
theorem g_if_gt (E : Ev p s m args meth c cc nL own A0 D cA ad N Z) {off x : Int} (cx : C32 x) (d : Dj cc pc (.ifCond .gt off) 3 pc' off tgt) (k1 : x > 0 → G p l e R s m args below meth c nL A0 D cA ad sh N cells slots Q σ tgt ol st) (k2 : ¬ (x > 0) → G p l e R s m args below meth c nL A0 D cA ad sh N cells slots Q σ pc' ol st) : G p l e R s m args below meth c nL A0 D cA ad sh N cells slots Q σ pc ol (vI x :: st) := by
  obtain ⟨⟨hx, hb, hml, hown, hts⟩, hK, hA, hAa, hAq, hlk, hZx⟩ := E
  obtain ⟨d, rfl, ht⟩ := d
  intro H locs ls hP hS hL
  refine lv_if_gt hx hb d ht (fun h => k1 ?_ H locs ls hP hS hL) (fun h => k2 ?_ H locs ls hP hS hL)
  · rw [show (0 : Int32) = Int32.ofInt 0 from rfl] at h
    simpa only [ge_iff_le, gt_iff_lt, ne_eq, Decidable.not_not, i_eq cx c32_0, i_lt cx c32_0, i_lt c32_0 cx, i_le cx c32_0, i_le c32_0 cx] using h
  · rw [show (0 : Int32) = Int32.ofInt 0 from rfl] at h
    simpa only [ge_iff_le, gt_iff_lt, ne_eq, Decidable.not_not, i_eq cx c32_0, i_lt cx c32_0, i_lt c32_0 cx, i_le cx c32_0, i_le c32_0 cx] using h
theorem g_icmp_le (E : Ev p s m args meth c cc nL own A0 D cA ad N Z) {off x y : Int} (cx : C32 x) (cy : C32 y) (d : Dj cc pc (.if_icmp .le off) 3 pc' off tgt) (k1 : x ≤ y → G p l e R s m args below meth c nL A0 D cA ad sh N cells slots Q σ tgt ol st) (k2 : ¬ (x ≤ y) → G p l e R s m args below meth c nL A0 D cA ad sh N cells slots Q σ pc' ol st) : G p l e R s m args below meth c nL A0 D cA ad sh N cells slots Q σ pc ol (vI y :: vI x :: st) := by
  obtain ⟨⟨hx, hb, hml, hown, hts⟩, hK, hA, hAa, hAq, hlk, hZx⟩ := E
  obtain ⟨d, rfl, ht⟩ := d
  intro H locs ls hP hS hL
  refine lv_icmp_le hx hb d ht (fun h => k1 ?_ H locs ls hP hS hL) (fun h => k2 ?_ H locs ls hP hS hL)
  · simpa only [ge_iff_le, gt_iff_lt, ne_eq, Decidable.not_not, i_eq cx cy, i_lt cx cy, i_lt cy cx, i_le cx cy, i_le cy cx] using h
  · simpa only [ge_iff_le, gt_iff_lt, ne_eq, Decidable.not_not, i_eq cx cy, i_lt cx cy, i_lt cy cx, i_le cx cy, i_le cy cx] using h
theorem g_if_le (E : Ev p s m args meth c cc nL own A0 D cA ad N Z) {off x : Int} (cx : C32 x) (d : Dj cc pc (.ifCond .le off) 3 pc' off tgt) (k1 : x ≤ 0 → G p l e R s m args below meth c nL A0 D cA ad sh N cells slots Q σ tgt ol st) (k2 : ¬ (x ≤ 0) → G p l e R s m args below meth c nL A0 D cA ad sh N cells slots Q σ pc' ol st) : G p l e R s m args below meth c nL A0 D cA ad sh N cells slots Q σ pc ol (vI x :: st) := by
  obtain ⟨⟨hx, hb, hml, hown, hts⟩, hK, hA, hAa, hAq, hlk, hZx⟩ := E
  obtain ⟨d, rfl, ht⟩ := d
  intro H locs ls hP hS hL
  refine lv_if_le hx hb d ht (fun h => k1 ?_ H locs ls hP hS hL) (fun h => k2 ?_ H locs ls hP hS hL)
  · rw [show (0 : Int32) = Int32.ofInt 0 from rfl] at h
    simpa only [ge_iff_le, gt_iff_lt, ne_eq, Decidable.not_not, i_eq cx c32_0, i_lt cx c32_0, i_lt c32_0 cx, i_le cx c32_0, i_le c32_0 cx] using h
  · rw [show (0 : Int32) = Int32.ofInt 0 from rfl] at h
    simpa only [ge_iff_le, gt_iff_lt, ne_eq, Decidable.not_not, i_eq cx c32_0, i_lt cx c32_0, i_lt c32_0 cx, i_le cx c32_0, i_le c32_0 cx] using h
theorem cmp_spec {x y : Int} (cx : C64 x) (cy : C64 y) : lg_cmp (Int64.ofInt x) (Int64.ofInt y) = Int32.ofInt (if y < x then 1 else if x = y then 0 else -1) := by
  unfold lg_cmp
  simp only [l_lt cy cx, l_eq cx cy]
  split
  · rfl
  · split <;> rfl
theorem g_lcmp_eq (E : Ev p s m args meth c cc nL own A0 D cA ad N Z) {off x y : Int} {pc1 : Nat} (cx : C64 x) (cy : C64 y) (d1 : Dc cc pc .lcmp 1 pc1) (d : Dj cc pc1 (.ifCond .eq off) 3 pc' off tgt) (k1 : x = y → G p l e R s m args below meth c nL A0 D cA ad sh N cells slots Q σ tgt ol st) (k2 : ¬ (x = y) → G p l e R s m args below meth c nL A0 D cA ad sh N cells slots Q σ pc' ol st) : G p l e R s m args below meth c nL A0 D cA ad sh N cells slots Q σ pc ol (vL y :: vL x :: st) := by
  obtain ⟨⟨hx, hb, hml, hown, hts⟩, hK, hA, hAa, hAq, hlk, hZx⟩ := E
  have E2 : Ev p s m args meth c cc nL own A0 D cA ad N Z := ⟨⟨hx, hb, hml, hown, hts⟩, hK, hA, hAa, hAq, hlk, hZx⟩
  obtain ⟨d1, rfl⟩ := d1
  have cz : C32 (if y < x then 1 else if x = y then 0 else -1) := by
    unfold C32
    split
    · omega
    · split <;> omega
  have kk := g_if_eq (st := st) E2 cz d (fun h => k1 (by split at h <;> (try split at h) <;> omega)) (fun h => k2 (by split at h <;> (try split at h) <;> omega))
  intro H locs ls hP hS hL
  refine W.lcmp hx hb d1 ?_
  rw [cmp_spec cx cy]
  exact kk H locs ls hP hS hL
theorem g_lcmp_ne (E : Ev p s m args meth c cc nL own A0 D cA ad N Z) {off x y : Int} {pc1 : Nat} (cx : C64 x) (cy : C64 y) (d1 : Dc cc pc .lcmp 1 pc1) (d : Dj cc pc1 (.ifCond .ne off) 3 pc' off tgt) (k1 : x ≠ y → G p l e R s m args below meth c nL A0 D cA ad sh N cells slots Q σ tgt ol st) (k2 : ¬ (x ≠ y) → G p l e R s m args below meth c nL A0 D cA ad sh N cells slots Q σ pc' ol st) : G p l e R s m args below meth c nL A0 D cA ad sh N cells slots Q σ pc ol (vL y :: vL x :: st) := by
  obtain ⟨⟨hx, hb, hml, hown, hts⟩, hK, hA, hAa, hAq, hlk, hZx⟩ := E
  have E2 : Ev p s m args meth c cc nL own A0 D cA ad N Z := ⟨⟨hx, hb, hml, hown, hts⟩, hK, hA, hAa, hAq, hlk, hZx⟩
  obtain ⟨d1, rfl⟩ := d1
  have cz : C32 (if y < x then 1 else if x = y then 0 else -1) := by
    unfold C32
    split
    · omega
    · split <;> omega
  have kk := g_if_ne (st := st) E2 cz d (fun h => k1 (by split at h <;> (try split at h) <;> omega)) (fun h => k2 (by split at h <;> (try split at h) <;> omega))
  intro H locs ls hP hS hL
  refine W.lcmp hx hb d1 ?_
  rw [cmp_spec cx cy]
  exact kk H locs ls hP hS hL
theorem g_lcmp_lt (E : Ev p s m args meth c cc nL own A0 D cA ad N Z) {off x y : Int} {pc1 : Nat} (cx : C64 x) (cy : C64 y) (d1 : Dc cc pc .lcmp 1 pc1) (d : Dj cc pc1 (.ifCond .lt off) 3 pc' off tgt) (k1 : x < y → G p l e R s m args below meth c nL A0 D cA ad sh N cells slots Q σ tgt ol st) (k2 : ¬ (x < y) → G p l e R s m args below meth c nL A0 D cA ad sh N cells slots Q σ pc' ol st) : G p l e R s m args below meth c nL A0 D cA ad sh N cells slots Q σ pc ol (vL y :: vL x :: st) := by
  obtain ⟨⟨hx, hb, hml, hown, hts⟩, hK, hA, hAa, hAq, hlk, hZx⟩ := E
  have E2 : Ev p s m args meth c cc nL own A0 D cA ad N Z := ⟨⟨hx, hb, hml, hown, hts⟩, hK, hA, hAa, hAq, hlk, hZx⟩
  obtain ⟨d1, rfl⟩ := d1
  have cz : C32 (if y < x then 1 else if x = y then 0 else -1) := by
    unfold C32
    split
    · omega
    · split <;> omega
  have kk := g_if_lt (st := st) E2 cz d (fun h => k1 (by split at h <;> (try split at h) <;> omega)) (fun h => k2 (by split at h <;> (try split at h) <;> omega))
  intro H locs ls hP hS hL
  refine W.lcmp hx hb d1 ?_
  rw [cmp_spec cx cy]
  exact kk H locs ls hP hS hL
theorem g_lcmp_ge (E : Ev p s m args meth c cc nL own A0 D cA ad N Z) {off x y : Int} {pc1 : Nat} (cx : C64 x) (cy : C64 y) (d1 : Dc cc pc .lcmp 1 pc1) (d : Dj cc pc1 (.ifCond .ge off) 3 pc' off tgt) (k1 : x ≥ y → G p l e R s m args below meth c nL A0 D cA ad sh N cells slots Q σ tgt ol st) (k2 : ¬ (x ≥ y) → G p l e R s m args below meth c nL A0 D cA ad sh N cells slots Q σ pc' ol st) : G p l e R s m args below meth c nL A0 D cA ad sh N cells slots Q σ pc ol (vL y :: vL x :: st) := by
  obtain ⟨⟨hx, hb, hml, hown, hts⟩, hK, hA, hAa, hAq, hlk, hZx⟩ := E
  have E2 : Ev p s m args meth c cc nL own A0 D cA ad N Z := ⟨⟨hx, hb, hml, hown, hts⟩, hK, hA, hAa, hAq, hlk, hZx⟩
  obtain ⟨d1, rfl⟩ := d1
  have cz : C32 (if y < x then 1 else if x = y then 0 else -1) := by
    unfold C32
    split
    · omega
    · split <;> omega
  have kk := g_if_ge (st := st) E2 cz d (fun h => k1 (by split at h <;> (try split at h) <;> omega)) (fun h => k2 (by split at h <;> (try split at h) <;> omega))
  intro H locs ls hP hS hL
  refine W.lcmp hx hb d1 ?_
  rw [cmp_spec cx cy]
  exact kk H locs ls hP hS hL
theorem g_lcmp_gt (E : Ev p s m args meth c cc nL own A0 D cA ad N Z) {off x y : Int} {pc1 : Nat} (cx : C64 x) (cy : C64 y) (d1 : Dc cc pc .lcmp 1 pc1) (d : Dj cc pc1 (.ifCond .gt off) 3 pc' off tgt) (k1 : x > y → G p l e R s m args below meth c nL A0 D cA ad sh N cells slots Q σ tgt ol st) (k2 : ¬ (x > y) → G p l e R s m args below meth c nL A0 D cA ad sh N cells slots Q σ pc' ol st) : G p l e R s m args below meth c nL A0 D cA ad sh N cells slots Q σ pc ol (vL y :: vL x :: st) := by
  obtain ⟨⟨hx, hb, hml, hown, hts⟩, hK, hA, hAa, hAq, hlk, hZx⟩ := E
  have E2 : Ev p s m args meth c cc nL own A0 D cA ad N Z := ⟨⟨hx, hb, hml, hown, hts⟩, hK, hA, hAa, hAq, hlk, hZx⟩
  obtain ⟨d1, rfl⟩ := d1
  have cz : C32 (if y < x then 1 else if x = y then 0 else -1) := by
    unfold C32
    split
    · omega
    · split <;> omega
  have kk := g_if_gt (st := st) E2 cz d (fun h => k1 (by split at h <;> (try split at h) <;> omega)) (fun h => k2 (by split at h <;> (try split at h) <;> omega))
  intro H locs ls hP hS hL
  refine W.lcmp hx hb d1 ?_
  rw [cmp_spec cx cy]
  exact kk H locs ls hP hS hL
theorem g_lcmp_le (E : Ev p s m args meth c cc nL own A0 D cA ad N Z) {off x y : Int} {pc1 : Nat} (cx : C64 x) (cy : C64 y) (d1 : Dc cc pc .lcmp 1 pc1) (d : Dj cc pc1 (.ifCond .le off) 3 pc' off tgt) (k1 : x ≤ y → G p l e R s m args below meth c nL A0 D cA ad sh N cells slots Q σ tgt ol st) (k2 : ¬ (x ≤ y) → G p l e R s m args below meth c nL A0 D cA ad sh N cells slots Q σ pc' ol st) : G p l e R s m args below meth c nL A0 D cA ad sh N cells slots Q σ pc ol (vL y :: vL x :: st) := by
  obtain ⟨⟨hx, hb, hml, hown, hts⟩, hK, hA, hAa, hAq, hlk, hZx⟩ := E
  have E2 : Ev p s m args meth c cc nL own A0 D cA ad N Z := ⟨⟨hx, hb, hml, hown, hts⟩, hK, hA, hAa, hAq, hlk, hZx⟩
  obtain ⟨d1, rfl⟩ := d1
  have cz : C32 (if y < x then 1 else if x = y then 0 else -1) := by
    unfold C32
    split
    · omega
    · split <;> omega
  have kk := g_if_le (st := st) E2 cz d (fun h => k1 (by split at h <;> (try split at h) <;> omega)) (fun h => k2 (by split at h <;> (try split at h) <;> omega))
  intro H locs ls hP hS hL
  refine W.lcmp hx hb d1 ?_
  rw [cmp_spec cx cy]
  exact kk H locs ls hP hS hL
theorem G.weak {ol' : List (Option Value)} (k : G p l e R s m args below meth c nL A0 D cA ad sh N cells slots Q σ pc ol' st) (w : Wk ol' ol) : G p l e R s m args below meth c nL A0 D cA ad sh N cells slots Q σ pc ol st :=
  fun H locs ls hP hS hL => k H locs ls hP hS (hL.weak w)
theorem g_nmI {x : Int} (k : ∀ v : Int, v = x → G p l e R s m args below meth c nL A0 D cA ad sh N cells slots Q σ pc ol (vI v :: st)) : G p l e R s m args below meth c nL A0 D cA ad sh N cells slots Q σ pc ol (vI x :: st) := k x rfl
theorem g_nmL {x : Int} (k : ∀ v : Int, v = x → G p l e R s m args below meth c nL A0 D cA ad sh N cells slots Q σ pc ol (vL v :: st)) : G p l e R s m args below meth c nL A0 D cA ad sh N cells slots Q σ pc ol (vL x :: st) := k x rfl
theorem g_nmS {τ : St} (k : ∀ v : St, v = τ → G p l e R s m args below meth c nL A0 D cA ad sh N cells slots Q v pc ol st) : G p l e R s m args below meth c nL A0 D cA ad sh N cells slots Q τ pc ol st := k τ rfl
theorem g_tableIn (E : Ev p s m args meth c cc nL own A0 D cA ad N Z) {dflt lo hi x v : Int} {offs : Array Int} {len i : Nat} {off : Int} (cx : C32 x) (hv : x = v) (h1 : ¬ v < lo ∧ ¬ hi < v) (hi' : (v - lo).toNat = i) (d : Dc cc pc (.tableswitch dflt lo hi offs) len pc') (ho : offs[i]? = some off) (ht : (pc : Int) + off = (tgt : Int)) (k : G p l e R s m args below meth c nL A0 D cA ad sh N cells slots Q σ tgt ol st) : G p l e R s m args below meth c nL A0 D cA ad sh N cells slots Q σ pc ol (vI x :: st) := by
  obtain ⟨⟨hx, hb, hml, hown, hts⟩, hK, hA, hAa, hAq, hlk, hZx⟩ := E
  obtain ⟨d, rfl⟩ := d
  subst hv
  intro H locs ls hP hS hL
  exact lv_tableIn hx hb d (by rw [i_toInt cx]; exact h1.1) (by rw [i_toInt cx]; exact h1.2) (by rw [i_toInt cx, hi']; exact ho) ht (k H locs ls hP hS hL)
theorem g_tableOut (E : Ev p s m args meth c cc nL own A0 D cA ad N Z) {dflt lo hi x : Int} {offs : Array Int} {len : Nat} (cx : C32 x) (hv : x < lo ∨ hi < x) (d : Dc cc pc (.tableswitch dflt lo hi offs) len pc') (ht : (pc : Int) + dflt = (tgt : Int)) (k : G p l e R s m args below meth c nL A0 D cA ad sh N cells slots Q σ tgt ol st) : G p l e R s m args below meth c nL A0 D cA ad sh N cells slots Q σ pc ol (vI x :: st) := by
  obtain ⟨⟨hx, hb, hml, hown, hts⟩, hK, hA, hAa, hAq, hlk, hZx⟩ := E
  obtain ⟨d, rfl⟩ := d
  intro H locs ls hP hS hL
  exact lv_tableOut hx hb d (by rw [i_toInt cx]; exact hv) ht (k H locs ls hP hS hL)
theorem g_lookup (E : Ev p s m args meth c cc nL own A0 D cA ad N Z) {dflt x v : Int} {ps : Array (Int × Int)} {len : Nat} {off : Int} (cx : C32 x) (hv : x = v) (d : Dc cc pc (.lookupswitch dflt ps) len pc') (hp : (ps.toList.zip (ps.toList.drop 1)).all (fun (a, next) => a.1 < next.1) = true) (ho : Op.lookupswitch.offset ps.toList dflt v = off) (ht : (pc : Int) + off = (tgt : Int)) (k : G p l e R s m args below meth c nL A0 D cA ad sh N cells slots Q σ tgt ol st) : G p l e R s m args below meth c nL A0 D cA ad sh N cells slots Q σ pc ol (vI x :: st) := by
  obtain ⟨⟨hx, hb, hml, hown, hts⟩, hK, hA, hAa, hAq, hlk, hZx⟩ := E
  obtain ⟨d, rfl⟩ := d
  subst hv
  intro H locs ls hP hS hL
  exact lv_lookup hx hb d hp (by rw [i_toInt cx]; exact ho) ht (k H locs ls hP hS hL)
theorem off_dflt {dflt x : Int} : ∀ (ps : List (Int × Int)), (∀ q ∈ ps, x ≠ q.1) → Op.lookupswitch.offset ps dflt x = dflt := by
  intro ps
  induction ps with
  | nil => intro _; rfl
  | cons a r ih =>
    intro h
    have h1 := h a List.mem_cons_self
    have h2 := ih (fun q hq => h q (List.mem_cons_of_mem _ hq))
    simp only [Op.lookupswitch.offset]
    first
      | (rw [if_neg h1]; exact h2)
      | (rw [if_neg (fun q => h1 q.symm)]; exact h2)
      | (split
         · simp_all
         · first | exact h2 | simp_all)
theorem g_lookupD (E : Ev p s m args meth c cc nL own A0 D cA ad N Z) {dflt x : Int} {ps : Array (Int × Int)} {len : Nat} (cx : C32 x) (d : Dc cc pc (.lookupswitch dflt ps) len pc') (hp : (ps.toList.zip (ps.toList.drop 1)).all (fun (a, next) => a.1 < next.1) = true) (hq : ∀ q ∈ ps.toList, x ≠ q.1) (ht : (pc : Int) + dflt = (tgt : Int)) (k : G p l e R s m args below meth c nL A0 D cA ad sh N cells slots Q σ tgt ol st) : G p l e R s m args below meth c nL A0 D cA ad sh N cells slots Q σ pc ol (vI x :: st) := by
  obtain ⟨⟨hx, hb, hml, hown, hts⟩, hK, hA, hAa, hAq, hlk, hZx⟩ := E
  obtain ⟨d, rfl⟩ := d
  intro H locs ls hP hS hL
  exact lv_lookup hx hb d hp (by rw [i_toInt cx]; exact off_dflt _ hq) ht (k H locs ls hP hS hL)
theorem g_ifnonnull (E : Ev p s m args meth c cc nL own A0 D cA ad N Z) {off : Int} {x : Nat} (d : Dj cc pc (.ifnonnull off) 3 pc' off tgt) (k : G p l e R s m args below meth c nL A0 D cA ad sh N cells slots Q σ tgt ol st) : G p l e R s m args below meth c nL A0 D cA ad sh N cells slots Q σ pc ol (.ref x :: st) := by
  obtain ⟨⟨hx, hb, hml, hown, hts⟩, hK, hA, hAa, hAq, hlk, hZx⟩ := E
  obtain ⟨d, rfl, ht⟩ := d
  intro H locs ls hP hS hL
  exact lv_ifnonnull hx hb d ht (k H locs ls hP hS hL)
theorem g_ifnonnullN (E : Ev p s m args meth c cc nL own A0 D cA ad N Z) {off : Int} (d : Dj cc pc (.ifnonnull off) 3 pc' off tgt) (k : G p l e R s m args below meth c nL A0 D cA ad sh N cells slots Q σ pc' ol st) : G p l e R s m args below meth c nL A0 D cA ad sh N cells slots Q σ pc ol (.null :: st) := by
  obtain ⟨⟨hx, hb, hml, hown, hts⟩, hK, hA, hAa, hAq, hlk, hZx⟩ := E
  obtain ⟨d, rfl, ht⟩ := d
  intro H locs ls hP hS hL
  exact lv_ifnonnullN hx hb d (k H locs ls hP hS hL)
end GG
