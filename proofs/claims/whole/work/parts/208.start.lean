theorem str_of {args : Array Value} {s : State} {own : String} {idx : Nat} {tx : String} {bs : List Int} {A : Nat → Prop} (hN : bs.length < 2 ^ 31) (hR : (Cond.stringRef own idx tx).before args s = true) (hex : (Cond.exactly (Term.string own idx) "java/lang/String").before args s = true) (hco : (Cond.eq (.field (Term.string own idx) "java/lang/String" "coder" "B") (.int 0)).before args s = true) (har : (Cond.arrayOf (.field (Term.string own idx) "java/lang/String" "value" "[B") .byte).before args s = true) (hle : (Cond.eq (.length (.field (Term.string own idx) "java/lang/String" "value" "[B")) (.int (Int32.ofNat bs.length))).before args s = true)
    (hel : ∀ j : Nat, j < bs.length → (Cond.eq (.elem (.field (Term.string own idx) "java/lang/String" "value" "[B") (.int (Int32.ofNat j))) (.int (Int32.ofInt (bs.getD j 0)))).before args s = true) (hA : ∀ a : Nat, a < s.heap.size → ¬ A a) :
    ∃ q : Nat × Nat, vk_R own idx tx q.1 s ∧ va_O "java/lang/String" q.1 A s s.heap ∧ va_OF "java/lang/String" "coder" "B" (.int 0) q.1 A s s.heap ∧ va_OF "java/lang/String" "value" "[B" (.ref q.2) q.1 A s s.heap ∧ va_T .byte q.2 bs.length (fun j => .int (Int32.ofInt (bs.getD j 0))) A s s.heap := by
  obtain ⟨a, c, cA, kA, q1, q2, q3, q4, q5, q6, -⟩ := Cond.exactly_spec (args := args) (first := s) (o := none) (s := s) (idx := []) (t := Term.string own idx) (cls := "java/lang/String") hex
  obtain ⟨t, ht, hT⟩ := va_Tof (f := fun j => .int (Int32.ofInt (bs.getD j 0))) (A := A) hN har (va_eqt hle) (fun j hj => va_eqt (hel j hj)) hA
  exact ⟨(a, t), vk_R.of hR q1, ⟨cA, q3, q5, by rw [q6]; exact q2, hA a (Array.getElem?_eq_some_iff.mp q3).1⟩, vk_OFof q1 (va_eqt hco) hA, vk_OFof q1 ht hA, hT⟩
def SXi (A : Nat → Prop) (U : State) (H : Heap) (i : Nat) (q : Nat × Nat) : Prop := vk_R (strO i).1 (strO i).2.1 (strO i).2.2.1 q.1 U ∧ va_O "java/lang/String" q.1 A U H ∧ va_OF "java/lang/String" "coder" "B" (.int 0) q.1 A U H ∧ va_OF "java/lang/String" "value" "[B" (.ref q.2) q.1 A U H ∧ va_T .byte q.2 (strO i).2.2.2.length (fun j => .int (Int32.ofInt ((strO i).2.2.2.getD j 0))) A U H
theorem sx_0 {args : Array Value} {s : State} {A : Nat → Prop} (hts : ∀ w ∈ lw_tbl, w.before args s = true) (hf : ∀ c ∈ flatC (Jvm.Cond.and given_1 narrow_1), c.before args s = true) (hA : ∀ a : Nat, a < s.heap.size → ¬ A a) : ∃ q, SXi A s s.heap 0 q :=
  str_of (own := "SpanValues$Reader") (idx := 44) (tx := "rule") (bs := [114, 117, 108, 101]) (by decide) (hts _ (tb_3 (List.mem_of_getElem? (i := 186) rfl))) (hf _ (List.mem_of_getElem? (i := 9) rfl)) (hf _ (List.mem_of_getElem? (i := 10) rfl)) (hf _ (List.mem_of_getElem? (i := 11) rfl)) (hf _ (List.mem_of_getElem? (i := 12) rfl)) (fun j hj => match j, hj with
    | 0, _ => hf _ (List.mem_of_getElem? (i := 13) rfl)
    | 1, _ => hf _ (List.mem_of_getElem? (i := 14) rfl)
    | 2, _ => hf _ (List.mem_of_getElem? (i := 15) rfl)
    | 3, _ => hf _ (List.mem_of_getElem? (i := 16) rfl)
    | j + 4, hj => absurd hj (by simp)) hA
theorem sx_1 {args : Array Value} {s : State} {A : Nat → Prop} (hts : ∀ w ∈ lw_tbl, w.before args s = true) (hf : ∀ c ∈ flatC (Jvm.Cond.and given_1 narrow_1), c.before args s = true) (hA : ∀ a : Nat, a < s.heap.size → ¬ A a) : ∃ q, SXi A s s.heap 1 q :=
  str_of (own := "SpanValues$Reader") (idx := 130) (tx := "cost") (bs := [99, 111, 115, 116]) (by decide) (hts _ (tb_4 (List.mem_of_getElem? (i := 23) rfl))) (hf _ (List.mem_of_getElem? (i := 17) rfl)) (hf _ (List.mem_of_getElem? (i := 18) rfl)) (hf _ (List.mem_of_getElem? (i := 19) rfl)) (hf _ (List.mem_of_getElem? (i := 20) rfl)) (fun j hj => match j, hj with
    | 0, _ => hf _ (List.mem_of_getElem? (i := 21) rfl)
    | 1, _ => hf _ (List.mem_of_getElem? (i := 22) rfl)
    | 2, _ => hf _ (List.mem_of_getElem? (i := 23) rfl)
    | 3, _ => hf _ (List.mem_of_getElem? (i := 24) rfl)
    | j + 4, hj => absurd hj (by simp)) hA
theorem sx_2 {args : Array Value} {s : State} {A : Nat → Prop} (hts : ∀ w ∈ lw_tbl, w.before args s = true) (hf : ∀ c ∈ flatC (Jvm.Cond.and given_1 narrow_1), c.before args s = true) (hA : ∀ a : Nat, a < s.heap.size → ¬ A a) : ∃ q, SXi A s s.heap 2 q :=
  str_of (own := "SpanValues$Reader") (idx := 135) (tx := "as") (bs := [97, 115]) (by decide) (hts _ (tb_4 (List.mem_of_getElem? (i := 28) rfl))) (hf _ (List.mem_of_getElem? (i := 26) rfl)) (hf _ (List.mem_of_getElem? (i := 27) rfl)) (hf _ (List.mem_of_getElem? (i := 28) rfl)) (hf _ (List.mem_of_getElem? (i := 29) rfl)) (fun j hj => match j, hj with
    | 0, _ => hf _ (List.mem_of_getElem? (i := 30) rfl)
    | 1, _ => hf _ (List.mem_of_getElem? (i := 31) rfl)
    | j + 2, hj => absurd hj (by simp)) hA
theorem sx_3 {args : Array Value} {s : State} {A : Nat → Prop} (hts : ∀ w ∈ lw_tbl, w.before args s = true) (hf : ∀ c ∈ flatC (Jvm.Cond.and given_1 narrow_1), c.before args s = true) (hA : ∀ a : Nat, a < s.heap.size → ¬ A a) : ∃ q, SXi A s s.heap 3 q :=
  str_of (own := "SpanValues$Reader") (idx := 53) (tx := "table") (bs := [116, 97, 98, 108, 101]) (by decide) (hts _ (tb_4 (List.mem_of_getElem? (i := 29) rfl))) (hf _ (List.mem_of_getElem? (i := 34) rfl)) (hf _ (List.mem_of_getElem? (i := 35) rfl)) (hf _ (List.mem_of_getElem? (i := 36) rfl)) (hf _ (List.mem_of_getElem? (i := 37) rfl)) (fun j hj => match j, hj with
    | 0, _ => hf _ (List.mem_of_getElem? (i := 38) rfl)
    | 1, _ => hf _ (List.mem_of_getElem? (i := 39) rfl)
    | 2, _ => hf _ (List.mem_of_getElem? (i := 40) rfl)
    | 3, _ => hf _ (List.mem_of_getElem? (i := 41) rfl)
    | 4, _ => hf _ (List.mem_of_getElem? (i := 42) rfl)
    | j + 5, hj => absurd hj (by simp)) hA
theorem sx_4 {args : Array Value} {s : State} {A : Nat → Prop} (hts : ∀ w ∈ lw_tbl, w.before args s = true) (hf : ∀ c ∈ flatC (Jvm.Cond.and given_1 narrow_1), c.before args s = true) (hA : ∀ a : Nat, a < s.heap.size → ¬ A a) : ∃ q, SXi A s s.heap 4 q :=
  str_of (own := "SpanValues$Reader") (idx := 73) (tx := "zero") (bs := [122, 101, 114, 111]) (by decide) (hts _ (tb_4 (List.mem_of_getElem? (i := 34) rfl))) (hf _ (List.mem_of_getElem? (i := 46) rfl)) (hf _ (List.mem_of_getElem? (i := 47) rfl)) (hf _ (List.mem_of_getElem? (i := 48) rfl)) (hf _ (List.mem_of_getElem? (i := 49) rfl)) (fun j hj => match j, hj with
    | 0, _ => hf _ (List.mem_of_getElem? (i := 50) rfl)
    | 1, _ => hf _ (List.mem_of_getElem? (i := 51) rfl)
    | 2, _ => hf _ (List.mem_of_getElem? (i := 52) rfl)
    | 3, _ => hf _ (List.mem_of_getElem? (i := 53) rfl)
    | j + 4, hj => absurd hj (by simp)) hA
theorem sx_5 {args : Array Value} {s : State} {A : Nat → Prop} (hts : ∀ w ∈ lw_tbl, w.before args s = true) (hf : ∀ c ∈ flatC (Jvm.Cond.and given_1 narrow_1), c.before args s = true) (hA : ∀ a : Nat, a < s.heap.size → ¬ A a) : ∃ q, SXi A s s.heap 5 q :=
  str_of (own := "SpanValues$Reader") (idx := 81) (tx := "one") (bs := [111, 110, 101]) (by decide) (hts _ (tb_4 (List.mem_of_getElem? (i := 39) rfl))) (hf _ (List.mem_of_getElem? (i := 58) rfl)) (hf _ (List.mem_of_getElem? (i := 59) rfl)) (hf _ (List.mem_of_getElem? (i := 60) rfl)) (hf _ (List.mem_of_getElem? (i := 61) rfl)) (fun j hj => match j, hj with
    | 0, _ => hf _ (List.mem_of_getElem? (i := 62) rfl)
    | 1, _ => hf _ (List.mem_of_getElem? (i := 63) rfl)
    | 2, _ => hf _ (List.mem_of_getElem? (i := 64) rfl)
    | j + 3, hj => absurd hj (by simp)) hA
theorem sx_6 {args : Array Value} {s : State} {A : Nat → Prop} (hts : ∀ w ∈ lw_tbl, w.before args s = true) (hf : ∀ c ∈ flatC (Jvm.Cond.and given_1 narrow_1), c.before args s = true) (hA : ∀ a : Nat, a < s.heap.size → ¬ A a) : ∃ q, SXi A s s.heap 6 q :=
  str_of (own := "SpanValues$Reader") (idx := 85) (tx := "plus") (bs := [112, 108, 117, 115]) (by decide) (hts _ (tb_4 (List.mem_of_getElem? (i := 40) rfl))) (hf _ (List.mem_of_getElem? (i := 70) rfl)) (hf _ (List.mem_of_getElem? (i := 71) rfl)) (hf _ (List.mem_of_getElem? (i := 72) rfl)) (hf _ (List.mem_of_getElem? (i := 73) rfl)) (fun j hj => match j, hj with
    | 0, _ => hf _ (List.mem_of_getElem? (i := 74) rfl)
    | 1, _ => hf _ (List.mem_of_getElem? (i := 75) rfl)
    | 2, _ => hf _ (List.mem_of_getElem? (i := 76) rfl)
    | 3, _ => hf _ (List.mem_of_getElem? (i := 77) rfl)
    | j + 4, hj => absurd hj (by simp)) hA
theorem sx_7 {args : Array Value} {s : State} {A : Nat → Prop} (hts : ∀ w ∈ lw_tbl, w.before args s = true) (hf : ∀ c ∈ flatC (Jvm.Cond.and given_1 narrow_1), c.before args s = true) (hA : ∀ a : Nat, a < s.heap.size → ¬ A a) : ∃ q, SXi A s s.heap 7 q :=
  str_of (own := "SpanValues$Reader") (idx := 94) (tx := "times") (bs := [116, 105, 109, 101, 115]) (by decide) (hts _ (tb_4 (List.mem_of_getElem? (i := 45) rfl))) (hf _ (List.mem_of_getElem? (i := 84) rfl)) (hf _ (List.mem_of_getElem? (i := 85) rfl)) (hf _ (List.mem_of_getElem? (i := 86) rfl)) (hf _ (List.mem_of_getElem? (i := 87) rfl)) (fun j hj => match j, hj with
    | 0, _ => hf _ (List.mem_of_getElem? (i := 88) rfl)
    | 1, _ => hf _ (List.mem_of_getElem? (i := 89) rfl)
    | 2, _ => hf _ (List.mem_of_getElem? (i := 90) rfl)
    | 3, _ => hf _ (List.mem_of_getElem? (i := 91) rfl)
    | 4, _ => hf _ (List.mem_of_getElem? (i := 92) rfl)
    | j + 5, hj => absurd hj (by simp)) hA
theorem sx_8 {args : Array Value} {s : State} {A : Nat → Prop} (hts : ∀ w ∈ lw_tbl, w.before args s = true) (hf : ∀ c ∈ flatC (Jvm.Cond.and given_1 narrow_1), c.before args s = true) (hA : ∀ a : Nat, a < s.heap.size → ¬ A a) : ∃ q, SXi A s s.heap 8 q :=
  str_of (own := "SpanValuesModel") (idx := 242) (tx := "table") (bs := [116, 97, 98, 108, 101]) (by decide) (hts _ (tb_8 (List.mem_of_getElem? (i := 60) rfl))) (hf _ (List.mem_of_getElem? (i := 100) rfl)) (hf _ (List.mem_of_getElem? (i := 101) rfl)) (hf _ (List.mem_of_getElem? (i := 102) rfl)) (hf _ (List.mem_of_getElem? (i := 103) rfl)) (fun j hj => match j, hj with
    | 0, _ => hf _ (List.mem_of_getElem? (i := 104) rfl)
    | 1, _ => hf _ (List.mem_of_getElem? (i := 105) rfl)
    | 2, _ => hf _ (List.mem_of_getElem? (i := 106) rfl)
    | 3, _ => hf _ (List.mem_of_getElem? (i := 107) rfl)
    | 4, _ => hf _ (List.mem_of_getElem? (i := 108) rfl)
    | j + 5, hj => absurd hj (by simp)) hA
theorem sx_9 {args : Array Value} {s : State} {A : Nat → Prop} (hts : ∀ w ∈ lw_tbl, w.before args s = true) (hf : ∀ c ∈ flatC (Jvm.Cond.and given_1 narrow_1), c.before args s = true) (hA : ∀ a : Nat, a < s.heap.size → ¬ A a) : ∃ q, SXi A s s.heap 9 q :=
  str_of (own := "SpanValuesModel") (idx := 219) (tx := "zero") (bs := [122, 101, 114, 111]) (by decide) (hts _ (tb_8 (List.mem_of_getElem? (i := 79) rfl))) (hf _ (List.mem_of_getElem? (i := 117) rfl)) (hf _ (List.mem_of_getElem? (i := 118) rfl)) (hf _ (List.mem_of_getElem? (i := 119) rfl)) (hf _ (List.mem_of_getElem? (i := 120) rfl)) (fun j hj => match j, hj with
    | 0, _ => hf _ (List.mem_of_getElem? (i := 121) rfl)
    | 1, _ => hf _ (List.mem_of_getElem? (i := 122) rfl)
    | 2, _ => hf _ (List.mem_of_getElem? (i := 123) rfl)
    | 3, _ => hf _ (List.mem_of_getElem? (i := 124) rfl)
    | j + 4, hj => absurd hj (by simp)) hA
theorem sx_10 {args : Array Value} {s : State} {A : Nat → Prop} (hts : ∀ w ∈ lw_tbl, w.before args s = true) (hf : ∀ c ∈ flatC (Jvm.Cond.and given_1 narrow_1), c.before args s = true) (hA : ∀ a : Nat, a < s.heap.size → ¬ A a) : ∃ q, SXi A s s.heap 10 q :=
  str_of (own := "SpanValuesModel") (idx := 224) (tx := "one") (bs := [111, 110, 101]) (by decide) (hts _ (tb_8 (List.mem_of_getElem? (i := 84) rfl))) (hf _ (List.mem_of_getElem? (i := 134) rfl)) (hf _ (List.mem_of_getElem? (i := 135) rfl)) (hf _ (List.mem_of_getElem? (i := 136) rfl)) (hf _ (List.mem_of_getElem? (i := 137) rfl)) (fun j hj => match j, hj with
    | 0, _ => hf _ (List.mem_of_getElem? (i := 138) rfl)
    | 1, _ => hf _ (List.mem_of_getElem? (i := 139) rfl)
    | 2, _ => hf _ (List.mem_of_getElem? (i := 140) rfl)
    | j + 3, hj => absurd hj (by simp)) hA
theorem sx_11 {args : Array Value} {s : State} {A : Nat → Prop} (hts : ∀ w ∈ lw_tbl, w.before args s = true) (hf : ∀ c ∈ flatC (Jvm.Cond.and given_1 narrow_1), c.before args s = true) (hA : ∀ a : Nat, a < s.heap.size → ¬ A a) : ∃ q, SXi A s s.heap 11 q :=
  str_of (own := "SpanValuesModel") (idx := 225) (tx := "plus") (bs := [112, 108, 117, 115]) (by decide) (hts _ (tb_8 (List.mem_of_getElem? (i := 85) rfl))) (hf _ (List.mem_of_getElem? (i := 151) rfl)) (hf _ (List.mem_of_getElem? (i := 152) rfl)) (hf _ (List.mem_of_getElem? (i := 153) rfl)) (hf _ (List.mem_of_getElem? (i := 154) rfl)) (fun j hj => match j, hj with
    | 0, _ => hf _ (List.mem_of_getElem? (i := 155) rfl)
    | 1, _ => hf _ (List.mem_of_getElem? (i := 156) rfl)
    | 2, _ => hf _ (List.mem_of_getElem? (i := 157) rfl)
    | 3, _ => hf _ (List.mem_of_getElem? (i := 158) rfl)
    | j + 4, hj => absurd hj (by simp)) hA
theorem sx_12 {args : Array Value} {s : State} {A : Nat → Prop} (hts : ∀ w ∈ lw_tbl, w.before args s = true) (hf : ∀ c ∈ flatC (Jvm.Cond.and given_1 narrow_1), c.before args s = true) (hA : ∀ a : Nat, a < s.heap.size → ¬ A a) : ∃ q, SXi A s s.heap 12 q :=
  str_of (own := "SpanValuesModel") (idx := 226) (tx := "times") (bs := [116, 105, 109, 101, 115]) (by decide) (hts _ (tb_8 (List.mem_of_getElem? (i := 86) rfl))) (hf _ (List.mem_of_getElem? (i := 170) rfl)) (hf _ (List.mem_of_getElem? (i := 171) rfl)) (hf _ (List.mem_of_getElem? (i := 172) rfl)) (hf _ (List.mem_of_getElem? (i := 173) rfl)) (fun j hj => match j, hj with
    | 0, _ => hf _ (List.mem_of_getElem? (i := 174) rfl)
    | 1, _ => hf _ (List.mem_of_getElem? (i := 175) rfl)
    | 2, _ => hf _ (List.mem_of_getElem? (i := 176) rfl)
    | 3, _ => hf _ (List.mem_of_getElem? (i := 177) rfl)
    | 4, _ => hf _ (List.mem_of_getElem? (i := 178) rfl)
    | j + 5, hj => absurd hj (by simp)) hA
theorem sx_13 {args : Array Value} {s : State} {A : Nat → Prop} (hts : ∀ w ∈ lw_tbl, w.before args s = true) (hf : ∀ c ∈ flatC (Jvm.Cond.and given_1 narrow_1), c.before args s = true) (hA : ∀ a : Nat, a < s.heap.size → ¬ A a) : ∃ q, SXi A s s.heap 13 q :=
  str_of (own := "SpanValuesModel") (idx := 247) (tx := "rule") (bs := [114, 117, 108, 101]) (by decide) (hts _ (tb_8 (List.mem_of_getElem? (i := 87) rfl))) (hf _ (List.mem_of_getElem? (i := 191) rfl)) (hf _ (List.mem_of_getElem? (i := 192) rfl)) (hf _ (List.mem_of_getElem? (i := 193) rfl)) (hf _ (List.mem_of_getElem? (i := 194) rfl)) (fun j hj => match j, hj with
    | 0, _ => hf _ (List.mem_of_getElem? (i := 195) rfl)
    | 1, _ => hf _ (List.mem_of_getElem? (i := 196) rfl)
    | 2, _ => hf _ (List.mem_of_getElem? (i := 197) rfl)
    | 3, _ => hf _ (List.mem_of_getElem? (i := 198) rfl)
    | j + 4, hj => absurd hj (by simp)) hA
theorem sx_14 {args : Array Value} {s : State} {A : Nat → Prop} (hts : ∀ w ∈ lw_tbl, w.before args s = true) (hf : ∀ c ∈ flatC (Jvm.Cond.and given_1 narrow_1), c.before args s = true) (hA : ∀ a : Nat, a < s.heap.size → ¬ A a) : ∃ q, SXi A s s.heap 14 q :=
  str_of (own := "SpanValuesModel") (idx := 239) (tx := "cost") (bs := [99, 111, 115, 116]) (by decide) (hts _ (tb_8 (List.mem_of_getElem? (i := 104) rfl))) (hf _ (List.mem_of_getElem? (i := 212) rfl)) (hf _ (List.mem_of_getElem? (i := 213) rfl)) (hf _ (List.mem_of_getElem? (i := 214) rfl)) (hf _ (List.mem_of_getElem? (i := 215) rfl)) (fun j hj => match j, hj with
    | 0, _ => hf _ (List.mem_of_getElem? (i := 216) rfl)
    | 1, _ => hf _ (List.mem_of_getElem? (i := 217) rfl)
    | 2, _ => hf _ (List.mem_of_getElem? (i := 218) rfl)
    | 3, _ => hf _ (List.mem_of_getElem? (i := 219) rfl)
    | j + 4, hj => absurd hj (by simp)) hA
theorem sx_15 {args : Array Value} {s : State} {A : Nat → Prop} (hts : ∀ w ∈ lw_tbl, w.before args s = true) (hf : ∀ c ∈ flatC (Jvm.Cond.and given_1 narrow_1), c.before args s = true) (hA : ∀ a : Nat, a < s.heap.size → ¬ A a) : ∃ q, SXi A s s.heap 15 q :=
  str_of (own := "SpanValuesModel") (idx := 240) (tx := "as") (bs := [97, 115]) (by decide) (hts _ (tb_8 (List.mem_of_getElem? (i := 105) rfl))) (hf _ (List.mem_of_getElem? (i := 234) rfl)) (hf _ (List.mem_of_getElem? (i := 235) rfl)) (hf _ (List.mem_of_getElem? (i := 236) rfl)) (hf _ (List.mem_of_getElem? (i := 237) rfl)) (fun j hj => match j, hj with
    | 0, _ => hf _ (List.mem_of_getElem? (i := 238) rfl)
    | 1, _ => hf _ (List.mem_of_getElem? (i := 239) rfl)
    | j + 2, hj => absurd hj (by simp)) hA
theorem sx_all {args : Array Value} {s : State} {A : Nat → Prop} (hts : ∀ w ∈ lw_tbl, w.before args s = true) (hf : ∀ c ∈ flatC (Jvm.Cond.and given_1 narrow_1), c.before args s = true) (hA : ∀ a : Nat, a < s.heap.size → ¬ A a) : ∃ Z, SX Z A s s.heap := by
  have h0 : ∀ i : Nat, ∃ q : Nat × Nat, i < 16 → SXi A s s.heap i q := by
    intro i
    match i with
    | 0 => obtain ⟨q, hq⟩ := sx_0 hts hf hA; exact ⟨q, fun _ => hq⟩
    | 1 => obtain ⟨q, hq⟩ := sx_1 hts hf hA; exact ⟨q, fun _ => hq⟩
    | 2 => obtain ⟨q, hq⟩ := sx_2 hts hf hA; exact ⟨q, fun _ => hq⟩
    | 3 => obtain ⟨q, hq⟩ := sx_3 hts hf hA; exact ⟨q, fun _ => hq⟩
    | 4 => obtain ⟨q, hq⟩ := sx_4 hts hf hA; exact ⟨q, fun _ => hq⟩
    | 5 => obtain ⟨q, hq⟩ := sx_5 hts hf hA; exact ⟨q, fun _ => hq⟩
    | 6 => obtain ⟨q, hq⟩ := sx_6 hts hf hA; exact ⟨q, fun _ => hq⟩
    | 7 => obtain ⟨q, hq⟩ := sx_7 hts hf hA; exact ⟨q, fun _ => hq⟩
    | 8 => obtain ⟨q, hq⟩ := sx_8 hts hf hA; exact ⟨q, fun _ => hq⟩
    | 9 => obtain ⟨q, hq⟩ := sx_9 hts hf hA; exact ⟨q, fun _ => hq⟩
    | 10 => obtain ⟨q, hq⟩ := sx_10 hts hf hA; exact ⟨q, fun _ => hq⟩
    | 11 => obtain ⟨q, hq⟩ := sx_11 hts hf hA; exact ⟨q, fun _ => hq⟩
    | 12 => obtain ⟨q, hq⟩ := sx_12 hts hf hA; exact ⟨q, fun _ => hq⟩
    | 13 => obtain ⟨q, hq⟩ := sx_13 hts hf hA; exact ⟨q, fun _ => hq⟩
    | 14 => obtain ⟨q, hq⟩ := sx_14 hts hf hA; exact ⟨q, fun _ => hq⟩
    | 15 => obtain ⟨q, hq⟩ := sx_15 hts hf hA; exact ⟨q, fun _ => hq⟩
    | i + 16 => exact ⟨(0, 0), fun h => absurd h (by omega)⟩
  obtain ⟨ad, had⟩ := Classical.axiomOfChoice h0
  refine ⟨(fun i => (ad i).1, fun i => (ad i).2), fun i hi => had i hi, ?_, ?_⟩
  · exact va_Zof (hts _ (tb_3 (List.mem_of_getElem? (i := 200) rfl))) (hts _ (tb_1 (List.mem_of_getElem? (i := 15) rfl))) (va_eqt (hf _ (List.mem_of_getElem? (i := 4) rfl))) hA
  · exact va_Zqof (hts _ (tb_3 (List.mem_of_getElem? (i := 216) rfl))) (hts _ (tb_1 (List.mem_of_getElem? (i := 17) rfl))) (hf _ (List.mem_of_getElem? (i := 5) rfl)) hA
theorem arr_of {args : Array Value} {s : State} {ty : FieldType} (h : (Cond.arrayClass ty).before args s = true) (hn : ∀ C, ty ≠ .object C) : ∃ cA : ClassId, ArrOfT s cA ty ∧ va_RA s cA ty := by
  obtain ⟨cA, kA, comp, hfind, hk, hkind⟩ := Cond.arrayClass_spec h
  refine ⟨cA, fun n z => ⟨fun k h => (by cases h), kA, hk, comp, hkind⟩, ?_⟩
  cases ty with
  | object C => exact absurd rfl (hn C)
  | _ => exact hfind
theorem ik_X11 : Cond.instantiable RX11 16 ∈ gtbl := tg (tb_1 (List.mem_of_getElem? (i := 23) rfl)) rfl
theorem nk_X11 : Cond.initialized RX11 ∈ gtbl := tg (tb_1 (List.mem_of_getElem? (i := 1) rfl)) rfl
theorem ik_X12 : Cond.instantiable RX12 66 ∈ gtbl := tg (tb_7 (List.mem_of_getElem? (i := 61) rfl)) rfl
theorem nk_X12 : Cond.initialized RX12 ∈ gtbl := tg (tb_1 (List.mem_of_getElem? (i := 13) rfl)) rfl
theorem ck_RL_7 : Cond.classLink RL 7 RX11 ∈ gtbl := tg (tb_1 (List.mem_of_getElem? (i := 22) rfl)) rfl
theorem ck_RL_10 : Cond.classLink RL 10 RX12 ∈ gtbl := tg (tb_7 (List.mem_of_getElem? (i := 60) rfl)) rfl
theorem mlL_9 : Cond.methodLink RL 9 yX11_init ∈ gtbl := tg (tb_1 (List.mem_of_getElem? (i := 24) rfl)) rfl
theorem mlL_12 : Cond.methodLink RL 12 yX12_init ∈ gtbl := tg (tb_7 (List.mem_of_getElem? (i := 62) rfl)) rfl
theorem cls_all {args : Array Value} {s : State} (hts : ∀ w ∈ gtbl, w.before args s = true) : ∃ (D : va_G) (cA : Nat → ClassId), va_K D classes (tyA cA) s := by
  obtain ⟨c0, iS0, hk0⟩ := u_known (C := RX0) (T := TX0) (N := 18) (n := 18) hts cls_0.2.1 (hts _ ik_X0)
  obtain ⟨c1, iS1, hk1⟩ := u_known (C := RX1) (T := TX1) (N := 10) (n := 10) hts cls_1.2.1 (hts _ ik_X1)
  obtain ⟨c2, iS2, hk2⟩ := u_known (C := RX2) (T := TX2) (N := 9) (n := 9) hts cls_2.2.1 (hts _ ik_X2)
  obtain ⟨c3, iS3, hk3⟩ := u_known (C := RX3) (T := TX3) (N := 18) (n := 18) hts cls_3.2.1 (hts _ ik_X3)
  obtain ⟨c4, iS4, hk4⟩ := u_known (C := RX4) (T := TX4) (N := 13) (n := 13) hts cls_4.2.1 (hts _ ik_X4)
  obtain ⟨c5, iS5, hk5⟩ := u_known (C := RX5) (T := TX5) (N := 10) (n := 10) hts cls_5.2.1 (hts _ ik_X5)
  obtain ⟨c6, iS6, hk6⟩ := u_known (C := RX6) (T := TX6) (N := 9) (n := 9) hts cls_6.2.1 (hts _ ik_X6)
  obtain ⟨c7, iS7, hk7⟩ := u_known (C := RX7) (T := TX7) (N := 8) (n := 8) hts cls_7.2.1 (hts _ ik_X7)
  obtain ⟨c8, iS8, hk8⟩ := u_known (C := RX8) (T := TX8) (N := 7) (n := 7) hts cls_8.2.1 (hts _ ik_X8)
  obtain ⟨c9, iS9, hk9⟩ := u_known (C := RX9) (T := TX9) (N := 7) (n := 7) hts cls_9.2.1 (hts _ ik_X9)
  obtain ⟨c10, iS10, hk10⟩ := u_known (C := RX10) (T := TX10) (N := 10) (n := 10) hts cls_10.2.1 (hts _ ik_X10)
  obtain ⟨c11, iS11, hk11⟩ := u_known (C := RX11) (T := TX11) (N := 16) (n := 16) hts cls_11.2.1 (hts _ ik_X11)
  obtain ⟨c12, iS12, hk12⟩ := u_known (C := RX12) (T := TX12) (N := 66) (n := 66) hts cls_12.2.1 (hts _ ik_X12)
  obtain ⟨a0, ha0⟩ := arr_of (hts _ (tg (tb_1 (List.mem_of_getElem? (i := 137) rfl)) rfl)) (fun C h => by cases h)
  obtain ⟨a1, ha1⟩ := arr_of (hts _ (tg (tb_2 (List.mem_of_getElem? (i := 109) rfl)) rfl)) (fun C h => by cases h)
  obtain ⟨a2, ha2⟩ := arr_of (hts _ (tg (tb_4 (List.mem_of_getElem? (i := 96) rfl)) rfl)) (fun C h => by cases h)
  obtain ⟨a3, ha3⟩ := arr_of (hts _ (tg (tb_1 (List.mem_of_getElem? (i := 138) rfl)) rfl)) (fun C h => by cases h)
  refine ⟨(fun k => if k = 0 then c0 else if k = 1 then c1 else if k = 2 then c2 else if k = 3 then c3 else if k = 4 then c4 else if k = 5 then c5 else if k = 6 then c6 else if k = 7 then c7 else if k = 8 then c8 else if k = 9 then c9 else if k = 10 then c10 else if k = 11 then c11 else c12, fun k => if k = 0 then iS0 else if k = 1 then iS1 else if k = 2 then iS2 else if k = 3 then iS3 else if k = 4 then iS4 else if k = 5 then iS5 else if k = 6 then iS6 else if k = 7 then iS7 else if k = 8 then iS8 else if k = 9 then iS9 else if k = 10 then iS10 else if k = 11 then iS11 else iS12), fun t => if t = 0 then a0 else if t = 1 then a1 else if t = 2 then a2 else a3, ⟨fun k q hq => ?_, fun k q hq => ?_⟩⟩
  · match k, hq with
    | 0, hq => cases hq; exact hk0
    | 1, hq => cases hq; exact hk1
    | 2, hq => cases hq; exact hk2
    | 3, hq => cases hq; exact hk3
    | 4, hq => cases hq; exact hk4
    | 5, hq => cases hq; exact hk5
    | 6, hq => cases hq; exact hk6
    | 7, hq => cases hq; exact hk7
    | 8, hq => cases hq; exact hk8
    | 9, hq => cases hq; exact hk9
    | 10, hq => cases hq; exact hk10
    | 11, hq => cases hq; exact hk11
    | 12, hq => cases hq; exact hk12
    | k + 13, hq => simp [classes] at hq
  · match k, hq with
    | 0, hq => cases hq; exact ha0
    | 1, hq => cases hq; exact ha1
    | 2, hq => cases hq; exact ha2
    | 3, hq => cases hq; exact ha3
    | k + 4, hq => simp [tyA] at hq
set_option maxHeartbeats 4000000 in
set_option maxRecDepth 100000 in
/-- the law, from its entry, given what holds between the two worlds -/
theorem whole_of {p : Program} {e : Env} {s : State} {m : MethodId} {below : List Frame} {meth : Method} {c : Code} (l : Launch) {b L : Nat} {xs : Nat → Int32} (hL : L ≤ 3072) (C0 : lw_At p s m meth c b L xs) (Inv : Bool → St → St → Prop) (h0 : Inv false σC0 σR0) (hSt : StepAll Inv) : W p l e room_1 s m #[Value.ref b] below meth c s.heap [] 0 0 (lw_Z below #[Value.ref b] s) (entryFrame m ([Value.ref b] : List Value).toArray 4) := by
  obtain ⟨hx, hb, hr, hml, hown, hts0, hX, hbl, hlk, hgv⟩ := C0
  have hts : ∀ w ∈ gtbl, w.before #[Value.ref b] s = true := fun w hw => hts0 w (List.mem_filter.mp hw).1
  obtain ⟨Z, hZ⟩ := sx_all (A := AL s) hts0 (flat_of_before _ hgv) (fun a h => Nat.not_le.mpr h)
  obtain ⟨D, cA, hK⟩ := cls_all hts
  have EL : EvL p s m #[Value.ref b] meth c D cA Z b L xs := ⟨⟨hx, hb, hml, hown, hts⟩, hK, hZ, hX, hbl, hL⟩
  have hl0 := lv_entry [.ref b] (n := 4) (Nat.le_of_ble_eq_true rfl)
  rw [lg_entry_eq]
  have E1 : EvN p s m #[Value.ref b] meth c code 4 RL (AL s) s.heap D cA s.heap.size := ⟨⟨hx, hb, hml, hown, hts⟩, hK, fun i => Nat.le_add_right _ _, fun q h => h, hlk⟩
  suffices hG : GN p l e room_1 s m #[Value.ref b] below meth c 4 (AL s) s.heap D cA s.heap.size (shC false) 0 0 0 (lw_Z below #[Value.ref b] s) σ00 0 [some (.ref b), none, none, none] [] from hG s.heap [] _ rfl (fun k q h => by simp [wl5] at h) va_S.rf hl0
  refine n_new (slots' := 16) (cells' := 1) (N' := 1) E1 cls_11 ck_RL_7 ik_X11 nk_X11 (sC_0 false) (fun _ => rfl) (by decide) (Nat.le_of_ble_eq_true rfl) (Nat.le_of_ble_eq_true rfl) dL_0 rfl rfl rfl ?_
  refine n_dup E1 rfl dL_3 ?_
  refine n_callI (N1 := 83) (ms := 64037) (cells' := 83) (slots' := 64053) E1 (fun q h => h) mz_X11_init mzi_X11_init rfl mlL_9 (by decide) (by decide) (k_X11_init_0 _ (fun _ => rfl) (fun _ => rfl) (fun _ => rfl) (fun _ => rfl) (fun _ => rfl) (fun _ => rfl) (fun _ => rfl) (fun _ => rfl) (fun _ => rfl) (fun _ => rfl) (fun _ => rfl) (fun _ => rfl) (fun _ => rfl) (fun _ => rfl) (fun _ => rfl) (fun _ => rfl) (fun _ => rfl) (fun _ => rfl) (fun _ => rfl) (fun _ => rfl) (fun _ => rfl) (fun _ => rfl) (fun _ => rfl) (fun _ => rfl) (fun _ => rfl) (fun _ => rfl) (fun _ => rfl) (fun _ => rfl) (fun _ => rfl) (fun _ => rfl) (fun _ => rfl) (fun _ => rfl) (fun _ => rfl) (fun _ => rfl) (fun _ => rfl) (fun _ => rfl) (fun _ => rfl) (fun _ => rfl) (fun _ => rfl) (fun _ => rfl) (fun _ => rfl) (fun _ => rfl) (fun _ => rfl) (fun _ => rfl) (fun _ => rfl) (fun _ => rfl) (fun _ => rfl) (fun _ => rfl) (fun _ => rfl) (fun _ => rfl) (fun _ => rfl) (fun _ => rfl) (fun _ => rfl) (fun _ => rfl) (fun _ => rfl) (fun _ => rfl) (fun _ => rfl) (fun _ => rfl) (fun _ => rfl) (fun _ => rfl) (fun _ => rfl) (fun _ => rfl) (fun _ => rfl) (fun _ => rfl) (fun _ => rfl) (fun _ => rfl) (fun _ => rfl) (fun _ => rfl) (fun _ => rfl) (fun _ => rfl) (fun _ => rfl) (fun _ => rfl) (fun _ => rfl) (fun _ => rfl) (fun _ => rfl) (fun _ => rfl) (fun _ => rfl) (fun _ => rfl) (fun _ => rfl) (fun _ => rfl) (fun _ => rfl) (fun _ => rfl)) rfl rfl (Nat.le_of_ble_eq_true rfl) dL_4 rfl rfl (fun σ1 h1 => ?_)
  subst h1
  refine n_astore_1 E1 rfl (by decide) dL_7 ?_
  intro H locs ls hz hP hS hL1
  refine va_forget hS.2.2 ?_
  generalize hba : s.heap.size = ba at *
  have E2 : EvN p s m #[Value.ref b] meth c code 4 RL (fun q => ba + 83 ≤ q) H D cA (ba + 83) := ⟨⟨hx, hb, hml, hown, hts⟩, hK, fun i => Nat.le_add_right _ _, fun q h => by rw [hz] at h; exact h, hlk⟩
  have key : GN p l e room_1 s m #[Value.ref b] below meth c 4 (fun q => ba + 83 ≤ q) H D cA (ba + 83) shR 0 83 64053 (lw_Z below #[Value.ref b] s) σ00 8 [some (.ref b), some (.ref (ba + 0)), none, none] [] := by
    refine n_new (slots' := 64119) (cells' := 84) (N' := 1) E2 cls_12 ck_RL_10 ik_X12 nk_X12 sR_0 (fun _ => rfl) (by decide) (Nat.le_of_ble_eq_true rfl) (Nat.le_of_ble_eq_true rfl) dL_8 rfl rfl rfl ?_
    refine n_dup E2 rfl dL_11 ?_
    refine n_callI (N1 := 42) (ms := 633907) (cells' := 125) (slots' := 698026) E2 (fun q h => h) mz_X12_init mzi_X12_init rfl mlL_12 (by decide) (by decide) (k_X12_init_0 _ (fun _ => rfl) (fun _ => rfl) (fun _ => rfl) (fun _ => rfl) (fun _ => rfl) (fun _ => rfl) (fun _ => rfl) (fun _ => rfl) (fun _ => rfl) (fun _ => rfl) (fun _ => rfl) (fun _ => rfl) (fun _ => rfl) (fun _ => rfl) (fun _ => rfl) (fun _ => rfl) (fun _ => rfl) (fun _ => rfl) (fun _ => rfl) (fun _ => rfl) (fun _ => rfl) (fun _ => rfl) (fun _ => rfl) (fun _ => rfl) (fun _ => rfl) (fun _ => rfl) (fun _ => rfl) (fun _ => rfl) (fun _ => rfl) (fun _ => rfl) (fun _ => rfl) (fun _ => rfl) (fun _ => rfl) (fun _ => rfl) (fun _ => rfl) (fun _ => rfl) (fun _ => rfl) (fun _ => rfl) (fun _ => rfl) (fun _ => rfl) (fun _ => rfl)) rfl rfl (Nat.le_of_ble_eq_true rfl) dL_12 rfl rfl (fun σ1 h1 => ?_)
    subst h1
    refine n_astore_2 E2 rfl (by decide) dL_15 ?_
    refine n_iconst E2 dL_16 ?_
    refine n_istore_3 E2 rfl (by decide) dL_17 ?_
    intro H2 locs2 ls2 hz2 hT hS2 hL2
    have hPC : va_P D classes (wl (shC false) (NC false) (fun k => ba + k) cA σC0) H2 := by
      have h1 : va_P D classes (wl5 (shC false) 83 ba cA σC0) H2 := hP.kept (fun k q hq => by
        obtain ⟨l1, rfl⟩ := wl5_lt hq
        exact hS2.2.1 _ (by show ba + k < H.size; omega) (by show ¬ ba + 83 ≤ ba + k; omega))
      rw [wl_5 flC] at h1
      exact h1
    have hPR : va_P D classes (wl shR NR (fun k => ba + 83 + k) cA σR0) H2 := by
      have h1 : va_P D classes (wl5 shR 42 (ba + 83) cA σR0) H2 := hT
      rw [wl_5 flR] at h1
      exact h1
    have hS3 : va_S (AL s) s.heap H2 locs2 := by
      refine ⟨Nat.le_trans hS.1 hS2.1, fun q h1 h2 => ?_, fun q hq => ?_⟩
      · rw [hS2.2.1 q (by omega) (by show ¬ ba + 83 ≤ q; omega)]
        exact hS.2.1 q h1 h2
      · have := hS2.2.2 q hq
        show s.heap.size ≤ q.base
        have h3 : ba + 83 ≤ q.base := this
        omega
    have hAp : Ap s (fun k => ba + k) (fun k => ba + 83 + k) false := by
      refine ⟨fun i j _ _ h => by simpa using h, fun i j _ _ h => by simpa using h, fun i _ => ?_, fun i _ => ?_, fun i j hi hj => ?_⟩
      · show s.heap.size ≤ ba + i; omega
      · show s.heap.size ≤ ba + 83 + i; omega
      · have hi : i < 83 := hi
        show ba + i ≠ ba + 83 + j
        omega
    exact law_loop EL hr hlk rfl hSt (L + 1) false (fun k => ba + k) σC0 σR0 0 (by omega) (by omega) (by omega) hAp ((B2_X11_init_0 B2_00).can _ _) ((B2_X12_init_0 B2_00).can _ _) h0 H2 locs2 ls2 hPC hPR hS3 hL2
  exact key H [] ls (by rw [hz]) (fun k q h => by simp [wl5] at h) va_S.rf hL1
